section
-- ===== PART A: goes FIRST, ahead of the names: the tables' words, and 'selects' of the private methods out of them =====
/-- a private method of a class that the tables say can be made, by its rows of tables_1 -/
def lw_okq (q : MethodName × Nat) : Prop := (q.1.cls ≠ "java/lang/invoke/MethodHandle" ∧ q.1.cls ≠ "java/lang/invoke/VarHandle") ∧ Cond.instantiable q.1.cls q.2 ∈ tables_1 ∧ Cond.privateMethod q.1 ∈ tables_1 ∧ Cond.instanceMethod q.1 ∈ tables_1
theorem lw_p0 : lw_okq (⟨"OptimisticStore", "countInState", "(I)I"⟩, 12) := ⟨⟨by decide +kernel, by decide +kernel⟩, List.mem_of_getElem? (i := 22) (by decide +kernel), List.mem_of_getElem? (i := 138) (by decide +kernel), List.mem_of_getElem? (i := 139) (by decide +kernel)⟩
theorem lw_p1 : lw_okq (⟨"OptimisticStore$History", "readsFrom", "(III)Z"⟩, 3) := ⟨⟨by decide +kernel, by decide +kernel⟩, List.mem_of_getElem? (i := 30) (by decide +kernel), List.mem_of_getElem? (i := 150) (by decide +kernel), List.mem_of_getElem? (i := 151) (by decide +kernel)⟩
theorem lw_p2 : lw_okq (⟨"OptimisticStore$History", "writtenBy", "(I)I"⟩, 3) := ⟨⟨by decide +kernel, by decide +kernel⟩, List.mem_of_getElem? (i := 30) (by decide +kernel), List.mem_of_getElem? (i := 154) (by decide +kernel), List.mem_of_getElem? (i := 155) (by decide +kernel)⟩
theorem lw_p3 : lw_okq (⟨"OptimisticStore$Operation", "admits", "(I)Z"⟩, 6) := ⟨⟨by decide +kernel, by decide +kernel⟩, List.mem_of_getElem? (i := 176) (by decide +kernel), List.mem_of_getElem? (i := 174) (by decide +kernel), List.mem_of_getElem? (i := 175) (by decide +kernel)⟩
theorem lw_p4 : lw_okq (⟨"OptimisticStore$Operation", "sumWith", "(I)I"⟩, 6) := ⟨⟨by decide +kernel, by decide +kernel⟩, List.mem_of_getElem? (i := 176) (by decide +kernel), List.mem_of_getElem? (i := 211) (by decide +kernel), List.mem_of_getElem? (i := 212) (by decide +kernel)⟩
theorem lw_p5 : lw_okq (⟨"java/lang/Throwable", "fillInStackTrace", "(I)Ljava/lang/Throwable;"⟩, 6) := ⟨⟨by decide +kernel, by decide +kernel⟩, List.mem_of_getElem? (i := 276) (by decide +kernel), List.mem_of_getElem? (i := 274) (by decide +kernel), List.mem_of_getElem? (i := 275) (by decide +kernel)⟩
theorem lw_p6 : lw_okq (⟨"OptimisticStore", "canStart", "()Z"⟩, 12) := ⟨⟨by decide +kernel, by decide +kernel⟩, List.mem_of_getElem? (i := 22) (by decide +kernel), List.mem_of_getElem? (i := 329) (by decide +kernel), List.mem_of_getElem? (i := 330) (by decide +kernel)⟩
theorem lw_p7 : lw_okq (⟨"OptimisticStore", "start", "(I)LOptimisticStore$Transaction;"⟩, 12) := ⟨⟨by decide +kernel, by decide +kernel⟩, List.mem_of_getElem? (i := 22) (by decide +kernel), List.mem_of_getElem? (i := 334) (by decide +kernel), List.mem_of_getElem? (i := 335) (by decide +kernel)⟩
theorem lw_p8 : lw_okq (⟨"OptimisticStore", "find", "(I)LOptimisticStore$Transaction;"⟩, 12) := ⟨⟨by decide +kernel, by decide +kernel⟩, List.mem_of_getElem? (i := 22) (by decide +kernel), List.mem_of_getElem? (i := 427) (by decide +kernel), List.mem_of_getElem? (i := 428) (by decide +kernel)⟩
theorem lw_p9 : lw_okq (⟨"OptimisticStore", "operate", "(ILOptimisticStore$Operation;)I"⟩, 12) := ⟨⟨by decide +kernel, by decide +kernel⟩, List.mem_of_getElem? (i := 22) (by decide +kernel), List.mem_of_getElem? (i := 478) (by decide +kernel), List.mem_of_getElem? (i := 479) (by decide +kernel)⟩
theorem lw_p10 : lw_okq (⟨"OptimisticStore", "viewOf", "(LOptimisticStore$Transaction;)[I"⟩, 12) := ⟨⟨by decide +kernel, by decide +kernel⟩, List.mem_of_getElem? (i := 22) (by decide +kernel), List.mem_of_getElem? (i := 496) (by decide +kernel), List.mem_of_getElem? (i := 497) (by decide +kernel)⟩
theorem lw_p11 : lw_okq (⟨"OptimisticStore", "perform", "(LOptimisticStore$Transaction;LOptimisticStore$Operation;)I"⟩, 12) := ⟨⟨by decide +kernel, by decide +kernel⟩, List.mem_of_getElem? (i := 22) (by decide +kernel), List.mem_of_getElem? (i := 529) (by decide +kernel), List.mem_of_getElem? (i := 530) (by decide +kernel)⟩
theorem lw_p12 : lw_okq (⟨"OptimisticStore", "tryToCommit", "(LOptimisticStore$Transaction;)I"⟩, 12) := ⟨⟨by decide +kernel, by decide +kernel⟩, List.mem_of_getElem? (i := 22) (by decide +kernel), List.mem_of_getElem? (i := 598) (by decide +kernel), List.mem_of_getElem? (i := 599) (by decide +kernel)⟩
theorem lw_p13 : lw_okq (⟨"OptimisticStore", "isBlocked", "(LOptimisticStore$Transaction;)Z"⟩, 12) := ⟨⟨by decide +kernel, by decide +kernel⟩, List.mem_of_getElem? (i := 22) (by decide +kernel), List.mem_of_getElem? (i := 602) (by decide +kernel), List.mem_of_getElem? (i := 603) (by decide +kernel)⟩
theorem lw_p14 : lw_okq (⟨"OptimisticStore", "isRival", "(LOptimisticStore$Transaction;LOptimisticStore$Transaction;)Z"⟩, 12) := ⟨⟨by decide +kernel, by decide +kernel⟩, List.mem_of_getElem? (i := 22) (by decide +kernel), List.mem_of_getElem? (i := 606) (by decide +kernel), List.mem_of_getElem? (i := 607) (by decide +kernel)⟩
theorem lw_p15 : lw_okq (⟨"OptimisticStore", "reasonToAbort", "(LOptimisticStore$Transaction;)I"⟩, 12) := ⟨⟨by decide +kernel, by decide +kernel⟩, List.mem_of_getElem? (i := 22) (by decide +kernel), List.mem_of_getElem? (i := 611) (by decide +kernel), List.mem_of_getElem? (i := 612) (by decide +kernel)⟩
def lw_privs_1 : List (MethodName × Nat) := [(⟨"OptimisticStore", "countInState", "(I)I"⟩, 12), (⟨"OptimisticStore$History", "readsFrom", "(III)Z"⟩, 3), (⟨"OptimisticStore$History", "writtenBy", "(I)I"⟩, 3), (⟨"OptimisticStore$Operation", "admits", "(I)Z"⟩, 6), (⟨"OptimisticStore$Operation", "sumWith", "(I)I"⟩, 6), (⟨"java/lang/Throwable", "fillInStackTrace", "(I)Ljava/lang/Throwable;"⟩, 6), (⟨"OptimisticStore", "canStart", "()Z"⟩, 12), (⟨"OptimisticStore", "start", "(I)LOptimisticStore$Transaction;"⟩, 12), (⟨"OptimisticStore", "find", "(I)LOptimisticStore$Transaction;"⟩, 12), (⟨"OptimisticStore", "operate", "(ILOptimisticStore$Operation;)I"⟩, 12), (⟨"OptimisticStore", "viewOf", "(LOptimisticStore$Transaction;)[I"⟩, 12), (⟨"OptimisticStore", "perform", "(LOptimisticStore$Transaction;LOptimisticStore$Operation;)I"⟩, 12), (⟨"OptimisticStore", "tryToCommit", "(LOptimisticStore$Transaction;)I"⟩, 12), (⟨"OptimisticStore", "isBlocked", "(LOptimisticStore$Transaction;)Z"⟩, 12), (⟨"OptimisticStore", "isRival", "(LOptimisticStore$Transaction;LOptimisticStore$Transaction;)Z"⟩, 12), (⟨"OptimisticStore", "reasonToAbort", "(LOptimisticStore$Transaction;)I"⟩, 12)]
theorem lw_r1 : ∀ q ∈ lw_privs_1, lw_okq q := List.forall_mem_cons.mpr ⟨lw_p0, List.forall_mem_cons.mpr ⟨lw_p1, List.forall_mem_cons.mpr ⟨lw_p2, List.forall_mem_cons.mpr ⟨lw_p3, List.forall_mem_cons.mpr ⟨lw_p4, List.forall_mem_cons.mpr ⟨lw_p5, List.forall_mem_cons.mpr ⟨lw_p6, List.forall_mem_cons.mpr ⟨lw_p7, List.forall_mem_cons.mpr ⟨lw_p8, List.forall_mem_cons.mpr ⟨lw_p9, List.forall_mem_cons.mpr ⟨lw_p10, List.forall_mem_cons.mpr ⟨lw_p11, List.forall_mem_cons.mpr ⟨lw_p12, List.forall_mem_cons.mpr ⟨lw_p13, List.forall_mem_cons.mpr ⟨lw_p14, List.forall_mem_cons.mpr ⟨lw_p15, fun _ h => absurd h List.not_mem_nil⟩⟩⟩⟩⟩⟩⟩⟩⟩⟩⟩⟩⟩⟩⟩⟩
theorem lw_p16 : lw_okq (⟨"OptimisticStore$History", "isTouchedSince", "(LOptimisticStore$Operation;)Z"⟩, 3) := ⟨⟨by decide +kernel, by decide +kernel⟩, List.mem_of_getElem? (i := 30) (by decide +kernel), List.mem_of_getElem? (i := 624) (by decide +kernel), List.mem_of_getElem? (i := 625) (by decide +kernel)⟩
theorem lw_p17 : lw_okq (⟨"OptimisticStore", "losesToRivals", "(LOptimisticStore$Transaction;)Z"⟩, 12) := ⟨⟨by decide +kernel, by decide +kernel⟩, List.mem_of_getElem? (i := 22) (by decide +kernel), List.mem_of_getElem? (i := 629) (by decide +kernel), List.mem_of_getElem? (i := 630) (by decide +kernel)⟩
theorem lw_p18 : lw_okq (⟨"OptimisticStore", "violatesConstraint", "([I)Z"⟩, 12) := ⟨⟨by decide +kernel, by decide +kernel⟩, List.mem_of_getElem? (i := 22) (by decide +kernel), List.mem_of_getElem? (i := 633) (by decide +kernel), List.mem_of_getElem? (i := 634) (by decide +kernel)⟩
theorem lw_p19 : lw_okq (⟨"OptimisticStore", "endInAbort", "(LOptimisticStore$Transaction;I)V"⟩, 12) := ⟨⟨by decide +kernel, by decide +kernel⟩, List.mem_of_getElem? (i := 22) (by decide +kernel), List.mem_of_getElem? (i := 643) (by decide +kernel), List.mem_of_getElem? (i := 644) (by decide +kernel)⟩
theorem lw_p20 : lw_okq (⟨"OptimisticStore", "releaseTicket", "(LOptimisticStore$Transaction;)V"⟩, 12) := ⟨⟨by decide +kernel, by decide +kernel⟩, List.mem_of_getElem? (i := 22) (by decide +kernel), List.mem_of_getElem? (i := 651) (by decide +kernel), List.mem_of_getElem? (i := 652) (by decide +kernel)⟩
theorem lw_p21 : lw_okq (⟨"OptimisticStore", "abortRivals", "(LOptimisticStore$Transaction;)V"⟩, 12) := ⟨⟨by decide +kernel, by decide +kernel⟩, List.mem_of_getElem? (i := 22) (by decide +kernel), List.mem_of_getElem? (i := 655) (by decide +kernel), List.mem_of_getElem? (i := 656) (by decide +kernel)⟩
theorem lw_p22 : lw_okq (⟨"OptimisticStore", "findActive", "(I)LOptimisticStore$Transaction;"⟩, 12) := ⟨⟨by decide +kernel, by decide +kernel⟩, List.mem_of_getElem? (i := 22) (by decide +kernel), List.mem_of_getElem? (i := 673) (by decide +kernel), List.mem_of_getElem? (i := 674) (by decide +kernel)⟩
theorem lw_p23 : lw_okq (⟨"OptimisticStore", "countRivals", "(LOptimisticStore$Transaction;)I"⟩, 12) := ⟨⟨by decide +kernel, by decide +kernel⟩, List.mem_of_getElem? (i := 22) (by decide +kernel), List.mem_of_getElem? (i := 779) (by decide +kernel), List.mem_of_getElem? (i := 780) (by decide +kernel)⟩
theorem lw_p24 : lw_okq (⟨"OptimisticStore", "requireCommit", "(II)V"⟩, 12) := ⟨⟨by decide +kernel, by decide +kernel⟩, List.mem_of_getElem? (i := 22) (by decide +kernel), List.mem_of_getElem? (i := 802) (by decide +kernel), List.mem_of_getElem? (i := 803) (by decide +kernel)⟩
theorem lw_p25 : lw_okq (⟨"OptimisticStore$Script", "parseSteps", "()Z"⟩, 6) := ⟨⟨by decide +kernel, by decide +kernel⟩, List.mem_of_getElem? (i := 58) (by decide +kernel), List.mem_of_getElem? (i := 917) (by decide +kernel), List.mem_of_getElem? (i := 918) (by decide +kernel)⟩
theorem lw_p26 : lw_okq (⟨"OptimisticStore$Script", "parseStep", "()LOptimisticStore$Operation;"⟩, 6) := ⟨⟨by decide +kernel, by decide +kernel⟩, List.mem_of_getElem? (i := 58) (by decide +kernel), List.mem_of_getElem? (i := 921) (by decide +kernel), List.mem_of_getElem? (i := 922) (by decide +kernel)⟩
theorem lw_p27 : lw_okq (⟨"OptimisticStore$Script", "current", "()C"⟩, 6) := ⟨⟨by decide +kernel, by decide +kernel⟩, List.mem_of_getElem? (i := 58) (by decide +kernel), List.mem_of_getElem? (i := 925) (by decide +kernel), List.mem_of_getElem? (i := 926) (by decide +kernel)⟩
theorem lw_p28 : lw_okq (⟨"OptimisticStore$Script", "parseKey", "()I"⟩, 6) := ⟨⟨by decide +kernel, by decide +kernel⟩, List.mem_of_getElem? (i := 58) (by decide +kernel), List.mem_of_getElem? (i := 932) (by decide +kernel), List.mem_of_getElem? (i := 933) (by decide +kernel)⟩
theorem lw_p29 : lw_okq (⟨"OptimisticStore$Script", "parseWrite", "(I)LOptimisticStore$Operation;"⟩, 6) := ⟨⟨by decide +kernel, by decide +kernel⟩, List.mem_of_getElem? (i := 58) (by decide +kernel), List.mem_of_getElem? (i := 939) (by decide +kernel), List.mem_of_getElem? (i := 940) (by decide +kernel)⟩
theorem lw_p30 : lw_okq (⟨"OptimisticStore$Script", "pass", "(C)Z"⟩, 6) := ⟨⟨by decide +kernel, by decide +kernel⟩, List.mem_of_getElem? (i := 58) (by decide +kernel), List.mem_of_getElem? (i := 943) (by decide +kernel), List.mem_of_getElem? (i := 944) (by decide +kernel)⟩
theorem lw_p31 : lw_okq (⟨"OptimisticStore$Script", "parseDigits", "(IIZ)LOptimisticStore$Operation;"⟩, 6) := ⟨⟨by decide +kernel, by decide +kernel⟩, List.mem_of_getElem? (i := 58) (by decide +kernel), List.mem_of_getElem? (i := 947) (by decide +kernel), List.mem_of_getElem? (i := 948) (by decide +kernel)⟩
def lw_privs_2 : List (MethodName × Nat) := [(⟨"OptimisticStore$History", "isTouchedSince", "(LOptimisticStore$Operation;)Z"⟩, 3), (⟨"OptimisticStore", "losesToRivals", "(LOptimisticStore$Transaction;)Z"⟩, 12), (⟨"OptimisticStore", "violatesConstraint", "([I)Z"⟩, 12), (⟨"OptimisticStore", "endInAbort", "(LOptimisticStore$Transaction;I)V"⟩, 12), (⟨"OptimisticStore", "releaseTicket", "(LOptimisticStore$Transaction;)V"⟩, 12), (⟨"OptimisticStore", "abortRivals", "(LOptimisticStore$Transaction;)V"⟩, 12), (⟨"OptimisticStore", "findActive", "(I)LOptimisticStore$Transaction;"⟩, 12), (⟨"OptimisticStore", "countRivals", "(LOptimisticStore$Transaction;)I"⟩, 12), (⟨"OptimisticStore", "requireCommit", "(II)V"⟩, 12), (⟨"OptimisticStore$Script", "parseSteps", "()Z"⟩, 6), (⟨"OptimisticStore$Script", "parseStep", "()LOptimisticStore$Operation;"⟩, 6), (⟨"OptimisticStore$Script", "current", "()C"⟩, 6), (⟨"OptimisticStore$Script", "parseKey", "()I"⟩, 6), (⟨"OptimisticStore$Script", "parseWrite", "(I)LOptimisticStore$Operation;"⟩, 6), (⟨"OptimisticStore$Script", "pass", "(C)Z"⟩, 6), (⟨"OptimisticStore$Script", "parseDigits", "(IIZ)LOptimisticStore$Operation;"⟩, 6)]
theorem lw_r2 : ∀ q ∈ lw_privs_2, lw_okq q := List.forall_mem_cons.mpr ⟨lw_p16, List.forall_mem_cons.mpr ⟨lw_p17, List.forall_mem_cons.mpr ⟨lw_p18, List.forall_mem_cons.mpr ⟨lw_p19, List.forall_mem_cons.mpr ⟨lw_p20, List.forall_mem_cons.mpr ⟨lw_p21, List.forall_mem_cons.mpr ⟨lw_p22, List.forall_mem_cons.mpr ⟨lw_p23, List.forall_mem_cons.mpr ⟨lw_p24, List.forall_mem_cons.mpr ⟨lw_p25, List.forall_mem_cons.mpr ⟨lw_p26, List.forall_mem_cons.mpr ⟨lw_p27, List.forall_mem_cons.mpr ⟨lw_p28, List.forall_mem_cons.mpr ⟨lw_p29, List.forall_mem_cons.mpr ⟨lw_p30, List.forall_mem_cons.mpr ⟨lw_p31, fun _ h => absurd h List.not_mem_nil⟩⟩⟩⟩⟩⟩⟩⟩⟩⟩⟩⟩⟩⟩⟩⟩
theorem lw_p32 : lw_okq (⟨"OptimisticStore$Script", "parseAdd", "(I)LOptimisticStore$Operation;"⟩, 6) := ⟨⟨by decide +kernel, by decide +kernel⟩, List.mem_of_getElem? (i := 58) (by decide +kernel), List.mem_of_getElem? (i := 952) (by decide +kernel), List.mem_of_getElem? (i := 953) (by decide +kernel)⟩
theorem lw_p33 : lw_okq (⟨"OptimisticStore$Script", "parseSum", "(I)LOptimisticStore$Operation;"⟩, 6) := ⟨⟨by decide +kernel, by decide +kernel⟩, List.mem_of_getElem? (i := 58) (by decide +kernel), List.mem_of_getElem? (i := 956) (by decide +kernel), List.mem_of_getElem? (i := 957) (by decide +kernel)⟩
theorem lw_p34 : lw_okq (⟨"OptimisticStore", "performSteps", "(LOptimisticStore$Transaction;)Z"⟩, 12) := ⟨⟨by decide +kernel, by decide +kernel⟩, List.mem_of_getElem? (i := 22) (by decide +kernel), List.mem_of_getElem? (i := 962) (by decide +kernel), List.mem_of_getElem? (i := 963) (by decide +kernel)⟩
theorem lw_p35 : lw_okq (⟨"OptimisticStore", "isAllowed", "(LOptimisticStore$Transaction;LOptimisticStore$Operation;)Z"⟩, 12) := ⟨⟨by decide +kernel, by decide +kernel⟩, List.mem_of_getElem? (i := 22) (by decide +kernel), List.mem_of_getElem? (i := 970) (by decide +kernel), List.mem_of_getElem? (i := 971) (by decide +kernel)⟩
theorem lw_p36 : lw_okq (⟨"OptimisticStoreModel", "activeNow", "()I"⟩, 31) := ⟨⟨by decide +kernel, by decide +kernel⟩, List.mem_of_getElem? (i := 978) (by decide +kernel), List.mem_of_getElem? (i := 1086) (by decide +kernel), List.mem_of_getElem? (i := 1087) (by decide +kernel)⟩
theorem lw_p37 : lw_okq (⟨"OptimisticStoreModel", "hasRoom", "()Z"⟩, 31) := ⟨⟨by decide +kernel, by decide +kernel⟩, List.mem_of_getElem? (i := 978) (by decide +kernel), List.mem_of_getElem? (i := 1094) (by decide +kernel), List.mem_of_getElem? (i := 1095) (by decide +kernel)⟩
theorem lw_p38 : lw_okq (⟨"OptimisticStoreModel", "beginWith", "(I)I"⟩, 31) := ⟨⟨by decide +kernel, by decide +kernel⟩, List.mem_of_getElem? (i := 978) (by decide +kernel), List.mem_of_getElem? (i := 1098) (by decide +kernel), List.mem_of_getElem? (i := 1099) (by decide +kernel)⟩
theorem lw_p39 : lw_okq (⟨"OptimisticStoreModel", "fail", "(I)I"⟩, 31) := ⟨⟨by decide +kernel, by decide +kernel⟩, List.mem_of_getElem? (i := 978) (by decide +kernel), List.mem_of_getElem? (i := 1102) (by decide +kernel), List.mem_of_getElem? (i := 1103) (by decide +kernel)⟩
theorem lw_p40 : lw_okq (⟨"OptimisticStoreModel", "isTransaction", "(I)Z"⟩, 31) := ⟨⟨by decide +kernel, by decide +kernel⟩, List.mem_of_getElem? (i := 978) (by decide +kernel), List.mem_of_getElem? (i := 1110) (by decide +kernel), List.mem_of_getElem? (i := 1111) (by decide +kernel)⟩
theorem lw_p41 : lw_okq (⟨"OptimisticStoreModel", "problem", "(IZ)I"⟩, 31) := ⟨⟨by decide +kernel, by decide +kernel⟩, List.mem_of_getElem? (i := 978) (by decide +kernel), List.mem_of_getElem? (i := 1121) (by decide +kernel), List.mem_of_getElem? (i := 1122) (by decide +kernel)⟩
theorem lw_p42 : lw_okq (⟨"OptimisticStoreModel", "recordKey", "(II)V"⟩, 31) := ⟨⟨by decide +kernel, by decide +kernel⟩, List.mem_of_getElem? (i := 978) (by decide +kernel), List.mem_of_getElem? (i := 1125) (by decide +kernel), List.mem_of_getElem? (i := 1126) (by decide +kernel)⟩
theorem lw_p43 : lw_okq (⟨"OptimisticStoreModel", "viewed", "(II)I"⟩, 31) := ⟨⟨by decide +kernel, by decide +kernel⟩, List.mem_of_getElem? (i := 978) (by decide +kernel), List.mem_of_getElem? (i := 1129) (by decide +kernel), List.mem_of_getElem? (i := 1130) (by decide +kernel)⟩
theorem lw_p44 : lw_okq (⟨"OptimisticStoreModel", "stored", "(II)I"⟩, 31) := ⟨⟨by decide +kernel, by decide +kernel⟩, List.mem_of_getElem? (i := 978) (by decide +kernel), List.mem_of_getElem? (i := 1133) (by decide +kernel), List.mem_of_getElem? (i := 1134) (by decide +kernel)⟩
theorem lw_p45 : lw_okq (⟨"OptimisticStoreModel", "list", "(IIIIII)V"⟩, 31) := ⟨⟨by decide +kernel, by decide +kernel⟩, List.mem_of_getElem? (i := 978) (by decide +kernel), List.mem_of_getElem? (i := 1137) (by decide +kernel), List.mem_of_getElem? (i := 1138) (by decide +kernel)⟩
theorem lw_p46 : lw_okq (⟨"OptimisticStoreModel", "recordRange", "(IIII)V"⟩, 31) := ⟨⟨by decide +kernel, by decide +kernel⟩, List.mem_of_getElem? (i := 978) (by decide +kernel), List.mem_of_getElem? (i := 1148) (by decide +kernel), List.mem_of_getElem? (i := 1149) (by decide +kernel)⟩
theorem lw_p47 : lw_okq (⟨"OptimisticStoreModel", "counted", "(IIII)I"⟩, 31) := ⟨⟨by decide +kernel, by decide +kernel⟩, List.mem_of_getElem? (i := 978) (by decide +kernel), List.mem_of_getElem? (i := 1152) (by decide +kernel), List.mem_of_getElem? (i := 1153) (by decide +kernel)⟩
def lw_privs_3 : List (MethodName × Nat) := [(⟨"OptimisticStore$Script", "parseAdd", "(I)LOptimisticStore$Operation;"⟩, 6), (⟨"OptimisticStore$Script", "parseSum", "(I)LOptimisticStore$Operation;"⟩, 6), (⟨"OptimisticStore", "performSteps", "(LOptimisticStore$Transaction;)Z"⟩, 12), (⟨"OptimisticStore", "isAllowed", "(LOptimisticStore$Transaction;LOptimisticStore$Operation;)Z"⟩, 12), (⟨"OptimisticStoreModel", "activeNow", "()I"⟩, 31), (⟨"OptimisticStoreModel", "hasRoom", "()Z"⟩, 31), (⟨"OptimisticStoreModel", "beginWith", "(I)I"⟩, 31), (⟨"OptimisticStoreModel", "fail", "(I)I"⟩, 31), (⟨"OptimisticStoreModel", "isTransaction", "(I)Z"⟩, 31), (⟨"OptimisticStoreModel", "problem", "(IZ)I"⟩, 31), (⟨"OptimisticStoreModel", "recordKey", "(II)V"⟩, 31), (⟨"OptimisticStoreModel", "viewed", "(II)I"⟩, 31), (⟨"OptimisticStoreModel", "stored", "(II)I"⟩, 31), (⟨"OptimisticStoreModel", "list", "(IIIIII)V"⟩, 31), (⟨"OptimisticStoreModel", "recordRange", "(IIII)V"⟩, 31), (⟨"OptimisticStoreModel", "counted", "(IIII)I"⟩, 31)]
theorem lw_r3 : ∀ q ∈ lw_privs_3, lw_okq q := List.forall_mem_cons.mpr ⟨lw_p32, List.forall_mem_cons.mpr ⟨lw_p33, List.forall_mem_cons.mpr ⟨lw_p34, List.forall_mem_cons.mpr ⟨lw_p35, List.forall_mem_cons.mpr ⟨lw_p36, List.forall_mem_cons.mpr ⟨lw_p37, List.forall_mem_cons.mpr ⟨lw_p38, List.forall_mem_cons.mpr ⟨lw_p39, List.forall_mem_cons.mpr ⟨lw_p40, List.forall_mem_cons.mpr ⟨lw_p41, List.forall_mem_cons.mpr ⟨lw_p42, List.forall_mem_cons.mpr ⟨lw_p43, List.forall_mem_cons.mpr ⟨lw_p44, List.forall_mem_cons.mpr ⟨lw_p45, List.forall_mem_cons.mpr ⟨lw_p46, List.forall_mem_cons.mpr ⟨lw_p47, fun _ h => absurd h List.not_mem_nil⟩⟩⟩⟩⟩⟩⟩⟩⟩⟩⟩⟩⟩⟩⟩⟩
theorem lw_p48 : lw_okq (⟨"OptimisticStoreModel", "summed", "(III)I"⟩, 31) := ⟨⟨by decide +kernel, by decide +kernel⟩, List.mem_of_getElem? (i := 978) (by decide +kernel), List.mem_of_getElem? (i := 1160) (by decide +kernel), List.mem_of_getElem? (i := 1161) (by decide +kernel)⟩
theorem lw_p49 : lw_okq (⟨"OptimisticStoreModel", "addedTo", "(II)I"⟩, 31) := ⟨⟨by decide +kernel, by decide +kernel⟩, List.mem_of_getElem? (i := 978) (by decide +kernel), List.mem_of_getElem? (i := 1176) (by decide +kernel), List.mem_of_getElem? (i := 1177) (by decide +kernel)⟩
theorem lw_p50 : lw_okq (⟨"OptimisticStoreModel", "activeProblem", "(I)I"⟩, 31) := ⟨⟨by decide +kernel, by decide +kernel⟩, List.mem_of_getElem? (i := 978) (by decide +kernel), List.mem_of_getElem? (i := 1184) (by decide +kernel), List.mem_of_getElem? (i := 1185) (by decide +kernel)⟩
theorem lw_p51 : lw_okq (⟨"OptimisticStoreModel", "staleness", "(I)I"⟩, 31) := ⟨⟨by decide +kernel, by decide +kernel⟩, List.mem_of_getElem? (i := 978) (by decide +kernel), List.mem_of_getElem? (i := 1188) (by decide +kernel), List.mem_of_getElem? (i := 1189) (by decide +kernel)⟩
theorem lw_p52 : lw_okq (⟨"OptimisticStoreModel", "hasWritten", "(II)Z"⟩, 31) := ⟨⟨by decide +kernel, by decide +kernel⟩, List.mem_of_getElem? (i := 978) (by decide +kernel), List.mem_of_getElem? (i := 1192) (by decide +kernel), List.mem_of_getElem? (i := 1193) (by decide +kernel)⟩
theorem lw_p53 : lw_okq (⟨"OptimisticStoreModel", "touchesAny", "(IIIII)Z"⟩, 31) := ⟨⟨by decide +kernel, by decide +kernel⟩, List.mem_of_getElem? (i := 978) (by decide +kernel), List.mem_of_getElem? (i := 1196) (by decide +kernel), List.mem_of_getElem? (i := 1197) (by decide +kernel)⟩
theorem lw_p54 : lw_okq (⟨"OptimisticStoreModel", "touches", "(IIII)Z"⟩, 31) := ⟨⟨by decide +kernel, by decide +kernel⟩, List.mem_of_getElem? (i := 978) (by decide +kernel), List.mem_of_getElem? (i := 1200) (by decide +kernel), List.mem_of_getElem? (i := 1201) (by decide +kernel)⟩
theorem lw_p55 : lw_okq (⟨"OptimisticStoreModel", "countRivals", "(I)I"⟩, 31) := ⟨⟨by decide +kernel, by decide +kernel⟩, List.mem_of_getElem? (i := 978) (by decide +kernel), List.mem_of_getElem? (i := 1208) (by decide +kernel), List.mem_of_getElem? (i := 1209) (by decide +kernel)⟩
theorem lw_p56 : lw_okq (⟨"OptimisticStoreModel", "isRival", "(II)Z"⟩, 31) := ⟨⟨by decide +kernel, by decide +kernel⟩, List.mem_of_getElem? (i := 978) (by decide +kernel), List.mem_of_getElem? (i := 1212) (by decide +kernel), List.mem_of_getElem? (i := 1213) (by decide +kernel)⟩
theorem lw_p57 : lw_okq (⟨"OptimisticStoreModel", "conflicts", "(II)Z"⟩, 31) := ⟨⟨by decide +kernel, by decide +kernel⟩, List.mem_of_getElem? (i := 978) (by decide +kernel), List.mem_of_getElem? (i := 1216) (by decide +kernel), List.mem_of_getElem? (i := 1217) (by decide +kernel)⟩
theorem lw_p58 : lw_okq (⟨"OptimisticStoreModel", "doCommit", "(I)I"⟩, 31) := ⟨⟨by decide +kernel, by decide +kernel⟩, List.mem_of_getElem? (i := 978) (by decide +kernel), List.mem_of_getElem? (i := 1224) (by decide +kernel), List.mem_of_getElem? (i := 1225) (by decide +kernel)⟩
theorem lw_p59 : lw_okq (⟨"OptimisticStoreModel", "loses", "(I)Z"⟩, 31) := ⟨⟨by decide +kernel, by decide +kernel⟩, List.mem_of_getElem? (i := 978) (by decide +kernel), List.mem_of_getElem? (i := 1228) (by decide +kernel), List.mem_of_getElem? (i := 1229) (by decide +kernel)⟩
theorem lw_p60 : lw_okq (⟨"OptimisticStoreModel", "violates", "(I)Z"⟩, 31) := ⟨⟨by decide +kernel, by decide +kernel⟩, List.mem_of_getElem? (i := 978) (by decide +kernel), List.mem_of_getElem? (i := 1232) (by decide +kernel), List.mem_of_getElem? (i := 1233) (by decide +kernel)⟩
theorem lw_p61 : lw_okq (⟨"OptimisticStoreModel", "isViolated", "(II)Z"⟩, 31) := ⟨⟨by decide +kernel, by decide +kernel⟩, List.mem_of_getElem? (i := 978) (by decide +kernel), List.mem_of_getElem? (i := 1236) (by decide +kernel), List.mem_of_getElem? (i := 1237) (by decide +kernel)⟩
theorem lw_p62 : lw_okq (⟨"OptimisticStoreModel", "endWith", "(II)V"⟩, 31) := ⟨⟨by decide +kernel, by decide +kernel⟩, List.mem_of_getElem? (i := 978) (by decide +kernel), List.mem_of_getElem? (i := 1240) (by decide +kernel), List.mem_of_getElem? (i := 1241) (by decide +kernel)⟩
theorem lw_p63 : lw_okq (⟨"OptimisticStoreModel", "lastWriter", "(II)I"⟩, 31) := ⟨⟨by decide +kernel, by decide +kernel⟩, List.mem_of_getElem? (i := 978) (by decide +kernel), List.mem_of_getElem? (i := 1308) (by decide +kernel), List.mem_of_getElem? (i := 1309) (by decide +kernel)⟩
def lw_privs_4 : List (MethodName × Nat) := [(⟨"OptimisticStoreModel", "summed", "(III)I"⟩, 31), (⟨"OptimisticStoreModel", "addedTo", "(II)I"⟩, 31), (⟨"OptimisticStoreModel", "activeProblem", "(I)I"⟩, 31), (⟨"OptimisticStoreModel", "staleness", "(I)I"⟩, 31), (⟨"OptimisticStoreModel", "hasWritten", "(II)Z"⟩, 31), (⟨"OptimisticStoreModel", "touchesAny", "(IIIII)Z"⟩, 31), (⟨"OptimisticStoreModel", "touches", "(IIII)Z"⟩, 31), (⟨"OptimisticStoreModel", "countRivals", "(I)I"⟩, 31), (⟨"OptimisticStoreModel", "isRival", "(II)Z"⟩, 31), (⟨"OptimisticStoreModel", "conflicts", "(II)Z"⟩, 31), (⟨"OptimisticStoreModel", "doCommit", "(I)I"⟩, 31), (⟨"OptimisticStoreModel", "loses", "(I)Z"⟩, 31), (⟨"OptimisticStoreModel", "violates", "(I)Z"⟩, 31), (⟨"OptimisticStoreModel", "isViolated", "(II)Z"⟩, 31), (⟨"OptimisticStoreModel", "endWith", "(II)V"⟩, 31), (⟨"OptimisticStoreModel", "lastWriter", "(II)I"⟩, 31)]
theorem lw_r4 : ∀ q ∈ lw_privs_4, lw_okq q := List.forall_mem_cons.mpr ⟨lw_p48, List.forall_mem_cons.mpr ⟨lw_p49, List.forall_mem_cons.mpr ⟨lw_p50, List.forall_mem_cons.mpr ⟨lw_p51, List.forall_mem_cons.mpr ⟨lw_p52, List.forall_mem_cons.mpr ⟨lw_p53, List.forall_mem_cons.mpr ⟨lw_p54, List.forall_mem_cons.mpr ⟨lw_p55, List.forall_mem_cons.mpr ⟨lw_p56, List.forall_mem_cons.mpr ⟨lw_p57, List.forall_mem_cons.mpr ⟨lw_p58, List.forall_mem_cons.mpr ⟨lw_p59, List.forall_mem_cons.mpr ⟨lw_p60, List.forall_mem_cons.mpr ⟨lw_p61, List.forall_mem_cons.mpr ⟨lw_p62, List.forall_mem_cons.mpr ⟨lw_p63, fun _ h => absurd h List.not_mem_nil⟩⟩⟩⟩⟩⟩⟩⟩⟩⟩⟩⟩⟩⟩⟩⟩
theorem lw_p64 : lw_okq (⟨"OptimisticStoreModel", "isCommit", "(I)Z"⟩, 31) := ⟨⟨by decide +kernel, by decide +kernel⟩, List.mem_of_getElem? (i := 978) (by decide +kernel), List.mem_of_getElem? (i := 1316) (by decide +kernel), List.mem_of_getElem? (i := 1317) (by decide +kernel)⟩
theorem lw_p65 : lw_okq (⟨"OptimisticStoreModel", "dependencyOf", "(II)I"⟩, 31) := ⟨⟨by decide +kernel, by decide +kernel⟩, List.mem_of_getElem? (i := 978) (by decide +kernel), List.mem_of_getElem? (i := 1324) (by decide +kernel), List.mem_of_getElem? (i := 1325) (by decide +kernel)⟩
theorem lw_p66 : lw_okq (⟨"OptimisticStoreModel", "hasFault", "(I)Z"⟩, 31) := ⟨⟨by decide +kernel, by decide +kernel⟩, List.mem_of_getElem? (i := 978) (by decide +kernel), List.mem_of_getElem? (i := 1337) (by decide +kernel), List.mem_of_getElem? (i := 1338) (by decide +kernel)⟩
theorem lw_p67 : lw_okq (⟨"OptimisticStoreModel", "again", "(I)I"⟩, 31) := ⟨⟨by decide +kernel, by decide +kernel⟩, List.mem_of_getElem? (i := 978) (by decide +kernel), List.mem_of_getElem? (i := 1341) (by decide +kernel), List.mem_of_getElem? (i := 1342) (by decide +kernel)⟩
theorem lw_p68 : lw_okq (⟨"OptimisticStoreModel", "countOf", "(II)I"⟩, 31) := ⟨⟨by decide +kernel, by decide +kernel⟩, List.mem_of_getElem? (i := 978) (by decide +kernel), List.mem_of_getElem? (i := 1361) (by decide +kernel), List.mem_of_getElem? (i := 1362) (by decide +kernel)⟩
theorem lw_p69 : lw_okq (⟨"OptimisticStoreModel", "readScript", "()V"⟩, 31) := ⟨⟨by decide +kernel, by decide +kernel⟩, List.mem_of_getElem? (i := 978) (by decide +kernel), List.mem_of_getElem? (i := 1381) (by decide +kernel), List.mem_of_getElem? (i := 1382) (by decide +kernel)⟩
theorem lw_p70 : lw_okq (⟨"OptimisticStoreModel", "readStep", "()V"⟩, 31) := ⟨⟨by decide +kernel, by decide +kernel⟩, List.mem_of_getElem? (i := 978) (by decide +kernel), List.mem_of_getElem? (i := 1385) (by decide +kernel), List.mem_of_getElem? (i := 1386) (by decide +kernel)⟩
theorem lw_p71 : lw_okq (⟨"OptimisticStoreModel", "goes", "(C)Z"⟩, 31) := ⟨⟨by decide +kernel, by decide +kernel⟩, List.mem_of_getElem? (i := 978) (by decide +kernel), List.mem_of_getElem? (i := 1389) (by decide +kernel), List.mem_of_getElem? (i := 1390) (by decide +kernel)⟩
theorem lw_p72 : lw_okq (⟨"OptimisticStoreModel", "sign", "()I"⟩, 31) := ⟨⟨by decide +kernel, by decide +kernel⟩, List.mem_of_getElem? (i := 978) (by decide +kernel), List.mem_of_getElem? (i := 1393) (by decide +kernel), List.mem_of_getElem? (i := 1394) (by decide +kernel)⟩
theorem lw_p73 : lw_okq (⟨"OptimisticStoreModel", "fault", "()V"⟩, 31) := ⟨⟨by decide +kernel, by decide +kernel⟩, List.mem_of_getElem? (i := 978) (by decide +kernel), List.mem_of_getElem? (i := 1397) (by decide +kernel), List.mem_of_getElem? (i := 1398) (by decide +kernel)⟩
theorem lw_p74 : lw_okq (⟨"OptimisticStoreModel", "readKey", "()I"⟩, 31) := ⟨⟨by decide +kernel, by decide +kernel⟩, List.mem_of_getElem? (i := 978) (by decide +kernel), List.mem_of_getElem? (i := 1401) (by decide +kernel), List.mem_of_getElem? (i := 1402) (by decide +kernel)⟩
theorem lw_p75 : lw_okq (⟨"OptimisticStoreModel", "digits", "(II)I"⟩, 31) := ⟨⟨by decide +kernel, by decide +kernel⟩, List.mem_of_getElem? (i := 978) (by decide +kernel), List.mem_of_getElem? (i := 1405) (by decide +kernel), List.mem_of_getElem? (i := 1406) (by decide +kernel)⟩
theorem lw_p76 : lw_okq (⟨"OptimisticStoreModel", "isDigit", "()Z"⟩, 31) := ⟨⟨by decide +kernel, by decide +kernel⟩, List.mem_of_getElem? (i := 978) (by decide +kernel), List.mem_of_getElem? (i := 1409) (by decide +kernel), List.mem_of_getElem? (i := 1410) (by decide +kernel)⟩
theorem lw_p77 : lw_okq (⟨"OptimisticStoreModel", "expect", "(C)V"⟩, 31) := ⟨⟨by decide +kernel, by decide +kernel⟩, List.mem_of_getElem? (i := 978) (by decide +kernel), List.mem_of_getElem? (i := 1413) (by decide +kernel), List.mem_of_getElem? (i := 1414) (by decide +kernel)⟩
theorem lw_p78 : lw_okq (⟨"OptimisticStoreModel", "doStep", "(II)V"⟩, 31) := ⟨⟨by decide +kernel, by decide +kernel⟩, List.mem_of_getElem? (i := 978) (by decide +kernel), List.mem_of_getElem? (i := 1417) (by decide +kernel), List.mem_of_getElem? (i := 1418) (by decide +kernel)⟩
def lw_privs_5 : List (MethodName × Nat) := [(⟨"OptimisticStoreModel", "isCommit", "(I)Z"⟩, 31), (⟨"OptimisticStoreModel", "dependencyOf", "(II)I"⟩, 31), (⟨"OptimisticStoreModel", "hasFault", "(I)Z"⟩, 31), (⟨"OptimisticStoreModel", "again", "(I)I"⟩, 31), (⟨"OptimisticStoreModel", "countOf", "(II)I"⟩, 31), (⟨"OptimisticStoreModel", "readScript", "()V"⟩, 31), (⟨"OptimisticStoreModel", "readStep", "()V"⟩, 31), (⟨"OptimisticStoreModel", "goes", "(C)Z"⟩, 31), (⟨"OptimisticStoreModel", "sign", "()I"⟩, 31), (⟨"OptimisticStoreModel", "fault", "()V"⟩, 31), (⟨"OptimisticStoreModel", "readKey", "()I"⟩, 31), (⟨"OptimisticStoreModel", "digits", "(II)I"⟩, 31), (⟨"OptimisticStoreModel", "isDigit", "()Z"⟩, 31), (⟨"OptimisticStoreModel", "expect", "(C)V"⟩, 31), (⟨"OptimisticStoreModel", "doStep", "(II)V"⟩, 31)]
theorem lw_r5 : ∀ q ∈ lw_privs_5, lw_okq q := List.forall_mem_cons.mpr ⟨lw_p64, List.forall_mem_cons.mpr ⟨lw_p65, List.forall_mem_cons.mpr ⟨lw_p66, List.forall_mem_cons.mpr ⟨lw_p67, List.forall_mem_cons.mpr ⟨lw_p68, List.forall_mem_cons.mpr ⟨lw_p69, List.forall_mem_cons.mpr ⟨lw_p70, List.forall_mem_cons.mpr ⟨lw_p71, List.forall_mem_cons.mpr ⟨lw_p72, List.forall_mem_cons.mpr ⟨lw_p73, List.forall_mem_cons.mpr ⟨lw_p74, List.forall_mem_cons.mpr ⟨lw_p75, List.forall_mem_cons.mpr ⟨lw_p76, List.forall_mem_cons.mpr ⟨lw_p77, List.forall_mem_cons.mpr ⟨lw_p78, fun _ h => absurd h List.not_mem_nil⟩⟩⟩⟩⟩⟩⟩⟩⟩⟩⟩⟩⟩⟩⟩
def lw_privs : List (MethodName × Nat) := lw_privs_1 ++ (lw_privs_2 ++ (lw_privs_3 ++ (lw_privs_4 ++ (lw_privs_5))))
def lw_tbl : List Cond := k2_sels lw_privs ++ tables_1
theorem lw_privs_ok : ∀ q ∈ lw_privs, lw_okq q := by
  show ∀ q ∈ lw_privs_1 ++ (lw_privs_2 ++ (lw_privs_3 ++ (lw_privs_4 ++ (lw_privs_5)))), lw_okq q
  exact List.forall_mem_append.mpr ⟨lw_r1, List.forall_mem_append.mpr ⟨lw_r2, List.forall_mem_append.mpr ⟨lw_r3, List.forall_mem_append.mpr ⟨lw_r4, lw_r5⟩⟩⟩⟩
/-- the streams that the claim lets the run draw from -/
abbrev lw_cs : List Choice := [Jvm.Choice.named "NaN.bits"]
theorem lw_bits : nanBits ∈ lw_cs := by first | decide | exact List.mem_cons_self | simp [lw_cs, nanBits]
-- ===== end of PART A; then your names; then what follows =====
end
section
/-- an array of arrays: the word of the tables (the kit's pasted rows name it and don't hold it) -/
def va_AOA (ty : FieldType) (U : State) : Prop := (Cond.arrayOver (.array ty)).before #[] U = true
theorem va_AOA.use {ty : FieldType} {A : Array Value} {U : State} (h : va_AOA ty U) : (Cond.arrayOver (.array ty)).before A U = true := h
end
section
/-! ===== BEGIN words of one list among another's, by their places ===== -/
theorem goodIn_r {big : List Cond} (ws : List Cond) (ps : List Nat) (hp : ws = ps.filterMap (fun i => big[i]?)) (h : ws.all goodWord = true) : GoodIn big ws := by
  intro w hw
  have h1 := List.all_eq_true.mp h w hw
  rw [hp] at hw
  obtain ⟨i, -, hi⟩ := List.mem_filterMap.mp hw
  have hm : w ∈ big := by first | exact List.mem_of_getElem? hi | exact List.getElem?_mem hi
  exact ⟨hm, good_of_word h1⟩
theorem goodIn_app {big a b : List Cond} (ha : GoodIn big a) (hb : GoodIn big b) : GoodIn big (a ++ b) := fun w h => (List.mem_append.mp h).elim (ha w) (hb w)
theorem goodIn_ca {big a b : List Cond} {c : Cond} (ha : GoodIn big (c :: a)) (hb : GoodIn big b) : GoodIn big (c :: (a ++ b)) := fun w h => (List.mem_cons.mp h).elim (fun e => ha w (List.mem_cons.mpr (Or.inl e))) (fun h => (List.mem_append.mp h).elim (fun h => ha w (List.mem_cons.mpr (Or.inr h))) (hb w))
theorem goodIn_sub {big ws : List Cond} (hm : ∀ w ∈ ws, w ∈ big) (h : ws.all goodWord = true) : GoodIn big ws := fun w hw => ⟨hm w hw, good_of_word (List.all_eq_true.mp h w hw)⟩
/-! ===== END ===== -/

/-! ===== BEGIN new T[n][m]: the outer array a place, the inner ones among the pooled ===== -/
/-- f, but v at every address of l -/
def vr_up {α : Type} (f : Nat → α) (l : List Nat) (v : α) : Nat → α := fun a => if a ∈ l then v else f a
theorem vr_up_in {α : Type} {f : Nat → α} {l : List Nat} {v : α} {a : Nat} (h : a ∈ l) : vr_up f l v a = v := if_pos h
theorem vr_up_ne {α : Type} {f : Nat → α} {l : List Nat} {v : α} {a : Nat} (h : a ∉ l) : vr_up f l v a = f a := if_neg h
theorem vr_rows {L l : List Nat} {f : Nat → va_E} {e : va_E} (h : ∀ a, a ∈ l → a ∉ L) : va_pl L f ++ l.map (fun a => (a, e)) = va_pl (L ++ l) (vr_up f l e) := by
  unfold va_pl
  rw [List.map_append]
  congr 1
  · apply List.map_congr_left
    intro a ha
    rw [vr_up_ne (fun q => h a q ha)]
  · apply List.map_congr_left
    intro a ha
    rw [vr_up_in ha]
theorem vr_lay {X rows : va_W} {x : Nat × va_E} {pl : va_W} {D : va_G} {cl : List vw_C} {H : Heap} (hP : va_P D cl (((X ++ pl) ++ [x]) ++ rows) H) : va_P D cl ((X ++ [x]) ++ (pl ++ rows)) H := by
  rw [List.append_assoc (X ++ pl)] at hP
  have h := va_P.swap hP
  rw [← List.append_assoc X] at h
  have h2 := va_P.swap h
  rw [List.append_assoc (X ++ [x])] at h2
  exact h2
theorem vr_layD {X rows : va_W} {x : Nat × va_E} {pl : va_W} {A : Nat → Prop} (hD : va_D A (((X ++ pl) ++ [x]) ++ rows)) : va_D A ((X ++ [x]) ++ (pl ++ rows)) := by
  rw [List.append_assoc (X ++ pl)] at hD
  have h := va_D.swap hD
  rw [← List.append_assoc X] at h
  have h2 := va_D.swap h
  rw [List.append_assoc (X ++ [x])] at h2
  exact h2
theorem vr_outer (c : ClassId) (N h0 : Nat) : ∀ i : Nat, Jvm.Free.Multi.outerC c N h0 i = arrV c N (fun j => va_rf (if j < i then some (h0 + 1 + j) else none))
  | 0 => by
    show ({ cls := c, slots := Array.replicate N .null, vm := .none } : Cell) = _
    rw [arrV_new]
    refine congrArg (arrV c N) (funext fun j => ?_)
    simp [va_rf]
  | i + 1 => by
    show (Jvm.Free.Multi.outerC c N h0 i).setSlot i (.ref (h0 + 1 + i)) = _
    rw [vr_outer c N h0 i, arrV_store]
    refine congrArg (arrV c N) (funext fun j => ?_)
    by_cases e : j = i
    · subst e
      simp [updV, va_rf]
    · by_cases h : j < i
      · simp [updV, e, h, Nat.lt_succ_of_lt h]
      · simp [updV, e, h, show ¬ j < i + 1 by omega]
section VGM
variable {p : Program} {l : Launch} {e : Env} {R : Room} {s : State} {m : MethodId} {args : Array Value} {below : List Frame} {meth : Method} {c : Code} {H : Heap} {locs : List Loc} {cells slots : Nat} {Q : State → Prop}
variable {cc : ByteArray} {pc : Nat} {ls : Array Slot} {rest : List Value} {D : va_G} {cl : List vw_C} {A : Nat → Prop} {a : Nat} {tys : List (ClassId × FieldType)} {ws : va_W} {H0 : Heap}
theorem va_mna {X : va_W} {L : List Nat} {f : Nat → va_E} {cc : ByteArray} (hexec : p.tables.exec = Jvm.exec) (hb : c.code = cc) {own : String} {index : Nat} {ty : FieldType} {cy : ClassId} (hown : s.vm.findClass own = some m.cls) (hclink : (Cond.classLink own index ("[" ++ (FieldType.array ty).toString)).before args s = true) (hover : va_AOA ty s) (harr : (Cond.arrayClass ty).before args s = true) (hcy : s.vm.findClass (FieldType.array ty).toString = some cy)
    (hK : va_K D cl tys s) (hP : va_P D cl (X ++ va_pl L f) H) (hD : va_D A (X ++ va_pl L f)) (hS : va_S A H0 H locs) (hA : ∀ q, H0.size ≤ q → A q) {n k : Int32} {N' K' : Nat} {z : vp_A} (hn : ¬ n < 0) (hk : ¬ k < 0) (hN : n.toNatClampNeg = N') (hM : k.toNatClampNeg = K')
    (hb1 : N' * 4 ≤ 536870912) (hb2 : K' * componentBytes ty ≤ 536870912) (hb3 : K' ≤ 536870912) (hdf : fits ty (defaultValue ty) = true) (hdd : (defaultValue ty).isDefault = true) (hcells : cells + (1 + N') ≤ R.cells) (hslots : slots + (N' + N' * K') ≤ R.slots) (hz : ∀ c : ClassId, Jvm.Free.Multi.innerC c K' (defaultValue ty) = vp_cell c z) (hdg : decode cc pc = .ok (.multianewarray index 2, 4))
    (kk : ∀ (q : Nat) (r : Nat → Nat) (cA : ClassId) (H1 : Heap), (∀ i j : Nat, i < N' → j < N' → r i = r j → i = j) → (∀ i : Nat, i < N' → r i ∉ L) → va_K D cl (tys ++ [(cA, .array ty)]) s →
      va_P D cl ((X ++ [(q, .inl (cA, N', .inr (.inr (.inr (.inr (fun i => if i < N' then some (r i) else none))))))]) ++ va_pl (L ++ (List.range N').map r) (vr_up f ((List.range N').map r) (.inl (cy, z)))) H1 → va_D A ((X ++ [(q, .inl (cA, N', .inr (.inr (.inr (.inr (fun i => if i < N' then some (r i) else none))))))]) ++ va_pl (L ++ (List.range N').map r) (vr_up f ((List.range N').map r) (.inl (cy, z)))) → va_S A H0 H1 locs →
      W p l e R s m args below meth c H1 locs (cells + 1 + N') (slots + N' + N' * K') Q (F0 m (pc + 4) ls (.ref q :: rest))) : W p l e R s m args below meth c H locs cells slots Q (F0 m pc ls (.int k :: .int n :: rest)) := by
  subst hN
  subst hM
  intro T hT Xs
  obtain ⟨vm₁, cA, comp, -, fA, fC, hO, -, X', step⟩ := Xs.multianewarray2F hexec hown hclink (va_AOA.use hover) harr (g := F0 m pc ls (.int k :: .int n :: rest)) rfl (by rw [hb]; exact hdg) rfl hn hk hb1 hb2 hb3 hdf hdd hcells hslots
  have ec : some cy = some comp := hcy.symm.trans fC
  cases ec
  generalize hF : Jvm.Free.Multi.fill (T.setVm vm₁) cA cy n.toNatClampNeg k.toNatClampNeg (defaultValue ty) n.toNatClampNeg = F at X' step
  have hTh : (T.setVm vm₁).heap = H := hT
  obtain ⟨f1, f2, -, -⟩ := Jvm.Free.Multi.fill_facts (T.setVm vm₁) cA cy n.toNatClampNeg k.toNatClampNeg (defaultValue ty) n.toNatClampNeg
  rw [hF, hTh] at f1 f2
  have hold : ∀ x : Nat, x < H.size → F.heap[x]? = H[x]? := fun x hx => by
    have := Jvm.Free.Multi.fill_old (T.setVm vm₁) cA cy n.toNatClampNeg k.toNatClampNeg (defaultValue ty) (a := x) (by rw [hTh]; exact hx) n.toNatClampNeg
    rw [hF, hTh] at this
    exact this
  have hrow : ∀ j : Nat, j < n.toNatClampNeg → F.heap[H.size + 1 + j]? = some (vp_cell cy z) := fun j hj => by
    have := Jvm.Free.Multi.fill_inner (T.setVm vm₁) cA cy n.toNatClampNeg k.toNatClampNeg (defaultValue ty) n.toNatClampNeg j hj
    rw [hF, hTh, hz] at this
    exact this
  have hout : Jvm.Free.Multi.outerC cA n.toNatClampNeg H.size n.toNatClampNeg = vp_cell cA (n.toNatClampNeg, .inr (.inr (.inr (.inr (fun i => if i < n.toNatClampNeg then some (H.size + 1 + i) else none))))) := by
    rw [vp_cell_q]
    exact vr_outer cA n.toNatClampNeg H.size n.toNatClampNeg
  rw [hout] at f2
  have hlt : ∀ a, a ∈ L → a < H.size := fun a ha => by
    obtain ⟨k9, hk9⟩ := va_pl_get (X := X) (f := f) ha
    exact (hP k9 _ hk9).lt
  have hnl : ∀ i : Nat, i < n.toNatClampNeg → H.size + 1 + i ∉ L := fun i _ h => by
    have := hlt _ h
    omega
  have hnm : ∀ a, a ∈ (List.range n.toNatClampNeg).map (fun i => H.size + 1 + i) → a ∉ L := fun a ha h => by
    obtain ⟨i, -, rfl⟩ := List.mem_map.mp ha
    have := hlt _ h
    omega
  have hP0 : va_P D cl (X ++ va_pl L f) F.heap := hP.kept (fun k9 x hx => hold x.1 ((hP k9 x hx).lt))
  have hP1 : va_P D cl ((X ++ va_pl L f) ++ [(H.size, .inl (cA, n.toNatClampNeg, .inr (.inr (.inr (.inr (fun i => if i < n.toNatClampNeg then some (H.size + 1 + i) else none))))))]) F.heap := hP0.app (fun k9 x hx => by
    have h0 : k9 < 1 := (List.getElem?_eq_some_iff.mp hx).1
    rw [show k9 = 0 by omega] at hx
    cases hx
    exact f2)
  have hP2 : va_P D cl (((X ++ va_pl L f) ++ [(H.size, .inl (cA, n.toNatClampNeg, .inr (.inr (.inr (.inr (fun i => if i < n.toNatClampNeg then some (H.size + 1 + i) else none))))))]) ++ ((List.range n.toNatClampNeg).map (fun i => H.size + 1 + i)).map (fun a => (a, .inl (cy, z)))) F.heap := hP1.app (fun k9 x hx => by
    obtain ⟨a, ha, rfl⟩ := List.mem_map.mp (List.mem_of_getElem? hx)
    obtain ⟨i, hi, rfl⟩ := List.mem_map.mp ha
    exact hrow i (List.mem_range.mp hi))
  have hD2 : va_D A (((X ++ va_pl L f) ++ [(H.size, .inl (cA, n.toNatClampNeg, .inr (.inr (.inr (.inr (fun i => if i < n.toNatClampNeg then some (H.size + 1 + i) else none))))))]) ++ ((List.range n.toNatClampNeg).map (fun i => H.size + 1 + i)).map (fun a => (a, .inl (cy, z)))) := by
    have hD1 := hD.push (e := .inl (cA, n.toNatClampNeg, .inr (.inr (.inr (.inr (fun i => if i < n.toNatClampNeg then some (H.size + 1 + i) else none)))))) hP rfl (hA _ hS.1)
    generalize hW1 : (X ++ va_pl L f) ++ [(H.size, .inl (cA, n.toNatClampNeg, .inr (.inr (.inr (.inr (fun i => if i < n.toNatClampNeg then some (H.size + 1 + i) else none))))))] = W1 at hD1 hP1 ⊢
    have hle : ∀ (k9 : Nat) (x : Nat × va_E), W1[k9]? = some x → x.1 ≤ H.size := fun k9 x hx => by
      rw [← hW1] at hx
      by_cases hl : k9 < (X ++ va_pl L f).length
      · rw [List.getElem?_append_left hl] at hx
        exact Nat.le_of_lt ((hP k9 x hx).lt)
      · rw [List.getElem?_append_right (by omega)] at hx
        have h0 : k9 - (X ++ va_pl L f).length < 1 := (List.getElem?_eq_some_iff.mp hx).1
        rw [show k9 - (X ++ va_pl L f).length = 0 by omega] at hx
        cases hx
        exact Nat.le_refl _
    have hr : ∀ (k9 : Nat) (x : Nat × va_E), (((List.range n.toNatClampNeg).map (fun i => H.size + 1 + i)).map (fun a => ((a, .inl (cy, z)) : Nat × va_E)))[k9]? = some x → x.1 = H.size + 1 + k9 := fun k9 x hx => by
      rw [List.getElem?_map, List.getElem?_map] at hx
      by_cases h9 : k9 < n.toNatClampNeg
      · rw [List.getElem?_range h9] at hx
        cases hx
        rfl
      · have hn0 : (List.range n.toNatClampNeg)[k9]? = none := List.getElem?_eq_none (by rw [List.length_range]; omega)
        rw [hn0] at hx
        cases hx
    refine ⟨fun i j x y hi hj hxy => ?_, fun k9 x hx => ?_⟩
    · by_cases h1 : i < W1.length <;> by_cases h2 : j < W1.length
      · rw [List.getElem?_append_left h1] at hi
        rw [List.getElem?_append_left h2] at hj
        exact hD1.1 i j x y hi hj hxy
      · rw [List.getElem?_append_left h1] at hi
        rw [List.getElem?_append_right (by omega)] at hj
        have := hle _ _ hi
        have := hr _ _ hj
        omega
      · rw [List.getElem?_append_right (by omega)] at hi
        rw [List.getElem?_append_left h2] at hj
        have := hle _ _ hj
        have := hr _ _ hi
        omega
      · rw [List.getElem?_append_right (by omega)] at hi hj
        have := hr _ _ hi
        have := hr _ _ hj
        omega
    · by_cases h1 : k9 < W1.length
      · rw [List.getElem?_append_left h1] at hx
        exact hD1.2 k9 x hx
      · rw [List.getElem?_append_right (by omega)] at hx
        have := hr _ _ hx
        exact hA _ (by have := hS.1; omega)
  have hAr : ArrOfT s cA (.array ty) := fun N9 z9 => by
    obtain ⟨-, k9, hk9, cm9, hkk9⟩ := (hO 0 0 0).1
    exact ⟨(fun q hq => by cases hq), k9, hk9, cm9, hkk9⟩
  have hK2 : va_K D cl (tys ++ [(cA, .array ty)]) s := ⟨hK.1, fun k9 x hx => by
    by_cases hl : k9 < tys.length
    · rw [List.getElem?_append_left hl] at hx
      exact hK.2 k9 x hx
    · rw [List.getElem?_append_right (by omega)] at hx
      have h0 : k9 - tys.length < 1 := (List.getElem?_eq_some_iff.mp hx).1
      rw [show k9 - tys.length = 0 by omega] at hx
      cases hx
      exact ⟨hAr, fA⟩⟩
  obtain ⟨t, a1, b1⟩ := kk H.size (fun i => H.size + 1 + i) cA F.heap (fun i j _ _ h => by have h9 : H.size + 1 + i = H.size + 1 + j := h; omega) hnl hK2 (by rw [← vr_rows hnm]; exact vr_lay hP2) (by rw [← vr_rows hnm]; exact vr_layD hD2) ⟨by rw [f1]; have := hS.1; omega, fun x h1 h2 => (hold x (Nat.lt_of_lt_of_le h1 hS.1)).trans (hS.2.1 x h1 h2), hS.2.2⟩ F rfl X'
  refine ⟨t, step t ?_, b1⟩
  have e : T.heap.size = H.size := by rw [hT]
  rw [e]
  exact a1
end VGM
/-! ===== END ===== -/

/-! ===== BEGIN exceptions that leave a method, and their catching by the caller (launches without stack traces) ===== -/
section VXA
/-! The laws vx_back, vx_callV, vx_callS, vx_callSW, vx_throw0, vx_throwS follow proofs of the library, with one case more: JvmDerived/Free/Laws.lean (Back.of_free), Shelf42/LK1.lean (callV, callS), Shelf/KitTraced.lean (throwNew0V, throwNewS). -/
/-- where a method has thrown q: the class by its name, the cell, what was written, the world -/
def vx_T (XC : String → State → State → Prop) (st : State) (q : Addr) (t : State) (mc ms : Nat) (free : Addr → Prop) : Prop :=
  ∃ (E : String) (ce : Cell) (L : List Loc), XC E st t ∧ t.heap[q]? = some ce ∧ ce.vm = .none ∧ st.vm.findClass E = some ce.cls ∧ st.WarmedH t.vm ∧ st.sameButNew ({ t with vm := st.vm } : State) L mc ms ∧ ∀ z ∈ L, free z.base
def vx_Q (Qc : Array Value → State → Outcome → State → Prop) (XC : String → State → State → Prop) (mc ms : Nat) (free : Addr → Prop) : Array Value → State → Outcome → State → Prop := fun a st o t =>
  (Qc a st o t ∧ ∃ L, FrameEnd st o t L mc ms ∧ ∀ q ∈ L, free q.base) ∨ ∃ q, o = .threw q ∧ vx_T XC st q t mc ms free
/-- a callee that returns or throws -/
def vx_Met (l : Launch) (y : MethodName) (ws : List Cond) (rm : Room) (Pc : Array Value → State → Prop) (Qc : Array Value → State → Outcome → State → Prop) (XC : String → State → State → Prop) (mc ms : Nat) (free : Addr → Prop) : Prop :=
  MetFree l y (headSpec ws rm) Pc (fun _ _ _ _ _ => True) (vx_Q Qc XC mc ms free)
def vx_Post (XC : String → State → State → Prop) (mc ms : Nat) (free : Addr → Prop) : Pt → Array Value → Addr → Pt → Prop := fun A a q B =>
  ∃ (g : JFrame) (mk : MethodId) (t : State) (L : List Loc) (E : String) (ce : Cell), B.U.heap = t.heap ∧ B.U.vm = t.vm ∧ XC E (A.U.calling g mk a) t ∧ t.heap[q]? = some ce ∧ ce.vm = .none ∧ A.U.vm.findClass E = some ce.cls ∧ B.locs = A.locs ++ L ∧ (∀ z ∈ L, free z.base) ∧ B.cells = A.cells + mc ∧ B.slots = A.slots + ms
def vx_Back (l : Launch) (R : Room) (p : Program) (e : Env) (below : List Frame) (s : State) (sargs : Array Value) (y : MethodName) (len W9 : Nat)
    (Pre : Pt → Array Value → Prop) (Post : Pt → Array Value → Option Value → Pt → Prop) (PostX : Pt → Array Value → Addr → Pt → Prop) : Prop :=
  ∀ (m : MethodId) (meth : Method) (c : Code) (A : Pt) (g : JFrame) (ig : Instr) (mk : MethodId) (a : Array Value),
    Stand p l e R s m sargs below meth c A.U A.locs A.cells A.slots → g.method = m → g.locals.size = c.maxLocals → decode c.code g.pc = .ok (ig, len) →
    2 * g.monitorRoom + (g.stack.map fun v => v.category).sum ≤ W9 → A.U.methodNamed? y = some mk → Pre A a →
    (∃ (v : Option Value) (B : Pt), Stand p l e R s m sargs below meth c B.U B.locs B.cells B.slots ∧ Post A a v B ∧
      Steps p.tables e below (doInvoke e (A.U.setTop g) [] mk a).1 (B.U.setTop { g with pc := g.pc + len, stack := v.toList ++ g.stack })) ∨
    (∃ (q : Addr) (B : Pt), Stand p l e R s m sargs below meth c B.U B.locs B.cells B.slots ∧ PostX A a q B ∧
      Steps p.tables e below (doInvoke e (A.U.setTop g) [] mk a).1 ((B.U.setTop g).pushFrame (.throwing q)))
section Payer
variable {l : Launch} {R : Room} {p : Program} {e : Env} {below : List Frame} {s : State} {sargs : Array Value} {y : MethodName} {len W9 : Nat}
theorem vx_back {ws : List Cond} {rm : Room} {Pc : Array Value → State → Prop} {Qc : Array Value → State → Outcome → State → Prop} {XC : String → State → State → Prop} {mc ms : Nat} {free : Addr → Prop} {bytes : ByteArray} {maxL : Nat} {ret : Option FieldType}
    (hM : vx_Met l y ws rm Pc Qc XC mc ms free) (hblind : FrameBlind Pc) (hrc : rm.cells = mc) (hrs : rm.slots = ms)
    (hframes : rm.frames + 1 ≤ R.frames) (hlocals : W9 + (maxL + 11) + rm.locals ≤ R.locals)
    (hws : ∀ w ∈ ws, ∀ a' U, s.WarmedH U.vm → w.before a' U = true) (hcode : Cond.code y bytes maxL ret ∈ ws) (hinit : ∀ a' U, s.WarmedH U.vm → (Cond.initialized y.cls).before a' U = true) :
    vx_Back l R p e below s sargs y len W9 (PreOf R mc ms Pc) (PostOf Qc mc ms free) (vx_Post XC mc ms free) := by
  intro m meth c A g ig mk a X hg hsize hdg hW hn hp
  have h1 : (headSpec ws rm).pre.before a A.U = true := atoms_intro fun w hw => hws w hw _ _ X.warmed
  have h2 : (Cond.code y bytes maxL ret).before a A.U = true := hws _ hcode _ _ X.warmed
  have h3 : (Cond.initialized y.cls).before a A.U = true := hinit _ _ X.warmed
  have h4 : A.cells + (headSpec ws rm).room.cells ≤ R.cells := by rw [show (headSpec ws rm).room.cells = mc from hrc]; exact hp.1
  have h5 : A.slots + (headSpec ws rm).room.slots ≤ R.slots := by rw [show (headSpec ws rm).room.slots = ms from hrs]; exact hp.2.1
  have hPc : Pc a (A.U.calling g mk a) := hblind _ _ _ _ hp.2.2
  obtain ⟨U, Ls, c0, s0⟩ := A
  dsimp only [Pt.U, Pt.locs, Pt.cells, Pt.slots] at h1 h2 h3 h4 h5 X hn hPc ⊢
  obtain ⟨methY, cY, hmY, hcY, -, hlY, -, -, -, -⟩ := Cond.code_spec hn h2
  obtain ⟨kY, hkY, -⟩ := className_of_methodNamed hn
  have hinitY : kY.init = .initialized := Cond.initialized_spec (findClass_of_methodNamed hn) hkY h3
  have h : At U g.method c below := by rw [hg]; exact X.here
  have hlocals9 : W9 + (maxL + 11) + (headSpec ws rm).room.locals ≤ R.locals := hlocals
  have happ : (headSpec ws rm).appliesLoose y e.platform (U.calling g mk a) = true :=
    Spec.appliesLoose_calling (g := g) h hdg hn hkY hinitY
      (X.room_calling (g := g) (R' := (headSpec ws rm).room) hsize hmY hcY hframes (by rw [hlY]; omega) h4 h5) h1
  obtain ⟨mid, hmid⟩ := h.above
  have hfr : (U.setTop g).frames = (.java g :: mid) ++ below := by rw [State.frames_setTop' g h.top, hmid]; rfl
  obtain ⟨o, s₂, hsteps, -, hend, hq⟩ := Steps.callFree hM p X.admits X.cas X.clock (acts := []) hfr happ hPc trivial
  have hq' : vx_Q Qc XC mc ms free a (U.calling g mk a) o s₂ := hq
  rw [State.frames_setTop' g h.top] at hend
  obtain ⟨g₀, hg0⟩ := Option.isSome_iff_exists.mp h.top
  obtain ⟨r, hr⟩ := State.topJava?_eq_some.mp hg0
  have hr' : (({ U with heap := s₂.heap, slotsUsed := s₂.slotsUsed } : State).setVm s₂.vm).frames = .java g₀ :: r := hr
  rcases hq' with ⟨hqc, L, hfe, hL⟩ | ⟨q, rfl, E, ce, L, hx, hce, hcv, hcl, hW₂, hsm, hL⟩
  · obtain ⟨⟨v, rfl⟩, hW₂, e2, q2, q3, q4, q5, q6⟩ := id hfe
    have e3 : s₂ = ({ (U.calling g mk a).setFrames s₂.frames with heap := s₂.heap, slotsUsed := s₂.slotsUsed } : State).setVm s₂.vm := by
      have : s₂ = ({ s₂ with vm := (U.calling g mk a).vm } : State).setVm s₂.vm := rfl
      rw [e2] at this
      exact this
    obtain ⟨c₂, i₂, len₂, hc₂, hd₂, hf₂⟩ := hend
    have hW' : U.WarmedH s₂.vm := hW₂
    have hcc : c₂ = c := by
      have h1 : s₂.code? g.method = U.code? g.method := by
        rw [State.code?_eq, State.code?_eq, hW'.alike.method?]
      exact Option.some.inj (hc₂.symm.trans (h1.trans h.code))
    subst hcc
    have hlen : len₂ = len := by rw [hdg] at hd₂; cases hd₂; rfl
    subst hlen
    have hs₂ : s₂ = (({ U with heap := s₂.heap, slotsUsed := s₂.slotsUsed } : State).setVm s₂.vm).setTop { g with pc := g.pc + len₂, stack := v.toList ++ g.stack } := by
      refine e3.trans ?_
      rw [hf₂, State.calling_eq h.top, State.setFrames_setFrames, State.setTop_of_frames _ hr', hr]
      rfl
    have hsame : U.sameButNew ({ U with heap := s₂.heap, slotsUsed := s₂.slotsUsed } : State) L mc ms := by
      refine ⟨?_, q2, q3, q4, q5, q6⟩
      obtain ⟨t, ht, -⟩ := State.frames_cons hr
      show ({ U with heap := s₂.heap, slotsUsed := s₂.slotsUsed } : State) = { U.setFrames U.frames with heap := s₂.heap, slotsUsed := s₂.slotsUsed }
      rw [State.setFrames_self ht]
    subst hg
    refine Or.inl ⟨v, ⟨(({ U with heap := s₂.heap, slotsUsed := s₂.slotsUsed } : State).setVm s₂.vm), Ls ++ L, c0 + mc, s0 + ms⟩,
      ⟨X.admits, X.cas, X.clock, X.frames, X.room, X.hears, X.method, X.code, (X.here.setHeapUsed s₂.heap s₂.slotsUsed).setVm hW'.alike, X.tail, State.WarmedH.trans X.warmed hW', X.limits, X.bytes, X.same.trans (hsame.setVm s.vm)⟩,
      ⟨g, mk, s₂, L, rfl, rfl, hqc, rfl, hL, rfl, rfl⟩, ?_⟩
    show Steps p.tables e below _ ((({ U with heap := s₂.heap, slotsUsed := s₂.slotsUsed } : State).setVm s₂.vm).setTop { g with pc := g.pc + len₂, stack := v.toList ++ g.stack })
    rw [← hs₂]
    exact hsteps
  · obtain ⟨e2, q2, q3, q4, q5, q6⟩ := id hsm
    have e3 : s₂ = ({ (U.calling g mk a).setFrames s₂.frames with heap := s₂.heap, slotsUsed := s₂.slotsUsed } : State).setVm s₂.vm := by
      have : s₂ = ({ s₂ with vm := (U.calling g mk a).vm } : State).setVm s₂.vm := rfl
      rw [e2] at this
      exact this
    have hf₂ : s₂.frames = .throwing q :: .java g :: U.frames.tail := hend
    have hW' : U.WarmedH s₂.vm := hW₂
    have hs₂ : s₂ = ((({ U with heap := s₂.heap, slotsUsed := s₂.slotsUsed } : State).setVm s₂.vm).setTop g).pushFrame (.throwing q) := by
      refine e3.trans ?_
      rw [hf₂, State.calling_eq h.top, State.setFrames_setFrames, State.pushFrame, State.frames_setTop _ hr', State.setTop_of_frames _ hr', State.setFrames_setFrames, hr]
      rfl
    have hsame : U.sameButNew ({ U with heap := s₂.heap, slotsUsed := s₂.slotsUsed } : State) L mc ms := by
      refine ⟨?_, q2, q3, q4, q5, q6⟩
      obtain ⟨t, ht, -⟩ := State.frames_cons hr
      show ({ U with heap := s₂.heap, slotsUsed := s₂.slotsUsed } : State) = { U.setFrames U.frames with heap := s₂.heap, slotsUsed := s₂.slotsUsed }
      rw [State.setFrames_self ht]
    subst hg
    refine Or.inr ⟨q, ⟨(({ U with heap := s₂.heap, slotsUsed := s₂.slotsUsed } : State).setVm s₂.vm), Ls ++ L, c0 + mc, s0 + ms⟩,
      ⟨X.admits, X.cas, X.clock, X.frames, X.room, X.hears, X.method, X.code, (X.here.setHeapUsed s₂.heap s₂.slotsUsed).setVm hW'.alike, X.tail, State.WarmedH.trans X.warmed hW', X.limits, X.bytes, X.same.trans (hsame.setVm s.vm)⟩,
      ⟨g, mk, s₂, L, E, ce, rfl, rfl, hx, hce, hcv, hcl, rfl, hL, rfl, rfl⟩, ?_⟩
    show Steps p.tables e below _ (((({ U with heap := s₂.heap, slotsUsed := s₂.slotsUsed } : State).setVm s₂.vm).setTop g).pushFrame (.throwing q))
    rw [← hs₂]
    exact hsteps
end Payer
section Calls
variable {p : Program} {l : Launch} {e : Env} {R : Room} {s : State} {m : MethodId} {args : Array Value} {below : List Frame} {meth : Method} {c : Code} {T : State} {locs : List Loc} {cells slots : Nat}
theorem vx_callV (X : Stand p l e R s m args below meth c T locs cells slots) (hexec : p.tables.exec = Jvm.exec) {own C : String} {index : Nat} {y : MethodName} {bytes : ByteArray} {maxL : Nat} {ret : Option FieldType}
    (hown : s.vm.findClass own = some m.cls) (hlink : (Cond.methodLink own index y).before args s = true) (hinst : (Cond.instanceMethod y).before args s = true) (hsel : (Cond.selects C y y).before args s = true)
    (hcode : (Cond.code y bytes maxL ret).before args s = true) (hy : y.cls ≠ "java/lang/invoke/MethodHandle" ∧ y.cls ≠ "java/lang/invoke/VarHandle")
    {W9 : Nat} {Pre : Pt → Array Value → Prop} {Post : Pt → Array Value → Option Value → Pt → Prop} {PostX : Pt → Array Value → Addr → Pt → Prop} (hK : vx_Back l R p e below s args y 3 W9 Pre Post PostX)
    {b : Addr} {cellB : Cell} (hcell : T.heap[b]? = some cellB) (hobj : cellB.vm.isStatics = false) (hcls : s.vm.findClass C = some cellB.cls)
    {g : JFrame} (hg : g.method = m) (hsize : g.locals.size = c.maxLocals) {argsL rest : List Value} (hlen : ∀ sig, parseMethodDescriptor y.desc = some sig → argsL.length = sig.parameters.length)
    (hstack : g.stack = argsL.reverse ++ .ref b :: rest) (hW : 2 * g.monitorRoom + (rest.map fun v => v.category).sum ≤ W9) (hdg : decode c.code g.pc = .ok (.invokevirtual index, 3))
    (hpre : ∀ vm₁, s.WarmedH vm₁ → Pre ⟨T.setVm vm₁, locs, cells, slots⟩ (Value.ref b :: argsL).toArray) :
    (∃ (v : Option Value) (vm₁ : Vm) (B : Pt), s.WarmedH vm₁ ∧ Stand p l e R s m args below meth c B.U B.locs B.cells B.slots ∧ Post ⟨T.setVm vm₁, locs, cells, slots⟩ (Value.ref b :: argsL).toArray v B ∧
      ∀ target, Steps p.tables e below (B.U.setTop { g with pc := g.pc + 3, stack := v.toList ++ rest }) target → Steps p.tables e below (T.setTop g) target) ∨
    (∃ (q : Addr) (vm₁ : Vm) (B : Pt), s.WarmedH vm₁ ∧ Stand p l e R s m args below meth c B.U B.locs B.cells B.slots ∧ PostX ⟨T.setVm vm₁, locs, cells, slots⟩ (Value.ref b :: argsL).toArray q B ∧
      Steps p.tables e below (T.setTop g) ((B.U.setTop { g with stack := rest }).pushFrame (.throwing q))) := by
  obtain ⟨mk, methM, hnamed, hmethM, hstM, habM⟩ := Cond.instanceMethod_spec hinst
  obtain ⟨methM', cM, hmethM', -, -, -, -, -, -, hsigM⟩ := Cond.code_spec hnamed hcode
  cases hmethM.symm.trans hmethM'
  obtain ⟨c2, r2, m2, q1, q2, q3, q4, kP, hkP, hkPi⟩ := Cond.selects_spec hsel
  cases hcls.symm.trans q1
  cases (State.methodFound?_of_named hnamed hy).symm.trans q2
  cases hnamed.symm.trans q3
  have hselP : selectMethod e.platform s.vm cellB.cls mk = .method mk := by rw [Launch.admits_selectMethod X.admits]; exact q4
  obtain ⟨vm₁, X₁, hstep₁⟩ := X.invokevirtual hexec hown hlink hnamed hmethM hstM hkP hkPi hy (a := b) (cell := cellB) hcell
    (fun z h => by rw [h] at hobj; cases hobj) hselP hmethM habM hkP hkPi (g := g) hg (argsL := argsL) (rest := rest) (hlen _ hsigM) hstack hdg
  rcases hK m meth c ⟨T.setVm vm₁, locs, cells, slots⟩ { g with stack := rest } (.invokevirtual index) mk (Value.ref b :: argsL).toArray X₁ hg hsize hdg hW (X₁.named hnamed) (hpre vm₁ X₁.warmed) with ⟨v, B, X', hpost, hsteps⟩ | ⟨q, B, X', hpost, hsteps⟩
  · exact Or.inl ⟨v, vm₁, B, X₁.warmed, X', hpost, fun target h => hstep₁ _ fun acts => by rw [doInvoke_state]; exact hsteps.trans h⟩
  · exact Or.inr ⟨q, vm₁, B, X₁.warmed, X', hpost, hstep₁ _ fun acts => by rw [doInvoke_state]; exact hsteps⟩
theorem vx_callS (X : Stand p l e R s m args below meth c T locs cells slots) (hexec : p.tables.exec = Jvm.exec) {own : String} {index : Nat} {y : MethodName} {bytes : ByteArray} {maxL : Nat} {ret : Option FieldType}
    (hown : s.vm.findClass own = some m.cls) (hlink : (Cond.methodLink own index y).before args s = true) (hstat : (Cond.static y).before args s = true) (hinit : (Cond.initialized y.cls).before args s = true)
    (hcode : (Cond.code y bytes maxL ret).before args s = true) (hy : y.cls ≠ "java/lang/invoke/MethodHandle" ∧ y.cls ≠ "java/lang/invoke/VarHandle")
    {W9 : Nat} {Pre : Pt → Array Value → Prop} {Post : Pt → Array Value → Option Value → Pt → Prop} {PostX : Pt → Array Value → Addr → Pt → Prop} (hK : vx_Back l R p e below s args y 3 W9 Pre Post PostX)
    {g : JFrame} (hg : g.method = m) (hsize : g.locals.size = c.maxLocals) {argsL rest : List Value} (hlen : ∀ sig, parseMethodDescriptor y.desc = some sig → argsL.length = sig.parameters.length)
    (hstack : g.stack = argsL.reverse ++ rest) (hW : 2 * g.monitorRoom + (rest.map fun v => v.category).sum ≤ W9) (hdg : decode c.code g.pc = .ok (.invokestatic index, 3))
    (hpre : ∀ vm₁, s.WarmedH vm₁ → Pre ⟨T.setVm vm₁, locs, cells, slots⟩ argsL.toArray) :
    (∃ (v : Option Value) (vm₁ : Vm) (B : Pt), s.WarmedH vm₁ ∧ Stand p l e R s m args below meth c B.U B.locs B.cells B.slots ∧ Post ⟨T.setVm vm₁, locs, cells, slots⟩ argsL.toArray v B ∧
      ∀ target, Steps p.tables e below (B.U.setTop { g with pc := g.pc + 3, stack := v.toList ++ rest }) target → Steps p.tables e below (T.setTop g) target) ∨
    (∃ (q : Addr) (vm₁ : Vm) (B : Pt), s.WarmedH vm₁ ∧ Stand p l e R s m args below meth c B.U B.locs B.cells B.slots ∧ PostX ⟨T.setVm vm₁, locs, cells, slots⟩ argsL.toArray q B ∧
      Steps p.tables e below (T.setTop g) ((B.U.setTop { g with stack := rest }).pushFrame (.throwing q))) := by
  obtain ⟨mk, hnamed⟩ := Cond.code_named hcode
  obtain ⟨methM, cM, hmethM, -, -, -, -, -, -, hsigM⟩ := Cond.code_spec hnamed hcode
  have hstatic : methM.isStatic = true := Cond.static_spec hnamed hmethM hstat
  obtain ⟨kP, hkP, -⟩ := className_of_methodNamed hnamed
  have hinitP : kP.init = .initialized := Cond.initialized_spec (findClass_of_methodNamed hnamed) hkP hinit
  obtain ⟨vm₁, X₁, hstep₁⟩ := X.invokestatic hexec hown hlink hnamed hmethM hstatic hkP hinitP hy (g := g) hg (argsL := argsL) (rest := rest) (hlen _ hsigM) hstack hdg
  rcases hK m meth c ⟨T.setVm vm₁, locs, cells, slots⟩ { g with stack := rest } (.invokestatic index) mk argsL.toArray X₁ hg hsize hdg hW (X₁.named hnamed) (hpre vm₁ X₁.warmed) with ⟨v, B, X', hpost, hsteps⟩ | ⟨q, B, X', hpost, hsteps⟩
  · exact Or.inl ⟨v, vm₁, B, X₁.warmed, X', hpost, fun target h => hstep₁ _ fun acts => by rw [doInvoke_state]; exact hsteps.trans h⟩
  · exact Or.inr ⟨q, vm₁, B, X₁.warmed, X', hpost, hstep₁ _ fun acts => by rw [doInvoke_state]; exact hsteps⟩
end Calls
theorem vx_cls {s : State} {T : State} {vm₁ : Vm} {E : String} {k : ClassId} (hW : s.WarmedH vm₁) (h : (T.setVm vm₁).vm.findClass E = some k) : s.vm.findClass E = some k := by
  have h1 : vm₁.findClass E = some k := h
  rw [hW.alike.findClass] at h1
  exact h1
/-- the method's frame g, with q thrown over it -/
def vx_W (p : Program) (l : Launch) (e : Env) (R : Room) (s : State) (m : MethodId) (args : Array Value) (below : List Frame) (meth : Method) (c : Code) (H : Heap) (locs : List Loc) (cells slots : Nat) (Q : State → Prop) (g : JFrame) (q : Addr) : Prop :=
  ∀ T : State, T.heap = H → Stand p l e R s m args below meth c T locs cells slots → ∃ t, Steps p.tables e below ((T.setTop g).pushFrame (.throwing q)) t ∧ Q t
def vx_Run (p : Program) (l : Launch) (e : Env) (R : Room) (s : State) (m : MethodId) (args : Array Value) (below : List Frame) (meth : Method) (c : Code) (H : Heap) (locs : List Loc) (cells slots mc ms : Nat) (g : JFrame) (rest : List Value) (Qa : State → Outcome → State → Prop) (XC : String → State → State → Prop) (free : Addr → Prop) : Prop :=
  ∀ T : State, T.heap = H → Stand p l e R s m args below meth c T locs cells slots →
    (∃ (v : Option Value) (st₀ t T' : State) (L : List Loc), st₀.heap = H ∧ Stand p l e R s m args below meth c T' (locs ++ L) (cells + mc) (slots + ms) ∧ (∀ q ∈ L, free q.base) ∧ T'.heap = t.heap ∧ T'.vm = t.vm ∧ Qa st₀ (.returned v) t ∧
      Goes p e below T g T' { g with pc := g.pc + 3, stack := v.toList ++ rest }) ∨
    (∃ (q : Addr) (st₀ t T' : State) (L : List Loc) (E : String) (ce : Cell), st₀.heap = H ∧ Stand p l e R s m args below meth c T' (locs ++ L) (cells + mc) (slots + ms) ∧ (∀ z ∈ L, free z.base) ∧ T'.heap = t.heap ∧ T'.vm = t.vm ∧ XC E st₀ t ∧ t.heap[q]? = some ce ∧ ce.vm = .none ∧ s.vm.findClass E = some ce.cls ∧
      Steps p.tables e below (T.setTop g) ((T'.setTop { g with stack := rest }).pushFrame (.throwing q)))
def vx_X {S : Type} (px : S → Prop) (B : String → S → State → Prop) (A : Nat → Prop) : String → State → State → Prop := fun E st t => ∃ u : S, px u ∧ B E u t ∧ va_F A st t
section Runs
variable {p : Program} {l : Launch} {e : Env} {R : Room} {s : State} {m : MethodId} {args : Array Value} {below : List Frame} {meth : Method} {c : Code} {H : Heap} {locs : List Loc} {cells slots : Nat}
variable {y : MethodName} {bytes cc : ByteArray} {maxL nL mc ms n index : Nat} {ret : Option FieldType} {ws : List Cond} {rm : Room} {Pc : Array Value → State → Prop} {Qc : Array Value → State → Outcome → State → Prop} {XC : String → State → State → Prop} {free : Addr → Prop} {Ts : List Cond} {own C : String} {b : Addr} {As rest : List Value} {g : JFrame}
theorem vx_callBack (cb : CallB R s args own index y bytes maxL ret ws rm mc ms n) (hM : vx_Met l y ws rm Pc Qc XC mc ms free) (hbl : FrameBlind Pc) : vx_Back l R p e below s args y 3 8 (PreOf R mc ms Pc) (PostOf Qc mc ms free) (vx_Post XC mc ms free) := by
  obtain ⟨hrc, hrs, hfr, hlo, hws, hcw, -, hini, -⟩ := cb
  exact vx_back (bytes := bytes) (maxL := maxL) (ret := ret) hM hbl hrc hrs hfr hlo hws hcw (fun a' U hW => word_at hW (Or.inl (by first | rfl | simp [Cond.onTables, Cond.keeps, Cond.steady])) hini)
theorem vx_runV (S : CallFix p m c cc nL s args Ts own) (hM : vx_Met l y ws rm Pc Qc XC mc ms free) (cw : CallW R s args own C index y bytes maxL ret ws rm mc ms n) (hp : PreV s H C b Pc As)
    (hg : g.method = m) (hn : As.length = n) (hsize : g.locals.size = nL) (hstack : g.stack = As.reverse ++ .ref b :: rest) (hW : 2 * g.monitorRoom + (rest.map fun v => v.category).sum ≤ 8) (hdg : decode cc g.pc = .ok (.invokevirtual index, 3)) (hf : cells + mc ≤ R.cells ∧ slots + ms ≤ R.slots) :
    vx_Run p l e R s m args below meth c H locs cells slots mc ms g rest (Qc (Value.ref b :: As).toArray) XC free := by
  have hK : vx_Back l R p e below s args y 3 8 (PreOf R mc ms Pc) (PostOf Qc mc ms free) (vx_Post XC mc ms free) := vx_callBack cw.1 hM hp.1
  obtain ⟨⟨-, -, -, -, -, -, hcode, -, hy, hlen, hl⟩, hin, hse⟩ := cw
  obtain ⟨hx, hb, hml, ho, -⟩ := S
  obtain ⟨-, ⟨cellB, hcB, hoB, hclB⟩, hPc⟩ := hp
  intro T hT X
  rcases vx_callV X hx (C := C) (bytes := bytes) (maxL := maxL) (ret := ret) ho hl hin hse hcode hy hK (by rw [hT]; exact hcB) hoB hclB hg (hsize.trans hml.symm) (argsL := As) (rest := rest) (fun sig h => hn.trans (hlen sig h)) hstack hW (by rw [hb]; exact hdg)
    (fun vm₁ hW₁ => ⟨hf.1, hf.2, hPc (T.setVm vm₁) hT hW₁⟩) with ⟨v, vm₁, ⟨U', l2, c2, s2⟩, hW₁, X', ⟨g', mk, t, L, e1, e2, hq, h1, hL, h2, h3⟩, st⟩ | ⟨q, vm₁, ⟨U', l2, c2, s2⟩, hW₁, X', ⟨g', mk, t, L, E, ce, e1, e2, hq, hce, hcv, hcl, h1, hL, h2, h3⟩, st⟩
  · dsimp only [Pt.U, Pt.locs, Pt.cells, Pt.slots] at X' e1 e2 h1 h2 h3 st
    subst h1; subst h2; subst h3
    exact Or.inl ⟨v, (T.setVm vm₁).calling g' mk (Value.ref b :: As).toArray, t, U', L, hT, X', hL, e1, e2, hq, st⟩
  · dsimp only [Pt.U, Pt.locs, Pt.cells, Pt.slots] at X' e1 e2 h1 h2 h3 st hcl
    subst h1; subst h2; subst h3
    exact Or.inr ⟨q, (T.setVm vm₁).calling g' mk (Value.ref b :: As).toArray, t, U', L, E, ce, hT, X', hL, e1, e2, hq, hce, hcv, vx_cls hW₁ hcl, st⟩
theorem vx_runS (S : CallFix p m c cc nL s args Ts own) (hM : vx_Met l y ws rm Pc Qc XC mc ms free) (cw : CallB R s args own index y bytes maxL ret ws rm mc ms n ∧ (Cond.static y).before args s = true) (hp : PreS s H Pc As)
    (hg : g.method = m) (hn : As.length = n) (hsize : g.locals.size = nL) (hstack : g.stack = As.reverse ++ rest) (hW : 2 * g.monitorRoom + (rest.map fun v => v.category).sum ≤ 8) (hdg : decode cc g.pc = .ok (.invokestatic index, 3)) (hf : cells + mc ≤ R.cells ∧ slots + ms ≤ R.slots) :
    vx_Run p l e R s m args below meth c H locs cells slots mc ms g rest (Qc As.toArray) XC free := by
  have hK : vx_Back l R p e below s args y 3 8 (PreOf R mc ms Pc) (PostOf Qc mc ms free) (vx_Post XC mc ms free) := vx_callBack cw.1 hM hp.1
  obtain ⟨⟨-, -, -, -, -, -, hcode, hini, hy, hlen, hl⟩, hstt⟩ := cw
  obtain ⟨hx, hb, hml, ho, -⟩ := S
  intro T hT X
  rcases vx_callS X hx (bytes := bytes) (maxL := maxL) (ret := ret) ho hl hstt hini hcode hy hK hg (hsize.trans hml.symm) (argsL := As) (rest := rest) (fun sig h => hn.trans (hlen sig h)) hstack hW (by rw [hb]; exact hdg)
    (fun vm₁ hW₁ => ⟨hf.1, hf.2, hp.2 (T.setVm vm₁) hT hW₁⟩) with ⟨v, vm₁, ⟨U', l2, c2, s2⟩, hW₁, X', ⟨g', mk, t, L, e1, e2, hq, h1, hL, h2, h3⟩, st⟩ | ⟨q, vm₁, ⟨U', l2, c2, s2⟩, hW₁, X', ⟨g', mk, t, L, E, ce, e1, e2, hq, hce, hcv, hcl, h1, hL, h2, h3⟩, st⟩
  · dsimp only [Pt.U, Pt.locs, Pt.cells, Pt.slots] at X' e1 e2 h1 h2 h3 st
    subst h1; subst h2; subst h3
    exact Or.inl ⟨v, (T.setVm vm₁).calling g' mk As.toArray, t, U', L, hT, X', hL, e1, e2, hq, st⟩
  · dsimp only [Pt.U, Pt.locs, Pt.cells, Pt.slots] at X' e1 e2 h1 h2 h3 st hcl
    subst h1; subst h2; subst h3
    exact Or.inr ⟨q, (T.setVm vm₁).calling g' mk As.toArray, t, U', L, E, ce, hT, X', hL, e1, e2, hq, hce, hcv, vx_cls hW₁ hcl, st⟩
end Runs
section Rows
variable {p : Program} {l : Launch} {e : Env} {R : Room} {s : State} {m : MethodId} {args : Array Value} {below : List Frame} {meth : Method} {c : Code} {H : Heap} {locs : List Loc} {cells slots : Nat} {Q : State → Prop}
variable {mc ms : Nat} {free : Addr → Prop} {A0 A1 : Nat → Prop} {H0 : Heap} {a : Array Value} {pc : Nat} {ls : Array Slot} {st0 rest : List Value}
theorem vx_keep {st₀ t T' : State} {L : List Loc} (h0 : st₀.heap = H) (e1 : T'.heap = t.heap) (hS : va_S A0 H0 H locs) (hA : ∀ q, q < H.size → A1 q → A0 q) (hf : ∀ q, free q → A0 q) (hL : ∀ q ∈ L, free q.base) (hF : va_F A1 st₀ t) :
    H.size ≤ T'.heap.size ∧ (∀ q : Nat, q < H.size → ¬ A1 q → T'.heap[q]? = H[q]?) ∧ va_S A0 H0 T'.heap (locs ++ L) := by
  obtain ⟨hz, hk⟩ := hF
  rw [h0] at hz hk
  exact ⟨by rw [e1]; exact hz, fun q h1 h2 => by rw [e1]; exact hk q h1 h2,
    ⟨Nat.le_trans hS.1 (by rw [e1]; exact hz), fun q h1 h2 => by rw [e1, hk q (Nat.lt_of_lt_of_le h1 hS.1) (fun z => h2 (hA q (Nat.lt_of_lt_of_le h1 hS.1) z))]; exact hS.2.1 q h1 h2, fun q hq => by
      rcases List.mem_append.mp hq with h | h
      · exact hS.2.2 q h
      · exact hf _ (hL q h)⟩⟩
theorem vx_calli {S SX : Type} {post : Int32 → S → Prop} {px : SX → Prop} {B : S → State → Prop} {BX : String → SX → State → Prop} {AX : Nat → Prop} (hr : vx_Run p l e R s m args below meth c H locs cells slots mc ms (F0 m pc ls st0) rest (va_Qi post B A1 a) (vx_X px BX AX) free) (hS : va_S A0 H0 H locs) (hA : ∀ q, q < H.size → A1 q → A0 q) (hf : ∀ q, free q → A0 q) (hAX : ∀ q, q < H.size → AX q → A0 q)
    (kx : ∀ (E : String) (ce : Cell) (q9 : Addr) (u : SX) (t : State) (H1 : Heap) (locs1 : List Loc), t.heap = H1 → s.vm.Alike t.vm → px u → BX E u t → H.size ≤ H1.size → (∀ q : Nat, q < H.size → ¬ AX q → H1[q]? = H[q]?) → va_S A0 H0 H1 locs1 → H1[q9]? = some ce → ce.vm = .none → s.vm.findClass E = some ce.cls → vx_W p l e R s m args below meth c H1 locs1 (cells + mc) (slots + ms) Q (F0 m pc ls rest) q9)
    (kk : ∀ (r : Int32) (u : S) (t : State) (H1 : Heap) (locs1 : List Loc), t.heap = H1 → s.vm.Alike t.vm → post r u → B u t → H.size ≤ H1.size → (∀ q : Nat, q < H.size → ¬ A1 q → H1[q]? = H[q]?) → va_S A0 H0 H1 locs1 → W p l e R s m args below meth c H1 locs1 (cells + mc) (slots + ms) Q (F0 m (pc + 3) ls (.int r :: rest))) : W p l e R s m args below meth c H locs cells slots Q (F0 m pc ls st0) := by
  intro T hT X
  rcases hr T hT X with ⟨v, st₀, t, T', L, h0, X', hL, e1, e2, ⟨⟨r, u, hv, hp, hb⟩, hF⟩, st⟩ | ⟨q, st₀, t, T', L, E, ce, h0, X', hL, e1, e2, ⟨u, hp, hb, hF⟩, hce, hcv, hcl, st⟩
  · cases hv
    obtain ⟨k1, k2, k3⟩ := vx_keep h0 e1 hS hA hf hL hF
    obtain ⟨t2, a1, b1⟩ := kk r u t T'.heap (locs ++ L) e1.symm (by rw [← e2]; exact X'.warmed.alike) hp hb k1 k2 k3 T' rfl X'
    exact ⟨t2, st t2 a1, b1⟩
  · obtain ⟨k1, k2, k3⟩ := vx_keep h0 e1 hS hAX hf hL hF
    obtain ⟨t2, a1, b1⟩ := kx E ce q u t T'.heap (locs ++ L) e1.symm (by rw [← e2]; exact X'.warmed.alike) hp hb k1 k2 k3 (by rw [e1]; exact hce) hcv hcl T' rfl X'
    exact ⟨t2, st.trans a1, b1⟩
theorem vx_calll {S SX : Type} {post : Int64 → S → Prop} {px : SX → Prop} {B : S → State → Prop} {BX : String → SX → State → Prop} {AX : Nat → Prop} (hr : vx_Run p l e R s m args below meth c H locs cells slots mc ms (F0 m pc ls st0) rest (va_Ql post B A1 a) (vx_X px BX AX) free) (hS : va_S A0 H0 H locs) (hA : ∀ q, q < H.size → A1 q → A0 q) (hf : ∀ q, free q → A0 q) (hAX : ∀ q, q < H.size → AX q → A0 q)
    (kx : ∀ (E : String) (ce : Cell) (q9 : Addr) (u : SX) (t : State) (H1 : Heap) (locs1 : List Loc), t.heap = H1 → s.vm.Alike t.vm → px u → BX E u t → H.size ≤ H1.size → (∀ q : Nat, q < H.size → ¬ AX q → H1[q]? = H[q]?) → va_S A0 H0 H1 locs1 → H1[q9]? = some ce → ce.vm = .none → s.vm.findClass E = some ce.cls → vx_W p l e R s m args below meth c H1 locs1 (cells + mc) (slots + ms) Q (F0 m pc ls rest) q9)
    (kk : ∀ (r : Int64) (u : S) (t : State) (H1 : Heap) (locs1 : List Loc), t.heap = H1 → s.vm.Alike t.vm → post r u → B u t → H.size ≤ H1.size → (∀ q : Nat, q < H.size → ¬ A1 q → H1[q]? = H[q]?) → va_S A0 H0 H1 locs1 → W p l e R s m args below meth c H1 locs1 (cells + mc) (slots + ms) Q (F0 m (pc + 3) ls (.long r :: rest))) : W p l e R s m args below meth c H locs cells slots Q (F0 m pc ls st0) := by
  intro T hT X
  rcases hr T hT X with ⟨v, st₀, t, T', L, h0, X', hL, e1, e2, ⟨⟨r, u, hv, hp, hb⟩, hF⟩, st⟩ | ⟨q, st₀, t, T', L, E, ce, h0, X', hL, e1, e2, ⟨u, hp, hb, hF⟩, hce, hcv, hcl, st⟩
  · cases hv
    obtain ⟨k1, k2, k3⟩ := vx_keep h0 e1 hS hA hf hL hF
    obtain ⟨t2, a1, b1⟩ := kk r u t T'.heap (locs ++ L) e1.symm (by rw [← e2]; exact X'.warmed.alike) hp hb k1 k2 k3 T' rfl X'
    exact ⟨t2, st t2 a1, b1⟩
  · obtain ⟨k1, k2, k3⟩ := vx_keep h0 e1 hS hAX hf hL hF
    obtain ⟨t2, a1, b1⟩ := kx E ce q u t T'.heap (locs ++ L) e1.symm (by rw [← e2]; exact X'.warmed.alike) hp hb k1 k2 k3 (by rw [e1]; exact hce) hcv hcl T' rfl X'
    exact ⟨t2, st.trans a1, b1⟩
theorem vx_callf {S SX : Type} {post : UInt32 → S → Prop} {px : SX → Prop} {B : S → State → Prop} {BX : String → SX → State → Prop} {AX : Nat → Prop} (hr : vx_Run p l e R s m args below meth c H locs cells slots mc ms (F0 m pc ls st0) rest (va_Qf post B A1 a) (vx_X px BX AX) free) (hS : va_S A0 H0 H locs) (hA : ∀ q, q < H.size → A1 q → A0 q) (hf : ∀ q, free q → A0 q) (hAX : ∀ q, q < H.size → AX q → A0 q)
    (kx : ∀ (E : String) (ce : Cell) (q9 : Addr) (u : SX) (t : State) (H1 : Heap) (locs1 : List Loc), t.heap = H1 → s.vm.Alike t.vm → px u → BX E u t → H.size ≤ H1.size → (∀ q : Nat, q < H.size → ¬ AX q → H1[q]? = H[q]?) → va_S A0 H0 H1 locs1 → H1[q9]? = some ce → ce.vm = .none → s.vm.findClass E = some ce.cls → vx_W p l e R s m args below meth c H1 locs1 (cells + mc) (slots + ms) Q (F0 m pc ls rest) q9)
    (kk : ∀ (r : UInt32) (u : S) (t : State) (H1 : Heap) (locs1 : List Loc), t.heap = H1 → s.vm.Alike t.vm → post r u → B u t → H.size ≤ H1.size → (∀ q : Nat, q < H.size → ¬ A1 q → H1[q]? = H[q]?) → va_S A0 H0 H1 locs1 → W p l e R s m args below meth c H1 locs1 (cells + mc) (slots + ms) Q (F0 m (pc + 3) ls (.float r :: rest))) : W p l e R s m args below meth c H locs cells slots Q (F0 m pc ls st0) := by
  intro T hT X
  rcases hr T hT X with ⟨v, st₀, t, T', L, h0, X', hL, e1, e2, ⟨⟨r, u, hv, hp, hb⟩, hF⟩, st⟩ | ⟨q, st₀, t, T', L, E, ce, h0, X', hL, e1, e2, ⟨u, hp, hb, hF⟩, hce, hcv, hcl, st⟩
  · cases hv
    obtain ⟨k1, k2, k3⟩ := vx_keep h0 e1 hS hA hf hL hF
    obtain ⟨t2, a1, b1⟩ := kk r u t T'.heap (locs ++ L) e1.symm (by rw [← e2]; exact X'.warmed.alike) hp hb k1 k2 k3 T' rfl X'
    exact ⟨t2, st t2 a1, b1⟩
  · obtain ⟨k1, k2, k3⟩ := vx_keep h0 e1 hS hAX hf hL hF
    obtain ⟨t2, a1, b1⟩ := kx E ce q u t T'.heap (locs ++ L) e1.symm (by rw [← e2]; exact X'.warmed.alike) hp hb k1 k2 k3 (by rw [e1]; exact hce) hcv hcl T' rfl X'
    exact ⟨t2, st.trans a1, b1⟩
theorem vx_calld {S SX : Type} {post : UInt64 → S → Prop} {px : SX → Prop} {B : S → State → Prop} {BX : String → SX → State → Prop} {AX : Nat → Prop} (hr : vx_Run p l e R s m args below meth c H locs cells slots mc ms (F0 m pc ls st0) rest (va_Qd post B A1 a) (vx_X px BX AX) free) (hS : va_S A0 H0 H locs) (hA : ∀ q, q < H.size → A1 q → A0 q) (hf : ∀ q, free q → A0 q) (hAX : ∀ q, q < H.size → AX q → A0 q)
    (kx : ∀ (E : String) (ce : Cell) (q9 : Addr) (u : SX) (t : State) (H1 : Heap) (locs1 : List Loc), t.heap = H1 → s.vm.Alike t.vm → px u → BX E u t → H.size ≤ H1.size → (∀ q : Nat, q < H.size → ¬ AX q → H1[q]? = H[q]?) → va_S A0 H0 H1 locs1 → H1[q9]? = some ce → ce.vm = .none → s.vm.findClass E = some ce.cls → vx_W p l e R s m args below meth c H1 locs1 (cells + mc) (slots + ms) Q (F0 m pc ls rest) q9)
    (kk : ∀ (r : UInt64) (u : S) (t : State) (H1 : Heap) (locs1 : List Loc), t.heap = H1 → s.vm.Alike t.vm → post r u → B u t → H.size ≤ H1.size → (∀ q : Nat, q < H.size → ¬ A1 q → H1[q]? = H[q]?) → va_S A0 H0 H1 locs1 → W p l e R s m args below meth c H1 locs1 (cells + mc) (slots + ms) Q (F0 m (pc + 3) ls (.double r :: rest))) : W p l e R s m args below meth c H locs cells slots Q (F0 m pc ls st0) := by
  intro T hT X
  rcases hr T hT X with ⟨v, st₀, t, T', L, h0, X', hL, e1, e2, ⟨⟨r, u, hv, hp, hb⟩, hF⟩, st⟩ | ⟨q, st₀, t, T', L, E, ce, h0, X', hL, e1, e2, ⟨u, hp, hb, hF⟩, hce, hcv, hcl, st⟩
  · cases hv
    obtain ⟨k1, k2, k3⟩ := vx_keep h0 e1 hS hA hf hL hF
    obtain ⟨t2, a1, b1⟩ := kk r u t T'.heap (locs ++ L) e1.symm (by rw [← e2]; exact X'.warmed.alike) hp hb k1 k2 k3 T' rfl X'
    exact ⟨t2, st t2 a1, b1⟩
  · obtain ⟨k1, k2, k3⟩ := vx_keep h0 e1 hS hAX hf hL hF
    obtain ⟨t2, a1, b1⟩ := kx E ce q u t T'.heap (locs ++ L) e1.symm (by rw [← e2]; exact X'.warmed.alike) hp hb k1 k2 k3 (by rw [e1]; exact hce) hcv hcl T' rfl X'
    exact ⟨t2, st.trans a1, b1⟩
theorem vx_callv {S SX : Type} {post : S → Prop} {px : SX → Prop} {B : S → State → Prop} {BX : String → SX → State → Prop} {AX : Nat → Prop} (hr : vx_Run p l e R s m args below meth c H locs cells slots mc ms (F0 m pc ls st0) rest (va_Qv post B A1 a) (vx_X px BX AX) free) (hS : va_S A0 H0 H locs) (hA : ∀ q, q < H.size → A1 q → A0 q) (hf : ∀ q, free q → A0 q) (hAX : ∀ q, q < H.size → AX q → A0 q)
    (kx : ∀ (E : String) (ce : Cell) (q9 : Addr) (u : SX) (t : State) (H1 : Heap) (locs1 : List Loc), t.heap = H1 → s.vm.Alike t.vm → px u → BX E u t → H.size ≤ H1.size → (∀ q : Nat, q < H.size → ¬ AX q → H1[q]? = H[q]?) → va_S A0 H0 H1 locs1 → H1[q9]? = some ce → ce.vm = .none → s.vm.findClass E = some ce.cls → vx_W p l e R s m args below meth c H1 locs1 (cells + mc) (slots + ms) Q (F0 m pc ls rest) q9)
    (kk : ∀ (u : S) (t : State) (H1 : Heap) (locs1 : List Loc), t.heap = H1 → s.vm.Alike t.vm → post u → B u t → H.size ≤ H1.size → (∀ q : Nat, q < H.size → ¬ A1 q → H1[q]? = H[q]?) → va_S A0 H0 H1 locs1 → W p l e R s m args below meth c H1 locs1 (cells + mc) (slots + ms) Q (F0 m (pc + 3) ls (rest))) : W p l e R s m args below meth c H locs cells slots Q (F0 m pc ls st0) := by
  intro T hT X
  rcases hr T hT X with ⟨v, st₀, t, T', L, h0, X', hL, e1, e2, ⟨⟨u, hv, hp, hb⟩, hF⟩, st⟩ | ⟨q, st₀, t, T', L, E, ce, h0, X', hL, e1, e2, ⟨u, hp, hb, hF⟩, hce, hcv, hcl, st⟩
  · cases hv
    obtain ⟨k1, k2, k3⟩ := vx_keep h0 e1 hS hA hf hL hF
    obtain ⟨t2, a1, b1⟩ := kk u t T'.heap (locs ++ L) e1.symm (by rw [← e2]; exact X'.warmed.alike) hp hb k1 k2 k3 T' rfl X'
    exact ⟨t2, st t2 a1, b1⟩
  · obtain ⟨k1, k2, k3⟩ := vx_keep h0 e1 hS hAX hf hL hF
    obtain ⟨t2, a1, b1⟩ := kx E ce q u t T'.heap (locs ++ L) e1.symm (by rw [← e2]; exact X'.warmed.alike) hp hb k1 k2 k3 (by rw [e1]; exact hce) hcv hcl T' rfl X'
    exact ⟨t2, st.trans a1, b1⟩
/-- caught by the row x of this method's table; the rows ahead don't take it -/
theorem vx_catch {own name : String} {E : String} {ce : Cell} {q : Addr} (hown : s.vm.findClass own = some m.cls) (pre : List ExceptionTableEntry) (x : ExceptionTableEntry) (suf : List ExceptionTableEntry) (hsplit : c.exceptionTable.toList = pre ++ x :: suf)
    (hpass : ∀ z ∈ pre, covers z pc = false ∨ (z.catchType ≠ 0 ∧ ∃ nm : String, (Cond.classLink own z.catchType nm).before args s = true ∧ va_Nc E nm s)) (hx : covers x pc = true) (h0 : x.catchType ≠ 0)
    (hlink : (Cond.classLink own x.catchType name).before args s = true) (hcast : (Cond.castable E name).before args s = true) (hcell : H[q]? = some ce) (hv : ce.vm = .none) (hcl : s.vm.findClass E = some ce.cls)
    (kk : W p l e R s m args below meth c H locs cells slots Q (F0 m x.handlerPc ls [.ref q])) : vx_W p l e R s m args below meth c H locs cells slots Q (F0 m pc ls rest) q := by
  intro T hT X
  have hpl : e.platform.magicAccessors = ({} : Platform).magicAccessors := by rw [X.admits.platform]
  obtain ⟨c3, c4, hc3, hc4, hasg⟩ := Cond.castable_spec hcast
  cases Option.some.inj (hc3.symm.trans hcl)
  obtain ⟨c5, hc5, hcl5⟩ := Cond.classLink_spec hown hlink e.platform hpl
  cases Option.some.inj (hc4.symm.trans hc5)
  obtain ⟨vm', X', st⟩ := X.thenCaughtThrough q (g := F0 m pc ls rest) rfl (Steps.refl _) (by rw [hT]; exact hcell) (by rw [hv]; rfl) (by obtain ⟨k9, h9, -⟩ := Vm.findClass_spec hcl; exact ⟨k9, h9⟩) pre x suf hsplit
    (fun z hz => by
      rcases hpass z hz with h | ⟨hz0, nm, hl1, hn1⟩
      · exact Or.inl h
      · obtain ⟨c6, hc6, hcl6⟩ := Cond.classLink_spec hown hl1 e.platform hpl
        obtain ⟨a8, b8, h1, h2, h3⟩ := hn1
        cases Option.some.inj (h1.symm.trans hcl)
        cases Option.some.inj (h2.symm.trans hc6)
        exact Or.inr ⟨hz0, _, hcl6, h3⟩) hx (Or.inr ⟨h0, c4, hcl5, hasg⟩)
  obtain ⟨t, a1, b1⟩ := kk (T.setVm vm') hT X'
  exact ⟨t, st.trans a1, b1⟩
end Rows
section Ends
variable {p : Program} {l : Launch} {e : Env} {R : Room} {s : State} {m : MethodId} {args : Array Value} {below : List Frame} {meth : Method} {c : Code} {H : Heap} {locs : List Loc} {cells slots : Nat} {Q : State → Prop}
variable {mc ms : Nat} {free : Addr → Prop} {A0 A1 : Nat → Prop} {H0 : Heap} {a : Array Value} {ls : Array Slot} {st0 rest : List Value}
variable {Qc : Array Value → State → Outcome → State → Prop} {XC : String → State → State → Prop}
/-- what a body that may throw owes at its end -/
def vx_MQ (below : List Frame) (Qc : Array Value → State → Outcome → State → Prop) (XC : String → State → State → Prop) (a : Array Value) (s : State) (mc ms : Nat) (free : Addr → Prop) : State → Prop := fun t =>
  ∃ o, t.status = .running ∧ Ended t below o ∧ vx_Q Qc XC mc ms free a s o t
theorem vx_ret {g : JFrame} {mc ms : Nat} (k : W p l e R s m args below meth c H locs cells slots (MQ below Qc args s mc ms free) g) : W p l e R s m args below meth c H locs cells slots (vx_MQ below Qc XC args s mc ms free) g := by
  intro T hT X
  obtain ⟨t, a1, o, b1, b2, b3, b4⟩ := k T hT X
  exact ⟨t, a1, o, b1, b2, Or.inl ⟨b3, b4⟩⟩
/-- not caught here: it goes on to the caller -/
theorem vx_widen {g : JFrame} {q : Addr} {k n : Nat} (h1 : cells ≤ k) (h2 : slots ≤ n) (kk : vx_W p l e R s m args below meth c H locs k n Q g q) : vx_W p l e R s m args below meth c H locs cells slots Q g q := fun T hT X => kk T hT (stand_widen X h1 h2)
theorem vx_out {pc : Nat} {E : String} {ce : Cell} {q : Addr} {mc ms : Nat} (hout : ∀ x ∈ c.exceptionTable.toList, covers x pc = false) (hlocks : meth.locks = false) (hcell : H[q]? = some ce) (hv : ce.vm = .none) (hcl : s.vm.findClass E = some ce.cls)
    (hx : ∀ t : State, t.heap = H → s.vm.Alike t.vm → XC E s t) (hf : ∀ z ∈ locs, free z.base) (hc : cells ≤ mc) (hs : slots ≤ ms) :
    vx_W p l e R s m args below meth c H locs cells slots (vx_MQ below Qc XC args s mc ms free) (F0 m pc ls rest) q := by
  intro T hT X
  obtain ⟨st1, hrun, hend, hW, hsm⟩ := X.leaveThrown q (g := F0 m pc ls rest) rfl rfl rfl hout hlocks
  have hcell9 : (T.setFrames (.throwing q :: below)).heap[q]? = some ce := by
    show T.heap[q]? = some ce
    rw [hT]; exact hcell
  exact ⟨_, st1, .threw q, hrun, hend, Or.inr ⟨q, rfl, E, ce, locs, hx _ hT hW.alike, hcell9, hv, hcl, hW, hsm.mono hc hs, hf⟩⟩
theorem vx_frame {U : State} {k n : Nat} (h : s.sameButNew ({ U with vm := s.vm } : State) locs k n) : s.heap.size ≤ U.heap.size ∧ ∀ q : Nat, q < s.heap.size → (∀ z ∈ locs, z.base ≠ q) → U.heap[q]? = s.heap[q]? := by
  obtain ⟨-, h2, -, -, -, h6⟩ := h
  refine ⟨h2, fun q hq hz => ?_⟩
  obtain ⟨c9, e1, e2, e3, e4⟩ := h6 q _ (Array.getElem?_eq_getElem hq)
  have hs : c9.slots = (s.heap[q]).slots := Array.ext_getElem? fun i => e4 i fun hm => hz _ hm rfl
  have h9 : c9 = s.heap[q] := by
    rw [hs] at e2
    exact e2
  have e5 : U.heap[q]? = some c9 := e1
  rw [e5, h9, Array.getElem?_eq_getElem hq]
/-- the words of a throw but the four that speak of the heap -/
def vx_no (w : Cond) : Bool := decide (w ≠ .isRef (.static Bundle.tN "UNASSIGNED_STACK" Bundle.steD)) && decide (w ≠ .isRef (.static Bundle.tN "SUPPRESSED_SENTINEL" Bundle.listD)) && decide (w ≠ .laysStatic Bundle.tN "UNASSIGNED_STACK" Bundle.steD) && decide (w ≠ .laysStatic Bundle.tN "SUPPRESSED_SENTINEL" Bundle.listD)
def vx_at0 (own : String) (ic : Nat) (X : String) (names : List String) : List Cond := (Bundle.ownAtoms0 own ic X names).filter vx_no
def vx_atS (own : String) (ic : Nat) (X : String) (names : List String) : List Cond := (Bundle.ownAtoms own ic X names).filter vx_no
/-- a word that the tables alone decide, or a good one -/
def vx_ot (w : Cond) : Bool := w.onTables || goodWord w
theorem vx_ot_at {args a' : Array Value} {s U : State} {w : Cond} (hW : s.WarmedH U.vm) (hvm : s.vm = U.vm) (hg : vx_ot w = true) (h : w.before args s = true) : w.before a' U = true := by
  simp only [vx_ot, Bool.or_eq_true] at hg
  rcases hg with hg | hg
  · exact va_tabs hg hvm h
  · exact word_at hW (good_of_word hg) h
/-- a list's words: the good ones out of the method's own list, the others by premises of their own -/
theorem vx_hat {args : Array Value} {s : State} {L B : List Cond} (h1 : ∀ w ∈ L.filter goodWord, w.before args s = true) (h2 : ∀ w ∈ L.filter (fun w => !goodWord w), w ∈ B) (h3 : ∀ w ∈ B, w.before args s = true) : ∀ w ∈ L, w.before args s = true := by
  intro w hw
  by_cases g : goodWord w = true
  · exact h1 w (List.mem_filter.mpr ⟨hw, g⟩)
  · refine h3 w (h2 w (List.mem_filter.mpr ⟨hw, ?_⟩))
    show (!goodWord w) = true
    cases hgw : goodWord w
    · rfl
    · exact absurd hgw g
theorem vx_c {args : Array Value} {s : State} {w : Cond} {B : List Cond} (h : w.before args s = true) (t : ∀ w ∈ B, w.before args s = true) : ∀ w' ∈ w :: B, w'.before args s = true := fun w' h' => (List.mem_cons.mp h').elim (fun e => by rw [e]; exact h) (t w')
theorem vx_n {args : Array Value} {s : State} : ∀ w ∈ ([] : List Cond), w.before args s = true := fun _ h => nomatch h
theorem vx_own {args : Array Value} {s : State} {L : List Cond} (h1 : ∀ w ∈ L.filter vx_no, w.before args s = true)
    (hU : (Cond.isRef (.static Bundle.tN "UNASSIGNED_STACK" Bundle.steD)).before args s = true) (hN : (Cond.isRef (.static Bundle.tN "SUPPRESSED_SENTINEL" Bundle.listD)).before args s = true)
    (lU : (Cond.laysStatic Bundle.tN "UNASSIGNED_STACK" Bundle.steD).before args s = true) (lN : (Cond.laysStatic Bundle.tN "SUPPRESSED_SENTINEL" Bundle.listD).before args s = true) : ∀ w ∈ L, w.before args s = true := by
  intro w hw
  by_cases e1 : w = .isRef (.static Bundle.tN "UNASSIGNED_STACK" Bundle.steD)
  · rw [e1]; exact hU
  · by_cases e2 : w = .isRef (.static Bundle.tN "SUPPRESSED_SENTINEL" Bundle.listD)
    · rw [e2]; exact hN
    · by_cases e3 : w = .laysStatic Bundle.tN "UNASSIGNED_STACK" Bundle.steD
      · rw [e3]; exact lU
      · by_cases e4 : w = .laysStatic Bundle.tN "SUPPRESSED_SENTINEL" Bundle.listD
        · rw [e4]; exact lN
        · exact h1 w (List.mem_filter.mpr ⟨hw, by unfold vx_no; rw [decide_eq_true e1, decide_eq_true e2, decide_eq_true e3, decide_eq_true e4]; rfl⟩)
/-- where a static field lies, its class's statics cell in H -/
def vx_L (C n d : String) (A : Nat → Prop) (U : State) (H : Heap) : Prop := ∃ (c : ClassId) (k : Class) (i : Nat) (f : Field) (a : Nat) (cell : Cell), U.vm.findClass C = some c ∧ U.fieldFound? C n d = some (c, k, i, f) ∧ f.isStatic = true ∧ k.statics = some a ∧ H[a]? = some cell ∧ cell.vm.isStatics = true ∧ cell.cls = c ∧ f.slot < cell.slots.size ∧ k.staticTypes[f.slot]? = some f.type ∧ ¬ A a
theorem vx_L.moved {C n d : String} {A : Nat → Prop} {u U : State} {H : Heap} (hvm : u.vm.Alike U.vm) (h : vx_L C n d A u H) : vx_L C n d A U H := by
  obtain ⟨c, k, i, f, a, cell, h1, h2, h3, h4, h5, h6, h7, h8, h9, h10⟩ := h
  obtain ⟨k', hi', he⟩ := State.fieldFound?_setVm hvm h2
  exact ⟨c, k', i, f, a, cell, by rw [hvm.findClass]; exact h1, hi', h3, by rw [he]; exact h4, h5, h6, h7, h8, by rw [he]; exact h9, h10⟩
theorem vx_L.kept {C n d : String} {A : Nat → Prop} {U : State} {H H1 : Heap} (h : vx_L C n d A U H) (hq : ∀ a : Nat, a < H.size → ¬ A a → H1[a]? = H[a]?) : vx_L C n d A U H1 := by
  obtain ⟨c, k, i, f, a, cell, h1, h2, h3, h4, h5, h6, h7, h8, h9, h10⟩ := h
  exact ⟨c, k, i, f, a, cell, h1, h2, h3, h4, by rw [hq a (Array.getElem?_eq_some_iff.mp h5).1 h10]; exact h5, h6, h7, h8, h9, h10⟩
theorem vx_L.narrow {C n d : String} {A B : Nat → Prop} {U : State} {H : Heap} (h : vx_L C n d A U H) (hAB : ∀ q, B q → A q) : vx_L C n d B U H := by
  obtain ⟨c, k, i, f, a, cell, h1, h2, h3, h4, h5, h6, h7, h8, h9, h10⟩ := h
  exact ⟨c, k, i, f, a, cell, h1, h2, h3, h4, h5, h6, h7, h8, h9, fun z => h10 (hAB _ z)⟩
theorem vx_L.word {C n d : String} {A : Nat → Prop} {s : State} {args : Array Value} (h : vx_L C n d A s s.heap) : (Cond.laysStatic C n d).before args s = true := by
  obtain ⟨c, k, i, f, a, cell, h1, h2, h3, h4, h5, h6, h7, h8, h9, -⟩ := h
  show (Cond.laysStatic C n d).holds args s none s [] = true
  exact Cond.laysStatic_of h1 h2 h3 h4 h5 h6 h7 h8 h9
/-- .. and what it holds: null or some reference -/
def vx_Zq (C n d : String) (A : Nat → Prop) (U : State) (H : Heap) : Prop := va_Zq C n d A U H ∧ vx_L C n d A U H
theorem vx_Zq.moved {C n d : String} {A : Nat → Prop} {u U : State} {H : Heap} (hvm : u.vm.Alike U.vm) (h : vx_Zq C n d A u H) : vx_Zq C n d A U H := ⟨va_Zq.moved hvm h.1, vx_L.moved hvm h.2⟩
theorem vx_Zq.kept {C n d : String} {A : Nat → Prop} {U : State} {H H1 : Heap} (h : vx_Zq C n d A U H) (hq : ∀ a : Nat, a < H.size → ¬ A a → H1[a]? = H[a]?) : vx_Zq C n d A U H1 := ⟨va_Zq.kept h.1 hq, vx_L.kept h.2 hq⟩
theorem vx_Zq.narrow {C n d : String} {A B : Nat → Prop} {U : State} {H : Heap} (h : vx_Zq C n d A U H) (hAB : ∀ q, B q → A q) : vx_Zq C n d B U H := ⟨va_Zq.narrow h.1 hAB, vx_L.narrow h.2 hAB⟩
theorem vx_Zqof {args : Array Value} {s : State} {C n d : String} {A : Nat → Prop} (hl : (Cond.laysStatic C n d).before args s = true) (hini : (Cond.initialized C).before args s = true) (h : (Cond.isRef (.static C n d)).before args s = true) (hA : ∀ a : Nat, a < s.heap.size → ¬ A a) : vx_Zq C n d A s s.heap := by
  refine ⟨va_Zqof hl hini h hA, ?_⟩
  obtain ⟨c, k, i, f, a, cell, h1, h2, h3, h4, h5, h6, h7, h8, h9⟩ := Cond.laysStatic_spec hl
  exact ⟨c, k, i, f, a, cell, h1, h2, h3, h4, h5, h6, h7, h8, h9, hA a (Array.getElem?_eq_some_iff.mp h5).1⟩
theorem vx_isRef {C n d : String} {v : Value} {A : Nat → Prop} {s : State} {args : Array Value} (h : va_Z C n d v A s s.heap) (hv : v.isRef = true) : (Cond.isRef (.static C n d)).before args s = true := by
  obtain ⟨cf, kf, fi, f, a, cell, h1, h2, h3, h4, h5, h6, h7, -⟩ := h
  have he : (Term.static C n d).eval args s none [] s = some v := by
    simp [Term.eval, State.fieldNamed?, h1, h2, h4, h5, h6, h7]
  simp only [Cond.before, Cond.holds, Cond.value, he]
  cases v <;> simp_all [Value.isRef]
theorem vx_isRefq {C n d : String} {A : Nat → Prop} {s : State} {args : Array Value} (h : va_Zq C n d A s s.heap) : (Cond.isRef (.static C n d)).before args s = true := by
  rcases h with h | ⟨t, h⟩
  · exact vx_isRef h rfl
  · exact vx_isRef h rfl
/-- the same frame, seen from here: as if the method were called anew in this heap -/
theorem vx_rebase {T : State} (X : Stand p l e R s m args below meth c T locs cells slots) {R' : Room} (hf : R'.frames ≤ R.frames) (hl : R'.locals ≤ R.locals) (hc : cells + R'.cells ≤ R.cells) (hs : slots + R'.slots ≤ R.slots) :
    Stand p l e R' ((T.setVm s.vm).setFrames (.invoking m args :: below)) m args below meth c T [] 0 0 := by
  have htop : (T.setVm s.vm).topJava?.isSome := X.here.top
  have hF : ((T.setVm s.vm).setFrames (.invoking m args :: below)).frames = .invoking m args :: below := State.frames_setFrames _ (State.cur_lt_of_top htop)
  obtain ⟨g₀, hg0⟩ := Option.isSome_iff_exists.mp htop
  obtain ⟨r, hr⟩ := State.topJava?_eq_some.mp hg0
  have hl9 : e.platform.stackLimits (T.setVm s.vm).me = e.platform.stackLimits s.me := X.limits
  have hb9 : (T.setVm s.vm).me.stackBytes = s.me.stackBytes := X.bytes
  refine ⟨X.admits, X.cas, X.clock, hF, ?_, X.hears, X.method, X.code, X.here, X.tail, X.warmed, ?_, ?_, ?_⟩
  · have h := X.room
    have hU : ((T.setVm s.vm).setFrames (.invoking m args :: below)).localsInUse = s.localsInUse := by
      rw [State.localsInUse_invoking hF (meth := meth) (c := c) X.method X.code, State.localsInUse_invoking X.frames X.method X.code]
    simp only [State.hasRoom, Bool.and_eq_true, decide_eq_true_eq] at h ⊢
    obtain ⟨⟨⟨⟨h1, h2, h3, h4, h5, h6⟩, h7⟩, h8⟩, h9⟩ := h
    rw [X.frames, List.length_cons] at h2 h3
    have q1 := X.heapSize
    have q2 := X.used
    simp only [hF, hU, List.length_cons, State.stackLimits_setFrames, State.stackBytes_setFrames, hl9, hb9]
    refine ⟨⟨⟨⟨by omega, by omega, by omega, by omega, by omega, h6⟩, ?_⟩, ?_⟩, X.book⟩
    · show T.heap.size + R'.cells ≤ e.platform.maxCells
      omega
    · show T.slotsUsed + R'.slots ≤ e.platform.maxSlots
      omega
  · rw [State.stackLimits_setFrames]; rfl
  · rw [State.stackBytes_setFrames]; rfl
  · refine ⟨?_, Nat.le_refl _, Nat.le_refl _, ?_, ?_, fun a c9 h9 => ⟨c9, h9, rfl, rfl, fun _ _ => rfl⟩⟩
    · obtain ⟨t, ht, -⟩ := State.frames_cons hr
      show T.setVm s.vm = { ((T.setVm s.vm).setFrames (.invoking m args :: below)).setFrames (T.setVm s.vm).frames with heap := T.heap, slotsUsed := T.slotsUsed }
      rw [State.setFrames_setFrames, State.setFrames_self ht]
      rfl
    · show T.slotsUsed = T.slotsUsed + ((T.heap.toList.drop T.heap.size).map (·.slots.size)).sum
      rw [List.drop_eq_nil_of_le (Nat.le_of_eq Array.length_toList)]
      rfl
    · show ((T.heap.toList.drop T.heap.size).map (·.slots.size)).sum ≤ 0
      rw [List.drop_eq_nil_of_le (Nat.le_of_eq Array.length_toList)]
      exact Nat.le_refl _
/-- 'throw new E()': new; dup; invokespecial; athrow -/
theorem vx_throw0 {cc : ByteArray} {pc : Nat} (hexec : p.tables.exec = Jvm.exec) (hb : c.code = cc) (hl : l.stackTraces = false) {own cls : String} {names : List String} {ik ic mc ms : Nat} {A : Nat → Prop}
    (hown : s.vm.findClass own = some m.cls) (hcls : Bundle.fit cls = true) (hnames : ∀ n ∈ names, Bundle.fit n = true)
    (hk : (Cond.classLink own ik cls).before args s = true) (hini : (Cond.initialized cls).before args s = true) (hat : ∀ w ∈ vx_at0 own ic cls names, w.before args s = true)
    (hgood : ∀ w ∈ Cond.classLink own ik cls :: Cond.initialized cls :: vx_at0 own ic cls names, vx_ot w = true)
    (hU : vx_Zq Bundle.tN "UNASSIGNED_STACK" Bundle.steD A s s.heap) (hN : vx_Zq Bundle.tN "SUPPRESSED_SENTINEL" Bundle.listD A s s.heap) (hS : va_S A s.heap H locs) (hsize : ls.size = c.maxLocals)
    (d0 : decode cc pc = .ok (.new ik, 3)) (d3 : decode cc (pc + 3) = .ok (.dup, 1)) (d4 : decode cc (pc + 4) = .ok (.invokespecial ic, 3)) (d7 : decode cc (pc + 7) = .ok (.athrow, 1))
    (hout : ∀ x ∈ c.exceptionTable.toList, covers x (pc + 7) = false)
    (hRframes : names.length + 3 < R.frames) (hRlocals : (rest.map fun v => v.category).sum + (13 * (names.length + 1) + 42) ≤ R.locals) (hRcells : cells + 1 ≤ R.cells) (hRslots : slots + 6 ≤ R.slots) (hlocks : meth.locks = false)
    (hx : ∀ t : State, s.vm.Alike t.vm → H.size ≤ t.heap.size → (∀ q : Nat, q < H.size → t.heap[q]? = H[q]?) → XC cls s t)
    (hf : ∀ z ∈ locs, free z.base) (hc : cells + 1 ≤ mc) (hs : slots + 6 ≤ ms) :
    W p l e R s m args below meth c H locs cells slots (vx_MQ below Qc XC args s mc ms free) (F0 m pc ls rest) := by
  intro T hT X
  have htr : e.platform.stackTraces = false := (show e.platform.stackTraces = l.stackTraces by rw [X.admits.platform]).trans hl
  have Y := vx_rebase X (R' := { frames := R.frames, locals := R.locals, cells := 1, slots := 6 }) (Nat.le_refl _) (Nat.le_refl _) hRcells hRslots
  obtain ⟨s', hA⟩ : ∃ z, z = (T.setVm s.vm).setFrames (.invoking m args :: below) := ⟨_, rfl⟩
  rw [← hA] at Y
  have hvm : s'.vm = s.vm := by rw [hA]; rfl
  have hhp : s'.heap = H := by rw [hA]; exact hT
  have hW0 : s.WarmedH s'.vm := by rw [hvm]; exact State.WarmedH.refl s
  have hat' : ∀ w ∈ vx_at0 own ic cls names, w.before args s' = true := fun w hw => vx_ot_at hW0 hvm.symm (hgood w (List.mem_cons_of_mem _ (List.mem_cons_of_mem _ hw))) (hat w hw)
  have hk' : (Cond.classLink own ik cls).before args s' = true := vx_ot_at hW0 hvm.symm (hgood _ List.mem_cons_self) hk
  have hini' : (Cond.initialized cls).before args s' = true := vx_ot_at hW0 hvm.symm (hgood _ (List.mem_cons_of_mem _ List.mem_cons_self)) hini
  have hU' : vx_Zq Bundle.tN "UNASSIGNED_STACK" Bundle.steD A s' s'.heap := by rw [hhp]; exact vx_Zq.moved hW0.alike (hU.kept hS.2.1)
  have hN' : vx_Zq Bundle.tN "SUPPRESSED_SENTINEL" Bundle.listD A s' s'.heap := by rw [hhp]; exact vx_Zq.moved hW0.alike (hN.kept hS.2.1)
  have h : ∀ w ∈ Bundle.ownAtoms0 own ic cls names, w.before args s' = true := vx_own hat' (vx_isRefq hU'.1) (vx_isRefq hN'.1) hU'.2.word hN'.2.word
  have hown' : s'.vm.findClass own = some m.cls := by rw [hvm]; exact hown
  have hins : (Cond.instantiable cls 6).before args s' = true := h _ (by simp [Bundle.ownAtoms0])
  obtain ⟨vm₁, cX, kX, hfX, hkX, -, -, X₁, st1⟩ := Y.newCold hexec (own := own) (C := cls) (index := ik) (n := 6) hown' hk' hins hini'
    (g := F0 m pc ls rest) rfl (by rw [hb]; exact d0) (Nat.le_refl _) (Nat.le_refl _)
  generalize hT1 : (T.setVm vm₁).pushCell { cls := cX, slots := kX.instanceTypes.map defaultValue, vm := .none } = T1 at X₁ st1
  have hcat : (Value.ref T.heap.size).category = 1 := rfl
  have hcellA : T1.heap[T.heap.size]? = some (freshCell cX kX) := by rw [← hT1]; exact State.heap_pushCell_size _ _
  have d3' : decode c.code (pc + 3) = .ok (.dup, 1) := by rw [hb]; exact d3
  obtain ⟨U, hsteps, hrun, hend, hW, hsame, ce, hce, hO⟩ := X₁.ctorThrow0 hexec htr (own := own) (cls := cls) (names := names) (ic := ic) hown' hcls hnames h (fun x hx => nomatch hx) hfX hkX hcellA (by rw [hhp, hT]; exact Nat.le_refl _)
    (g := { method := m, pc := pc + 4, locals := ls, stack := .ref T.heap.size :: .ref T.heap.size :: rest, locked := none }) rfl hsize rfl rfl (rest := rest) rfl
    (by rw [hb]; exact d4) (by rw [hb]; exact d7) hout hRframes (by simp only [List.map_cons, List.sum_cons, hcat]; omega) hlocks
  obtain ⟨f1, f2⟩ := vx_frame hsame
  rw [hhp] at f1 f2
  have hWs : s.WarmedH U.vm := State.WarmedH.trans hW0 hW
  have hcl : s.vm.findClass cls = some ce.cls := by
    have h9 := hO.cls
    rw [hvm] at h9
    exact h9
  have hall : s.sameButNew ({ U with vm := s.vm } : State) locs mc ms := by
    subst hA
    obtain ⟨e1, e2⟩ := hsame
    rw [State.setFrames_setFrames] at e1
    have h2 : (T.setVm s.vm).sameButNew ({ U with vm := s.vm } : State) [] (0 + 1) (0 + 6) := ⟨e1, e2⟩
    have h3 := X.same.trans h2
    rw [List.append_nil] at h3
    exact h3.mono hc hs
  refine ⟨U, ?_, .threw T.heap.size, hrun, hend, Or.inr ⟨T.heap.size, rfl, cls, ce, locs, hx U hWs.alike f1 (fun q hq => f2 q hq (fun z hz => nomatch hz)), hce, hO.vm, hcl, hWs, hall, hf⟩⟩
  refine st1 _ ?_
  show Steps p.tables e below (T1.setTop { method := m, pc := pc + 3, locals := ls, stack := .ref T.heap.size :: rest, locked := none }) _
  jvm_step X₁.here [X₁.here.top, hexec, d3', Value.category]
  exact hsteps
/-- 'throw new E("text")': new; dup; ldc; invokespecial; athrow -/
theorem vx_throwS {cc : ByteArray} {pc : Nat} (hexec : p.tables.exec = Jvm.exec) (hb : c.code = cc) (hl : l.stackTraces = false) {own cls text : String} {names : List String} {ik is ic mc ms sa : Nat} {A : Nat → Prop}
    (hown : s.vm.findClass own = some m.cls) (hcls : Bundle.fit cls = true) (hnames : ∀ n ∈ names, Bundle.fit n = true)
    (hk : (Cond.classLink own ik cls).before args s = true) (hini : (Cond.initialized cls).before args s = true) (hstr : vk_R own is text sa s) (hat : ∀ w ∈ vx_atS own ic cls names, w.before args s = true)
    (hgood : ∀ w ∈ Cond.classLink own ik cls :: Cond.initialized cls :: vx_atS own ic cls names, vx_ot w = true)
    (hU : vx_Zq Bundle.tN "UNASSIGNED_STACK" Bundle.steD A s s.heap) (hN : vx_Zq Bundle.tN "SUPPRESSED_SENTINEL" Bundle.listD A s s.heap) (hS : va_S A s.heap H locs) (hsize : ls.size = c.maxLocals)
    (d0 : decode cc pc = .ok (.new ik, 3)) (d3 : decode cc (pc + 3) = .ok (.dup, 1)) (d4 : decode cc (pc + 4) = .ok (.ldc is, 2)) (d6 : decode cc (pc + 6) = .ok (.invokespecial ic, 3)) (d9 : decode cc (pc + 9) = .ok (.athrow, 1))
    (hout : ∀ x ∈ c.exceptionTable.toList, covers x (pc + 9) = false)
    (hRframes : names.length + 3 < R.frames) (hRlocals : (rest.map fun v => v.category).sum + (13 * (names.length + 1) + 43) ≤ R.locals) (hRcells : cells + 1 ≤ R.cells) (hRslots : slots + 6 ≤ R.slots) (hlocks : meth.locks = false)
    (hx : ∀ t : State, s.vm.Alike t.vm → H.size ≤ t.heap.size → (∀ q : Nat, q < H.size → t.heap[q]? = H[q]?) → XC cls s t)
    (hf : ∀ z ∈ locs, free z.base) (hc : cells + 1 ≤ mc) (hs : slots + 6 ≤ ms) :
    W p l e R s m args below meth c H locs cells slots (vx_MQ below Qc XC args s mc ms free) (F0 m pc ls rest) := by
  intro T hT X
  have htr : e.platform.stackTraces = false := (show e.platform.stackTraces = l.stackTraces by rw [X.admits.platform]).trans hl
  have Y := vx_rebase X (R' := { frames := R.frames, locals := R.locals, cells := 1, slots := 6 }) (Nat.le_refl _) (Nat.le_refl _) hRcells hRslots
  obtain ⟨s', hA⟩ : ∃ z, z = (T.setVm s.vm).setFrames (.invoking m args :: below) := ⟨_, rfl⟩
  rw [← hA] at Y
  have hvm : s'.vm = s.vm := by rw [hA]; rfl
  have hhp : s'.heap = H := by rw [hA]; exact hT
  have hW0 : s.WarmedH s'.vm := by rw [hvm]; exact State.WarmedH.refl s
  have hat' : ∀ w ∈ vx_atS own ic cls names, w.before args s' = true := fun w hw => vx_ot_at hW0 hvm.symm (hgood w (List.mem_cons_of_mem _ (List.mem_cons_of_mem _ hw))) (hat w hw)
  have hk' : (Cond.classLink own ik cls).before args s' = true := vx_ot_at hW0 hvm.symm (hgood _ List.mem_cons_self) hk
  have hini' : (Cond.initialized cls).before args s' = true := vx_ot_at hW0 hvm.symm (hgood _ (List.mem_cons_of_mem _ List.mem_cons_self)) hini
  have hU' : vx_Zq Bundle.tN "UNASSIGNED_STACK" Bundle.steD A s' s'.heap := by rw [hhp]; exact vx_Zq.moved hW0.alike (hU.kept hS.2.1)
  have hN' : vx_Zq Bundle.tN "SUPPRESSED_SENTINEL" Bundle.listD A s' s'.heap := by rw [hhp]; exact vx_Zq.moved hW0.alike (hN.kept hS.2.1)
  have h : ∀ w ∈ Bundle.ownAtoms own ic cls names, w.before args s' = true := vx_own hat' (vx_isRefq hU'.1) (vx_isRefq hN'.1) hU'.2.word hN'.2.word
  have hown' : s'.vm.findClass own = some m.cls := by rw [hvm]; exact hown
  have hins : (Cond.instantiable cls 6).before args s' = true := h _ (by simp [Bundle.ownAtoms])
  obtain ⟨vm₁, cX, kX, hfX, hkX, -, -, X₁, st1⟩ := Y.newCold hexec (own := own) (C := cls) (index := ik) (n := 6) hown' hk' hins hini'
    (g := F0 m pc ls rest) rfl (by rw [hb]; exact d0) (Nat.le_refl _) (Nat.le_refl _)
  generalize hT1 : (T.setVm vm₁).pushCell { cls := cX, slots := kX.instanceTypes.map defaultValue, vm := .none } = T1 at X₁ st1
  have hcat : (Value.ref T.heap.size).category = 1 := rfl
  have hcellA : T1.heap[T.heap.size]? = some (freshCell cX kX) := by rw [← hT1]; exact State.heap_pushCell_size _ _
  have d3' : decode c.code (pc + 3) = .ok (.dup, 1) := by rw [hb]; exact d3
  have d4' : decode c.code (pc + 4) = .ok (.ldc is, 2) := by rw [hb]; exact d4
  have hstr' : vk_R own is text sa s' := vk_R.warm hW0 hstr
  obtain ⟨U, hsteps, hrun, hend, hW, hsame, ce, hce, hO⟩ := X₁.ctorThrowS hexec htr (own := own) (cls := cls) (names := names) (ic := ic) hown' hcls hnames h (fun x hx => nomatch hx) hfX hkX hcellA (by rw [hhp, hT]; exact Nat.le_refl _) (msg := .ref sa) rfl
    (g := { method := m, pc := pc + 6, locals := ls, stack := .ref sa :: .ref T.heap.size :: .ref T.heap.size :: rest, locked := none }) rfl hsize rfl rfl (rest := rest) rfl
    (by rw [hb]; exact d6) (by rw [hb]; exact d9) hout hRframes (by simp only [List.map_cons, List.sum_cons, hcat]; omega) hlocks
  obtain ⟨f1, f2⟩ := vx_frame hsame
  rw [hhp] at f1 f2
  have hWs : s.WarmedH U.vm := State.WarmedH.trans hW0 hW
  have hcl : s.vm.findClass cls = some ce.cls := by
    have h9 := hO.cls
    rw [hvm] at h9
    exact h9
  have hall : s.sameButNew ({ U with vm := s.vm } : State) locs mc ms := by
    subst hA
    obtain ⟨e1, e2⟩ := hsame
    rw [State.setFrames_setFrames] at e1
    have h2 : (T.setVm s.vm).sameButNew ({ U with vm := s.vm } : State) [] (0 + 1) (0 + 6) := ⟨e1, e2⟩
    have h3 := X.same.trans h2
    rw [List.append_nil] at h3
    exact h3.mono hc hs
  refine ⟨U, ?_, .threw T.heap.size, hrun, hend, Or.inr ⟨T.heap.size, rfl, cls, ce, locs, hx U hWs.alike f1 (fun q hq => f2 q hq (fun z hz => nomatch hz)), hce, hO.vm, hcl, hWs, hall, hf⟩⟩
  refine st1 _ ?_
  show Steps p.tables e below (T1.setTop { method := m, pc := pc + 3, locals := ls, stack := .ref T.heap.size :: rest, locked := none }) _
  jvm_step X₁.here [X₁.here.top, hexec, d3', Value.category]
  exact X₁.ldcString hexec (own := own) (text := text) (index := is) (a := sa) hown' hstr'.1 hstr'.2
    (g := { method := m, pc := pc + 4, locals := ls, stack := .ref T.heap.size :: .ref T.heap.size :: rest, locked := none }) rfl d4' _ hsteps
/-- 'throw new E("text")', the text by a wide index -/
theorem vx_throwSW {cc : ByteArray} {pc : Nat} (hexec : p.tables.exec = Jvm.exec) (hb : c.code = cc) (hl : l.stackTraces = false) {own cls text : String} {names : List String} {ik is ic mc ms sa : Nat} {A : Nat → Prop}
    (hown : s.vm.findClass own = some m.cls) (hcls : Bundle.fit cls = true) (hnames : ∀ n ∈ names, Bundle.fit n = true)
    (hk : (Cond.classLink own ik cls).before args s = true) (hini : (Cond.initialized cls).before args s = true) (hstr : vk_R own is text sa s) (hat : ∀ w ∈ vx_atS own ic cls names, w.before args s = true)
    (hgood : ∀ w ∈ Cond.classLink own ik cls :: Cond.initialized cls :: vx_atS own ic cls names, vx_ot w = true)
    (hU : vx_Zq Bundle.tN "UNASSIGNED_STACK" Bundle.steD A s s.heap) (hN : vx_Zq Bundle.tN "SUPPRESSED_SENTINEL" Bundle.listD A s s.heap) (hS : va_S A s.heap H locs) (hsize : ls.size = c.maxLocals)
    (d0 : decode cc pc = .ok (.new ik, 3)) (d3 : decode cc (pc + 3) = .ok (.dup, 1)) (d4 : decode cc (pc + 4) = .ok (.ldc_w is, 3)) (d7 : decode cc (pc + 7) = .ok (.invokespecial ic, 3)) (d10 : decode cc (pc + 10) = .ok (.athrow, 1))
    (hout : ∀ x ∈ c.exceptionTable.toList, covers x (pc + 10) = false)
    (hRframes : names.length + 3 < R.frames) (hRlocals : (rest.map fun v => v.category).sum + (13 * (names.length + 1) + 43) ≤ R.locals) (hRcells : cells + 1 ≤ R.cells) (hRslots : slots + 6 ≤ R.slots) (hlocks : meth.locks = false)
    (hx : ∀ t : State, s.vm.Alike t.vm → H.size ≤ t.heap.size → (∀ q : Nat, q < H.size → t.heap[q]? = H[q]?) → XC cls s t)
    (hf : ∀ z ∈ locs, free z.base) (hc : cells + 1 ≤ mc) (hs : slots + 6 ≤ ms) :
    W p l e R s m args below meth c H locs cells slots (vx_MQ below Qc XC args s mc ms free) (F0 m pc ls rest) := by
  intro T hT X
  have htr : e.platform.stackTraces = false := (show e.platform.stackTraces = l.stackTraces by rw [X.admits.platform]).trans hl
  have Y := vx_rebase X (R' := { frames := R.frames, locals := R.locals, cells := 1, slots := 6 }) (Nat.le_refl _) (Nat.le_refl _) hRcells hRslots
  obtain ⟨s', hA⟩ : ∃ z, z = (T.setVm s.vm).setFrames (.invoking m args :: below) := ⟨_, rfl⟩
  rw [← hA] at Y
  have hvm : s'.vm = s.vm := by rw [hA]; rfl
  have hhp : s'.heap = H := by rw [hA]; exact hT
  have hW0 : s.WarmedH s'.vm := by rw [hvm]; exact State.WarmedH.refl s
  have hat' : ∀ w ∈ vx_atS own ic cls names, w.before args s' = true := fun w hw => vx_ot_at hW0 hvm.symm (hgood w (List.mem_cons_of_mem _ (List.mem_cons_of_mem _ hw))) (hat w hw)
  have hk' : (Cond.classLink own ik cls).before args s' = true := vx_ot_at hW0 hvm.symm (hgood _ List.mem_cons_self) hk
  have hini' : (Cond.initialized cls).before args s' = true := vx_ot_at hW0 hvm.symm (hgood _ (List.mem_cons_of_mem _ List.mem_cons_self)) hini
  have hU' : vx_Zq Bundle.tN "UNASSIGNED_STACK" Bundle.steD A s' s'.heap := by rw [hhp]; exact vx_Zq.moved hW0.alike (hU.kept hS.2.1)
  have hN' : vx_Zq Bundle.tN "SUPPRESSED_SENTINEL" Bundle.listD A s' s'.heap := by rw [hhp]; exact vx_Zq.moved hW0.alike (hN.kept hS.2.1)
  have h : ∀ w ∈ Bundle.ownAtoms own ic cls names, w.before args s' = true := vx_own hat' (vx_isRefq hU'.1) (vx_isRefq hN'.1) hU'.2.word hN'.2.word
  have hown' : s'.vm.findClass own = some m.cls := by rw [hvm]; exact hown
  have hins : (Cond.instantiable cls 6).before args s' = true := h _ (by simp [Bundle.ownAtoms])
  obtain ⟨vm₁, cX, kX, hfX, hkX, -, -, X₁, st1⟩ := Y.newCold hexec (own := own) (C := cls) (index := ik) (n := 6) hown' hk' hins hini'
    (g := F0 m pc ls rest) rfl (by rw [hb]; exact d0) (Nat.le_refl _) (Nat.le_refl _)
  generalize hT1 : (T.setVm vm₁).pushCell { cls := cX, slots := kX.instanceTypes.map defaultValue, vm := .none } = T1 at X₁ st1
  have hcat : (Value.ref T.heap.size).category = 1 := rfl
  have hcellA : T1.heap[T.heap.size]? = some (freshCell cX kX) := by rw [← hT1]; exact State.heap_pushCell_size _ _
  have d3' : decode c.code (pc + 3) = .ok (.dup, 1) := by rw [hb]; exact d3
  have d4' : decode c.code (pc + 4) = .ok (.ldc_w is, 3) := by rw [hb]; exact d4
  have hstr' : vk_R own is text sa s' := vk_R.warm hW0 hstr
  obtain ⟨U, hsteps, hrun, hend, hW, hsame, ce, hce, hO⟩ := X₁.ctorThrowS hexec htr (own := own) (cls := cls) (names := names) (ic := ic) hown' hcls hnames h (fun x hx => nomatch hx) hfX hkX hcellA (by rw [hhp, hT]; exact Nat.le_refl _) (msg := .ref sa) rfl
    (g := { method := m, pc := pc + 7, locals := ls, stack := .ref sa :: .ref T.heap.size :: .ref T.heap.size :: rest, locked := none }) rfl hsize rfl rfl (rest := rest) rfl
    (by rw [hb]; exact d7) (by rw [hb]; exact d10) hout hRframes (by simp only [List.map_cons, List.sum_cons, hcat]; omega) hlocks
  obtain ⟨f1, f2⟩ := vx_frame hsame
  rw [hhp] at f1 f2
  have hWs : s.WarmedH U.vm := State.WarmedH.trans hW0 hW
  have hcl : s.vm.findClass cls = some ce.cls := by
    have h9 := hO.cls
    rw [hvm] at h9
    exact h9
  have hall : s.sameButNew ({ U with vm := s.vm } : State) locs mc ms := by
    subst hA
    obtain ⟨e1, e2⟩ := hsame
    rw [State.setFrames_setFrames] at e1
    have h2 : (T.setVm s.vm).sameButNew ({ U with vm := s.vm } : State) [] (0 + 1) (0 + 6) := ⟨e1, e2⟩
    have h3 := X.same.trans h2
    rw [List.append_nil] at h3
    exact h3.mono hc hs
  refine ⟨U, ?_, .threw T.heap.size, hrun, hend, Or.inr ⟨T.heap.size, rfl, cls, ce, locs, hx U hWs.alike f1 (fun q hq => f2 q hq (fun z hz => nomatch hz)), hce, hO.vm, hcl, hWs, hall, hf⟩⟩
  refine st1 _ ?_
  show Steps p.tables e below (T1.setTop { method := m, pc := pc + 3, locals := ls, stack := .ref T.heap.size :: rest, locked := none }) _
  jvm_step X₁.here [X₁.here.top, hexec, d3', Value.category]
  exact X₁.ldcStringW hexec (own := own) (text := text) (index := is) (a := sa) hown' hstr'.1 hstr'.2
    (g := { method := m, pc := pc + 4, locals := ls, stack := .ref T.heap.size :: .ref T.heap.size :: rest, locked := none }) rfl d4' _ hsteps
end Ends
section Bodies
variable {l : Launch}
theorem vx_ofW {y : MethodName} {ws ws' : List Cond} {rm : Room} {Pc : Array Value → State → Prop} {Qc : Array Value → State → Outcome → State → Prop} {XC : String → State → State → Prop} {mc ms : Nat} {free : Addr → Prop} {cc : ByteArray} {maxL : Nat} {ret : Option FieldType}
    (hy : plainName y.cls = true) (hw : ws = Cond.code y cc maxL ret :: ws')
    (body : ∀ p e s m args below meth c s₁, BodyLoose p l y (headSpec ws rm) cc maxL ret e s m args below meth c s₁ → c.maxLocals = maxL → (∀ x ∈ c.exceptionTable.toList, False) → Pc args s →
      W p l e (headSpec ws rm).room s m args below meth c s.heap [] 0 0 (vx_MQ below Qc XC args s mc ms free) (entryFrame m args maxL)) : vx_Met l y ws rm Pc Qc XC mc ms free := by
  refine MetFree.of_bodyS (code := cc) (maxLocals := maxL) (ret := ret) hy ?_ ?_
  · intro args s m h hn
    obtain ⟨meth, c, h1, h2, h3, h4, h5, h6, -, -⟩ := Cond.code_spec hn (atoms_spec (ws := ws) h _ (by rw [hw]; exact List.mem_cons_self))
    exact ⟨meth, c, h1, h2, h3, h4, h5, h6⟩
  · intro p e s m args below meth c s₁ B hml hP _
    have hh0 : s₁.heap = s.heap := by rw [B.state]; rfl
    have ht : ∀ x ∈ c.exceptionTable.toList, False := by
      obtain ⟨meth9, c9, h1, h2, -, -, -, -, h7, -⟩ := Cond.code_spec B.named (atoms_spec (ws := ws) B.pre _ (by rw [hw]; exact List.mem_cons_self))
      cases Option.some.inj (h1.symm.trans B.method)
      cases Option.some.inj (h2.symm.trans (Stand.of_body B).code)
      intro x hx
      rw [Array.isEmpty_iff.mp h7] at hx
      cases hx
    obtain ⟨t, a1, o, b1, b2, b3⟩ := body p e s m args below meth c s₁ B hml ht hP s₁ hh0 (Stand.of_body B)
    exact ⟨t, o, a1, b1, b2, b3⟩
/-- the table of a body with handlers -/
theorem vx_table {p : Program} {x y : MethodName} {S : Spec} {cc bytes : ByteArray} {maxL maxL' : Nat} {ret ret' : Option FieldType} {e : Env} {s s₁ : State} {m : MethodId} {args : Array Value} {below : List Frame} {meth : Method} {c : Code} {hh : List (Nat × Nat × Nat × Nat)}
    (B : BodyLoose p l y S cc maxL ret e s m args below meth c s₁) (h : (Cond.codeWith y bytes maxL' ret' hh).before args s = true) : c.exceptionTable.toList = tableOf hh := by
  obtain ⟨m9, meth9, c9, hn9, h1, h2, -, -, h6, -⟩ := Cond.codeWith_spec h
  cases Option.some.inj (hn9.symm.trans B.named)
  cases Option.some.inj (h1.symm.trans B.method)
  cases Option.some.inj (h2.symm.trans (Stand.of_body B).code)
  rw [← h6, table_eq]
end Bodies
end VXA
/-! ===== END ===== -/
/-! ===== BEGIN a static call of a method with an exception table ===== -/
section VXS
variable {p : Program} {l : Launch} {e : Env} {R : Room} {s : State} {m : MethodId} {args : Array Value} {below : List Frame} {meth : Method} {c : Code} {T : State} {H : Heap} {locs : List Loc} {cells slots : Nat}
abbrev vx_CSW (R : Room) (s : State) (args : Array Value) (own : String) (index : Nat) (y : MethodName) (bytes : ByteArray) (maxL : Nat) (ret : Option FieldType) (hh : List (Nat × Nat × Nat × Nat)) (ws : List Cond) (rm : Room) (mc ms n : Nat) : Prop :=
  (rm.cells = mc ∧ rm.slots = ms ∧ rm.frames + 1 ≤ R.frames ∧ 8 + (maxL + 11) + rm.locals ≤ R.locals ∧ (∀ w ∈ ws, ∀ (a' : Array Value) (U : State), s.WarmedH U.vm → w.before a' U = true) ∧ Cond.codeWith y bytes maxL ret hh ∈ ws) ∧
  (Cond.codeWith y bytes maxL ret hh).before args s = true ∧ (Cond.initialized y.cls).before args s = true ∧ (y.cls ≠ "java/lang/invoke/MethodHandle" ∧ y.cls ≠ "java/lang/invoke/VarHandle") ∧
  (∀ sig, parseMethodDescriptor y.desc = some sig → n = sig.parameters.length) ∧ (Cond.methodLink own index y).before args s = true ∧ (Cond.static y).before args s = true
theorem vx_cwSW {own : String} {index maxL mc ms : Nat} {y : MethodName} {bytes : ByteArray} {ret : Option FieldType} {hh : List (Nat × Nat × Nat × Nat)} {Ts ws ws' : List Cond} {rm : Room} (n : Nat) (ht : ∀ w ∈ Ts, w.before args s = true) (hT : GoodIn Ts (va_wsS own index y ws)) (hw : ws = Cond.codeWith y bytes maxL ret hh :: ws') (hrc : rm.cells = mc) (hrs : rm.slots = ms)
    (hd : y.cls ≠ "java/lang/invoke/MethodHandle" ∧ y.cls ≠ "java/lang/invoke/VarHandle" ∧ (parseMethodDescriptor y.desc).map (fun d => d.parameters.length) = some n) (hR : rm.frames + 1 ≤ R.frames ∧ 8 + (maxL + 11) + rm.locals ≤ R.locals) :
    vx_CSW R s args own index y bytes maxL ret hh ws rm mc ms n := by
  have ok : ∀ w ∈ va_wsS own index y ws, w.before args s = true := fun w h => ht w (hT w h).1
  have hG : GoodIn Ts ws := fun w h => hT w (by unfold va_wsS; exact List.mem_append_right _ h)
  have hc : Cond.codeWith y bytes maxL ret hh ∈ ws := by rw [hw]; exact List.mem_cons_self
  refine ⟨⟨hrc, hrs, hR.1, hR.2, pay_in ht hG, hc⟩, ht _ (hG _ hc).1, ok _ (by simp [va_wsS]), ⟨hd.1, hd.2.1⟩, fun sig h => ?_, ok _ (by simp [va_wsS]), ok _ (by simp [va_wsS])⟩
  have h2 := hd.2.2
  rw [h] at h2
  exact (Option.some.inj h2).symm
theorem vx_callSW (X : Stand p l e R s m args below meth c T locs cells slots) (hexec : p.tables.exec = Jvm.exec) {own : String} {index : Nat} {y : MethodName} {bytes : ByteArray} {maxL : Nat} {ret : Option FieldType} {hh : List (Nat × Nat × Nat × Nat)}
    (hown : s.vm.findClass own = some m.cls) (hlink : (Cond.methodLink own index y).before args s = true) (hstat : (Cond.static y).before args s = true) (hinit : (Cond.initialized y.cls).before args s = true)
    (hcode : (Cond.codeWith y bytes maxL ret hh).before args s = true) (hy : y.cls ≠ "java/lang/invoke/MethodHandle" ∧ y.cls ≠ "java/lang/invoke/VarHandle")
    {W9 : Nat} {Pre : Pt → Array Value → Prop} {Post : Pt → Array Value → Option Value → Pt → Prop} (hK : Back l R p e below s args y 3 W9 Pre Post)
    {g : JFrame} (hg : g.method = m) (hsize : g.locals.size = c.maxLocals) {argsL rest : List Value} (hlen : ∀ sig, parseMethodDescriptor y.desc = some sig → argsL.length = sig.parameters.length)
    (hstack : g.stack = argsL.reverse ++ rest) (hW : 2 * g.monitorRoom + (rest.map fun v => v.category).sum ≤ W9) (hdg : decode c.code g.pc = .ok (.invokestatic index, 3))
    (hpre : ∀ vm₁, s.WarmedH vm₁ → Pre ⟨T.setVm vm₁, locs, cells, slots⟩ argsL.toArray) :
    ∃ (v : Option Value) (vm₁ : Vm) (B : Pt), s.WarmedH vm₁ ∧ Stand p l e R s m args below meth c B.U B.locs B.cells B.slots ∧ Post ⟨T.setVm vm₁, locs, cells, slots⟩ argsL.toArray v B ∧
      ∀ target, Steps p.tables e below (B.U.setTop { g with pc := g.pc + 3, stack := v.toList ++ rest }) target → Steps p.tables e below (T.setTop g) target := by
  obtain ⟨mk, methM, cM, hnamed, hmethM, -, -, -, -, -, -, hsigM⟩ := Cond.codeWith_spec hcode
  have hstatic : methM.isStatic = true := Cond.static_spec hnamed hmethM hstat
  obtain ⟨kP, hkP, -⟩ := className_of_methodNamed hnamed
  have hinitP : kP.init = .initialized := Cond.initialized_spec (findClass_of_methodNamed hnamed) hkP hinit
  obtain ⟨vm₁, X₁, hstep₁⟩ := X.invokestatic hexec hown hlink hnamed hmethM hstatic hkP hinitP hy (g := g) hg (argsL := argsL) (rest := rest) (hlen _ hsigM) hstack hdg
  obtain ⟨v, B, X', hpost, hsteps⟩ := hK m meth c ⟨T.setVm vm₁, locs, cells, slots⟩ { g with stack := rest } (.invokestatic index) mk argsL.toArray X₁ hg hsize hdg hW (X₁.named hnamed) (hpre vm₁ X₁.warmed)
  exact ⟨v, vm₁, B, X₁.warmed, X', hpost, fun target h => hstep₁ _ fun acts => by rw [doInvoke_state]; exact hsteps.trans h⟩
theorem vx_runSW {y : MethodName} {bytes cc : ByteArray} {maxL nL mc ms n index : Nat} {ret : Option FieldType} {hh : List (Nat × Nat × Nat × Nat)} {ws : List Cond} {rm : Room} {Pc : Array Value → State → Prop} {Qc : Array Value → State → Outcome → State → Prop} {free : Addr → Prop} {Ts : List Cond} {own : String} {As rest : List Value} {g : JFrame}
    (S : CallFix p m c cc nL s args Ts own) (hM : Met l y ws rm Pc Qc mc ms free) (cw : vx_CSW R s args own index y bytes maxL ret hh ws rm mc ms n) (hp : PreS s H Pc As)
    (hg : g.method = m) (hn : As.length = n) (hsize : g.locals.size = nL) (hstack : g.stack = As.reverse ++ rest) (hW : 2 * g.monitorRoom + (rest.map fun v => v.category).sum ≤ 8) (hdg : decode cc g.pc = .ok (.invokestatic index, 3)) (hf : cells + mc ≤ R.cells ∧ slots + ms ≤ R.slots) :
    va_Run p l e R s m args below meth c H locs cells slots mc ms g rest (Qc As.toArray) (free) := by
  obtain ⟨⟨hrc, hrs, hfr, hlo, hws, hcw⟩, hcode, hini, hy, hlen, hl, hstt⟩ := cw
  have hK : Back l R p e below s args y 3 8 (PreOf R mc ms Pc) (PostOf Qc mc ms free) := va_backW (hh := hh) (bytes := bytes) (maxL := maxL) (ret := ret) hM hp.1 hrc hrs hfr hlo hws hcw (fun a' U hW => word_at hW (Or.inl (by first | rfl | simp [Cond.onTables, Cond.keeps, Cond.steady])) hini)
  obtain ⟨hx, hb, hml, ho, -⟩ := S
  intro T hT X
  obtain ⟨v, vm₁, ⟨U', l2, c2, s2⟩, hW₁, X', ⟨g', mk, t, L, e1, e2, hq, h1, hL, h2, h3⟩, st⟩ := vx_callSW X hx (hh := hh) (bytes := bytes) (maxL := maxL) (ret := ret) ho hl hstt hini hcode hy hK hg (hsize.trans hml.symm) (argsL := As) (rest := rest) (fun sig h => hn.trans (hlen sig h)) hstack hW (by rw [hb]; exact hdg)
    (fun vm₁ hW₁ => ⟨hf.1, hf.2, hp.2 (T.setVm vm₁) hT hW₁⟩)
  dsimp only [Pt.U, Pt.locs, Pt.cells, Pt.slots] at X' e1 e2 h1 h2 h3 st
  subst h1; subst h2; subst h3
  exact ⟨v, (T.setVm vm₁).calling g' mk As.toArray, t, U', L, hT, X', hL, e1, e2, hq, st⟩
/-- not caught here, past rows that name other classes: it goes on to the caller -/
theorem vx_outP {p : Program} {l : Launch} {e : Env} {R : Room} {s : State} {m : MethodId} {args : Array Value} {below : List Frame} {meth : Method} {c : Code} {H : Heap} {locs : List Loc} {cells slots : Nat} {free : Addr → Prop} {ls : Array Slot} {rest : List Value} {Qc : Array Value → State → Outcome → State → Prop} {XC : String → State → State → Prop}
    {pc : Nat} {own E : String} {ce : Cell} {q : Addr} {mc ms : Nat} (hown : s.vm.findClass own = some m.cls) (hlocks : meth.locks = false)
    (hpass : ∀ z ∈ c.exceptionTable.toList, covers z pc = false ∨ (z.catchType ≠ 0 ∧ ∃ nm : String, (Cond.classLink own z.catchType nm).before args s = true ∧ va_Nc E nm s)) (hcell : H[q]? = some ce) (hv : ce.vm = .none) (hcl : s.vm.findClass E = some ce.cls)
    (hx : ∀ t : State, t.heap = H → s.vm.Alike t.vm → XC E s t) (hf : ∀ z ∈ locs, free z.base) (hc : cells ≤ mc) (hs : slots ≤ ms) :
    vx_W p l e R s m args below meth c H locs cells slots (vx_MQ below Qc XC args s mc ms free) (F0 m pc ls rest) q := by
  intro T hT X
  have hpl : e.platform.magicAccessors = ({} : Platform).magicAccessors := by rw [X.admits.platform]
  obtain ⟨vm', hW', X', st⟩ := X.outThrough hlocks q (g := F0 m pc ls rest) rfl rfl rfl (cell := ce) (by rw [hT]; exact hcell) (by rw [hv]; rfl)
    (by obtain ⟨k9, h9, -⟩ := Vm.findClass_spec hcl; exact ⟨k9, h9⟩) (fun z hz => by
      rcases hpass z hz with h | ⟨hz0, nm, hl1, hn1⟩
      · exact Or.inl h
      · obtain ⟨c6, hc6, hcl6⟩ := Cond.classLink_spec hown hl1 e.platform hpl
        obtain ⟨a8, b8, h1, h2, h3⟩ := hn1
        cases Option.some.inj (h1.symm.trans hcl)
        cases Option.some.inj (h2.symm.trans hc6)
        exact Or.inr ⟨hz0, _, hcl6, h3⟩)
  obtain ⟨g₀, hfr⟩ := X'.frames_eq
  have hcell9 : ((T.setVm vm').setFrames (.throwing q :: below)).heap[q]? = some ce := by
    show T.heap[q]? = some ce
    rw [hT]; exact hcell
  have hend : Ended ((T.setVm vm').setFrames (.throwing q :: below)) below (.threw q) := State.frames_setFrames _ (State.cur_lt_of_frames hfr)
  refine ⟨(T.setVm vm').setFrames (.throwing q :: below), ?_, .threw q, X'.here.running, hend, Or.inr ⟨q, rfl, E, ce, locs, hx _ hT (X'.ends _).1.alike, hcell9, hv, hcl, (X'.ends _).1, (X'.ends _).2.mono hc hs, hf⟩⟩
  rw [X.pushThrowing_eq]
  exact st
/-- a thing of a world lies in the heap -/
theorem vx_lt {D : va_G} {cl : List vw_C} {ws : va_W} {H1 : Heap} (h : va_P D cl ws H1) {k : Nat} {q : Nat × va_E} (hk : ws[k]? = some q) : q.1 < H1.size := (h k q hk).lt
end VXS
/-! ===== END ===== -/
/-! ===== BEGIN methods with a table of their own: called by a name, returning or throwing ===== -/
section VXH
/-! vx_backW, vx_callVX, vx_callSX, vx_callVW, vx_runVW, vx_runVX, vx_runSX, vx_ofWH follow the same proofs as their sisters above (Free/Laws.lean, Shelf42/LK1.lean); vx_outP calls Shelf42/NT130.lean (outThrough). -/
section
variable {l : Launch} {R : Room} {p : Program} {e : Env} {below : List Frame} {s : State} {sargs : Array Value} {y : MethodName} {len W9 : Nat}
theorem vx_backW {ws : List Cond} {rm : Room} {Pc : Array Value → State → Prop} {Qc : Array Value → State → Outcome → State → Prop} {XC : String → State → State → Prop} {mc ms : Nat} {free : Addr → Prop} {bytes : ByteArray} {maxL : Nat} {ret : Option FieldType} {hh : List (Nat × Nat × Nat × Nat)}
    (hM : vx_Met l y ws rm Pc Qc XC mc ms free) (hblind : FrameBlind Pc) (hrc : rm.cells = mc) (hrs : rm.slots = ms)
    (hframes : rm.frames + 1 ≤ R.frames) (hlocals : W9 + (maxL + 11) + rm.locals ≤ R.locals)
    (hws : ∀ w ∈ ws, ∀ a' U, s.WarmedH U.vm → w.before a' U = true) (hcode : Cond.codeWith y bytes maxL ret hh ∈ ws) (hinit : ∀ a' U, s.WarmedH U.vm → (Cond.initialized y.cls).before a' U = true) :
    vx_Back l R p e below s sargs y len W9 (PreOf R mc ms Pc) (PostOf Qc mc ms free) (vx_Post XC mc ms free) := by
  intro m meth c A g ig mk a X hg hsize hdg hW hn hp
  have h1 : (headSpec ws rm).pre.before a A.U = true := atoms_intro fun w hw => hws w hw _ _ X.warmed
  have h2 : (Cond.codeWith y bytes maxL ret hh).before a A.U = true := hws _ hcode _ _ X.warmed
  have h3 : (Cond.initialized y.cls).before a A.U = true := hinit _ _ X.warmed
  have h4 : A.cells + (headSpec ws rm).room.cells ≤ R.cells := by rw [show (headSpec ws rm).room.cells = mc from hrc]; exact hp.1
  have h5 : A.slots + (headSpec ws rm).room.slots ≤ R.slots := by rw [show (headSpec ws rm).room.slots = ms from hrs]; exact hp.2.1
  have hPc : Pc a (A.U.calling g mk a) := hblind _ _ _ _ hp.2.2
  obtain ⟨U, Ls, c0, s0⟩ := A
  dsimp only [Pt.U, Pt.locs, Pt.cells, Pt.slots] at h1 h2 h3 h4 h5 X hn hPc ⊢
  obtain ⟨m9, methY, cY, hn9, hmY, hcY, -, hlY, -⟩ := Cond.codeWith_spec h2
  cases Option.some.inj (hn9.symm.trans hn)
  obtain ⟨kY, hkY, -⟩ := className_of_methodNamed hn
  have hinitY : kY.init = .initialized := Cond.initialized_spec (findClass_of_methodNamed hn) hkY h3
  have h : At U g.method c below := by rw [hg]; exact X.here
  have hlocals9 : W9 + (maxL + 11) + (headSpec ws rm).room.locals ≤ R.locals := hlocals
  have happ : (headSpec ws rm).appliesLoose y e.platform (U.calling g mk a) = true :=
    Spec.appliesLoose_calling (g := g) h hdg hn hkY hinitY
      (X.room_calling (g := g) (R' := (headSpec ws rm).room) hsize hmY hcY hframes (by rw [hlY]; omega) h4 h5) h1
  obtain ⟨mid, hmid⟩ := h.above
  have hfr : (U.setTop g).frames = (.java g :: mid) ++ below := by rw [State.frames_setTop' g h.top, hmid]; rfl
  obtain ⟨o, s₂, hsteps, -, hend, hq⟩ := Steps.callFree hM p X.admits X.cas X.clock (acts := []) hfr happ hPc trivial
  have hq' : vx_Q Qc XC mc ms free a (U.calling g mk a) o s₂ := hq
  rw [State.frames_setTop' g h.top] at hend
  obtain ⟨g₀, hg0⟩ := Option.isSome_iff_exists.mp h.top
  obtain ⟨r, hr⟩ := State.topJava?_eq_some.mp hg0
  have hr' : (({ U with heap := s₂.heap, slotsUsed := s₂.slotsUsed } : State).setVm s₂.vm).frames = .java g₀ :: r := hr
  rcases hq' with ⟨hqc, L, hfe, hL⟩ | ⟨q, rfl, E, ce, L, hx, hce, hcv, hcl, hW₂, hsm, hL⟩
  · obtain ⟨⟨v, rfl⟩, hW₂, e2, q2, q3, q4, q5, q6⟩ := id hfe
    have e3 : s₂ = ({ (U.calling g mk a).setFrames s₂.frames with heap := s₂.heap, slotsUsed := s₂.slotsUsed } : State).setVm s₂.vm := by
      have : s₂ = ({ s₂ with vm := (U.calling g mk a).vm } : State).setVm s₂.vm := rfl
      rw [e2] at this
      exact this
    obtain ⟨c₂, i₂, len₂, hc₂, hd₂, hf₂⟩ := hend
    have hW' : U.WarmedH s₂.vm := hW₂
    have hcc : c₂ = c := by
      have h1 : s₂.code? g.method = U.code? g.method := by
        rw [State.code?_eq, State.code?_eq, hW'.alike.method?]
      exact Option.some.inj (hc₂.symm.trans (h1.trans h.code))
    subst hcc
    have hlen : len₂ = len := by rw [hdg] at hd₂; cases hd₂; rfl
    subst hlen
    have hs₂ : s₂ = (({ U with heap := s₂.heap, slotsUsed := s₂.slotsUsed } : State).setVm s₂.vm).setTop { g with pc := g.pc + len₂, stack := v.toList ++ g.stack } := by
      refine e3.trans ?_
      rw [hf₂, State.calling_eq h.top, State.setFrames_setFrames, State.setTop_of_frames _ hr', hr]
      rfl
    have hsame : U.sameButNew ({ U with heap := s₂.heap, slotsUsed := s₂.slotsUsed } : State) L mc ms := by
      refine ⟨?_, q2, q3, q4, q5, q6⟩
      obtain ⟨t, ht, -⟩ := State.frames_cons hr
      show ({ U with heap := s₂.heap, slotsUsed := s₂.slotsUsed } : State) = { U.setFrames U.frames with heap := s₂.heap, slotsUsed := s₂.slotsUsed }
      rw [State.setFrames_self ht]
    subst hg
    refine Or.inl ⟨v, ⟨(({ U with heap := s₂.heap, slotsUsed := s₂.slotsUsed } : State).setVm s₂.vm), Ls ++ L, c0 + mc, s0 + ms⟩,
      ⟨X.admits, X.cas, X.clock, X.frames, X.room, X.hears, X.method, X.code, (X.here.setHeapUsed s₂.heap s₂.slotsUsed).setVm hW'.alike, X.tail, State.WarmedH.trans X.warmed hW', X.limits, X.bytes, X.same.trans (hsame.setVm s.vm)⟩,
      ⟨g, mk, s₂, L, rfl, rfl, hqc, rfl, hL, rfl, rfl⟩, ?_⟩
    show Steps p.tables e below _ ((({ U with heap := s₂.heap, slotsUsed := s₂.slotsUsed } : State).setVm s₂.vm).setTop { g with pc := g.pc + len₂, stack := v.toList ++ g.stack })
    rw [← hs₂]
    exact hsteps
  · obtain ⟨e2, q2, q3, q4, q5, q6⟩ := id hsm
    have e3 : s₂ = ({ (U.calling g mk a).setFrames s₂.frames with heap := s₂.heap, slotsUsed := s₂.slotsUsed } : State).setVm s₂.vm := by
      have : s₂ = ({ s₂ with vm := (U.calling g mk a).vm } : State).setVm s₂.vm := rfl
      rw [e2] at this
      exact this
    have hf₂ : s₂.frames = .throwing q :: .java g :: U.frames.tail := hend
    have hW' : U.WarmedH s₂.vm := hW₂
    have hs₂ : s₂ = ((({ U with heap := s₂.heap, slotsUsed := s₂.slotsUsed } : State).setVm s₂.vm).setTop g).pushFrame (.throwing q) := by
      refine e3.trans ?_
      rw [hf₂, State.calling_eq h.top, State.setFrames_setFrames, State.pushFrame, State.frames_setTop _ hr', State.setTop_of_frames _ hr', State.setFrames_setFrames, hr]
      rfl
    have hsame : U.sameButNew ({ U with heap := s₂.heap, slotsUsed := s₂.slotsUsed } : State) L mc ms := by
      refine ⟨?_, q2, q3, q4, q5, q6⟩
      obtain ⟨t, ht, -⟩ := State.frames_cons hr
      show ({ U with heap := s₂.heap, slotsUsed := s₂.slotsUsed } : State) = { U.setFrames U.frames with heap := s₂.heap, slotsUsed := s₂.slotsUsed }
      rw [State.setFrames_self ht]
    subst hg
    refine Or.inr ⟨q, ⟨(({ U with heap := s₂.heap, slotsUsed := s₂.slotsUsed } : State).setVm s₂.vm), Ls ++ L, c0 + mc, s0 + ms⟩,
      ⟨X.admits, X.cas, X.clock, X.frames, X.room, X.hears, X.method, X.code, (X.here.setHeapUsed s₂.heap s₂.slotsUsed).setVm hW'.alike, X.tail, State.WarmedH.trans X.warmed hW', X.limits, X.bytes, X.same.trans (hsame.setVm s.vm)⟩,
      ⟨g, mk, s₂, L, E, ce, rfl, rfl, hx, hce, hcv, hcl, rfl, hL, rfl, rfl⟩, ?_⟩
    show Steps p.tables e below _ (((({ U with heap := s₂.heap, slotsUsed := s₂.slotsUsed } : State).setVm s₂.vm).setTop g).pushFrame (.throwing q))
    rw [← hs₂]
    exact hsteps
end
variable {p : Program} {l : Launch} {e : Env} {R : Room} {s : State} {m : MethodId} {args : Array Value} {below : List Frame} {meth : Method} {c : Code} {T : State} {H : Heap} {locs : List Loc} {cells slots : Nat}
theorem vx_callVX (X : Stand p l e R s m args below meth c T locs cells slots) (hexec : p.tables.exec = Jvm.exec) {own C : String} {index : Nat} {y : MethodName} {bytes : ByteArray} {maxL : Nat} {ret : Option FieldType} {hh : List (Nat × Nat × Nat × Nat)}
    (hown : s.vm.findClass own = some m.cls) (hlink : (Cond.methodLink own index y).before args s = true) (hinst : (Cond.instanceMethod y).before args s = true) (hsel : (Cond.selects C y y).before args s = true)
    (hcode : (Cond.codeWith y bytes maxL ret hh).before args s = true) (hy : y.cls ≠ "java/lang/invoke/MethodHandle" ∧ y.cls ≠ "java/lang/invoke/VarHandle")
    {W9 : Nat} {Pre : Pt → Array Value → Prop} {Post : Pt → Array Value → Option Value → Pt → Prop} {PostX : Pt → Array Value → Addr → Pt → Prop} (hK : vx_Back l R p e below s args y 3 W9 Pre Post PostX)
    {b : Addr} {cellB : Cell} (hcell : T.heap[b]? = some cellB) (hobj : cellB.vm.isStatics = false) (hcls : s.vm.findClass C = some cellB.cls)
    {g : JFrame} (hg : g.method = m) (hsize : g.locals.size = c.maxLocals) {argsL rest : List Value} (hlen : ∀ sig, parseMethodDescriptor y.desc = some sig → argsL.length = sig.parameters.length)
    (hstack : g.stack = argsL.reverse ++ .ref b :: rest) (hW : 2 * g.monitorRoom + (rest.map fun v => v.category).sum ≤ W9) (hdg : decode c.code g.pc = .ok (.invokevirtual index, 3))
    (hpre : ∀ vm₁, s.WarmedH vm₁ → Pre ⟨T.setVm vm₁, locs, cells, slots⟩ (Value.ref b :: argsL).toArray) :
    (∃ (v : Option Value) (vm₁ : Vm) (B : Pt), s.WarmedH vm₁ ∧ Stand p l e R s m args below meth c B.U B.locs B.cells B.slots ∧ Post ⟨T.setVm vm₁, locs, cells, slots⟩ (Value.ref b :: argsL).toArray v B ∧
      ∀ target, Steps p.tables e below (B.U.setTop { g with pc := g.pc + 3, stack := v.toList ++ rest }) target → Steps p.tables e below (T.setTop g) target) ∨
    (∃ (q : Addr) (vm₁ : Vm) (B : Pt), s.WarmedH vm₁ ∧ Stand p l e R s m args below meth c B.U B.locs B.cells B.slots ∧ PostX ⟨T.setVm vm₁, locs, cells, slots⟩ (Value.ref b :: argsL).toArray q B ∧
      Steps p.tables e below (T.setTop g) ((B.U.setTop { g with stack := rest }).pushFrame (.throwing q))) := by
  obtain ⟨mk, methM, hnamed, hmethM, hstM, habM⟩ := Cond.instanceMethod_spec hinst
  obtain ⟨m8, methM', cM, hn8, hmethM', -, -, -, -, -, -, hsigM⟩ := Cond.codeWith_spec hcode
  cases Option.some.inj (hn8.symm.trans hnamed)
  cases hmethM.symm.trans hmethM'
  obtain ⟨c2, r2, m2, q1, q2, q3, q4, kP, hkP, hkPi⟩ := Cond.selects_spec hsel
  cases hcls.symm.trans q1
  cases (State.methodFound?_of_named hnamed hy).symm.trans q2
  cases hnamed.symm.trans q3
  have hselP : selectMethod e.platform s.vm cellB.cls mk = .method mk := by rw [Launch.admits_selectMethod X.admits]; exact q4
  obtain ⟨vm₁, X₁, hstep₁⟩ := X.invokevirtual hexec hown hlink hnamed hmethM hstM hkP hkPi hy (a := b) (cell := cellB) hcell
    (fun z h => by rw [h] at hobj; cases hobj) hselP hmethM habM hkP hkPi (g := g) hg (argsL := argsL) (rest := rest) (hlen _ hsigM) hstack hdg
  rcases hK m meth c ⟨T.setVm vm₁, locs, cells, slots⟩ { g with stack := rest } (.invokevirtual index) mk (Value.ref b :: argsL).toArray X₁ hg hsize hdg hW (X₁.named hnamed) (hpre vm₁ X₁.warmed) with ⟨v, B, X', hpost, hsteps⟩ | ⟨q, B, X', hpost, hsteps⟩
  · exact Or.inl ⟨v, vm₁, B, X₁.warmed, X', hpost, fun target h => hstep₁ _ fun acts => by rw [doInvoke_state]; exact hsteps.trans h⟩
  · exact Or.inr ⟨q, vm₁, B, X₁.warmed, X', hpost, hstep₁ _ fun acts => by rw [doInvoke_state]; exact hsteps⟩
theorem vx_callSX (X : Stand p l e R s m args below meth c T locs cells slots) (hexec : p.tables.exec = Jvm.exec) {own : String} {index : Nat} {y : MethodName} {bytes : ByteArray} {maxL : Nat} {ret : Option FieldType} {hh : List (Nat × Nat × Nat × Nat)}
    (hown : s.vm.findClass own = some m.cls) (hlink : (Cond.methodLink own index y).before args s = true) (hstat : (Cond.static y).before args s = true) (hinit : (Cond.initialized y.cls).before args s = true)
    (hcode : (Cond.codeWith y bytes maxL ret hh).before args s = true) (hy : y.cls ≠ "java/lang/invoke/MethodHandle" ∧ y.cls ≠ "java/lang/invoke/VarHandle")
    {W9 : Nat} {Pre : Pt → Array Value → Prop} {Post : Pt → Array Value → Option Value → Pt → Prop} {PostX : Pt → Array Value → Addr → Pt → Prop} (hK : vx_Back l R p e below s args y 3 W9 Pre Post PostX)
    {g : JFrame} (hg : g.method = m) (hsize : g.locals.size = c.maxLocals) {argsL rest : List Value} (hlen : ∀ sig, parseMethodDescriptor y.desc = some sig → argsL.length = sig.parameters.length)
    (hstack : g.stack = argsL.reverse ++ rest) (hW : 2 * g.monitorRoom + (rest.map fun v => v.category).sum ≤ W9) (hdg : decode c.code g.pc = .ok (.invokestatic index, 3))
    (hpre : ∀ vm₁, s.WarmedH vm₁ → Pre ⟨T.setVm vm₁, locs, cells, slots⟩ argsL.toArray) :
    (∃ (v : Option Value) (vm₁ : Vm) (B : Pt), s.WarmedH vm₁ ∧ Stand p l e R s m args below meth c B.U B.locs B.cells B.slots ∧ Post ⟨T.setVm vm₁, locs, cells, slots⟩ argsL.toArray v B ∧
      ∀ target, Steps p.tables e below (B.U.setTop { g with pc := g.pc + 3, stack := v.toList ++ rest }) target → Steps p.tables e below (T.setTop g) target) ∨
    (∃ (q : Addr) (vm₁ : Vm) (B : Pt), s.WarmedH vm₁ ∧ Stand p l e R s m args below meth c B.U B.locs B.cells B.slots ∧ PostX ⟨T.setVm vm₁, locs, cells, slots⟩ argsL.toArray q B ∧
      Steps p.tables e below (T.setTop g) ((B.U.setTop { g with stack := rest }).pushFrame (.throwing q))) := by
  obtain ⟨mk, methM, cM, hnamed, hmethM, -, -, -, -, -, -, hsigM⟩ := Cond.codeWith_spec hcode
  have hstatic : methM.isStatic = true := Cond.static_spec hnamed hmethM hstat
  obtain ⟨kP, hkP, -⟩ := className_of_methodNamed hnamed
  have hinitP : kP.init = .initialized := Cond.initialized_spec (findClass_of_methodNamed hnamed) hkP hinit
  obtain ⟨vm₁, X₁, hstep₁⟩ := X.invokestatic hexec hown hlink hnamed hmethM hstatic hkP hinitP hy (g := g) hg (argsL := argsL) (rest := rest) (hlen _ hsigM) hstack hdg
  rcases hK m meth c ⟨T.setVm vm₁, locs, cells, slots⟩ { g with stack := rest } (.invokestatic index) mk argsL.toArray X₁ hg hsize hdg hW (X₁.named hnamed) (hpre vm₁ X₁.warmed) with ⟨v, B, X', hpost, hsteps⟩ | ⟨q, B, X', hpost, hsteps⟩
  · exact Or.inl ⟨v, vm₁, B, X₁.warmed, X', hpost, fun target h => hstep₁ _ fun acts => by rw [doInvoke_state]; exact hsteps.trans h⟩
  · exact Or.inr ⟨q, vm₁, B, X₁.warmed, X', hpost, hstep₁ _ fun acts => by rw [doInvoke_state]; exact hsteps⟩
theorem vx_callVW (X : Stand p l e R s m args below meth c T locs cells slots) (hexec : p.tables.exec = Jvm.exec) {own C : String} {index : Nat} {y : MethodName} {bytes : ByteArray} {maxL : Nat} {ret : Option FieldType} {hh : List (Nat × Nat × Nat × Nat)}
    (hown : s.vm.findClass own = some m.cls) (hlink : (Cond.methodLink own index y).before args s = true) (hinst : (Cond.instanceMethod y).before args s = true) (hsel : (Cond.selects C y y).before args s = true)
    (hcode : (Cond.codeWith y bytes maxL ret hh).before args s = true) (hy : y.cls ≠ "java/lang/invoke/MethodHandle" ∧ y.cls ≠ "java/lang/invoke/VarHandle")
    {W9 : Nat} {Pre : Pt → Array Value → Prop} {Post : Pt → Array Value → Option Value → Pt → Prop} (hK : Back l R p e below s args y 3 W9 Pre Post)
    {b : Addr} {cellB : Cell} (hcell : T.heap[b]? = some cellB) (hobj : cellB.vm.isStatics = false) (hcls : s.vm.findClass C = some cellB.cls)
    {g : JFrame} (hg : g.method = m) (hsize : g.locals.size = c.maxLocals) {argsL rest : List Value} (hlen : ∀ sig, parseMethodDescriptor y.desc = some sig → argsL.length = sig.parameters.length)
    (hstack : g.stack = argsL.reverse ++ .ref b :: rest) (hW : 2 * g.monitorRoom + (rest.map fun v => v.category).sum ≤ W9) (hdg : decode c.code g.pc = .ok (.invokevirtual index, 3))
    (hpre : ∀ vm₁, s.WarmedH vm₁ → Pre ⟨T.setVm vm₁, locs, cells, slots⟩ (Value.ref b :: argsL).toArray) :
    ∃ (v : Option Value) (vm₁ : Vm) (B : Pt), s.WarmedH vm₁ ∧ Stand p l e R s m args below meth c B.U B.locs B.cells B.slots ∧ Post ⟨T.setVm vm₁, locs, cells, slots⟩ (Value.ref b :: argsL).toArray v B ∧
      ∀ target, Steps p.tables e below (B.U.setTop { g with pc := g.pc + 3, stack := v.toList ++ rest }) target → Steps p.tables e below (T.setTop g) target := by
  obtain ⟨mk, methM, hnamed, hmethM, hstM, habM⟩ := Cond.instanceMethod_spec hinst
  obtain ⟨m8, methM', cM, hn8, hmethM', -, -, -, -, -, -, hsigM⟩ := Cond.codeWith_spec hcode
  cases Option.some.inj (hn8.symm.trans hnamed)
  cases hmethM.symm.trans hmethM'
  obtain ⟨c2, r2, m2, q1, q2, q3, q4, kP, hkP, hkPi⟩ := Cond.selects_spec hsel
  cases hcls.symm.trans q1
  cases (State.methodFound?_of_named hnamed hy).symm.trans q2
  cases hnamed.symm.trans q3
  have hselP : selectMethod e.platform s.vm cellB.cls mk = .method mk := by rw [Launch.admits_selectMethod X.admits]; exact q4
  obtain ⟨vm₁, X₁, hstep₁⟩ := X.invokevirtual hexec hown hlink hnamed hmethM hstM hkP hkPi hy (a := b) (cell := cellB) hcell
    (fun z h => by rw [h] at hobj; cases hobj) hselP hmethM habM hkP hkPi (g := g) hg (argsL := argsL) (rest := rest) (hlen _ hsigM) hstack hdg
  obtain ⟨v, B, X', hpost, hsteps⟩ := hK m meth c ⟨T.setVm vm₁, locs, cells, slots⟩ { g with stack := rest } (.invokevirtual index) mk (Value.ref b :: argsL).toArray X₁ hg hsize hdg hW (X₁.named hnamed) (hpre vm₁ X₁.warmed)
  exact ⟨v, vm₁, B, X₁.warmed, X', hpost, fun target h => hstep₁ _ fun acts => by rw [doInvoke_state]; exact hsteps.trans h⟩
abbrev vx_CVW (R : Room) (s : State) (args : Array Value) (own C : String) (index : Nat) (y : MethodName) (bytes : ByteArray) (maxL : Nat) (ret : Option FieldType) (hh : List (Nat × Nat × Nat × Nat)) (ws : List Cond) (rm : Room) (mc ms n : Nat) : Prop :=
  (rm.cells = mc ∧ rm.slots = ms ∧ rm.frames + 1 ≤ R.frames ∧ 8 + (maxL + 11) + rm.locals ≤ R.locals ∧ (∀ w ∈ ws, ∀ (a' : Array Value) (U : State), s.WarmedH U.vm → w.before a' U = true) ∧ Cond.codeWith y bytes maxL ret hh ∈ ws) ∧
  (Cond.codeWith y bytes maxL ret hh).before args s = true ∧ (Cond.initialized y.cls).before args s = true ∧ (y.cls ≠ "java/lang/invoke/MethodHandle" ∧ y.cls ≠ "java/lang/invoke/VarHandle") ∧
  (∀ sig, parseMethodDescriptor y.desc = some sig → n = sig.parameters.length) ∧ (Cond.methodLink own index y).before args s = true ∧ (Cond.instanceMethod y).before args s = true ∧ (Cond.selects C y y).before args s = true
theorem vx_cwVW {own C : String} {index maxL mc ms : Nat} {y : MethodName} {bytes : ByteArray} {ret : Option FieldType} {hh : List (Nat × Nat × Nat × Nat)} {Ts ws ws' : List Cond} {rm : Room} (n : Nat) (ht : ∀ w ∈ Ts, w.before args s = true) (hT : GoodIn Ts (wsV own index C y ws)) (hw : ws = Cond.codeWith y bytes maxL ret hh :: ws') (hrc : rm.cells = mc) (hrs : rm.slots = ms)
    (hd : y.cls = C ∧ y.cls ≠ "java/lang/invoke/MethodHandle" ∧ y.cls ≠ "java/lang/invoke/VarHandle" ∧ (parseMethodDescriptor y.desc).map (fun d => d.parameters.length) = some n) (hR : rm.frames + 1 ≤ R.frames ∧ 8 + (maxL + 11) + rm.locals ≤ R.locals) :
    vx_CVW R s args own C index y bytes maxL ret hh ws rm mc ms n := by
  obtain ⟨hC, hd⟩ := hd
  subst hC
  have ok : ∀ w ∈ wsV own index y.cls y ws, w.before args s = true := fun w h => ht w (hT w h).1
  have hG : GoodIn Ts ws := fun w h => hT w (by unfold wsV; exact List.mem_append_right _ h)
  have hc : Cond.codeWith y bytes maxL ret hh ∈ ws := by rw [hw]; exact List.mem_cons_self
  refine ⟨⟨hrc, hrs, hR.1, hR.2, pay_in ht hG, hc⟩, ht _ (hG _ hc).1, ok _ (by simp [wsV]), ⟨hd.1, hd.2.1⟩, fun sig h => ?_, ok _ (by simp [wsV]), ok _ (by simp [wsV]), ok _ (by simp [wsV])⟩
  have h2 := hd.2.2
  rw [h] at h2
  exact (Option.some.inj h2).symm
theorem vx_runVW {y : MethodName} {bytes cc : ByteArray} {maxL nL mc ms n index : Nat} {ret : Option FieldType} {hh : List (Nat × Nat × Nat × Nat)} {ws : List Cond} {rm : Room} {Pc : Array Value → State → Prop} {Qc : Array Value → State → Outcome → State → Prop} {free : Addr → Prop} {Ts : List Cond} {own C : String} {b : Addr} {As rest : List Value} {g : JFrame}
    (S : CallFix p m c cc nL s args Ts own) (hM : Met l y ws rm Pc Qc mc ms free) (cw : vx_CVW R s args own C index y bytes maxL ret hh ws rm mc ms n) (hp : PreV s H C b Pc As)
    (hg : g.method = m) (hn : As.length = n) (hsize : g.locals.size = nL) (hstack : g.stack = As.reverse ++ .ref b :: rest) (hW : 2 * g.monitorRoom + (rest.map fun v => v.category).sum ≤ 8) (hdg : decode cc g.pc = .ok (.invokevirtual index, 3)) (hf : cells + mc ≤ R.cells ∧ slots + ms ≤ R.slots) :
    va_Run p l e R s m args below meth c H locs cells slots mc ms g rest (Qc (Value.ref b :: As).toArray) free := by
  obtain ⟨⟨hrc, hrs, hfr, hlo, hws, hcw⟩, hcode, hini, hy, hlen, hl, hin, hse⟩ := cw
  have hK : Back l R p e below s args y 3 8 (PreOf R mc ms Pc) (PostOf Qc mc ms free) := va_backW (hh := hh) (bytes := bytes) (maxL := maxL) (ret := ret) hM hp.1 hrc hrs hfr hlo hws hcw (fun a' U hW => word_at hW (Or.inl (by first | rfl | simp [Cond.onTables, Cond.keeps, Cond.steady])) hini)
  obtain ⟨hx, hb, hml, ho, -⟩ := S
  obtain ⟨-, ⟨cellB, hcB, hoB, hclB⟩, hPc⟩ := hp
  intro T hT X
  obtain ⟨v, vm₁, ⟨U', l2, c2, s2⟩, hW₁, X', ⟨g', mk, t, L, e1, e2, hq, h1, hL, h2, h3⟩, st⟩ := vx_callVW X hx (C := C) (hh := hh) (bytes := bytes) (maxL := maxL) (ret := ret) ho hl hin hse hcode hy hK (by rw [hT]; exact hcB) hoB hclB hg (hsize.trans hml.symm) (argsL := As) (rest := rest) (fun sig h => hn.trans (hlen sig h)) hstack hW (by rw [hb]; exact hdg)
    (fun vm₁ hW₁ => ⟨hf.1, hf.2, hPc (T.setVm vm₁) hT hW₁⟩)
  dsimp only [Pt.U, Pt.locs, Pt.cells, Pt.slots] at X' e1 e2 h1 h2 h3 st
  subst h1; subst h2; subst h3
  exact ⟨v, (T.setVm vm₁).calling g' mk (Value.ref b :: As).toArray, t, U', L, hT, X', hL, e1, e2, hq, st⟩
section
variable {y : MethodName} {bytes cc : ByteArray} {maxL nL mc ms n index : Nat} {ret : Option FieldType} {ws : List Cond} {rm : Room} {Pc : Array Value → State → Prop} {Qc : Array Value → State → Outcome → State → Prop} {XC : String → State → State → Prop} {free : Addr → Prop} {Ts : List Cond} {own C : String} {b : Addr} {As rest : List Value} {g : JFrame}
theorem vx_runVX {hh : List (Nat × Nat × Nat × Nat)} (S : CallFix p m c cc nL s args Ts own) (hM : vx_Met l y ws rm Pc Qc XC mc ms free) (cw : vx_CVW R s args own C index y bytes maxL ret hh ws rm mc ms n) (hp : PreV s H C b Pc As)
    (hg : g.method = m) (hn : As.length = n) (hsize : g.locals.size = nL) (hstack : g.stack = As.reverse ++ .ref b :: rest) (hW : 2 * g.monitorRoom + (rest.map fun v => v.category).sum ≤ 8) (hdg : decode cc g.pc = .ok (.invokevirtual index, 3)) (hf : cells + mc ≤ R.cells ∧ slots + ms ≤ R.slots) :
    vx_Run p l e R s m args below meth c H locs cells slots mc ms g rest (Qc (Value.ref b :: As).toArray) XC free := by
  obtain ⟨⟨hrc, hrs, hfr, hlo, hws, hcw⟩, hcode, hini, hy, hlen, hl, hin, hse⟩ := cw
  have hK : vx_Back l R p e below s args y 3 8 (PreOf R mc ms Pc) (PostOf Qc mc ms free) (vx_Post XC mc ms free) := vx_backW (hh := hh) (bytes := bytes) (maxL := maxL) (ret := ret) hM hp.1 hrc hrs hfr hlo hws hcw (fun a' U hW => word_at hW (Or.inl (by first | rfl | simp [Cond.onTables, Cond.keeps, Cond.steady])) hini)
  obtain ⟨hx, hb, hml, ho, -⟩ := S
  obtain ⟨-, ⟨cellB, hcB, hoB, hclB⟩, hPc⟩ := hp
  intro T hT X
  rcases vx_callVX X hx (C := C) (hh := hh) (bytes := bytes) (maxL := maxL) (ret := ret) ho hl hin hse hcode hy hK (by rw [hT]; exact hcB) hoB hclB hg (hsize.trans hml.symm) (argsL := As) (rest := rest) (fun sig h => hn.trans (hlen sig h)) hstack hW (by rw [hb]; exact hdg)
    (fun vm₁ hW₁ => ⟨hf.1, hf.2, hPc (T.setVm vm₁) hT hW₁⟩) with ⟨v, vm₁, ⟨U', l2, c2, s2⟩, hW₁, X', ⟨g', mk, t, L, e1, e2, hq, h1, hL, h2, h3⟩, st⟩ | ⟨q, vm₁, ⟨U', l2, c2, s2⟩, hW₁, X', ⟨g', mk, t, L, E, ce, e1, e2, hq, hce, hcv, hcl, h1, hL, h2, h3⟩, st⟩
  · dsimp only [Pt.U, Pt.locs, Pt.cells, Pt.slots] at X' e1 e2 h1 h2 h3 st
    subst h1; subst h2; subst h3
    exact Or.inl ⟨v, (T.setVm vm₁).calling g' mk (Value.ref b :: As).toArray, t, U', L, hT, X', hL, e1, e2, hq, st⟩
  · dsimp only [Pt.U, Pt.locs, Pt.cells, Pt.slots] at X' e1 e2 h1 h2 h3 st hcl
    subst h1; subst h2; subst h3
    exact Or.inr ⟨q, (T.setVm vm₁).calling g' mk (Value.ref b :: As).toArray, t, U', L, E, ce, hT, X', hL, e1, e2, hq, hce, hcv, vx_cls hW₁ hcl, st⟩
theorem vx_runSX {hh : List (Nat × Nat × Nat × Nat)} (S : CallFix p m c cc nL s args Ts own) (hM : vx_Met l y ws rm Pc Qc XC mc ms free) (cw : vx_CSW R s args own index y bytes maxL ret hh ws rm mc ms n) (hp : PreS s H Pc As)
    (hg : g.method = m) (hn : As.length = n) (hsize : g.locals.size = nL) (hstack : g.stack = As.reverse ++ rest) (hW : 2 * g.monitorRoom + (rest.map fun v => v.category).sum ≤ 8) (hdg : decode cc g.pc = .ok (.invokestatic index, 3)) (hf : cells + mc ≤ R.cells ∧ slots + ms ≤ R.slots) :
    vx_Run p l e R s m args below meth c H locs cells slots mc ms g rest (Qc As.toArray) XC free := by
  obtain ⟨⟨hrc, hrs, hfr, hlo, hws, hcw⟩, hcode, hini, hy, hlen, hl, hstt⟩ := cw
  have hK : vx_Back l R p e below s args y 3 8 (PreOf R mc ms Pc) (PostOf Qc mc ms free) (vx_Post XC mc ms free) := vx_backW (hh := hh) (bytes := bytes) (maxL := maxL) (ret := ret) hM hp.1 hrc hrs hfr hlo hws hcw (fun a' U hW => word_at hW (Or.inl (by first | rfl | simp [Cond.onTables, Cond.keeps, Cond.steady])) hini)
  obtain ⟨hx, hb, hml, ho, -⟩ := S
  intro T hT X
  rcases vx_callSX X hx (hh := hh) (bytes := bytes) (maxL := maxL) (ret := ret) ho hl hstt hini hcode hy hK hg (hsize.trans hml.symm) (argsL := As) (rest := rest) (fun sig h => hn.trans (hlen sig h)) hstack hW (by rw [hb]; exact hdg)
    (fun vm₁ hW₁ => ⟨hf.1, hf.2, hp.2 (T.setVm vm₁) hT hW₁⟩) with ⟨v, vm₁, ⟨U', l2, c2, s2⟩, hW₁, X', ⟨g', mk, t, L, e1, e2, hq, h1, hL, h2, h3⟩, st⟩ | ⟨q, vm₁, ⟨U', l2, c2, s2⟩, hW₁, X', ⟨g', mk, t, L, E, ce, e1, e2, hq, hce, hcv, hcl, h1, hL, h2, h3⟩, st⟩
  · dsimp only [Pt.U, Pt.locs, Pt.cells, Pt.slots] at X' e1 e2 h1 h2 h3 st
    subst h1; subst h2; subst h3
    exact Or.inl ⟨v, (T.setVm vm₁).calling g' mk As.toArray, t, U', L, hT, X', hL, e1, e2, hq, st⟩
  · dsimp only [Pt.U, Pt.locs, Pt.cells, Pt.slots] at X' e1 e2 h1 h2 h3 st hcl
    subst h1; subst h2; subst h3
    exact Or.inr ⟨q, (T.setVm vm₁).calling g' mk As.toArray, t, U', L, E, ce, hT, X', hL, e1, e2, hq, hce, hcv, vx_cls hW₁ hcl, st⟩
end
end VXH
theorem vx_ofWH {l : Launch} {y : MethodName} {ws ws' : List Cond} {rm : Room} {Pc : Array Value → State → Prop} {Qc : Array Value → State → Outcome → State → Prop} {XC : String → State → State → Prop} {mc ms : Nat} {free : Addr → Prop} {cc : ByteArray} {maxL : Nat} {ret : Option FieldType} {hh : List (Nat × Nat × Nat × Nat)}
    (hy : plainName y.cls = true) (hw : ws = Cond.codeWith y cc maxL ret hh :: ws')
    (body : ∀ p e s m args below meth c s₁, BodyLoose p l y (headSpec ws rm) cc maxL ret e s m args below meth c s₁ → c.maxLocals = maxL → Pc args s →
      W p l e (headSpec ws rm).room s m args below meth c s.heap [] 0 0 (vx_MQ below Qc XC args s mc ms free) (entryFrame m args maxL)) : vx_Met l y ws rm Pc Qc XC mc ms free := by
  refine MetFree.of_bodyS (code := cc) (maxLocals := maxL) (ret := ret) hy ?_ ?_
  · intro args s m h hn
    obtain ⟨m9, meth, c, hn9, h1, h2, h3, h4, -, h5, h6, -⟩ := Cond.codeWith_spec (atoms_spec (ws := ws) h _ (by rw [hw]; exact List.mem_cons_self))
    cases hn.symm.trans hn9
    exact ⟨meth, c, h1, h2, h3, h4, h5, h6⟩
  · intro p e s m args below meth c s₁ B hml hP _
    have hh0 : s₁.heap = s.heap := by rw [B.state]; rfl
    obtain ⟨t, a1, o, b1, b2, b3⟩ := body p e s m args below meth c s₁ B hml hP s₁ hh0 (Stand.of_body B)
    exact ⟨t, o, a1, b1, b2, b3⟩
/-! ===== END ===== -/
end
section
def RX0 : String := "OptimisticStore$Constraint"
def TX0 : u_T := fun k => match k with
  | 0 => ("OptimisticStore$Constraint", "kind", "I", true)
  | 1 => ("OptimisticStore$Constraint", "low", "I", true)
  | 2 => ("OptimisticStore$Constraint", "high", "I", true)
  | _ => ("OptimisticStore$Constraint", "bound", "I", true)
def tyX0 : Nat → FieldType := fun k => match k with
  | 0 => .int
  | 1 => .int
  | 2 => .int
  | _ => .int
abbrev wsX00 : List Cond := u_ws RX0 TX0 4
theorem nmX0 : ∀ a, a < 4 → ∀ b, b < 4 → a ≠ b → (TX0 a).2.1 ≠ (TX0 b).2.1 := by decide +kernel
theorem tyX0_ok : ∀ k, k < 4 → parseFieldDescriptor (TX0 k).2.2.1 = some (tyX0 k) := by decide +kernel
abbrev cX0_init : ByteArray := prog_2_method_1_code
def yX0_init : MethodName := ⟨RX0, "<init>", "(IIII)V"⟩
abbrev cX0_isViolatedBy : ByteArray := prog_2_method_2_code
def yX0_isViolatedBy : MethodName := ⟨RX0, "isViolatedBy", "([I)Z"⟩
def RX1 : String := "OptimisticStore$History"
def TX1 : u_T := fun k => match k with
  | 0 => ("OptimisticStore$History", "stores", "[[I", true)
  | 1 => ("OptimisticStore$History", "authors", "[LOptimisticStore$Transaction;", true)
  | _ => ("OptimisticStore$History", "latest", "I", false)
def tyX1 : Nat → FieldType := fun k => match k with
  | 0 => .array (.array .int)
  | 1 => .array (.object "OptimisticStore$Transaction")
  | _ => .int
abbrev wsX10 : List Cond := u_ws RX1 TX1 3
theorem nmX1 : ∀ a, a < 3 → ∀ b, b < 3 → a ≠ b → (TX1 a).2.1 ≠ (TX1 b).2.1 := by decide +kernel
theorem tyX1_ok : ∀ k, k < 3 → parseFieldDescriptor (TX1 k).2.2.1 = some (tyX1 k) := by decide +kernel
abbrev cX1_init : ByteArray := prog_3_method_1_code
def yX1_init : MethodName := ⟨RX1, "<init>", "()V"⟩
abbrev cX1_isFull : ByteArray := prog_3_method_2_code
def yX1_isFull : MethodName := ⟨RX1, "isFull", "()Z"⟩
abbrev cX1_storeAfter : ByteArray := prog_3_method_3_code
def yX1_storeAfter : MethodName := ⟨RX1, "storeAfter", "(I)[I"⟩
abbrev cX1_newest : ByteArray := prog_3_method_4_code
def yX1_newest : MethodName := ⟨RX1, "newest", "()[I"⟩
abbrev cX1_authorOf : ByteArray := prog_3_method_5_code
def yX1_authorOf : MethodName := ⟨RX1, "authorOf", "(I)LOptimisticStore$Transaction;"⟩
abbrev cX1_append : ByteArray := prog_3_method_6_code
def yX1_append : MethodName := ⟨RX1, "append", "(LOptimisticStore$Transaction;)V"⟩
abbrev cX1_takeBackAfter : ByteArray := prog_3_method_7_code
def yX1_takeBackAfter : MethodName := ⟨RX1, "takeBackAfter", "(I)I"⟩
abbrev cX1_latestWriter : ByteArray := prog_3_method_8_code
def yX1_latestWriter : MethodName := ⟨RX1, "latestWriter", "(I)I"⟩
abbrev cX1_stalenessOf : ByteArray := prog_3_method_9_code
def yX1_stalenessOf : MethodName := ⟨RX1, "stalenessOf", "(LOptimisticStore$Transaction;)I"⟩
abbrev cX1_link : ByteArray := prog_3_method_10_code
def yX1_link : MethodName := ⟨RX1, "link", "(II)I"⟩
abbrev cX1_writtenBy : ByteArray := prog_3_method_11_code
def yX1_writtenBy : MethodName := ⟨RX1, "writtenBy", "(I)I"⟩
abbrev cX1_isTouchedSince : ByteArray := prog_3_method_12_code
def yX1_isTouchedSince : MethodName := ⟨RX1, "isTouchedSince", "(LOptimisticStore$Operation;)Z"⟩
abbrev cX1_readsFrom : ByteArray := prog_3_method_13_code
def yX1_readsFrom : MethodName := ⟨RX1, "readsFrom", "(III)Z"⟩
def RX2 : String := "OptimisticStore$Operation"
def TX2 : u_T := fun k => match k with
  | 0 => ("OptimisticStore$Operation", "kind", "I", true)
  | 1 => ("OptimisticStore$Operation", "low", "I", true)
  | 2 => ("OptimisticStore$Operation", "high", "I", true)
  | 3 => ("OptimisticStore$Operation", "number", "I", true)
  | 4 => ("OptimisticStore$Operation", "madeAt", "I", false)
  | _ => ("OptimisticStore$Operation", "result", "I", false)
def tyX2 : Nat → FieldType := fun k => match k with
  | 0 => .int
  | 1 => .int
  | 2 => .int
  | 3 => .int
  | 4 => .int
  | _ => .int
abbrev wsX20 : List Cond := u_ws RX2 TX2 6
theorem nmX2 : ∀ a, a < 6 → ∀ b, b < 6 → a ≠ b → (TX2 a).2.1 ≠ (TX2 b).2.1 := by decide +kernel
theorem tyX2_ok : ∀ k, k < 6 → parseFieldDescriptor (TX2 k).2.2.1 = some (tyX2 k) := by decide +kernel
abbrev cX2_init : ByteArray := prog_4_method_1_code
def yX2_init : MethodName := ⟨RX2, "<init>", "(IIII)V"⟩
abbrev cX2_isWellFormed : ByteArray := prog_4_method_2_code
def yX2_isWellFormed : MethodName := ⟨RX2, "isWellFormed", "()Z"⟩
abbrev cX2_isPredicate : ByteArray := prog_4_method_3_code
def yX2_isPredicate : MethodName := ⟨RX2, "isPredicate", "()Z"⟩
abbrev cX2_makesRead : ByteArray := prog_4_method_4_code
def yX2_makesRead : MethodName := ⟨RX2, "makesRead", "()Z"⟩
abbrev cX2_makesWrite : ByteArray := prog_4_method_5_code
def yX2_makesWrite : MethodName := ⟨RX2, "makesWrite", "()Z"⟩
abbrev cX2_staysInRange : ByteArray := prog_4_method_6_code
def yX2_staysInRange : MethodName := ⟨RX2, "staysInRange", "([I)Z"⟩
abbrev cX2_carryOut : ByteArray := prog_4_method_7_code
def yX2_carryOut : MethodName := ⟨RX2, "carryOut", "([I)I"⟩
abbrev cX2_isTouchedBy : ByteArray := prog_4_method_8_code
def yX2_isTouchedBy : MethodName := ⟨RX2, "isTouchedBy", "(LOptimisticStore$Transaction;[I)Z"⟩
abbrev cX2_sumWith : ByteArray := prog_4_method_9_code
def yX2_sumWith : MethodName := ⟨RX2, "sumWith", "(I)I"⟩
abbrev cX2_admits : ByteArray := prog_4_method_10_code
def yX2_admits : MethodName := ⟨RX2, "admits", "(I)Z"⟩
def RX3 : String := "OptimisticStore$Script"
def TX3 : u_T := fun k => match k with
  | 0 => ("OptimisticStore$Script", "text", "[C", true)
  | 1 => ("OptimisticStore$Script", "steps", "[LOptimisticStore$Operation;", true)
  | 2 => ("OptimisticStore$Script", "position", "I", false)
  | 3 => ("OptimisticStore$Script", "length", "I", false)
  | 4 => ("OptimisticStore$Script", "stepCount", "I", false)
  | _ => ("OptimisticStore$Script", "fault", "I", false)
def tyX3 : Nat → FieldType := fun k => match k with
  | 0 => .array .char
  | 1 => .array (.object "OptimisticStore$Operation")
  | 2 => .int
  | 3 => .int
  | 4 => .int
  | _ => .int
abbrev wsX30 : List Cond := u_ws RX3 TX3 6
theorem nmX3 : ∀ a, a < 6 → ∀ b, b < 6 → a ≠ b → (TX3 a).2.1 ≠ (TX3 b).2.1 := by decide +kernel
theorem tyX3_ok : ∀ k, k < 6 → parseFieldDescriptor (TX3 k).2.2.1 = some (tyX3 k) := by decide +kernel
abbrev cX3_init : ByteArray := prog_5_method_1_code
def yX3_init : MethodName := ⟨RX3, "<init>", "()V"⟩
abbrev cX3_extend : ByteArray := prog_5_method_2_code
def yX3_extend : MethodName := ⟨RX3, "extend", "(C)I"⟩
abbrev cX3_stepAt : ByteArray := prog_5_method_3_code
def yX3_stepAt : MethodName := ⟨RX3, "stepAt", "(I)LOptimisticStore$Operation;"⟩
abbrev cX3_parseAndEmpty : ByteArray := prog_5_method_4_code
def yX3_parseAndEmpty : MethodName := ⟨RX3, "parseAndEmpty", "()Z"⟩
abbrev cX3_parseSteps : ByteArray := prog_5_method_5_code
def yX3_parseSteps : MethodName := ⟨RX3, "parseSteps", "()Z"⟩
abbrev cX3_parseStep : ByteArray := prog_5_method_6_code
def yX3_parseStep : MethodName := ⟨RX3, "parseStep", "()LOptimisticStore$Operation;"⟩
abbrev cX3_kindOf : ByteArray := prog_5_method_7_code
def yX3_kindOf : MethodName := ⟨RX3, "kindOf", "(C)I"⟩
abbrev cX3_parseWrite : ByteArray := prog_5_method_8_code
def yX3_parseWrite : MethodName := ⟨RX3, "parseWrite", "(I)LOptimisticStore$Operation;"⟩
abbrev cX3_parseAdd : ByteArray := prog_5_method_9_code
def yX3_parseAdd : MethodName := ⟨RX3, "parseAdd", "(I)LOptimisticStore$Operation;"⟩
abbrev cX3_parseSum : ByteArray := prog_5_method_10_code
def yX3_parseSum : MethodName := ⟨RX3, "parseSum", "(I)LOptimisticStore$Operation;"⟩
abbrev cX3_parseDigits : ByteArray := prog_5_method_11_code
def yX3_parseDigits : MethodName := ⟨RX3, "parseDigits", "(IIZ)LOptimisticStore$Operation;"⟩
abbrev cX3_parseKey : ByteArray := prog_5_method_12_code
def yX3_parseKey : MethodName := ⟨RX3, "parseKey", "()I"⟩
abbrev cX3_pass : ByteArray := prog_5_method_13_code
def yX3_pass : MethodName := ⟨RX3, "pass", "(C)Z"⟩
abbrev cX3_current : ByteArray := prog_5_method_14_code
def yX3_current : MethodName := ⟨RX3, "current", "()C"⟩
abbrev cX3_isDigit : ByteArray := prog_5_method_15_code
def yX3_isDigit : MethodName := ⟨RX3, "isDigit", "(C)Z"⟩
def RX4 : String := "OptimisticStore$Transaction"
def TX4 : u_T := fun k => match k with
  | 0 => ("OptimisticStore$Transaction", "number", "I", true)
  | 1 => ("OptimisticStore$Transaction", "attemptNumber", "I", true)
  | 2 => ("OptimisticStore$Transaction", "operations", "[LOptimisticStore$Operation;", true)
  | 3 => ("OptimisticStore$Transaction", "recordedAt", "[I", true)
  | 4 => ("OptimisticStore$Transaction", "newValues", "[I", true)
  | 5 => ("OptimisticStore$Transaction", "operationsMade", "I", false)
  | 6 => ("OptimisticStore$Transaction", "recorded", "I", false)
  | 7 => ("OptimisticStore$Transaction", "written", "I", false)
  | 8 => ("OptimisticStore$Transaction", "state", "I", false)
  | 9 => ("OptimisticStore$Transaction", "abortReason", "I", false)
  | 10 => ("OptimisticStore$Transaction", "commitNumber", "I", false)
  | _ => ("OptimisticStore$Transaction", "retried", "Z", false)
def tyX4 : Nat → FieldType := fun k => match k with
  | 0 => .int
  | 1 => .int
  | 2 => .array (.object "OptimisticStore$Operation")
  | 3 => .array .int
  | 4 => .array .int
  | 5 => .int
  | 6 => .int
  | 7 => .int
  | 8 => .int
  | 9 => .int
  | 10 => .int
  | _ => .boolean
abbrev wsX40 : List Cond := u_ws RX4 TX4 12
theorem nmX4 : ∀ a, a < 12 → ∀ b, b < 12 → a ≠ b → (TX4 a).2.1 ≠ (TX4 b).2.1 := by decide +kernel
theorem tyX4_ok : ∀ k, k < 12 → parseFieldDescriptor (TX4 k).2.2.1 = some (tyX4 k) := by decide +kernel
abbrev cX4_init : ByteArray := prog_6_method_1_code
def yX4_init : MethodName := ⟨RX4, "<init>", "(II)V"⟩
abbrev cX4_canOperate : ByteArray := prog_6_method_2_code
def yX4_canOperate : MethodName := ⟨RX4, "canOperate", "()Z"⟩
abbrev cX4_hasRecorded : ByteArray := prog_6_method_3_code
def yX4_hasRecorded : MethodName := ⟨RX4, "hasRecorded", "(I)Z"⟩
abbrev cX4_hasWritten : ByteArray := prog_6_method_4_code
def yX4_hasWritten : MethodName := ⟨RX4, "hasWritten", "(I)Z"⟩
abbrev cX4_keep : ByteArray := prog_6_method_5_code
def yX4_keep : MethodName := ⟨RX4, "keep", "(LOptimisticStore$Operation;II)V"⟩
abbrev cX4_countPredicates : ByteArray := prog_6_method_6_code
def yX4_countPredicates : MethodName := ⟨RX4, "countPredicates", "()I"⟩
abbrev cX4_applyWrites : ByteArray := prog_6_method_7_code
def yX4_applyWrites : MethodName := ⟨RX4, "applyWrites", "([I)V"⟩
abbrev cX4_isHitBy : ByteArray := prog_6_method_8_code
def yX4_isHitBy : MethodName := ⟨RX4, "isHitBy", "(LOptimisticStore$Transaction;[I)Z"⟩
abbrev cX4_repeatsAlikeOn : ByteArray := prog_6_method_9_code
def yX4_repeatsAlikeOn : MethodName := ⟨RX4, "repeatsAlikeOn", "([I)Z"⟩
abbrev cX4_becomeAborted : ByteArray := prog_6_method_10_code
def yX4_becomeAborted : MethodName := ⟨RX4, "becomeAborted", "(I)V"⟩
def RX5 : String := "OptimisticStore"
def TX5 : u_T := fun k => match k with
  | 0 => ("OptimisticStore", "history", "LOptimisticStore$History;", true)
  | 1 => ("OptimisticStore", "transactions", "[LOptimisticStore$Transaction;", true)
  | 2 => ("OptimisticStore", "constraints", "[LOptimisticStore$Constraint;", true)
  | 3 => ("OptimisticStore", "script", "LOptimisticStore$Script;", true)
  | 4 => ("OptimisticStore", "viewRow", "[I", true)
  | 5 => ("OptimisticStore", "chainRow", "[I", true)
  | 6 => ("OptimisticStore", "begun", "I", false)
  | 7 => ("OptimisticStore", "constraintCount", "I", false)
  | 8 => ("OptimisticStore", "policy", "I", false)
  | 9 => ("OptimisticStore", "victimRule", "I", false)
  | 10 => ("OptimisticStore", "patience", "I", false)
  | _ => ("OptimisticStore", "holder", "I", false)
def tyX5 : Nat → FieldType := fun k => match k with
  | 0 => .object "OptimisticStore$History"
  | 1 => .array (.object "OptimisticStore$Transaction")
  | 2 => .array (.object "OptimisticStore$Constraint")
  | 3 => .object "OptimisticStore$Script"
  | 4 => .array .int
  | 5 => .array .int
  | 6 => .int
  | 7 => .int
  | 8 => .int
  | 9 => .int
  | 10 => .int
  | _ => .int
abbrev wsX50 : List Cond := u_ws RX5 TX5 12
theorem nmX5 : ∀ a, a < 12 → ∀ b, b < 12 → a ≠ b → (TX5 a).2.1 ≠ (TX5 b).2.1 := by decide +kernel
theorem tyX5_ok : ∀ k, k < 12 → parseFieldDescriptor (TX5 k).2.2.1 = some (tyX5 k) := by decide +kernel
abbrev cX5_init : ByteArray := prog_1_method_1_code
def yX5_init : MethodName := ⟨RX5, "<init>", "()V"⟩
abbrev cX5_configure : ByteArray := prog_1_method_2_code
def yX5_configure : MethodName := ⟨RX5, "configure", "(III)V"⟩
abbrev cX5_begin : ByteArray := prog_1_method_3_code
def yX5_begin : MethodName := ⟨RX5, "begin", "()I"⟩
abbrev cX5_retry : ByteArray := prog_1_method_4_code
def yX5_retry : MethodName := ⟨RX5, "retry", "(I)I"⟩
abbrev cX5_read : ByteArray := prog_1_method_5_code
def yX5_read : MethodName := ⟨RX5, "read", "(II)I"⟩
abbrev cX5_scan : ByteArray := prog_1_method_6_code
def yX5_scan : MethodName := ⟨RX5, "scan", "(IIII)I"⟩
abbrev cX5_sum : ByteArray := prog_1_method_7_code
def yX5_sum : MethodName := ⟨RX5, "sum", "(III)I"⟩
abbrev cX5_write : ByteArray := prog_1_method_8_code
def yX5_write : MethodName := ⟨RX5, "write", "(III)V"⟩
abbrev cX5_remove : ByteArray := prog_1_method_9_code
def yX5_remove : MethodName := ⟨RX5, "remove", "(II)V"⟩
abbrev cX5_add : ByteArray := prog_1_method_10_code
def yX5_add : MethodName := ⟨RX5, "add", "(III)I"⟩
abbrev cX5_commit : ByteArray := prog_1_method_11_code
def yX5_commit : MethodName := ⟨RX5, "commit", "(I)I"⟩
abbrev cX5_abort : ByteArray := prog_1_method_12_code
def yX5_abort : MethodName := ⟨RX5, "abort", "(I)V"⟩
abbrev cX5_clock : ByteArray := prog_1_method_13_code
def yX5_clock : MethodName := ⟨RX5, "clock", "()I"⟩
abbrev cX5_transactionCount : ByteArray := prog_1_method_14_code
def yX5_transactionCount : MethodName := ⟨RX5, "transactionCount", "()I"⟩
abbrev cX5_activeCount : ByteArray := prog_1_method_15_code
def yX5_activeCount : MethodName := ⟨RX5, "activeCount", "()I"⟩
abbrev cX5_ticketHolder : ByteArray := prog_1_method_16_code
def yX5_ticketHolder : MethodName := ⟨RX5, "ticketHolder", "()I"⟩
abbrev cX5_state : ByteArray := prog_1_method_17_code
def yX5_state : MethodName := ⟨RX5, "state", "(I)I"⟩
abbrev cX5_attempt : ByteArray := prog_1_method_18_code
def yX5_attempt : MethodName := ⟨RX5, "attempt", "(I)I"⟩
abbrev cX5_reason : ByteArray := prog_1_method_19_code
def yX5_reason : MethodName := ⟨RX5, "reason", "(I)I"⟩
abbrev cX5_commitOf : ByteArray := prog_1_method_20_code
def yX5_commitOf : MethodName := ⟨RX5, "commitOf", "(I)I"⟩
abbrev cX5_operationCount : ByteArray := prog_1_method_21_code
def yX5_operationCount : MethodName := ⟨RX5, "operationCount", "(I)I"⟩
abbrev cX5_recordedKeys : ByteArray := prog_1_method_22_code
def yX5_recordedKeys : MethodName := ⟨RX5, "recordedKeys", "(I)I"⟩
abbrev cX5_predicateCount : ByteArray := prog_1_method_23_code
def yX5_predicateCount : MethodName := ⟨RX5, "predicateCount", "(I)I"⟩
abbrev cX5_writtenKeys : ByteArray := prog_1_method_24_code
def yX5_writtenKeys : MethodName := ⟨RX5, "writtenKeys", "(I)I"⟩
abbrev cX5_isStale : ByteArray := prog_1_method_25_code
def yX5_isStale : MethodName := ⟨RX5, "isStale", "(I)Z"⟩
abbrev cX5_rivals : ByteArray := prog_1_method_26_code
def yX5_rivals : MethodName := ⟨RX5, "rivals", "(I)I"⟩
abbrev cX5_value : ByteArray := prog_1_method_27_code
def yX5_value : MethodName := ⟨RX5, "value", "(I)I"⟩
abbrev cX5_valueAt : ByteArray := prog_1_method_28_code
def yX5_valueAt : MethodName := ⟨RX5, "valueAt", "(II)I"⟩
abbrev cX5_writerOf : ByteArray := prog_1_method_29_code
def yX5_writerOf : MethodName := ⟨RX5, "writerOf", "(I)I"⟩
abbrev cX5_transactionOf : ByteArray := prog_1_method_30_code
def yX5_transactionOf : MethodName := ⟨RX5, "transactionOf", "(I)I"⟩
abbrev cX5_dependency : ByteArray := prog_1_method_31_code
def yX5_dependency : MethodName := ⟨RX5, "dependency", "(II)I"⟩
abbrev cX5_longestChain : ByteArray := prog_1_method_32_code
def yX5_longestChain : MethodName := ⟨RX5, "longestChain", "()I"⟩
abbrev cX5_serialFaults : ByteArray := prog_1_method_33_code
def yX5_serialFaults : MethodName := ⟨RX5, "serialFaults", "()I"⟩
abbrev cX5_rewind : ByteArray := prog_1_method_34_code
def yX5_rewind : MethodName := ⟨RX5, "rewind", "(I)I"⟩
abbrev cX5_addConstraint : ByteArray := prog_1_method_35_code
def yX5_addConstraint : MethodName := ⟨RX5, "addConstraint", "(IIII)I"⟩
abbrev cX5_clearConstraints : ByteArray := prog_1_method_36_code
def yX5_clearConstraints : MethodName := ⟨RX5, "clearConstraints", "()I"⟩
abbrev cX5_aborts : ByteArray := prog_1_method_37_code
def yX5_aborts : MethodName := ⟨RX5, "aborts", "(I)I"⟩
abbrev cX5_averageAttempts : ByteArray := prog_1_method_38_code
def yX5_averageAttempts : MethodName := ⟨RX5, "averageAttempts", "()D"⟩
abbrev cX5_abortRate : ByteArray := prog_1_method_39_code
def yX5_abortRate : MethodName := ⟨RX5, "abortRate", "()F"⟩
abbrev cX5_appendCharacter : ByteArray := prog_1_method_40_code
def yX5_appendCharacter : MethodName := ⟨RX5, "appendCharacter", "(I)I"⟩
abbrev cX5_runScript : ByteArray := prog_1_method_41_code
def yX5_runScript : MethodName := ⟨RX5, "runScript", "()I"⟩
abbrev cX5_faultPosition : ByteArray := prog_1_method_42_code
def yX5_faultPosition : MethodName := ⟨RX5, "faultPosition", "()I"⟩
abbrev cX5_isBetween : ByteArray := prog_1_method_43_code
def yX5_isBetween : MethodName := ⟨RX5, "isBetween", "(III)Z"⟩
abbrev cX5_isRange : ByteArray := prog_1_method_44_code
def yX5_isRange : MethodName := ⟨RX5, "isRange", "(II)Z"⟩
abbrev cX5_totalIn : ByteArray := prog_1_method_45_code
def yX5_totalIn : MethodName := ⟨RX5, "totalIn", "([III)I"⟩
abbrev cX5_countIn : ByteArray := prog_1_method_46_code
def yX5_countIn : MethodName := ⟨RX5, "countIn", "([IIII)I"⟩
abbrev cX5_requireKey : ByteArray := prog_1_method_47_code
def yX5_requireKey : MethodName := ⟨RX5, "requireKey", "(I)V"⟩
abbrev cX5_requireCommit : ByteArray := prog_1_method_48_code
def yX5_requireCommit : MethodName := ⟨RX5, "requireCommit", "(II)V"⟩
abbrev cX5_find : ByteArray := prog_1_method_49_code
def yX5_find : MethodName := ⟨RX5, "find", "(I)LOptimisticStore$Transaction;"⟩
abbrev cX5_findActive : ByteArray := prog_1_method_50_code
def yX5_findActive : MethodName := ⟨RX5, "findActive", "(I)LOptimisticStore$Transaction;"⟩
abbrev cX5_countInState : ByteArray := prog_1_method_51_code
def yX5_countInState : MethodName := ⟨RX5, "countInState", "(I)I"⟩
abbrev cX5_canStart : ByteArray := prog_1_method_52_code
def yX5_canStart : MethodName := ⟨RX5, "canStart", "()Z"⟩
abbrev cX5_start : ByteArray := prog_1_method_53_code
def yX5_start : MethodName := ⟨RX5, "start", "(I)LOptimisticStore$Transaction;"⟩
abbrev cX5_operate : ByteArray := prog_1_method_54_code
def yX5_operate : MethodName := ⟨RX5, "operate", "(ILOptimisticStore$Operation;)I"⟩
abbrev cX5_perform : ByteArray := prog_1_method_55_code
def yX5_perform : MethodName := ⟨RX5, "perform", "(LOptimisticStore$Transaction;LOptimisticStore$Operation;)I"⟩
abbrev cX5_viewOf : ByteArray := prog_1_method_56_code
def yX5_viewOf : MethodName := ⟨RX5, "viewOf", "(LOptimisticStore$Transaction;)[I"⟩
abbrev cX5_tryToCommit : ByteArray := prog_1_method_57_code
def yX5_tryToCommit : MethodName := ⟨RX5, "tryToCommit", "(LOptimisticStore$Transaction;)I"⟩
abbrev cX5_isBlocked : ByteArray := prog_1_method_58_code
def yX5_isBlocked : MethodName := ⟨RX5, "isBlocked", "(LOptimisticStore$Transaction;)Z"⟩
abbrev cX5_reasonToAbort : ByteArray := prog_1_method_59_code
def yX5_reasonToAbort : MethodName := ⟨RX5, "reasonToAbort", "(LOptimisticStore$Transaction;)I"⟩
abbrev cX5_losesToRivals : ByteArray := prog_1_method_60_code
def yX5_losesToRivals : MethodName := ⟨RX5, "losesToRivals", "(LOptimisticStore$Transaction;)Z"⟩
abbrev cX5_violatesConstraint : ByteArray := prog_1_method_61_code
def yX5_violatesConstraint : MethodName := ⟨RX5, "violatesConstraint", "([I)Z"⟩
abbrev cX5_isRival : ByteArray := prog_1_method_62_code
def yX5_isRival : MethodName := ⟨RX5, "isRival", "(LOptimisticStore$Transaction;LOptimisticStore$Transaction;)Z"⟩
abbrev cX5_countRivals : ByteArray := prog_1_method_63_code
def yX5_countRivals : MethodName := ⟨RX5, "countRivals", "(LOptimisticStore$Transaction;)I"⟩
abbrev cX5_abortRivals : ByteArray := prog_1_method_64_code
def yX5_abortRivals : MethodName := ⟨RX5, "abortRivals", "(LOptimisticStore$Transaction;)V"⟩
abbrev cX5_endInAbort : ByteArray := prog_1_method_65_code
def yX5_endInAbort : MethodName := ⟨RX5, "endInAbort", "(LOptimisticStore$Transaction;I)V"⟩
abbrev cX5_releaseTicket : ByteArray := prog_1_method_66_code
def yX5_releaseTicket : MethodName := ⟨RX5, "releaseTicket", "(LOptimisticStore$Transaction;)V"⟩
abbrev cX5_performSteps : ByteArray := prog_1_method_67_code
def yX5_performSteps : MethodName := ⟨RX5, "performSteps", "(LOptimisticStore$Transaction;)Z"⟩
abbrev cX5_isAllowed : ByteArray := prog_1_method_68_code
def yX5_isAllowed : MethodName := ⟨RX5, "isAllowed", "(LOptimisticStore$Transaction;LOptimisticStore$Operation;)Z"⟩
def RX6 : String := "OptimisticStoreModel"
def TX6 : u_T := fun k => match k with
  | 0 => ("OptimisticStoreModel", "thrown", "I", false)
  | 1 => ("OptimisticStoreModel", "many", "I", false)
  | 2 => ("OptimisticStoreModel", "states", "[I", true)
  | 3 => ("OptimisticStoreModel", "attempts", "[I", true)
  | 4 => ("OptimisticStoreModel", "reasons", "[I", true)
  | 5 => ("OptimisticStoreModel", "numbers", "[I", true)
  | 6 => ("OptimisticStoreModel", "isRetried", "[Z", true)
  | 7 => ("OptimisticStoreModel", "sizes", "[I", true)
  | 8 => ("OptimisticStoreModel", "operations", "[I", true)
  | 9 => ("OptimisticStoreModel", "records", "[I", true)
  | 10 => ("OptimisticStoreModel", "writes", "[I", true)
  | 11 => ("OptimisticStoreModel", "predicates", "[I", true)
  | 12 => ("OptimisticStoreModel", "predicateSizes", "[I", true)
  | 13 => ("OptimisticStoreModel", "ticket", "I", false)
  | 14 => ("OptimisticStoreModel", "clock", "I", false)
  | 15 => ("OptimisticStoreModel", "values", "[I", true)
  | 16 => ("OptimisticStoreModel", "committers", "[I", true)
  | 17 => ("OptimisticStoreModel", "policy", "I", false)
  | 18 => ("OptimisticStoreModel", "rule", "I", false)
  | 19 => ("OptimisticStoreModel", "patience", "I", false)
  | 20 => ("OptimisticStoreModel", "constraints", "[I", true)
  | 21 => ("OptimisticStoreModel", "constraintMany", "I", false)
  | 22 => ("OptimisticStoreModel", "chain", "[I", true)
  | 23 => ("OptimisticStoreModel", "view", "[I", true)
  | 24 => ("OptimisticStoreModel", "text", "[I", true)
  | 25 => ("OptimisticStoreModel", "typed", "I", false)
  | 26 => ("OptimisticStoreModel", "end", "I", false)
  | 27 => ("OptimisticStoreModel", "at", "I", false)
  | 28 => ("OptimisticStoreModel", "fault", "I", false)
  | 29 => ("OptimisticStoreModel", "steps", "[I", true)
  | _ => ("OptimisticStoreModel", "stepMany", "I", false)
def tyX6 : Nat → FieldType := fun k => match k with
  | 0 => .int
  | 1 => .int
  | 2 => .array .int
  | 3 => .array .int
  | 4 => .array .int
  | 5 => .array .int
  | 6 => .array .boolean
  | 7 => .array .int
  | 8 => .array .int
  | 9 => .array .int
  | 10 => .array .int
  | 11 => .array .int
  | 12 => .array .int
  | 13 => .int
  | 14 => .int
  | 15 => .array .int
  | 16 => .array .int
  | 17 => .int
  | 18 => .int
  | 19 => .int
  | 20 => .array .int
  | 21 => .int
  | 22 => .array .int
  | 23 => .array .int
  | 24 => .array .int
  | 25 => .int
  | 26 => .int
  | 27 => .int
  | 28 => .int
  | 29 => .array .int
  | _ => .int
abbrev wsX60 : List Cond := u_ws RX6 TX6 31
theorem nmX6 : ∀ a, a < 31 → ∀ b, b < 31 → a ≠ b → (TX6 a).2.1 ≠ (TX6 b).2.1 := by decide +kernel
theorem tyX6_ok : ∀ k, k < 31 → parseFieldDescriptor (TX6 k).2.2.1 = some (tyX6 k) := by decide +kernel
abbrev cX6_isIn : ByteArray := prog_8_method_1_code
def yX6_isIn : MethodName := ⟨RX6, "isIn", "(III)Z"⟩
abbrev cX6_thrown : ByteArray := prog_8_method_2_code
def yX6_thrown : MethodName := ⟨RX6, "thrown", "()I"⟩
abbrev cX6_fail : ByteArray := prog_8_method_3_code
def yX6_fail : MethodName := ⟨RX6, "fail", "(I)I"⟩
abbrev cX6_init : ByteArray := prog_8_method_4_code
def yX6_init : MethodName := ⟨RX6, "<init>", "()V"⟩
abbrev cX6_stored : ByteArray := prog_8_method_5_code
def yX6_stored : MethodName := ⟨RX6, "stored", "(II)I"⟩
abbrev cX6_isTransaction : ByteArray := prog_8_method_6_code
def yX6_isTransaction : MethodName := ⟨RX6, "isTransaction", "(I)Z"⟩
abbrev cX6_isKey : ByteArray := prog_8_method_7_code
def yX6_isKey : MethodName := ⟨RX6, "isKey", "(I)Z"⟩
abbrev cX6_isRange : ByteArray := prog_8_method_8_code
def yX6_isRange : MethodName := ⟨RX6, "isRange", "(II)Z"⟩
abbrev cX6_activeNow : ByteArray := prog_8_method_9_code
def yX6_activeNow : MethodName := ⟨RX6, "activeNow", "()I"⟩
abbrev cX6_configure : ByteArray := prog_8_method_10_code
def yX6_configure : MethodName := ⟨RX6, "configure", "(III)V"⟩
abbrev cX6_hasRoom : ByteArray := prog_8_method_11_code
def yX6_hasRoom : MethodName := ⟨RX6, "hasRoom", "()Z"⟩
abbrev cX6_beginWith : ByteArray := prog_8_method_12_code
def yX6_beginWith : MethodName := ⟨RX6, "beginWith", "(I)I"⟩
abbrev cX6_begin : ByteArray := prog_8_method_13_code
def yX6_begin : MethodName := ⟨RX6, "begin", "()I"⟩
abbrev cX6_retry : ByteArray := prog_8_method_14_code
def yX6_retry : MethodName := ⟨RX6, "retry", "(I)I"⟩
abbrev cX6_viewed : ByteArray := prog_8_method_15_code
def yX6_viewed : MethodName := ⟨RX6, "viewed", "(II)I"⟩
abbrev cX6_recordKey : ByteArray := prog_8_method_16_code
def yX6_recordKey : MethodName := ⟨RX6, "recordKey", "(II)V"⟩
abbrev cX6_recordRange : ByteArray := prog_8_method_17_code
def yX6_recordRange : MethodName := ⟨RX6, "recordRange", "(IIII)V"⟩
abbrev cX6_list : ByteArray := prog_8_method_18_code
def yX6_list : MethodName := ⟨RX6, "list", "(IIIIII)V"⟩
abbrev cX6_problem : ByteArray := prog_8_method_19_code
def yX6_problem : MethodName := ⟨RX6, "problem", "(IZ)I"⟩
abbrev cX6_read : ByteArray := prog_8_method_20_code
def yX6_read : MethodName := ⟨RX6, "read", "(II)I"⟩
abbrev cX6_counted : ByteArray := prog_8_method_21_code
def yX6_counted : MethodName := ⟨RX6, "counted", "(IIII)I"⟩
abbrev cX6_scan : ByteArray := prog_8_method_22_code
def yX6_scan : MethodName := ⟨RX6, "scan", "(IIII)I"⟩
abbrev cX6_summed : ByteArray := prog_8_method_23_code
def yX6_summed : MethodName := ⟨RX6, "summed", "(III)I"⟩
abbrev cX6_sum : ByteArray := prog_8_method_24_code
def yX6_sum : MethodName := ⟨RX6, "sum", "(III)I"⟩
abbrev cX6_write : ByteArray := prog_8_method_25_code
def yX6_write : MethodName := ⟨RX6, "write", "(III)V"⟩
abbrev cX6_remove : ByteArray := prog_8_method_26_code
def yX6_remove : MethodName := ⟨RX6, "remove", "(II)V"⟩
abbrev cX6_addedTo : ByteArray := prog_8_method_27_code
def yX6_addedTo : MethodName := ⟨RX6, "addedTo", "(II)I"⟩
abbrev cX6_add : ByteArray := prog_8_method_28_code
def yX6_add : MethodName := ⟨RX6, "add", "(III)I"⟩
abbrev cX6_touches : ByteArray := prog_8_method_29_code
def yX6_touches : MethodName := ⟨RX6, "touches", "(IIII)Z"⟩
abbrev cX6_touchesAny : ByteArray := prog_8_method_30_code
def yX6_touchesAny : MethodName := ⟨RX6, "touchesAny", "(IIIII)Z"⟩
abbrev cX6_conflicts : ByteArray := prog_8_method_31_code
def yX6_conflicts : MethodName := ⟨RX6, "conflicts", "(II)Z"⟩
abbrev cX6_isRival : ByteArray := prog_8_method_32_code
def yX6_isRival : MethodName := ⟨RX6, "isRival", "(II)Z"⟩
abbrev cX6_countRivals : ByteArray := prog_8_method_33_code
def yX6_countRivals : MethodName := ⟨RX6, "countRivals", "(I)I"⟩
abbrev cX6_hasWritten : ByteArray := prog_8_method_34_code
def yX6_hasWritten : MethodName := ⟨RX6, "hasWritten", "(II)Z"⟩
abbrev cX6_staleness : ByteArray := prog_8_method_35_code
def yX6_staleness : MethodName := ⟨RX6, "staleness", "(I)I"⟩
abbrev cX6_activeProblem : ByteArray := prog_8_method_36_code
def yX6_activeProblem : MethodName := ⟨RX6, "activeProblem", "(I)I"⟩
abbrev cX6_isStale : ByteArray := prog_8_method_37_code
def yX6_isStale : MethodName := ⟨RX6, "isStale", "(I)Z"⟩
abbrev cX6_rivals : ByteArray := prog_8_method_38_code
def yX6_rivals : MethodName := ⟨RX6, "rivals", "(I)I"⟩
abbrev cX6_endWith : ByteArray := prog_8_method_39_code
def yX6_endWith : MethodName := ⟨RX6, "endWith", "(II)V"⟩
abbrev cX6_loses : ByteArray := prog_8_method_40_code
def yX6_loses : MethodName := ⟨RX6, "loses", "(I)Z"⟩
abbrev cX6_isViolated : ByteArray := prog_8_method_41_code
def yX6_isViolated : MethodName := ⟨RX6, "isViolated", "(II)Z"⟩
abbrev cX6_violates : ByteArray := prog_8_method_42_code
def yX6_violates : MethodName := ⟨RX6, "violates", "(I)Z"⟩
abbrev cX6_doCommit : ByteArray := prog_8_method_43_code
def yX6_doCommit : MethodName := ⟨RX6, "doCommit", "(I)I"⟩
abbrev cX6_commit : ByteArray := prog_8_method_44_code
def yX6_commit : MethodName := ⟨RX6, "commit", "(I)I"⟩
abbrev cX6_abort : ByteArray := prog_8_method_45_code
def yX6_abort : MethodName := ⟨RX6, "abort", "(I)V"⟩
abbrev cX6_clock : ByteArray := prog_8_method_46_code
def yX6_clock : MethodName := ⟨RX6, "clock", "()I"⟩
abbrev cX6_transactionCount : ByteArray := prog_8_method_47_code
def yX6_transactionCount : MethodName := ⟨RX6, "transactionCount", "()I"⟩
abbrev cX6_activeCount : ByteArray := prog_8_method_48_code
def yX6_activeCount : MethodName := ⟨RX6, "activeCount", "()I"⟩
abbrev cX6_ticketHolder : ByteArray := prog_8_method_49_code
def yX6_ticketHolder : MethodName := ⟨RX6, "ticketHolder", "()I"⟩
abbrev cX6_state : ByteArray := prog_8_method_50_code
def yX6_state : MethodName := ⟨RX6, "state", "(I)I"⟩
abbrev cX6_attempt : ByteArray := prog_8_method_51_code
def yX6_attempt : MethodName := ⟨RX6, "attempt", "(I)I"⟩
abbrev cX6_reason : ByteArray := prog_8_method_52_code
def yX6_reason : MethodName := ⟨RX6, "reason", "(I)I"⟩
abbrev cX6_commitOf : ByteArray := prog_8_method_53_code
def yX6_commitOf : MethodName := ⟨RX6, "commitOf", "(I)I"⟩
abbrev cX6_operationCount : ByteArray := prog_8_method_54_code
def yX6_operationCount : MethodName := ⟨RX6, "operationCount", "(I)I"⟩
abbrev cX6_recordedKeys : ByteArray := prog_8_method_55_code
def yX6_recordedKeys : MethodName := ⟨RX6, "recordedKeys", "(I)I"⟩
abbrev cX6_predicateCount : ByteArray := prog_8_method_56_code
def yX6_predicateCount : MethodName := ⟨RX6, "predicateCount", "(I)I"⟩
abbrev cX6_writtenKeys : ByteArray := prog_8_method_57_code
def yX6_writtenKeys : MethodName := ⟨RX6, "writtenKeys", "(I)I"⟩
abbrev cX6_value : ByteArray := prog_8_method_58_code
def yX6_value : MethodName := ⟨RX6, "value", "(I)I"⟩
abbrev cX6_valueAt : ByteArray := prog_8_method_59_code
def yX6_valueAt : MethodName := ⟨RX6, "valueAt", "(II)I"⟩
abbrev cX6_lastWriter : ByteArray := prog_8_method_60_code
def yX6_lastWriter : MethodName := ⟨RX6, "lastWriter", "(II)I"⟩
abbrev cX6_writerOf : ByteArray := prog_8_method_61_code
def yX6_writerOf : MethodName := ⟨RX6, "writerOf", "(I)I"⟩
abbrev cX6_isCommit : ByteArray := prog_8_method_62_code
def yX6_isCommit : MethodName := ⟨RX6, "isCommit", "(I)Z"⟩
abbrev cX6_transactionOf : ByteArray := prog_8_method_63_code
def yX6_transactionOf : MethodName := ⟨RX6, "transactionOf", "(I)I"⟩
abbrev cX6_dependencyOf : ByteArray := prog_8_method_64_code
def yX6_dependencyOf : MethodName := ⟨RX6, "dependencyOf", "(II)I"⟩
abbrev cX6_dependency : ByteArray := prog_8_method_65_code
def yX6_dependency : MethodName := ⟨RX6, "dependency", "(II)I"⟩
abbrev cX6_longestChain : ByteArray := prog_8_method_66_code
def yX6_longestChain : MethodName := ⟨RX6, "longestChain", "()I"⟩
abbrev cX6_again : ByteArray := prog_8_method_67_code
def yX6_again : MethodName := ⟨RX6, "again", "(I)I"⟩
abbrev cX6_hasFault : ByteArray := prog_8_method_68_code
def yX6_hasFault : MethodName := ⟨RX6, "hasFault", "(I)Z"⟩
abbrev cX6_serialFaults : ByteArray := prog_8_method_69_code
def yX6_serialFaults : MethodName := ⟨RX6, "serialFaults", "()I"⟩
abbrev cX6_rewind : ByteArray := prog_8_method_70_code
def yX6_rewind : MethodName := ⟨RX6, "rewind", "(I)I"⟩
abbrev cX6_addConstraint : ByteArray := prog_8_method_71_code
def yX6_addConstraint : MethodName := ⟨RX6, "addConstraint", "(IIII)I"⟩
abbrev cX6_clearConstraints : ByteArray := prog_8_method_72_code
def yX6_clearConstraints : MethodName := ⟨RX6, "clearConstraints", "()I"⟩
abbrev cX6_countOf : ByteArray := prog_8_method_73_code
def yX6_countOf : MethodName := ⟨RX6, "countOf", "(II)I"⟩
abbrev cX6_aborts : ByteArray := prog_8_method_74_code
def yX6_aborts : MethodName := ⟨RX6, "aborts", "(I)I"⟩
abbrev cX6_averageAttempts : ByteArray := prog_8_method_75_code
def yX6_averageAttempts : MethodName := ⟨RX6, "averageAttempts", "()D"⟩
abbrev cX6_abortRate : ByteArray := prog_8_method_76_code
def yX6_abortRate : MethodName := ⟨RX6, "abortRate", "()F"⟩
abbrev cX6_appendCharacter : ByteArray := prog_8_method_77_code
def yX6_appendCharacter : MethodName := ⟨RX6, "appendCharacter", "(I)I"⟩
abbrev cX6_sign : ByteArray := prog_8_method_78_code
def yX6_sign : MethodName := ⟨RX6, "sign", "()I"⟩
abbrev cX6_goes : ByteArray := prog_8_method_79_code
def yX6_goes : MethodName := ⟨RX6, "goes", "(C)Z"⟩
abbrev cX6_fault : ByteArray := prog_8_method_80_code
def yX6_fault : MethodName := ⟨RX6, "fault", "()V"⟩
abbrev cX6_expect : ByteArray := prog_8_method_81_code
def yX6_expect : MethodName := ⟨RX6, "expect", "(C)V"⟩
abbrev cX6_isDigit : ByteArray := prog_8_method_82_code
def yX6_isDigit : MethodName := ⟨RX6, "isDigit", "()Z"⟩
abbrev cX6_digits : ByteArray := prog_8_method_83_code
def yX6_digits : MethodName := ⟨RX6, "digits", "(II)I"⟩
abbrev cX6_readKey : ByteArray := prog_8_method_84_code
def yX6_readKey : MethodName := ⟨RX6, "readKey", "()I"⟩
abbrev cX6_readStep : ByteArray := prog_8_method_85_code
def yX6_readStep : MethodName := ⟨RX6, "readStep", "()V"⟩
abbrev cX6_readScript : ByteArray := prog_8_method_86_code
def yX6_readScript : MethodName := ⟨RX6, "readScript", "()V"⟩
abbrev cX6_doStep : ByteArray := prog_8_method_87_code
def yX6_doStep : MethodName := ⟨RX6, "doStep", "(II)V"⟩
abbrev cX6_runScript : ByteArray := prog_8_method_88_code
def yX6_runScript : MethodName := ⟨RX6, "runScript", "()I"⟩
abbrev cX6_faultPosition : ByteArray := prog_8_method_89_code
def yX6_faultPosition : MethodName := ⟨RX6, "faultPosition", "()I"⟩
def RJx145de : String := "java/io/Serializable"
def TJx145de : u_T := fun k => match k with
  | _ => ("", "", "", false)
def tyJx145de : Nat → FieldType := fun k => match k with
  | _ => .int
abbrev wsJx145de0 : List Cond := u_ws RJx145de TJx145de 0
theorem nmJx145de : ∀ a, a < 0 → ∀ b, b < 0 → a ≠ b → (TJx145de a).2.1 ≠ (TJx145de b).2.1 := by decide +kernel
theorem tyJx145de_ok : ∀ k, k < 0 → parseFieldDescriptor (TJx145de k).2.2.1 = some (tyJx145de k) := by decide +kernel
def RJx00060 : String := "java/lang/ArrayIndexOutOfBoundsException"
def TJx00060 : u_T := fun k => match k with
  | 0 => ("java/lang/Throwable", "backtrace", "Ljava/lang/Object;", false)
  | 1 => ("java/lang/Throwable", "detailMessage", "Ljava/lang/String;", false)
  | 2 => ("java/lang/Throwable", "cause", "Ljava/lang/Throwable;", false)
  | 3 => ("java/lang/Throwable", "stackTrace", "[Ljava/lang/StackTraceElement;", false)
  | 4 => ("java/lang/Throwable", "depth", "I", false)
  | _ => ("java/lang/Throwable", "suppressedExceptions", "Ljava/util/List;", false)
def tyJx00060 : Nat → FieldType := fun k => match k with
  | 0 => .object "java/lang/Object"
  | 1 => .object "java/lang/String"
  | 2 => .object "java/lang/Throwable"
  | 3 => .array (.object "java/lang/StackTraceElement")
  | 4 => .int
  | _ => .object "java/util/List"
abbrev wsJx000600 : List Cond := u_ws RJx00060 TJx00060 6
theorem nmJx00060 : ∀ a, a < 6 → ∀ b, b < 6 → a ≠ b → (TJx00060 a).2.1 ≠ (TJx00060 b).2.1 := by decide +kernel
theorem tyJx00060_ok : ∀ k, k < 6 → parseFieldDescriptor (TJx00060 k).2.2.1 = some (tyJx00060 k) := by decide +kernel
abbrev cJx00060_init_a7421 : ByteArray := prog_11_method_2_code
def yJx00060_init_a7421 : MethodName := ⟨RJx00060, "<init>", "(Ljava/lang/String;)V"⟩
def RJ9 : String := "java/lang/Math"
def TJ9 : u_T := fun k => match k with
  | _ => ("", "", "", false)
def tyJ9 : Nat → FieldType := fun k => match k with
  | _ => .int
abbrev wsJ90 : List Cond := u_ws RJ9 TJ9 0
theorem nmJ9 : ∀ a, a < 0 → ∀ b, b < 0 → a ≠ b → (TJ9 a).2.1 ≠ (TJ9 b).2.1 := by decide +kernel
theorem tyJ9_ok : ∀ k, k < 0 → parseFieldDescriptor (TJ9 k).2.2.1 = some (tyJ9 k) := by decide +kernel
abbrev cJ9_max_7cf53 : ByteArray := prog_16_method_65_code
def yJ9_max_7cf53 : MethodName := ⟨RJ9, "max", "(II)I"⟩
def RJ0 : String := "java/lang/String"
def TJ0 : u_T := fun k => match k with
  | 0 => ("java/lang/String", "value", "[B", true)
  | _ => ("java/lang/String", "coder", "B", true)
def tyJ0 : Nat → FieldType := fun k => match k with
  | 0 => .array .byte
  | _ => .byte
abbrev wsJ00 : List Cond := u_ws RJ0 TJ0 2
theorem nmJ0 : ∀ a, a < 2 → ∀ b, b < 2 → a ≠ b → (TJ0 a).2.1 ≠ (TJ0 b).2.1 := by decide +kernel
theorem tyJ0_ok : ∀ k, k < 2 → parseFieldDescriptor (TJ0 k).2.2.1 = some (tyJ0 k) := by decide +kernel
def RJ10 : String := "java/lang/System"
def TJ10 : u_T := fun k => match k with
  | _ => ("", "", "", false)
def tyJ10 : Nat → FieldType := fun k => match k with
  | _ => .int
abbrev wsJ100 : List Cond := u_ws RJ10 TJ10 0
theorem nmJ10 : ∀ a, a < 0 → ∀ b, b < 0 → a ≠ b → (TJ10 a).2.1 ≠ (TJ10 b).2.1 := by decide +kernel
theorem tyJ10_ok : ∀ k, k < 0 → parseFieldDescriptor (TJ10 k).2.2.1 = some (tyJ10 k) := by decide +kernel
def RJ7 : String := "java/util/Arrays"
def TJ7 : u_T := fun k => match k with
  | _ => ("", "", "", false)
def tyJ7 : Nat → FieldType := fun k => match k with
  | _ => .int
abbrev wsJ70 : List Cond := u_ws RJ7 TJ7 0
theorem nmJ7 : ∀ a, a < 0 → ∀ b, b < 0 → a ≠ b → (TJ7 a).2.1 ≠ (TJ7 b).2.1 := by decide +kernel
theorem tyJ7_ok : ∀ k, k < 0 → parseFieldDescriptor (TJ7 k).2.2.1 = some (tyJ7 k) := by decide +kernel
abbrev cJ7_fill_53178 : ByteArray := prog_21_method_103_code
def yJ7_fill_53178 : MethodName := ⟨RJ7, "fill", "([II)V"⟩
def RL : String := "OptimisticStoreLaw"
abbrev cL_configure : ByteArray := method_3_code
def yL_configure : MethodName := ⟨RL, "configure", "(LOptimisticStore;III)I"⟩
abbrev cL_begin : ByteArray := method_4_code
def yL_begin : MethodName := ⟨RL, "begin", "(LOptimisticStore;[J)I"⟩
abbrev cL_retry : ByteArray := method_5_code
def yL_retry : MethodName := ⟨RL, "retry", "(LOptimisticStore;I[J)I"⟩
abbrev cL_read : ByteArray := method_6_code
def yL_read : MethodName := ⟨RL, "read", "(LOptimisticStore;II[J)I"⟩
abbrev cL_scan : ByteArray := method_7_code
def yL_scan : MethodName := ⟨RL, "scan", "(LOptimisticStore;IIII[J)I"⟩
abbrev cL_sum : ByteArray := method_8_code
def yL_sum : MethodName := ⟨RL, "sum", "(LOptimisticStore;III[J)I"⟩
abbrev cL_write : ByteArray := method_9_code
def yL_write : MethodName := ⟨RL, "write", "(LOptimisticStore;III)I"⟩
abbrev cL_remove : ByteArray := method_10_code
def yL_remove : MethodName := ⟨RL, "remove", "(LOptimisticStore;II)I"⟩
abbrev cL_add : ByteArray := method_11_code
def yL_add : MethodName := ⟨RL, "add", "(LOptimisticStore;III[J)I"⟩
abbrev cL_commit : ByteArray := method_12_code
def yL_commit : MethodName := ⟨RL, "commit", "(LOptimisticStore;I[J)I"⟩
abbrev cL_abort : ByteArray := method_13_code
def yL_abort : MethodName := ⟨RL, "abort", "(LOptimisticStore;I)I"⟩
abbrev cL_ticketHolder : ByteArray := method_14_code
def yL_ticketHolder : MethodName := ⟨RL, "ticketHolder", "(LOptimisticStore;[J)I"⟩
abbrev cL_state : ByteArray := method_15_code
def yL_state : MethodName := ⟨RL, "state", "(LOptimisticStore;I[J)I"⟩
abbrev cL_attempt : ByteArray := method_16_code
def yL_attempt : MethodName := ⟨RL, "attempt", "(LOptimisticStore;I[J)I"⟩
abbrev cL_reason : ByteArray := method_17_code
def yL_reason : MethodName := ⟨RL, "reason", "(LOptimisticStore;I[J)I"⟩
abbrev cL_commitOf : ByteArray := method_18_code
def yL_commitOf : MethodName := ⟨RL, "commitOf", "(LOptimisticStore;I[J)I"⟩
abbrev cL_operationCount : ByteArray := method_19_code
def yL_operationCount : MethodName := ⟨RL, "operationCount", "(LOptimisticStore;I[J)I"⟩
abbrev cL_recordedKeys : ByteArray := method_20_code
def yL_recordedKeys : MethodName := ⟨RL, "recordedKeys", "(LOptimisticStore;I[J)I"⟩
abbrev cL_predicateCount : ByteArray := method_21_code
def yL_predicateCount : MethodName := ⟨RL, "predicateCount", "(LOptimisticStore;I[J)I"⟩
abbrev cL_writtenKeys : ByteArray := method_22_code
def yL_writtenKeys : MethodName := ⟨RL, "writtenKeys", "(LOptimisticStore;I[J)I"⟩
abbrev cL_isStale : ByteArray := method_23_code
def yL_isStale : MethodName := ⟨RL, "isStale", "(LOptimisticStore;I[J)I"⟩
abbrev cL_rivals : ByteArray := method_24_code
def yL_rivals : MethodName := ⟨RL, "rivals", "(LOptimisticStore;I[J)I"⟩
abbrev cL_value : ByteArray := method_25_code
def yL_value : MethodName := ⟨RL, "value", "(LOptimisticStore;I[J)I"⟩
abbrev cL_valueAt : ByteArray := method_26_code
def yL_valueAt : MethodName := ⟨RL, "valueAt", "(LOptimisticStore;II[J)I"⟩
abbrev cL_writerOf : ByteArray := method_27_code
def yL_writerOf : MethodName := ⟨RL, "writerOf", "(LOptimisticStore;I[J)I"⟩
abbrev cL_transactionOf : ByteArray := method_28_code
def yL_transactionOf : MethodName := ⟨RL, "transactionOf", "(LOptimisticStore;I[J)I"⟩
abbrev cL_dependency : ByteArray := method_29_code
def yL_dependency : MethodName := ⟨RL, "dependency", "(LOptimisticStore;II[J)I"⟩
abbrev cL_rewind : ByteArray := method_30_code
def yL_rewind : MethodName := ⟨RL, "rewind", "(LOptimisticStore;I[J)I"⟩
abbrev cL_addConstraint : ByteArray := method_31_code
def yL_addConstraint : MethodName := ⟨RL, "addConstraint", "(LOptimisticStore;IIII[J)I"⟩
abbrev cL_aborts : ByteArray := method_32_code
def yL_aborts : MethodName := ⟨RL, "aborts", "(LOptimisticStore;I[J)I"⟩
abbrev cL_averageAttempts : ByteArray := method_33_code
def yL_averageAttempts : MethodName := ⟨RL, "averageAttempts", "(LOptimisticStore;[D)I"⟩
abbrev cL_abortRate : ByteArray := method_34_code
def yL_abortRate : MethodName := ⟨RL, "abortRate", "(LOptimisticStore;[D)I"⟩
abbrev cL_appendCharacter : ByteArray := method_35_code
def yL_appendCharacter : MethodName := ⟨RL, "appendCharacter", "(LOptimisticStore;I[J)I"⟩
abbrev cL_runScript : ByteArray := method_36_code
def yL_runScript : MethodName := ⟨RL, "runScript", "(LOptimisticStore;[J)I"⟩
abbrev cL_law : ByteArray := code
def yL_law : MethodName := ⟨RL, "law", "([I)Z"⟩
end
section
/-! THE MODEL STATE: kinds, ints, references, longs, doubles, by address and place -/
abbrev MS : Type := (Nat → Nat × Nat) × (Nat → Nat → Int32) × (Nat → Nat → Nat) × (Nat → Nat → Int64) × (Nat → Nat → UInt64)
def kT (S : MS) (a : Nat) : Nat := (S.1 a).1
def kL (S : MS) (a : Nat) : Nat := (S.1 a).2
def sI (S : MS) : Nat → Nat → Int32 := S.2.1
def sR (S : MS) : Nat → Nat → Nat := S.2.2.1
def sL (S : MS) : Nat → Nat → Int64 := S.2.2.2.1
def sD (S : MS) : Nat → Nat → UInt64 := S.2.2.2.2
def u2 {α : Type} (f : Nat → Nat → α) (a k : Nat) (v : α) : Nat → Nat → α := fun b j => if b = a then (if j = k then v else f b j) else f b j
def pI (S : MS) (a k : Nat) (v : Int32) : MS := (S.1, u2 S.2.1 a k v, S.2.2)
def pR (S : MS) (a k v : Nat) : MS := (S.1, S.2.1, u2 S.2.2.1 a k v, S.2.2.2)
def pL (S : MS) (a k : Nat) (v : Int64) : MS := (S.1, S.2.1, S.2.2.1, u2 S.2.2.2.1 a k v, S.2.2.2.2)
def pD (S : MS) (a k : Nat) (v : UInt64) : MS := (S.1, S.2.1, S.2.2.1, S.2.2.2.1, u2 S.2.2.2.2 a k v)
def nw (S : MS) (q tag len : Nat) : MS := (fun a => if a = q then (tag, len) else S.1 a, fun a k => if a = q then 0 else S.2.1 a k, fun a k => if a = q then 0 else S.2.2.1 a k, fun a k => if a = q then 0 else S.2.2.2.1 a k, fun a k => if a = q then 0 else S.2.2.2.2 a k)
def op (x : Nat) : Option Nat := if x = 0 then none else some x
def rf (x : Nat) : Value := va_rf (op x)
def ix (i : Int32) : Nat := i.toNatClampNeg
def fl (tag : Nat) : List Bool := match tag with
  | 1 => [false, false, false, false]
  | 2 => [true, true, false]
  | 3 => [false, false, false, false, false, false]
  | 4 => [true, true, false, false, false, false]
  | 5 => [false, false, true, true, true, false, false, false, false, false, false, false]
  | 6 => [true, true, true, true, true, true, false, false, false, false, false, false]
  | _ => [false, false, true, true, true, true, true, true, true, true, true, true, true, false, false, true, true, false, false, false, true, false, true, true, true, false, false, false, false, true, false]
def fv (S : MS) (a : Nat) : Nat → List Bool → List Value
  | _, [] => []
  | k, b :: bs => (if b then rf (sR S a k) else .int (sI S a k)) :: fv S a (k + 1) bs
def cellOf (cy : Nat → ClassId) (S : MS) (a : Nat) : va_E :=
  if kT S a ≤ 7 then .inr (kT S a - 1, fv S a 0 (fl (kT S a)))
  else if kT S a ≤ 10 then .inl (cy (kT S a), kL S a, .inl (sI S a))
  else if kT S a ≤ 14 then .inl (cy (kT S a), kL S a, .inr (.inr (.inr (.inr (fun i => op (sR S a i))))))
  else if kT S a = 15 then .inl (cy (kT S a), kL S a, .inr (.inl (sL S a)))
  else .inl (cy (kT S a), kL S a, .inr (.inr (.inr (.inl (sD S a)))))
abbrev GP : Type := va_G × (Nat → ClassId) × Nat
abbrev cls : List vw_C := [(RX0, TX0, 4), (RX1, TX1, 3), (RX2, TX2, 6), (RX3, TX3, 6), (RX4, TX4, 12), (RX5, TX5, 12), (RX6, TX6, 31)]
abbrev tysOf (G : GP) : List (ClassId × FieldType) := [(G.2.1 8, .char), (G.2.1 9, .int), (G.2.1 10, .boolean), (G.2.1 11, .object RX0), (G.2.1 12, .object RX2), (G.2.1 13, .object RX4), (G.2.1 14, .array .int), (G.2.1 15, .long), (G.2.1 16, .double)]
abbrev Ab (G : GP) : Nat → Prop := fun q => G.2.2 ≤ q
def HR (G : GP) (S : MS) (H : Heap) : Prop := ∃ L : List Nat, (∀ a, a ∈ L ↔ kT S a ≠ 0) ∧ va_P G.1 cls (va_pl L (cellOf G.2.1 S)) H ∧ va_D (Ab G) (va_pl L (cellOf G.2.1 S))
def lw_all : List Cond := lw_tbl.filter goodWord
theorem lw_all_good {w : Cond} (h : w ∈ lw_all) : goodWord w = true := (List.mem_filter.mp h).2
theorem lw_mem {w : Cond} (h : w ∈ lw_tbl) (hg : goodWord w = true) : w ∈ lw_all := List.mem_filter.mpr ⟨h, hg⟩
theorem tb_mem {w : Cond} (i : Nat) (h : tables_1[i]? = some w) (hg : goodWord w = true) : w ∈ lw_all := lw_mem (List.mem_append_right _ (List.mem_of_getElem? h)) hg
theorem rf_ne {a : Nat} (h : a ≠ 0) : rf a = .ref a := by simp [rf, op, h, va_rf]
theorem rf_0 : rf 0 = .null := by simp [rf, op, va_rf]
theorem rf_cat (a : Nat) : (rf a).category = 1 := by
  by_cases h : a = 0
  · subst h; rw [rf_0]; rfl
  · rw [rf_ne h]; rfl
theorem tst1 : Cond.fieldLink RX1 11 "OptimisticStore$History" "stores" "[[I" ∈ lw_all := by decide +kernel
end
section
/-! what the model's updates do to the cells -/
theorem op_ne {a : Nat} (h : a ≠ 0) : op a = some a := by simp [op, h]
theorem fv_congr {S S' : MS} {b : Nat} (hI : ∀ k, sI S' b k = sI S b k) (hR : ∀ k, sR S' b k = sR S b k) : ∀ (bs : List Bool) (k0 : Nat), fv S' b k0 bs = fv S b k0 bs
  | [], _ => rfl
  | x :: bs, k0 => by rw [fv, fv, fv_congr hI hR bs (k0 + 1), hI, hR]
theorem fv_len (S : MS) (a : Nat) : ∀ (bs : List Bool) (k0 : Nat), (fv S a k0 bs).length = bs.length
  | [], _ => rfl
  | x :: bs, k0 => by rw [fv, List.length_cons, fv_len S a bs (k0 + 1), List.length_cons]
theorem fv_getI {S : MS} {a : Nat} : ∀ {bs : List Bool} {k0 i : Nat}, bs[i]? = some false → (fv S a k0 bs)[i]? = some (.int (sI S a (k0 + i)))
  | [], _, i, h => by simp at h
  | x :: bs, k0, 0, h => by
    simp only [List.getElem?_cons_zero, Option.some.injEq] at h
    subst h
    simp [fv]
  | x :: bs, k0, i + 1, h => by
    simp only [List.getElem?_cons_succ] at h
    rw [fv, List.getElem?_cons_succ, fv_getI h, Nat.add_right_comm, Nat.add_assoc]
theorem fv_getR {S : MS} {a : Nat} : ∀ {bs : List Bool} {k0 i : Nat}, bs[i]? = some true → (fv S a k0 bs)[i]? = some (rf (sR S a (k0 + i)))
  | [], _, i, h => by simp at h
  | x :: bs, k0, 0, h => by
    simp only [List.getElem?_cons_zero, Option.some.injEq] at h
    subst h
    simp [fv]
  | x :: bs, k0, i + 1, h => by
    simp only [List.getElem?_cons_succ] at h
    rw [fv, List.getElem?_cons_succ, fv_getR h, Nat.add_right_comm, Nat.add_assoc]
theorem sI_pI (S : MS) (a k : Nat) (v : Int32) (b j : Nat) : sI (pI S a k v) b j = if b = a then (if j = k then v else sI S b j) else sI S b j := rfl
theorem sR_pR (S : MS) (a k v b j : Nat) : sR (pR S a k v) b j = if b = a then (if j = k then v else sR S b j) else sR S b j := rfl
theorem sL_pL (S : MS) (a k : Nat) (v : Int64) (b j : Nat) : sL (pL S a k v) b j = if b = a then (if j = k then v else sL S b j) else sL S b j := rfl
theorem sD_pD (S : MS) (a k : Nat) (v : UInt64) (b j : Nat) : sD (pD S a k v) b j = if b = a then (if j = k then v else sD S b j) else sD S b j := rfl
theorem fv_lo {S : MS} {a : Nat} {v : Int32} : ∀ (bs : List Bool) (k0 k : Nat), k < k0 → fv (pI S a k v) a k0 bs = fv S a k0 bs
  | [], _, _, _ => rfl
  | x :: bs, k0, k, h => by
    rw [fv, fv, fv_lo bs (k0 + 1) k (by omega)]
    have e : sI (pI S a k v) a k0 = sI S a k0 := by rw [sI_pI, if_pos rfl, if_neg (by omega)]
    rw [e]; rfl
theorem fv_setI {S : MS} {a : Nat} {v : Int32} : ∀ {bs : List Bool} {k0 i : Nat}, bs[i]? = some false → (fv S a k0 bs).set i (.int v) = fv (pI S a (k0 + i) v) a k0 bs
  | [], _, i, h => by simp at h
  | x :: bs, k0, 0, h => by
    simp only [List.getElem?_cons_zero, Option.some.injEq] at h
    subst h
    rw [fv, fv, List.set_cons_zero, fv_lo bs (k0 + 1) (k0 + 0) (by omega)]
    simp [sI_pI]
  | x :: bs, k0, i + 1, h => by
    simp only [List.getElem?_cons_succ] at h
    rw [fv, fv, List.set_cons_succ, fv_setI h]
    have e : sI (pI S a (k0 + (i + 1)) v) a k0 = sI S a k0 := by rw [sI_pI, if_pos rfl, if_neg (by omega)]
    rw [e, show k0 + 1 + i = k0 + (i + 1) by omega]; rfl
theorem fv_loR {S : MS} {a v : Nat} : ∀ (bs : List Bool) (k0 k : Nat), k < k0 → fv (pR S a k v) a k0 bs = fv S a k0 bs
  | [], _, _, _ => rfl
  | x :: bs, k0, k, h => by
    rw [fv, fv, fv_loR bs (k0 + 1) k (by omega)]
    have e : sR (pR S a k v) a k0 = sR S a k0 := by rw [sR_pR, if_pos rfl, if_neg (by omega)]
    rw [e]; rfl
theorem fv_setR {S : MS} {a v : Nat} : ∀ {bs : List Bool} {k0 i : Nat}, bs[i]? = some true → (fv S a k0 bs).set i (rf v) = fv (pR S a (k0 + i) v) a k0 bs
  | [], _, i, h => by simp at h
  | x :: bs, k0, 0, h => by
    simp only [List.getElem?_cons_zero, Option.some.injEq] at h
    subst h
    rw [fv, fv, List.set_cons_zero, fv_loR bs (k0 + 1) (k0 + 0) (by omega)]
    simp [sR_pR]
  | x :: bs, k0, i + 1, h => by
    simp only [List.getElem?_cons_succ] at h
    rw [fv, fv, List.set_cons_succ, fv_setR h]
    have e : sR (pR S a (k0 + (i + 1)) v) a k0 = sR S a k0 := by rw [sR_pR, if_pos rfl, if_neg (by omega)]
    rw [e, show k0 + 1 + i = k0 + (i + 1) by omega]; rfl
theorem cell_congr {cy : Nat → ClassId} {S S' : MS} {b : Nat} (hT : kT S' b = kT S b) (hL : kL S' b = kL S b) (hI : sI S' b = sI S b) (hR : sR S' b = sR S b) (hl : sL S' b = sL S b) (hD : sD S' b = sD S b) : cellOf cy S' b = cellOf cy S b := by
  unfold cellOf
  rw [hT, hL, hI, hR, hl, hD, fv_congr (fun k => congrFun hI k) (fun k => congrFun hR k)]
theorem u2_ne {α : Type} (f : Nat → Nat → α) {a b : Nat} (k : Nat) (v : α) (h : b ≠ a) : u2 f a k v b = f b := by
  funext j; simp [u2, h]
theorem cell_pI {cy : Nat → ClassId} {S : MS} {a k : Nat} {v : Int32} {b : Nat} (h : b ≠ a) : cellOf cy (pI S a k v) b = cellOf cy S b := cell_congr rfl rfl (u2_ne _ _ _ h) rfl rfl rfl
theorem cell_pR {cy : Nat → ClassId} {S : MS} {a k v b : Nat} (h : b ≠ a) : cellOf cy (pR S a k v) b = cellOf cy S b := cell_congr rfl rfl rfl (u2_ne _ _ _ h) rfl rfl
theorem cell_pL {cy : Nat → ClassId} {S : MS} {a k : Nat} {v : Int64} {b : Nat} (h : b ≠ a) : cellOf cy (pL S a k v) b = cellOf cy S b := cell_congr rfl rfl rfl rfl (u2_ne _ _ _ h) rfl
theorem cell_pD {cy : Nat → ClassId} {S : MS} {a k : Nat} {v : UInt64} {b : Nat} (h : b ≠ a) : cellOf cy (pD S a k v) b = cellOf cy S b := cell_congr rfl rfl rfl rfl rfl (u2_ne _ _ _ h)
theorem cell_nw {cy : Nat → ClassId} {S : MS} {q t n b : Nat} (h : b ≠ q) : cellOf cy (nw S q t n) b = cellOf cy S b := by
  apply cell_congr
  · simp [kT, nw, h]
  · simp [kL, nw, h]
  · funext k; simp [sI, nw, h]
  · funext k; simp [sR, nw, h]
  · funext k; simp [sL, nw, h]
  · funext k; simp [sD, nw, h]
theorem cell_o {cy : Nat → ClassId} {S : MS} {a ci : Nat} (h : kT S a = ci + 1) (hc : ci < 7) : cellOf cy S a = .inr (ci, fv S a 0 (fl (ci + 1))) := by
  unfold cellOf
  rw [h, if_pos (by omega), Nat.add_sub_cancel]
theorem cell_i {cy : Nat → ClassId} {S : MS} {a t : Nat} (h : kT S a = t) (h1 : 8 ≤ t) (h2 : t ≤ 10) : cellOf cy S a = .inl (cy t, kL S a, .inl (sI S a)) := by
  unfold cellOf
  rw [h, if_neg (by omega), if_pos h2]
theorem cell_q {cy : Nat → ClassId} {S : MS} {a t : Nat} (h : kT S a = t) (h1 : 11 ≤ t) (h2 : t ≤ 14) : cellOf cy S a = .inl (cy t, kL S a, .inr (.inr (.inr (.inr (fun i => op (sR S a i)))))) := by
  unfold cellOf
  rw [h, if_neg (by omega), if_neg (by omega), if_pos h2]
theorem cell_l {cy : Nat → ClassId} {S : MS} {a : Nat} (h : kT S a = 15) : cellOf cy S a = .inl (cy 15, kL S a, .inr (.inl (sL S a))) := by
  unfold cellOf
  rw [h, if_neg (by omega), if_neg (by omega), if_neg (by omega), if_pos rfl]
theorem cell_d {cy : Nat → ClassId} {S : MS} {a : Nat} (h : kT S a = 16) : cellOf cy S a = .inl (cy 16, kL S a, .inr (.inr (.inr (.inl (sD S a))))) := by
  unfold cellOf
  rw [h, if_neg (by omega), if_neg (by omega), if_neg (by omega), if_neg (by omega)]
/-- a cell of the world by its address, its place in the list -/
theorem HR_at {G : GP} {S : MS} {H : Heap} {a : Nat} (hH : HR G S H) (h : kT S a ≠ 0) : ∃ (L : List Nat) (q : Nat), (∀ b, b ∈ L ↔ kT S b ≠ 0) ∧ va_P G.1 cls (va_pl L (cellOf G.2.1 S)) H ∧ va_D (Ab G) (va_pl L (cellOf G.2.1 S)) ∧ a ∈ L ∧ (va_pl L (cellOf G.2.1 S))[q]? = some (a, cellOf G.2.1 S a) := by
  obtain ⟨L, hL, hP, hD⟩ := hH
  have ha := (hL a).mpr h
  obtain ⟨q, hq⟩ := va_pl_get (X := []) (f := cellOf G.2.1 S) ha
  exact ⟨L, q, hL, hP, hD, ha, hq⟩
theorem HR_ab {G : GP} {S : MS} {H : Heap} {a : Nat} (hH : HR G S H) (h : kT S a ≠ 0) : G.2.2 ≤ a := by
  obtain ⟨L, q, -, -, hD, -, hq⟩ := HR_at hH h
  exact hD.2 q _ hq
theorem HR_put {G : GP} {S S' : MS} {H1 : Heap} {L : List Nat} {a q : Nat} {e : va_E} (hL : ∀ b, b ∈ L ↔ kT S b ≠ 0) (hD0 : va_D (Ab G) (va_pl L (cellOf G.2.1 S))) (ha : a ∈ L) (hq : (va_pl L (cellOf G.2.1 S))[q]? = some (a, cellOf G.2.1 S a))
    (hP : va_P G.1 cls ((va_pl L (cellOf G.2.1 S)).set q (a, e)) H1) (hD : va_D (Ab G) ((va_pl L (cellOf G.2.1 S)).set q (a, e))) (hT : ∀ b, kT S' b = kT S b) (he : e = cellOf G.2.1 S' a) (ho : ∀ b, b ≠ a → cellOf G.2.1 S' b = cellOf G.2.1 S b) : HR G S' H1 := by
  have h1 := va_pl_set (X := []) (e := e) hD0 ha hq
  have h2 : va_pl L (va_up (cellOf G.2.1 S) a e) = va_pl L (cellOf G.2.1 S') := va_pl_congr (fun b => by
    by_cases hb : b = a
    · subst hb; rw [va_up_self, he]
    · rw [va_up_ne _ _ hb, ho b hb])
  have h3 : (va_pl L (cellOf G.2.1 S)).set q (a, e) = va_pl L (cellOf G.2.1 S') := h1.trans h2
  rw [h3] at hP hD
  exact ⟨L, fun b => by rw [hT b]; exact hL b, hP, hD⟩
theorem HR_new {G : GP} {S : MS} {H1 : Heap} {L : List Nat} {q t n : Nat} {e : va_E} (hb : 1 ≤ G.2.2) (ht : t ≠ 0) (hL : ∀ b, b ∈ L ↔ kT S b ≠ 0) (hP : va_P G.1 cls (va_pl L (cellOf G.2.1 S) ++ [(q, e)]) H1) (hD : va_D (Ab G) (va_pl L (cellOf G.2.1 S) ++ [(q, e)])) (he : e = cellOf G.2.1 (nw S q t n) q) :
    kT S q = 0 ∧ q ≠ 0 ∧ HR G (nw S q t n) H1 := by
  have hl : (va_pl L (cellOf G.2.1 S) ++ [(q, e)])[(va_pl L (cellOf G.2.1 S)).length]? = some (q, e) := by simp
  have hq0 : G.2.2 ≤ q := hD.2 _ _ hl
  have hn : q ∉ L := fun hm => by
    obtain ⟨i, hi⟩ := va_pl_get (X := []) (f := cellOf G.2.1 S) hm
    have hi' : (va_pl L (cellOf G.2.1 S))[i]? = some (q, cellOf G.2.1 S q) := hi
    have hlt := (List.getElem?_eq_some_iff.mp hi').1
    have h2 : (va_pl L (cellOf G.2.1 S) ++ [(q, e)])[i]? = some (q, cellOf G.2.1 S q) := by rw [List.getElem?_append_left hlt]; exact hi'
    have := hD.1 _ _ _ _ h2 hl rfl
    omega
  have hk0 : kT S q = 0 := Classical.byContradiction fun h => hn ((hL q).mpr h)
  have h3 : va_pl L (cellOf G.2.1 S) ++ [(q, e)] = va_pl (L ++ [q]) (cellOf G.2.1 (nw S q t n)) := by
    rw [va_pl_push hn]
    exact va_pl_congr (fun b => by
      by_cases hb : b = q
      · subst hb; rw [va_up_self, he]
      · rw [va_up_ne _ _ hb, cell_nw hb])
  rw [h3] at hP hD
  refine ⟨hk0, by omega, L ++ [q], fun b => ?_, hP, hD⟩
  by_cases hbq : b = q
  · subst hbq; simp [kT, nw, ht]
  · have : kT (nw S q t n) b = kT S b := by simp [kT, nw, hbq]
    rw [this, ← hL b]
    simp [hbq]
end
section
/-! words that aren't good ones, carried by the world: strings, nest mates' methods, arrays over classes, what a class isn't -/
def strs : List (String × Nat × String) := [("OptimisticStore", 61, "policy, victim rule or patience is out of range"), ("OptimisticStore", 72, "a transaction is active"), ("OptimisticStore", 79, "no further transaction can begin"), ("OptimisticStore", 270, "there is no such transaction"), ("OptimisticStore", 98, "the transaction cannot be retried"), ("OptimisticStore", 279, "a number is out of range"), ("OptimisticStore", 284, "the transaction cannot make an operation"), ("OptimisticStore", 293, "the new value would be out of range"), ("OptimisticStore", 115, "the transaction cannot be committed"), ("OptimisticStore", 272, "the transaction is not active"), ("OptimisticStore", 136, "nobody holds the ticket"), ("OptimisticStore", 139, "the transaction is not aborted"), ("OptimisticStore", 144, "the transaction is not committed"), ("OptimisticStore", 263, "the key is out of range"), ("OptimisticStore", 267, "there is no such commit"), ("OptimisticStore", 190, "the first commit is not the earlier one"), ("OptimisticStore", 218, "kind, low or high is out of range"), ("OptimisticStore", 227, "the constraint cannot be added"), ("OptimisticStore", 229, "the reason is out of range"), ("OptimisticStore", 233, "no transaction is committed"), ("OptimisticStore", 236, "no transaction has ended"), ("OptimisticStore", 238, "the character is out of range"), ("OptimisticStore", 243, "the text is full"), ("OptimisticStore", 252, "the text has a fault"), ("OptimisticStore", 254, "no further transaction can begin or be committed")]
def nest : List (String × Nat × MethodName × String) := [("OptimisticStore$Operation", 36, ⟨"OptimisticStore", "countIn", "([IIII)I"⟩, "OptimisticStore"), ("OptimisticStore$Operation", 40, ⟨"OptimisticStore", "totalIn", "([III)I"⟩, "OptimisticStore"), ("OptimisticStore$Operation", 24, ⟨"OptimisticStore", "isRange", "(II)Z"⟩, "OptimisticStore"), ("OptimisticStore$Operation", 28, ⟨"OptimisticStore", "isBetween", "(III)Z"⟩, "OptimisticStore"), ("OptimisticStore$Constraint", 24, ⟨"OptimisticStore", "countIn", "([IIII)I"⟩, "OptimisticStore"), ("OptimisticStore$Constraint", 28, ⟨"OptimisticStore", "totalIn", "([III)I"⟩, "OptimisticStore")]
def excs : List String := ["java/lang/IllegalArgumentException", "java/lang/IllegalStateException", "java/lang/IndexOutOfBoundsException", "java/lang/ArithmeticException", "java/util/NoSuchElementException"]
def odd : List Cond := [.declares (Bundle.initS "java/lang/RuntimeException"), .declares (Bundle.initS "java/lang/Exception"), .declares (Bundle.initS "java/lang/Throwable"), .castable "java/lang/IllegalArgumentException" "java/lang/IllegalArgumentException", .castable "java/lang/IllegalStateException" "java/lang/IllegalStateException", .castable "java/lang/IndexOutOfBoundsException" "java/lang/IndexOutOfBoundsException", .castable "java/lang/ArithmeticException" "java/lang/ArithmeticException", .castable "java/util/NoSuchElementException" "java/util/NoSuchElementException"]
def WI (G : GP) (U : State) : Prop := va_K G.1 cls (tysOf G) U ∧ vx_Zq Bundle.tN "UNASSIGNED_STACK" Bundle.steD (Ab G) U U.heap ∧ vx_Zq Bundle.tN "SUPPRESSED_SENTINEL" Bundle.listD (Ab G) U U.heap ∧ (∀ q ∈ strs, ∃ a, vk_R q.1 q.2.1 q.2.2 a U) ∧ (∀ q ∈ nest, va_Nw (.methodLinkNest q.1 q.2.1 q.2.2.1 q.2.2.2) U) ∧ (∀ C ∈ [RX0, RX2, RX4], va_AO C U) ∧ va_AOA .int U ∧ (∀ a ∈ excs, ∀ b ∈ excs, a ≠ b → va_Nc a b U) ∧ (∀ w ∈ odd, w.before #[] U = true)
def Cx (p : Program) (s : State) (m : MethodId) (args : Array Value) (c : Code) (cc : ByteArray) (nL : Nat) (own : String) (G : GP) : Prop :=
  p.tables.exec = Jvm.exec ∧ c.code = cc ∧ c.maxLocals = nL ∧ s.vm.findClass own = some m.cls ∧ (∀ w ∈ lw_all, w.before args s = true) ∧ WI G s ∧ 1 ≤ G.2.2 ∧ G.2.2 ≤ s.heap.size
def Gd (p : Program) (l : Launch) (e : Env) (R : Room) (s : State) (m : MethodId) (args : Array Value) (below : List Frame) (meth : Method) (c : Code) (nL : Nat) (G : GP) (Q : State → Prop) (k j : Nat) (S : MS) (pc : Nat) (E : List (Nat × Value)) (st : List Value) : Prop :=
  ∀ (H : Heap) (locs : List Loc) (la : Array Slot), HR G S H → va_S (Ab G) s.heap H locs → lv_has la nL E → W p l e R s m args below meth c H locs k j Q (F0 m pc la st)
/-- what a class' number says: its name, its fields, their types -/
def CI (ci : Nat) (C : String) (T : u_T) (N : Nat) (ty : Nat → FieldType) : Prop := ci < 7 ∧ cls[ci]? = some (C, T, N) ∧ (∀ w ∈ u_ws C T N, w ∈ lw_all) ∧ (∀ k, k < N → parseFieldDescriptor (T k).2.2.1 = some (ty k)) ∧ (∀ a, a < N → ∀ b, b < N → a ≠ b → (T a).2.1 ≠ (T b).2.1) ∧ (fl (ci + 1)).length = N

theorem ci0 : CI 0 RX0 TX0 4 tyX0 := ⟨by decide, rfl, by decide +kernel, tyX0_ok, nmX0, rfl⟩
theorem ci1 : CI 1 RX1 TX1 3 tyX1 := ⟨by decide, rfl, by decide +kernel, tyX1_ok, nmX1, rfl⟩
theorem ci2 : CI 2 RX2 TX2 6 tyX2 := ⟨by decide, rfl, by decide +kernel, tyX2_ok, nmX2, rfl⟩
theorem ci3 : CI 3 RX3 TX3 6 tyX3 := ⟨by decide, rfl, by decide +kernel, tyX3_ok, nmX3, rfl⟩
theorem ci4 : CI 4 RX4 TX4 12 tyX4 := ⟨by decide, rfl, by decide +kernel, tyX4_ok, nmX4, rfl⟩
theorem ci5 : CI 5 RX5 TX5 12 tyX5 := ⟨by decide, rfl, by decide +kernel, tyX5_ok, nmX5, rfl⟩
theorem ci6 : CI 6 RX6 TX6 31 tyX6 := ⟨by decide, rfl, by decide +kernel, tyX6_ok, nmX6, rfl⟩
section GD
variable {p : Program} {l : Launch} {e : Env} {R : Room} {s : State} {m : MethodId} {args : Array Value} {below : List Frame} {meth : Method} {c : Code} {Q : State → Prop}
variable {cc : ByteArray} {nL : Nat} {own : String} {G : GP} {k j : Nat} {S : MS} {pc : Nat} {E : List (Nat × Value)} {st : List Value}

theorem gd_wide {k2 j2 : Nat} (h1 : k ≤ k2) (h2 : j ≤ j2) (K : Gd p l e R s m args below meth c nL G Q k2 j2 S pc E st) : Gd p l e R s m args below meth c nL G Q k j S pc E st := fun H locs la hH hS hl => W.widen h1 h2 (K H locs la hH hS hl)
theorem gd_sub {E2 : List (Nat × Value)} (ks : List Nat) (h : lv_pick E ks = E2) (K : Gd p l e R s m args below meth c nL G Q k j S pc E2 st) : Gd p l e R s m args below meth c nL G Q k j S pc E st := fun H locs la hH hS hl => K H locs la hH hS (lv_sub hl ks h)
theorem gd_pc {pc2 : Nat} (h : pc = pc2) (K : Gd p l e R s m args below meth c nL G Q k j S pc2 E st) : Gd p l e R s m args below meth c nL G Q k j S pc E st := h ▸ K
theorem gd_iconst (X : Cx p s m args c cc nL own G) {n : Int} (v : Int32) (d : decode cc pc = .ok (.iconst n, 1)) (hv : Int32.ofInt n = v) (K : Gd p l e R s m args below meth c nL G Q k j S (pc + 1) E (.int v :: st)) : Gd p l e R s m args below meth c nL G Q k j S pc E st := fun H locs la hH hS hl => lv_iconst X.1 X.2.1 d hv (K H locs la hH hS hl)
theorem gd_bipush (X : Cx p s m args c cc nL own G) {n : Int} (v : Int32) (d : decode cc pc = .ok (.bipush n, 2)) (hv : (Int8.ofInt n).toInt32 = v) (K : Gd p l e R s m args below meth c nL G Q k j S (pc + 2) E (.int v :: st)) : Gd p l e R s m args below meth c nL G Q k j S pc E st := fun H locs la hH hS hl => lv_bipush X.1 X.2.1 d hv (K H locs la hH hS hl)
theorem gd_sipush (X : Cx p s m args c cc nL own G) {n : Int} (v : Int32) (d : decode cc pc = .ok (.sipush n, 3)) (hv : (Int16.ofInt n).toInt32 = v) (K : Gd p l e R s m args below meth c nL G Q k j S (pc + 3) E (.int v :: st)) : Gd p l e R s m args below meth c nL G Q k j S pc E st := fun H locs la hH hS hl => lv_sipush X.1 X.2.1 d hv (K H locs la hH hS hl)
theorem gd_iload_n (X : Cx p s m args c cc nL own G) {f : Fin 4} {x : Int32} (q : Nat) (d : decode cc pc = .ok (.iload_n f, 1)) (hq : E[q]? = some ((f : Nat), .int x)) (K : Gd p l e R s m args below meth c nL G Q k j S (pc + 1) E (.int x :: st)) : Gd p l e R s m args below meth c nL G Q k j S pc E st := fun H locs la hH hS hl => lv_iload_n X.1 X.2.1 d rfl (lv_at hl q hq) (K H locs la hH hS hl)
theorem gd_iload (X : Cx p s m args c cc nL own G) {i : Nat} {x : Int32} (q : Nat) (d : decode cc pc = .ok (.iload i, 2)) (hq : E[q]? = some (i, .int x)) (K : Gd p l e R s m args below meth c nL G Q k j S (pc + 2) E (.int x :: st)) : Gd p l e R s m args below meth c nL G Q k j S pc E st := fun H locs la hH hS hl => lv_iload X.1 X.2.1 d (lv_at hl q hq) (K H locs la hH hS hl)
theorem gd_fload (X : Cx p s m args c cc nL own G) {i : Nat} {x : UInt32} (q : Nat) (d : decode cc pc = .ok (.fload i, 2)) (hq : E[q]? = some (i, .float x)) (K : Gd p l e R s m args below meth c nL G Q k j S (pc + 2) E (.float x :: st)) : Gd p l e R s m args below meth c nL G Q k j S pc E st := fun H locs la hH hS hl => lv_fload X.1 X.2.1 d (lv_at hl q hq) (K H locs la hH hS hl)
theorem gd_dload (X : Cx p s m args c cc nL own G) {i : Nat} {x : UInt64} (q : Nat) (d : decode cc pc = .ok (.dload i, 2)) (hq : E[q]? = some (i, .double x)) (K : Gd p l e R s m args below meth c nL G Q k j S (pc + 2) E (.double x :: st)) : Gd p l e R s m args below meth c nL G Q k j S pc E st := fun H locs la hH hS hl => lv_dload X.1 X.2.1 d (lv_at hl q hq) (K H locs la hH hS hl)
theorem gd_lconst (X : Cx p s m args c cc nL own G) {n : Fin 2} (v : Int64) (d : decode cc pc = .ok (.lconst n, 1)) (hv : Int64.ofNat n = v) (K : Gd p l e R s m args below meth c nL G Q k j S (pc + 1) E (.long v :: st)) : Gd p l e R s m args below meth c nL G Q k j S pc E st := fun H locs la hH hS hl => lv_lconst X.1 X.2.1 d hv (K H locs la hH hS hl)
theorem gd_aload_n (X : Cx p s m args c cc nL own G) {f : Fin 4} {x : Nat} (q : Nat) (d : decode cc pc = .ok (.aload_n f, 1)) (hq : E[q]? = some ((f : Nat), rf x)) (K : Gd p l e R s m args below meth c nL G Q k j S (pc + 1) E (rf x :: st)) : Gd p l e R s m args below meth c nL G Q k j S pc E st := fun H locs la hH hS hl => by
  have h := lv_at hl q hq
  have K2 := K H locs la hH hS hl
  by_cases hx : x = 0
  · subst hx; rw [rf_0] at h K2; exact lv_aload_nN X.1 X.2.1 d rfl h K2
  · rw [rf_ne hx] at h K2; exact lv_aload_n X.1 X.2.1 d rfl h K2
theorem gd_aload (X : Cx p s m args c cc nL own G) {i : Nat} {x : Nat} (q : Nat) (d : decode cc pc = .ok (.aload i, 2)) (hq : E[q]? = some (i, rf x)) (K : Gd p l e R s m args below meth c nL G Q k j S (pc + 2) E (rf x :: st)) : Gd p l e R s m args below meth c nL G Q k j S pc E st := fun H locs la hH hS hl => by
  have h := lv_at hl q hq
  have K2 := K H locs la hH hS hl
  by_cases hx : x = 0
  · subst hx; rw [rf_0] at h K2; exact lv_aloadN X.1 X.2.1 d h K2
  · rw [rf_ne hx] at h K2; exact lv_aload X.1 X.2.1 d h K2
theorem gd_null (X : Cx p s m args c cc nL own G)  (d : decode cc pc = .ok (.aconst_null, 1))  (K : Gd p l e R s m args below meth c nL G Q k j S (pc + 1) E (rf 0 :: st)) : Gd p l e R s m args below meth c nL G Q k j S pc E st := fun H locs la hH hS hl => by have K2 := K H locs la hH hS hl; rw [rf_0] at K2; exact lv_null X.1 X.2.1 d K2
theorem gd_istore_n (X : Cx p s m args c cc nL own G) {f : Fin 4} {x : Int32} (d : decode cc pc = .ok (.istore_n f, 1)) (hn : (f : Nat) < nL) {E2 : List (Nat × Value)} (hE : ((f : Nat), Value.int x) :: E.filter (fun q => !(q.1 == (f : Nat)) && !(q.1 + 1 == (f : Nat) && q.2.category == 2)) = E2) (K : Gd p l e R s m args below meth c nL G Q k j S (pc + 1) E2 st) : Gd p l e R s m args below meth c nL G Q k j S pc E (.int x :: st) := fun H locs la hH hS hl => lv_istore_n X.1 X.2.1 d rfl hl hn hE (fun la2 hl2 => K H locs la2 hH hS hl2)
theorem gd_istore (X : Cx p s m args c cc nL own G) {i : Nat} {x : Int32} (d : decode cc pc = .ok (.istore i, 2)) (hn : i < nL) {E2 : List (Nat × Value)} (hE : (i, Value.int x) :: E.filter (fun q => !(q.1 == i) && !(q.1 + 1 == i && q.2.category == 2)) = E2) (K : Gd p l e R s m args below meth c nL G Q k j S (pc + 2) E2 st) : Gd p l e R s m args below meth c nL G Q k j S pc E (.int x :: st) := fun H locs la hH hS hl => lv_istore X.1 X.2.1 d hl hn hE (fun la2 hl2 => K H locs la2 hH hS hl2)
theorem gd_fstore (X : Cx p s m args c cc nL own G) {i : Nat} {x : UInt32} (d : decode cc pc = .ok (.fstore i, 2)) (hn : i < nL) {E2 : List (Nat × Value)} (hE : (i, Value.float x) :: E.filter (fun q => !(q.1 == i) && !(q.1 + 1 == i && q.2.category == 2)) = E2) (K : Gd p l e R s m args below meth c nL G Q k j S (pc + 2) E2 st) : Gd p l e R s m args below meth c nL G Q k j S pc E (.float x :: st) := fun H locs la hH hS hl => lv_fstore X.1 X.2.1 d hl hn hE (fun la2 hl2 => K H locs la2 hH hS hl2)
theorem gd_dstore (X : Cx p s m args c cc nL own G) {i : Nat} {x : UInt64} (d : decode cc pc = .ok (.dstore i, 2)) (hn : i + 1 < nL) {E2 : List (Nat × Value)} (hE : (i, Value.double x) :: E.filter (fun q => !(q.1 == i) && (!(q.1 == i + 1) && !(q.1 + 1 == i && q.2.category == 2))) = E2) (K : Gd p l e R s m args below meth c nL G Q k j S (pc + 2) E2 st) : Gd p l e R s m args below meth c nL G Q k j S pc E (.double x :: st) := fun H locs la hH hS hl => lv_dstore X.1 X.2.1 d hl hn hE (fun la2 hl2 => K H locs la2 hH hS hl2)
theorem gd_astore_n (X : Cx p s m args c cc nL own G) {f : Fin 4} {x : Nat} (d : decode cc pc = .ok (.astore_n f, 1)) (hn : (f : Nat) < nL) {E2 : List (Nat × Value)} (hE : ((f : Nat), rf x) :: E.filter (fun q => !(q.1 == (f : Nat)) && !(q.1 + 1 == (f : Nat) && q.2.category == 2)) = E2) (K : Gd p l e R s m args below meth c nL G Q k j S (pc + 1) E2 st) : Gd p l e R s m args below meth c nL G Q k j S pc E (rf x :: st) := fun H locs la hH hS hl => by
  by_cases hx : x = 0
  · subst hx; rw [rf_0] at hE ⊢; exact lv_astore_nN X.1 X.2.1 d rfl hl hn hE (fun la2 hl2 => K H locs la2 hH hS hl2)
  · rw [rf_ne hx] at hE ⊢; exact lv_astore_n X.1 X.2.1 d rfl hl hn hE (fun la2 hl2 => K H locs la2 hH hS hl2)
theorem gd_astore (X : Cx p s m args c cc nL own G) {i : Nat} {x : Nat} (d : decode cc pc = .ok (.astore i, 2)) (hn : i < nL) {E2 : List (Nat × Value)} (hE : (i, rf x) :: E.filter (fun q => !(q.1 == i) && !(q.1 + 1 == i && q.2.category == 2)) = E2) (K : Gd p l e R s m args below meth c nL G Q k j S (pc + 2) E2 st) : Gd p l e R s m args below meth c nL G Q k j S pc E (rf x :: st) := fun H locs la hH hS hl => by
  by_cases hx : x = 0
  · subst hx; rw [rf_0] at hE ⊢; exact lv_astoreN X.1 X.2.1 d hl hn hE (fun la2 hl2 => K H locs la2 hH hS hl2)
  · rw [rf_ne hx] at hE ⊢; exact lv_astore X.1 X.2.1 d hl hn hE (fun la2 hl2 => K H locs la2 hH hS hl2)
theorem gd_iinc (X : Cx p s m args c cc nL own G) {i : Nat} {n : Int} {x v : Int32} (q : Nat) (d : decode cc pc = .ok (.iinc i n, 3)) (hq : E[q]? = some (i, .int x)) (hv : x + Int32.ofInt n = v) (hn : i < nL) {E2 : List (Nat × Value)} (hE : (i, Value.int v) :: E.filter (fun q => !(q.1 == i) && !(q.1 + 1 == i && q.2.category == 2)) = E2) (K : Gd p l e R s m args below meth c nL G Q k j S (pc + 3) E2 st) : Gd p l e R s m args below meth c nL G Q k j S pc E st := fun H locs la hH hS hl => lv_iinc X.1 X.2.1 d hl hq hv hn hE (fun la2 hl2 => K H locs la2 hH hS hl2)
theorem gd_iadd (X : Cx p s m args c cc nL own G) {x y : Int32} (d : decode cc pc = .ok (.iadd, 1))  (K : Gd p l e R s m args below meth c nL G Q k j S (pc + 1) E (.int (x + y) :: st)) : Gd p l e R s m args below meth c nL G Q k j S pc E (.int y :: .int x :: st) := fun H locs la hH hS hl => lv_iadd X.1 X.2.1 d  (K H locs la hH hS hl)
theorem gd_isub (X : Cx p s m args c cc nL own G) {x y : Int32} (d : decode cc pc = .ok (.isub, 1))  (K : Gd p l e R s m args below meth c nL G Q k j S (pc + 1) E (.int (x - y) :: st)) : Gd p l e R s m args below meth c nL G Q k j S pc E (.int y :: .int x :: st) := fun H locs la hH hS hl => lv_isub X.1 X.2.1 d  (K H locs la hH hS hl)
theorem gd_imul (X : Cx p s m args c cc nL own G) {x y : Int32} (d : decode cc pc = .ok (.imul, 1))  (K : Gd p l e R s m args below meth c nL G Q k j S (pc + 1) E (.int (x * y) :: st)) : Gd p l e R s m args below meth c nL G Q k j S pc E (.int y :: .int x :: st) := fun H locs la hH hS hl => lv_imul X.1 X.2.1 d  (K H locs la hH hS hl)
theorem gd_iand (X : Cx p s m args c cc nL own G) {x y : Int32} (d : decode cc pc = .ok (.iand, 1))  (K : Gd p l e R s m args below meth c nL G Q k j S (pc + 1) E (.int (x &&& y) :: st)) : Gd p l e R s m args below meth c nL G Q k j S pc E (.int y :: .int x :: st) := fun H locs la hH hS hl => lv_iand X.1 X.2.1 d  (K H locs la hH hS hl)
theorem gd_ior (X : Cx p s m args c cc nL own G) {x y : Int32} (d : decode cc pc = .ok (.ior, 1))  (K : Gd p l e R s m args below meth c nL G Q k j S (pc + 1) E (.int (x ||| y) :: st)) : Gd p l e R s m args below meth c nL G Q k j S pc E (.int y :: .int x :: st) := fun H locs la hH hS hl => lv_ior X.1 X.2.1 d  (K H locs la hH hS hl)
theorem gd_ixor (X : Cx p s m args c cc nL own G) {x y : Int32} (d : decode cc pc = .ok (.ixor, 1))  (K : Gd p l e R s m args below meth c nL G Q k j S (pc + 1) E (.int (x ^^^ y) :: st)) : Gd p l e R s m args below meth c nL G Q k j S pc E (.int y :: .int x :: st) := fun H locs la hH hS hl => lv_ixor X.1 X.2.1 d  (K H locs la hH hS hl)
theorem gd_ishl (X : Cx p s m args c cc nL own G) {x y : Int32} (d : decode cc pc = .ok (.ishl, 1))  (K : Gd p l e R s m args below meth c nL G Q k j S (pc + 1) E (.int (x <<< (y &&& 31)) :: st)) : Gd p l e R s m args below meth c nL G Q k j S pc E (.int y :: .int x :: st) := fun H locs la hH hS hl => lv_ishl X.1 X.2.1 d  (K H locs la hH hS hl)
theorem gd_ddiv (X : Cx p s m args c cc nL own G) {x y : UInt64} (d : decode cc pc = .ok (.ddiv, 1)) (hne : vf_n64 (FP.ddiv x y)) (K : Gd p l e R s m args below meth c nL G Q k j S (pc + 1) E (.double (FP.ddiv x y) :: st)) : Gd p l e R s m args below meth c nL G Q k j S pc E (.double y :: .double x :: st) := fun H locs la hH hS hl => lv_ddiv X.1 X.2.1 d hne (K H locs la hH hS hl)
theorem gd_fdiv (X : Cx p s m args c cc nL own G) {x y : UInt32} (d : decode cc pc = .ok (.fdiv, 1)) (hne : vf_n32 (FP.fdiv x y)) (K : Gd p l e R s m args below meth c nL G Q k j S (pc + 1) E (.float (FP.fdiv x y) :: st)) : Gd p l e R s m args below meth c nL G Q k j S pc E (.float y :: .float x :: st) := fun H locs la hH hS hl => lv_fdiv X.1 X.2.1 d hne (K H locs la hH hS hl)
theorem gd_lcmp (X : Cx p s m args c cc nL own G) {x y : Int64} (d : decode cc pc = .ok (.lcmp, 1))  (K : Gd p l e R s m args below meth c nL G Q k j S (pc + 1) E (.int (lg_cmp x y) :: st)) : Gd p l e R s m args below meth c nL G Q k j S pc E (.long y :: .long x :: st) := fun H locs la hH hS hl => W.lcmp X.1 X.2.1 d  (K H locs la hH hS hl)
theorem gd_dcmp (X : Cx p s m args c cc nL own G) {x y : UInt64} {o : CmpOp} (d : decode cc pc = .ok (.dcmp o, 1)) (K : Gd p l e R s m args below meth c nL G Q k j S (pc + 1) E (.int (Op.cmpValue (FP.dcmp x y) o) :: st)) : Gd p l e R s m args below meth c nL G Q k j S pc E (.double y :: .double x :: st) := fun H locs la hH hS hl => lv_dcmp X.1 X.2.1 d (K H locs la hH hS hl)
theorem gd_fcmp (X : Cx p s m args c cc nL own G) {x y : UInt32} {o : CmpOp} (d : decode cc pc = .ok (.fcmp o, 1)) (K : Gd p l e R s m args below meth c nL G Q k j S (pc + 1) E (.int (Op.cmpValue (FP.fcmp x y) o) :: st)) : Gd p l e R s m args below meth c nL G Q k j S pc E (.float y :: .float x :: st) := fun H locs la hH hS hl => lv_fcmp X.1 X.2.1 d (K H locs la hH hS hl)
theorem gd_ineg (X : Cx p s m args c cc nL own G) {x : Int32} (d : decode cc pc = .ok (.ineg, 1))  (K : Gd p l e R s m args below meth c nL G Q k j S (pc + 1) E (.int (-x) :: st)) : Gd p l e R s m args below meth c nL G Q k j S pc E (.int x :: st) := fun H locs la hH hS hl => lv_ineg X.1 X.2.1 d  (K H locs la hH hS hl)
theorem gd_i2l (X : Cx p s m args c cc nL own G) {x : Int32} (d : decode cc pc = .ok (.i2l, 1))  (K : Gd p l e R s m args below meth c nL G Q k j S (pc + 1) E (.long (x.toInt64) :: st)) : Gd p l e R s m args below meth c nL G Q k j S pc E (.int x :: st) := fun H locs la hH hS hl => lv_i2l X.1 X.2.1 d rfl (K H locs la hH hS hl)
theorem gd_i2c (X : Cx p s m args c cc nL own G) {x : Int32} (d : decode cc pc = .ok (.i2c, 1))  (K : Gd p l e R s m args below meth c nL G Q k j S (pc + 1) E (.int ((x.toUInt32 % 65536).toInt32) :: st)) : Gd p l e R s m args below meth c nL G Q k j S pc E (.int x :: st) := fun H locs la hH hS hl => lv_i2c X.1 X.2.1 d rfl (K H locs la hH hS hl)
theorem gd_i2f (X : Cx p s m args c cc nL own G) {x : Int32} (d : decode cc pc = .ok (.i2f, 1))  (K : Gd p l e R s m args below meth c nL G Q k j S (pc + 1) E (.float (FP.i2f x) :: st)) : Gd p l e R s m args below meth c nL G Q k j S pc E (.int x :: st) := fun H locs la hH hS hl => lv_i2f X.1 X.2.1 d  (K H locs la hH hS hl)
theorem gd_i2d (X : Cx p s m args c cc nL own G) {x : Int32} (d : decode cc pc = .ok (.i2d, 1))  (K : Gd p l e R s m args below meth c nL G Q k j S (pc + 1) E (.double (FP.i2d x) :: st)) : Gd p l e R s m args below meth c nL G Q k j S pc E (.int x :: st) := fun H locs la hH hS hl => lv_i2d X.1 X.2.1 d  (K H locs la hH hS hl)
theorem gd_f2d (X : Cx p s m args c cc nL own G) {x : UInt32} (d : decode cc pc = .ok (.f2d, 1)) (hne : vf_n64 (FP.f2d x)) (K : Gd p l e R s m args below meth c nL G Q k j S (pc + 1) E (.double (FP.f2d x) :: st)) : Gd p l e R s m args below meth c nL G Q k j S pc E (.float x :: st) := fun H locs la hH hS hl => lv_f2d X.1 X.2.1 d hne (K H locs la hH hS hl)
theorem gd_dupI (X : Cx p s m args c cc nL own G) {x : Int32} (d : decode cc pc = .ok (.dup, 1)) (K : Gd p l e R s m args below meth c nL G Q k j S (pc + 1) E (.int x :: .int x :: st)) : Gd p l e R s m args below meth c nL G Q k j S pc E (.int x :: st) := fun H locs la hH hS hl => lv_dup X.1 X.2.1 d rfl (K H locs la hH hS hl)
theorem gd_dupR (X : Cx p s m args c cc nL own G) {x : Nat} (d : decode cc pc = .ok (.dup, 1)) (K : Gd p l e R s m args below meth c nL G Q k j S (pc + 1) E (rf x :: rf x :: st)) : Gd p l e R s m args below meth c nL G Q k j S pc E (rf x :: st) := fun H locs la hH hS hl => lv_dup X.1 X.2.1 d (rf_cat x) (K H locs la hH hS hl)
theorem gd_popI (X : Cx p s m args c cc nL own G) {x : Int32} (d : decode cc pc = .ok (.pop, 1)) (K : Gd p l e R s m args below meth c nL G Q k j S (pc + 1) E st) : Gd p l e R s m args below meth c nL G Q k j S pc E (.int x :: st) := fun H locs la hH hS hl => lv_pop X.1 X.2.1 d rfl (K H locs la hH hS hl)
theorem gd_dup2 (X : Cx p s m args c cc nL own G) {x : Int32} {a : Nat} (d : decode cc pc = .ok (.dup2, 1)) (K : Gd p l e R s m args below meth c nL G Q k j S (pc + 1) E (.int x :: rf a :: .int x :: rf a :: st)) : Gd p l e R s m args below meth c nL G Q k j S pc E (.int x :: rf a :: st) := fun H locs la hH hS hl => lv_dup2_11 X.1 X.2.1 d rfl (rf_cat a) (K H locs la hH hS hl)
theorem gd_if_eq (X : Cx p s m args c cc nL own G) {x : Int32} {off : Int} (tgt : Nat) (d : decode cc pc = .ok (.ifCond .eq off, 3)) (ht : (pc : Int) + off = (tgt : Int)) (K1 : x = 0 → Gd p l e R s m args below meth c nL G Q k j S tgt E st) (K2 : ¬ x = 0 → Gd p l e R s m args below meth c nL G Q k j S (pc + 3) E st) : Gd p l e R s m args below meth c nL G Q k j S pc E (.int x :: st) := fun H locs la hH hS hl => lv_if_eq X.1 X.2.1 d ht (fun h => K1 h H locs la hH hS hl) (fun h => K2 h H locs la hH hS hl)
theorem gd_icmp_eq (X : Cx p s m args c cc nL own G) {x y : Int32} {off : Int} (tgt : Nat) (d : decode cc pc = .ok (.if_icmp .eq off, 3)) (ht : (pc : Int) + off = (tgt : Int)) (K1 : x = y → Gd p l e R s m args below meth c nL G Q k j S tgt E st) (K2 : ¬ x = y → Gd p l e R s m args below meth c nL G Q k j S (pc + 3) E st) : Gd p l e R s m args below meth c nL G Q k j S pc E (.int y :: .int x :: st) := fun H locs la hH hS hl => lv_icmp_eq X.1 X.2.1 d ht (fun h => K1 h H locs la hH hS hl) (fun h => K2 h H locs la hH hS hl)
theorem gd_if_ne (X : Cx p s m args c cc nL own G) {x : Int32} {off : Int} (tgt : Nat) (d : decode cc pc = .ok (.ifCond .ne off, 3)) (ht : (pc : Int) + off = (tgt : Int)) (K1 : ¬ x = 0 → Gd p l e R s m args below meth c nL G Q k j S tgt E st) (K2 : x = 0 → Gd p l e R s m args below meth c nL G Q k j S (pc + 3) E st) : Gd p l e R s m args below meth c nL G Q k j S pc E (.int x :: st) := fun H locs la hH hS hl => lv_if_ne X.1 X.2.1 d ht (fun h => K1 h H locs la hH hS hl) (fun h => K2 h H locs la hH hS hl)
theorem gd_icmp_ne (X : Cx p s m args c cc nL own G) {x y : Int32} {off : Int} (tgt : Nat) (d : decode cc pc = .ok (.if_icmp .ne off, 3)) (ht : (pc : Int) + off = (tgt : Int)) (K1 : ¬ x = y → Gd p l e R s m args below meth c nL G Q k j S tgt E st) (K2 : x = y → Gd p l e R s m args below meth c nL G Q k j S (pc + 3) E st) : Gd p l e R s m args below meth c nL G Q k j S pc E (.int y :: .int x :: st) := fun H locs la hH hS hl => lv_icmp_ne X.1 X.2.1 d ht (fun h => K1 h H locs la hH hS hl) (fun h => K2 h H locs la hH hS hl)
theorem gd_if_lt (X : Cx p s m args c cc nL own G) {x : Int32} {off : Int} (tgt : Nat) (d : decode cc pc = .ok (.ifCond .lt off, 3)) (ht : (pc : Int) + off = (tgt : Int)) (K1 : x < 0 → Gd p l e R s m args below meth c nL G Q k j S tgt E st) (K2 : ¬ x < 0 → Gd p l e R s m args below meth c nL G Q k j S (pc + 3) E st) : Gd p l e R s m args below meth c nL G Q k j S pc E (.int x :: st) := fun H locs la hH hS hl => lv_if_lt X.1 X.2.1 d ht (fun h => K1 h H locs la hH hS hl) (fun h => K2 h H locs la hH hS hl)
theorem gd_icmp_lt (X : Cx p s m args c cc nL own G) {x y : Int32} {off : Int} (tgt : Nat) (d : decode cc pc = .ok (.if_icmp .lt off, 3)) (ht : (pc : Int) + off = (tgt : Int)) (K1 : x < y → Gd p l e R s m args below meth c nL G Q k j S tgt E st) (K2 : ¬ x < y → Gd p l e R s m args below meth c nL G Q k j S (pc + 3) E st) : Gd p l e R s m args below meth c nL G Q k j S pc E (.int y :: .int x :: st) := fun H locs la hH hS hl => lv_icmp_lt X.1 X.2.1 d ht (fun h => K1 h H locs la hH hS hl) (fun h => K2 h H locs la hH hS hl)
theorem gd_if_ge (X : Cx p s m args c cc nL own G) {x : Int32} {off : Int} (tgt : Nat) (d : decode cc pc = .ok (.ifCond .ge off, 3)) (ht : (pc : Int) + off = (tgt : Int)) (K1 : 0 ≤ x → Gd p l e R s m args below meth c nL G Q k j S tgt E st) (K2 : ¬ 0 ≤ x → Gd p l e R s m args below meth c nL G Q k j S (pc + 3) E st) : Gd p l e R s m args below meth c nL G Q k j S pc E (.int x :: st) := fun H locs la hH hS hl => lv_if_ge X.1 X.2.1 d ht (fun h => K1 h H locs la hH hS hl) (fun h => K2 h H locs la hH hS hl)
theorem gd_icmp_ge (X : Cx p s m args c cc nL own G) {x y : Int32} {off : Int} (tgt : Nat) (d : decode cc pc = .ok (.if_icmp .ge off, 3)) (ht : (pc : Int) + off = (tgt : Int)) (K1 : y ≤ x → Gd p l e R s m args below meth c nL G Q k j S tgt E st) (K2 : ¬ y ≤ x → Gd p l e R s m args below meth c nL G Q k j S (pc + 3) E st) : Gd p l e R s m args below meth c nL G Q k j S pc E (.int y :: .int x :: st) := fun H locs la hH hS hl => lv_icmp_ge X.1 X.2.1 d ht (fun h => K1 h H locs la hH hS hl) (fun h => K2 h H locs la hH hS hl)
theorem gd_if_gt (X : Cx p s m args c cc nL own G) {x : Int32} {off : Int} (tgt : Nat) (d : decode cc pc = .ok (.ifCond .gt off, 3)) (ht : (pc : Int) + off = (tgt : Int)) (K1 : 0 < x → Gd p l e R s m args below meth c nL G Q k j S tgt E st) (K2 : ¬ 0 < x → Gd p l e R s m args below meth c nL G Q k j S (pc + 3) E st) : Gd p l e R s m args below meth c nL G Q k j S pc E (.int x :: st) := fun H locs la hH hS hl => lv_if_gt X.1 X.2.1 d ht (fun h => K1 h H locs la hH hS hl) (fun h => K2 h H locs la hH hS hl)
theorem gd_icmp_gt (X : Cx p s m args c cc nL own G) {x y : Int32} {off : Int} (tgt : Nat) (d : decode cc pc = .ok (.if_icmp .gt off, 3)) (ht : (pc : Int) + off = (tgt : Int)) (K1 : y < x → Gd p l e R s m args below meth c nL G Q k j S tgt E st) (K2 : ¬ y < x → Gd p l e R s m args below meth c nL G Q k j S (pc + 3) E st) : Gd p l e R s m args below meth c nL G Q k j S pc E (.int y :: .int x :: st) := fun H locs la hH hS hl => lv_icmp_gt X.1 X.2.1 d ht (fun h => K1 h H locs la hH hS hl) (fun h => K2 h H locs la hH hS hl)
theorem gd_if_le (X : Cx p s m args c cc nL own G) {x : Int32} {off : Int} (tgt : Nat) (d : decode cc pc = .ok (.ifCond .le off, 3)) (ht : (pc : Int) + off = (tgt : Int)) (K1 : x ≤ 0 → Gd p l e R s m args below meth c nL G Q k j S tgt E st) (K2 : ¬ x ≤ 0 → Gd p l e R s m args below meth c nL G Q k j S (pc + 3) E st) : Gd p l e R s m args below meth c nL G Q k j S pc E (.int x :: st) := fun H locs la hH hS hl => lv_if_le X.1 X.2.1 d ht (fun h => K1 h H locs la hH hS hl) (fun h => K2 h H locs la hH hS hl)
theorem gd_icmp_le (X : Cx p s m args c cc nL own G) {x y : Int32} {off : Int} (tgt : Nat) (d : decode cc pc = .ok (.if_icmp .le off, 3)) (ht : (pc : Int) + off = (tgt : Int)) (K1 : x ≤ y → Gd p l e R s m args below meth c nL G Q k j S tgt E st) (K2 : ¬ x ≤ y → Gd p l e R s m args below meth c nL G Q k j S (pc + 3) E st) : Gd p l e R s m args below meth c nL G Q k j S pc E (.int y :: .int x :: st) := fun H locs la hH hS hl => lv_icmp_le X.1 X.2.1 d ht (fun h => K1 h H locs la hH hS hl) (fun h => K2 h H locs la hH hS hl)
theorem gd_ifnull (X : Cx p s m args c cc nL own G) {x : Nat} {off : Int} (tgt : Nat) (d : decode cc pc = .ok (.ifnull off, 3)) (ht : (pc : Int) + off = (tgt : Int)) (K1 : x = 0 → Gd p l e R s m args below meth c nL G Q k j S tgt E st) (K2 : ¬ x = 0 → Gd p l e R s m args below meth c nL G Q k j S (pc + 3) E st) : Gd p l e R s m args below meth c nL G Q k j S pc E (rf x :: st) := fun H locs la hH hS hl => by
  by_cases hx : x = 0
  · have K := K1 hx H locs la hH hS hl
    subst hx; rw [rf_0]; exact lv_ifnullN X.1 X.2.1 d ht K
  · have K := K2 hx H locs la hH hS hl
    rw [rf_ne hx]; exact lv_ifnull X.1 X.2.1 d K
theorem gd_ifnonnull (X : Cx p s m args c cc nL own G) {x : Nat} {off : Int} (tgt : Nat) (d : decode cc pc = .ok (.ifnonnull off, 3)) (ht : (pc : Int) + off = (tgt : Int)) (K1 : ¬ x = 0 → Gd p l e R s m args below meth c nL G Q k j S tgt E st) (K2 : x = 0 → Gd p l e R s m args below meth c nL G Q k j S (pc + 3) E st) : Gd p l e R s m args below meth c nL G Q k j S pc E (rf x :: st) := fun H locs la hH hS hl => by
  by_cases hx : x = 0
  · have K := K2 hx H locs la hH hS hl
    subst hx; rw [rf_0]; exact lv_ifnonnullN X.1 X.2.1 d K
  · have K := K1 hx H locs la hH hS hl
    rw [rf_ne hx]; exact lv_ifnonnull X.1 X.2.1 d ht K
theorem op_inj {x y : Nat} : op x = op y ↔ x = y := by
  unfold op
  by_cases hx : x = 0 <;> by_cases hy : y = 0 <;> simp [hx, hy]
  · exact fun h => hy h.symm
theorem gd_acmp_eq (X : Cx p s m args c cc nL own G) {x y : Nat} {off : Int} (tgt : Nat) (d : decode cc pc = .ok (.if_acmp .eq off, 3)) (ht : (pc : Int) + off = (tgt : Int)) (K1 : x = y → Gd p l e R s m args below meth c nL G Q k j S tgt E st) (K2 : ¬ x = y → Gd p l e R s m args below meth c nL G Q k j S (pc + 3) E st) : Gd p l e R s m args below meth c nL G Q k j S pc E (rf y :: rf x :: st) := fun H locs la hH hS hl => lv_acmp_eq X.1 X.2.1 d ht (fun h => K1 (op_inj.mp h) H locs la hH hS hl) (fun h => K2 (fun h2 => h (op_inj.mpr h2)) H locs la hH hS hl)
theorem gd_goto (X : Cx p s m args c cc nL own G) {off : Int} (tgt : Nat) (d : decode cc pc = .ok (.goto off, 3)) (ht : (pc : Int) + off = (tgt : Int)) (K : Gd p l e R s m args below meth c nL G Q k j S tgt E st) : Gd p l e R s m args below meth c nL G Q k j S pc E st := fun H locs la hH hS hl => lv_goto X.1 X.2.1 d ht (K H locs la hH hS hl)
theorem Cx.ne (X : Cx p s m args c cc nL own G) {H : Heap} {a : Nat} (hH : HR G S H) (h : kT S a ≠ 0) : a ≠ 0 := fun h0 => by
  have := HR_ab hH h
  have := X.2.2.2.2.2.2.1
  omega
theorem Cx.A (X : Cx p s m args c cc nL own G) : ∀ q : Nat, s.heap.size ≤ q → Ab G q := fun _ h => Nat.le_trans X.2.2.2.2.2.2.2 h
theorem gd_getI (X : Cx p s m args c cc nL own G) {ci kf index N a : Nat} {C : String} {T : u_T} {ty : Nat → FieldType} (hc : CI ci C T N ty) (hk : kf < N) (hf : (fl (ci + 1))[kf]? = some false) (hw : Cond.fieldLink own index (T kf).1 (T kf).2.1 (T kf).2.2.1 ∈ lw_all) (d : decode cc pc = .ok (.getfield index, 3)) (ha : kT S a = ci + 1) (K : Gd p l e R s m args below meth c nL G Q k j S (pc + 3) E (.int (sI S a kf) :: st)) : Gd p l e R s m args below meth c nL G Q k j S pc E (rf a :: st) := fun H locs la hH hS hl => by
  obtain ⟨L, q, hL, hP, hD, hm, hq⟩ := HR_at hH (a := a) (by rw [ha]; omega)
  rw [cell_o ha hc.1] at hq
  rw [rf_ne (a := a) (Cx.ne X hH (by rw [ha]; omega))]
  have hv := fv_getI (S := S) (a := a) (k0 := 0) hf
  rw [Nat.zero_add] at hv
  exact va_get X.1 X.2.1 X.2.2.2.2.1 hc.2.2.1 X.2.2.2.1 X.2.2.2.2.2.1.1 hP q hq hc.2.1 kf hk (X.2.2.2.2.1 _ hw) (fun _ h => h) hv d (K H locs la hH hS hl)
theorem gd_getR (X : Cx p s m args c cc nL own G) {ci kf index N a : Nat} {C : String} {T : u_T} {ty : Nat → FieldType} (hc : CI ci C T N ty) (hk : kf < N) (hf : (fl (ci + 1))[kf]? = some true) (hw : Cond.fieldLink own index (T kf).1 (T kf).2.1 (T kf).2.2.1 ∈ lw_all) (d : decode cc pc = .ok (.getfield index, 3)) (ha : kT S a = ci + 1) (K : Gd p l e R s m args below meth c nL G Q k j S (pc + 3) E (rf (sR S a kf) :: st)) : Gd p l e R s m args below meth c nL G Q k j S pc E (rf a :: st) := fun H locs la hH hS hl => by
  obtain ⟨L, q, hL, hP, hD, hm, hq⟩ := HR_at hH (a := a) (by rw [ha]; omega)
  rw [cell_o ha hc.1] at hq
  rw [rf_ne (a := a) (Cx.ne X hH (by rw [ha]; omega))]
  have hv := fv_getR (S := S) (a := a) (k0 := 0) hf
  rw [Nat.zero_add] at hv
  exact va_get X.1 X.2.1 X.2.2.2.2.1 hc.2.2.1 X.2.2.2.1 X.2.2.2.2.2.1.1 hP q hq hc.2.1 kf hk (X.2.2.2.2.1 _ hw) (fun _ h => h) hv d (K H locs la hH hS hl)
theorem gd_putI (X : Cx p s m args c cc nL own G) {ci kf index N a : Nat} {v : Int32} {C : String} {T : u_T} {ty : Nat → FieldType} (hc : CI ci C T N ty) (hk : kf < N) (hf : (fl (ci + 1))[kf]? = some false) (hfin : (T kf).2.2.2 = false) (hw : Cond.fieldLink own index (T kf).1 (T kf).2.1 (T kf).2.2.1 ∈ lw_all) (hn : narrow (ty kf) (.int v) = .int v) (hft : fits (ty kf) (.int v) = true) (d : decode cc pc = .ok (.putfield index, 3)) (ha : kT S a = ci + 1) (K : Gd p l e R s m args below meth c nL G Q k j (pI S a kf v) (pc + 3) E st) : Gd p l e R s m args below meth c nL G Q k j S pc E (.int v :: rf a :: st) := fun H locs la hH hS hl => by
  obtain ⟨L, q, hL, hP, hD, hm, hq⟩ := HR_at hH (a := a) (by rw [ha]; omega)
  have hq0 := hq
  rw [cell_o ha hc.1] at hq
  rw [rf_ne (a := a) (Cx.ne X hH (by rw [ha]; omega))]
  refine va_put X.1 X.2.1 X.2.2.2.2.1 hc.2.2.1 ty hc.2.2.2.1 hc.2.2.2.2.1 X.2.2.2.1 X.2.2.2.2.2.1.1 hP hD hS q hq hc.2.1 kf hk (X.2.2.2.2.1 _ hw) (fun _ h => h) hfin (hc.2.2.2.1 kf hk) hn hft (by rw [fv_len, hc.2.2.2.2.2]; exact hk) d (fun H1 locs1 hP1 hD1 hS1 => ?_)
  refine K H1 locs1 la (HR_put hL hD hm hq0 hP1 hD1 (fun _ => rfl) ?_ (fun b hb => cell_pI hb)) hS1 hl
  rw [cell_o (S := pI S a kf v) ha hc.1, fv_setI hf, Nat.zero_add]
theorem gd_putR (X : Cx p s m args c cc nL own G) {ci kf index N a : Nat} {v : Nat} {C : String} {T : u_T} {ty : Nat → FieldType} (hc : CI ci C T N ty) (hk : kf < N) (hf : (fl (ci + 1))[kf]? = some true) (hfin : (T kf).2.2.2 = false) (hw : Cond.fieldLink own index (T kf).1 (T kf).2.1 (T kf).2.2.1 ∈ lw_all) (hn : narrow (ty kf) (rf v) = rf v) (hft : fits (ty kf) (rf v) = true) (d : decode cc pc = .ok (.putfield index, 3)) (ha : kT S a = ci + 1) (K : Gd p l e R s m args below meth c nL G Q k j (pR S a kf v) (pc + 3) E st) : Gd p l e R s m args below meth c nL G Q k j S pc E (rf v :: rf a :: st) := fun H locs la hH hS hl => by
  obtain ⟨L, q, hL, hP, hD, hm, hq⟩ := HR_at hH (a := a) (by rw [ha]; omega)
  have hq0 := hq
  rw [cell_o ha hc.1] at hq
  rw [rf_ne (a := a) (Cx.ne X hH (by rw [ha]; omega))]
  refine va_put X.1 X.2.1 X.2.2.2.2.1 hc.2.2.1 ty hc.2.2.2.1 hc.2.2.2.2.1 X.2.2.2.1 X.2.2.2.2.2.1.1 hP hD hS q hq hc.2.1 kf hk (X.2.2.2.2.1 _ hw) (fun _ h => h) hfin (hc.2.2.2.1 kf hk) hn hft (by rw [fv_len, hc.2.2.2.2.2]; exact hk) d (fun H1 locs1 hP1 hD1 hS1 => ?_)
  refine K H1 locs1 la (HR_put hL hD hm hq0 hP1 hD1 (fun _ => rfl) ?_ (fun b hb => cell_pR hb)) hS1 hl
  rw [cell_o (S := pR S a kf v) ha hc.1, fv_setR hf, Nat.zero_add]
theorem gd_putFI (X : Cx p s m args c cc nL own G) {ci kf index N a : Nat} {v : Int32} {C : String} {T : u_T} {ty : Nat → FieldType} (hc : CI ci C T N ty) (hk : kf < N) (hf : (fl (ci + 1))[kf]? = some false) (hfin : (T kf).2.2.2 = true) (hin : meth.name = "<init>") (hdecl : (T kf).1 = own) (hw : Cond.fieldLink own index (T kf).1 (T kf).2.1 (T kf).2.2.1 ∈ lw_all) (hn : narrow (ty kf) (.int v) = .int v) (hft : fits (ty kf) (.int v) = true) (d : decode cc pc = .ok (.putfield index, 3)) (ha : kT S a = ci + 1) (K : Gd p l e R s m args below meth c nL G Q k j (pI S a kf v) (pc + 3) E st) : Gd p l e R s m args below meth c nL G Q k j S pc E (.int v :: rf a :: st) := fun H locs la hH hS hl => by
  obtain ⟨L, q, hL, hP, hD, hm, hq⟩ := HR_at hH (a := a) (by rw [ha]; omega)
  have hq0 := hq
  rw [cell_o ha hc.1] at hq
  rw [rf_ne (a := a) (Cx.ne X hH (by rw [ha]; omega))]
  refine va_putF X.1 X.2.1 X.2.2.2.2.1 hc.2.2.1 ty hc.2.2.2.1 hc.2.2.2.2.1 X.2.2.2.1 X.2.2.2.2.2.1.1 hP hD hS q hq hc.2.1 kf hk (X.2.2.2.2.1 _ hw) (fun _ h => h) hfin hin hdecl (hc.2.2.2.1 kf hk) hn hft (by rw [fv_len, hc.2.2.2.2.2]; exact hk) d (fun H1 locs1 hP1 hD1 hS1 => ?_)
  refine K H1 locs1 la (HR_put hL hD hm hq0 hP1 hD1 (fun _ => rfl) ?_ (fun b hb => cell_pI hb)) hS1 hl
  rw [cell_o (S := pI S a kf v) ha hc.1, fv_setI hf, Nat.zero_add]
theorem gd_putFR (X : Cx p s m args c cc nL own G) {ci kf index N a : Nat} {v : Nat} {C : String} {T : u_T} {ty : Nat → FieldType} (hc : CI ci C T N ty) (hk : kf < N) (hf : (fl (ci + 1))[kf]? = some true) (hfin : (T kf).2.2.2 = true) (hin : meth.name = "<init>") (hdecl : (T kf).1 = own) (hw : Cond.fieldLink own index (T kf).1 (T kf).2.1 (T kf).2.2.1 ∈ lw_all) (hn : narrow (ty kf) (rf v) = rf v) (hft : fits (ty kf) (rf v) = true) (d : decode cc pc = .ok (.putfield index, 3)) (ha : kT S a = ci + 1) (K : Gd p l e R s m args below meth c nL G Q k j (pR S a kf v) (pc + 3) E st) : Gd p l e R s m args below meth c nL G Q k j S pc E (rf v :: rf a :: st) := fun H locs la hH hS hl => by
  obtain ⟨L, q, hL, hP, hD, hm, hq⟩ := HR_at hH (a := a) (by rw [ha]; omega)
  have hq0 := hq
  rw [cell_o ha hc.1] at hq
  rw [rf_ne (a := a) (Cx.ne X hH (by rw [ha]; omega))]
  refine va_putF X.1 X.2.1 X.2.2.2.2.1 hc.2.2.1 ty hc.2.2.2.1 hc.2.2.2.2.1 X.2.2.2.1 X.2.2.2.2.2.1.1 hP hD hS q hq hc.2.1 kf hk (X.2.2.2.2.1 _ hw) (fun _ h => h) hfin hin hdecl (hc.2.2.2.1 kf hk) hn hft (by rw [fv_len, hc.2.2.2.2.2]; exact hk) d (fun H1 locs1 hP1 hD1 hS1 => ?_)
  refine K H1 locs1 la (HR_put hL hD hm hq0 hP1 hD1 (fun _ => rfl) ?_ (fun b hb => cell_pR hb)) hS1 hl
  rw [cell_o (S := pR S a kf v) ha hc.1, fv_setR hf, Nat.zero_add]
theorem gd_iald (X : Cx p s m args c cc nL own G) {a : Nat} {i : Int32} (d : decode cc pc = .ok (.iaload, 1)) (ha : kT S a = 9) (hi : vp_in i (kL S a)) (K : Gd p l e R s m args below meth c nL G Q k j S (pc + 1) E (.int (sI S a (ix i)) :: st)) : Gd p l e R s m args below meth c nL G Q k j S pc E (.int i :: rf a :: st) := fun H locs la hH hS hl => by
  obtain ⟨L, q, hL, hP, hD, hm, hq⟩ := HR_at hH (a := a) (by rw [ha]; omega)
  rw [cell_i ha (by omega) (by omega)] at hq
  rw [rf_ne (a := a) (Cx.ne X hH (by rw [ha]; omega))]
  exact va_iald X.1 X.2.1 X.2.2.2.2.2.1.1 hP q 1 hq rfl hi d (K H locs la hH hS hl)
theorem gd_cald (X : Cx p s m args c cc nL own G) {a : Nat} {i : Int32} (d : decode cc pc = .ok (.caload, 1)) (ha : kT S a = 8) (hi : vp_in i (kL S a)) (K : Gd p l e R s m args below meth c nL G Q k j S (pc + 1) E (.int (sI S a (ix i)) :: st)) : Gd p l e R s m args below meth c nL G Q k j S pc E (.int i :: rf a :: st) := fun H locs la hH hS hl => by
  obtain ⟨L, q, hL, hP, hD, hm, hq⟩ := HR_at hH (a := a) (by rw [ha]; omega)
  rw [cell_i ha (by omega) (by omega)] at hq
  rw [rf_ne (a := a) (Cx.ne X hH (by rw [ha]; omega))]
  exact va_cald X.1 X.2.1 X.2.2.2.2.2.1.1 hP q 0 hq rfl hi d (K H locs la hH hS hl)
theorem gd_zald (X : Cx p s m args c cc nL own G) {a : Nat} {i : Int32} (d : decode cc pc = .ok (.baload, 1)) (ha : kT S a = 10) (hi : vp_in i (kL S a)) (K : Gd p l e R s m args below meth c nL G Q k j S (pc + 1) E (.int (sI S a (ix i)) :: st)) : Gd p l e R s m args below meth c nL G Q k j S pc E (.int i :: rf a :: st) := fun H locs la hH hS hl => by
  obtain ⟨L, q, hL, hP, hD, hm, hq⟩ := HR_at hH (a := a) (by rw [ha]; omega)
  rw [cell_i ha (by omega) (by omega)] at hq
  rw [rf_ne (a := a) (Cx.ne X hH (by rw [ha]; omega))]
  exact va_zald X.1 X.2.1 X.2.2.2.2.2.1.1 hP q 2 hq rfl hi d (K H locs la hH hS hl)
theorem gd_iast (X : Cx p s m args c cc nL own G) {a : Nat} {i v : Int32} (d : decode cc pc = .ok (.iastore, 1)) (ha : kT S a = 9) (hi : vp_in i (kL S a)) (K : Gd p l e R s m args below meth c nL G Q k j (pI S a (ix i) v) (pc + 1) E st) : Gd p l e R s m args below meth c nL G Q k j S pc E (.int v :: .int i :: rf a :: st) := fun H locs la hH hS hl => by
  obtain ⟨L, q, hL, hP, hD, hm, hq⟩ := HR_at hH (a := a) (by rw [ha]; omega)
  have hq0 := hq
  rw [cell_i ha (by omega) (by omega)] at hq
  rw [rf_ne (a := a) (Cx.ne X hH (by rw [ha]; omega))]
  refine va_iast X.1 X.2.1 X.2.2.2.2.2.1.1 hP hD hS q 1 hq rfl hi d (fun H1 locs1 hP1 hD1 hS1 => ?_)
  refine K H1 locs1 la (HR_put hL hD hm hq0 hP1 hD1 (fun _ => rfl) ?_ (fun b hb => cell_pI hb)) hS1 hl
  rw [cell_i (S := pI S a (ix i) v) ha (by omega) (by omega)]
  congr 2
  congr 1
  congr 1
  funext j
  simp [sI_pI, upd, ix]
theorem gd_cast (X : Cx p s m args c cc nL own G) {a : Nat} {i v : Int32} (d : decode cc pc = .ok (.castore, 1)) (ha : kT S a = 8) (hi : vp_in i (kL S a)) (K : Gd p l e R s m args below meth c nL G Q k j (pI S a (ix i) (vp_nar .char v)) (pc + 1) E st) : Gd p l e R s m args below meth c nL G Q k j S pc E (.int v :: .int i :: rf a :: st) := fun H locs la hH hS hl => by
  obtain ⟨L, q, hL, hP, hD, hm, hq⟩ := HR_at hH (a := a) (by rw [ha]; omega)
  have hq0 := hq
  rw [cell_i ha (by omega) (by omega)] at hq
  rw [rf_ne (a := a) (Cx.ne X hH (by rw [ha]; omega))]
  refine va_cast X.1 X.2.1 X.2.2.2.2.2.1.1 hP hD hS q 0 hq rfl hi d (fun H1 locs1 hP1 hD1 hS1 => ?_)
  refine K H1 locs1 la (HR_put hL hD hm hq0 hP1 hD1 (fun _ => rfl) ?_ (fun b hb => cell_pI hb)) hS1 hl
  rw [cell_i (S := pI S a (ix i) (vp_nar .char v)) ha (by omega) (by omega)]
  congr 2
  congr 1
  congr 1
  funext j
  simp [sI_pI, upd, ix]
theorem gd_zast (X : Cx p s m args c cc nL own G) {a : Nat} {i v : Int32} (d : decode cc pc = .ok (.bastore, 1)) (ha : kT S a = 10) (hi : vp_in i (kL S a)) (K : Gd p l e R s m args below meth c nL G Q k j (pI S a (ix i) (vp_nar .boolean v)) (pc + 1) E st) : Gd p l e R s m args below meth c nL G Q k j S pc E (.int v :: .int i :: rf a :: st) := fun H locs la hH hS hl => by
  obtain ⟨L, q, hL, hP, hD, hm, hq⟩ := HR_at hH (a := a) (by rw [ha]; omega)
  have hq0 := hq
  rw [cell_i ha (by omega) (by omega)] at hq
  rw [rf_ne (a := a) (Cx.ne X hH (by rw [ha]; omega))]
  refine va_zast X.1 X.2.1 X.2.2.2.2.2.1.1 hP hD hS q 2 hq rfl hi d (fun H1 locs1 hP1 hD1 hS1 => ?_)
  refine K H1 locs1 la (HR_put hL hD hm hq0 hP1 hD1 (fun _ => rfl) ?_ (fun b hb => cell_pI hb)) hS1 hl
  rw [cell_i (S := pI S a (ix i) (vp_nar .boolean v)) ha (by omega) (by omega)]
  congr 2
  congr 1
  congr 1
  funext j
  simp [sI_pI, upd, ix]
theorem gd_lald (X : Cx p s m args c cc nL own G) {a : Nat} {i : Int32} (d : decode cc pc = .ok (.laload, 1)) (ha : kT S a = 15) (hi : vp_in i (kL S a)) (K : Gd p l e R s m args below meth c nL G Q k j S (pc + 1) E (.long (sL S a (ix i)) :: st)) : Gd p l e R s m args below meth c nL G Q k j S pc E (.int i :: rf a :: st) := fun H locs la hH hS hl => by
  obtain ⟨L, q, hL, hP, hD, hm, hq⟩ := HR_at hH (a := a) (by rw [ha]; omega)
  rw [cell_l ha] at hq
  rw [rf_ne (a := a) (Cx.ne X hH (by rw [ha]; omega))]
  exact va_lald X.1 X.2.1 X.2.2.2.2.2.1.1 hP q 7 hq rfl hi d (K H locs la hH hS hl)
theorem gd_last (X : Cx p s m args c cc nL own G) {a : Nat} {i : Int32} {v : Int64} (d : decode cc pc = .ok (.lastore, 1)) (ha : kT S a = 15) (hi : vp_in i (kL S a)) (K : Gd p l e R s m args below meth c nL G Q k j (pL S a (ix i) v) (pc + 1) E st) : Gd p l e R s m args below meth c nL G Q k j S pc E (.long v :: .int i :: rf a :: st) := fun H locs la hH hS hl => by
  obtain ⟨L, q, hL, hP, hD, hm, hq⟩ := HR_at hH (a := a) (by rw [ha]; omega)
  have hq0 := hq
  rw [cell_l ha] at hq
  rw [rf_ne (a := a) (Cx.ne X hH (by rw [ha]; omega))]
  refine va_last X.1 X.2.1 X.2.2.2.2.2.1.1 hP hD hS q 7 hq rfl hi d (fun H1 locs1 hP1 hD1 hS1 => ?_)
  refine K H1 locs1 la (HR_put hL hD hm hq0 hP1 hD1 (fun _ => rfl) ?_ (fun b hb => cell_pL hb)) hS1 hl
  rw [cell_l (S := pL S a (ix i) v) ha]
  congr 2
  congr 1
  congr 1
  congr 1
  funext j
  simp [sL_pL, vp_updL, ix]
theorem gd_dald (X : Cx p s m args c cc nL own G) {a : Nat} {i : Int32} (d : decode cc pc = .ok (.daload, 1)) (ha : kT S a = 16) (hi : vp_in i (kL S a)) (K : Gd p l e R s m args below meth c nL G Q k j S (pc + 1) E (.double (sD S a (ix i)) :: st)) : Gd p l e R s m args below meth c nL G Q k j S pc E (.int i :: rf a :: st) := fun H locs la hH hS hl => by
  obtain ⟨L, q, hL, hP, hD, hm, hq⟩ := HR_at hH (a := a) (by rw [ha]; omega)
  rw [cell_d ha] at hq
  rw [rf_ne (a := a) (Cx.ne X hH (by rw [ha]; omega))]
  exact va_dald X.1 X.2.1 X.2.2.2.2.2.1.1 hP q 8 hq rfl hi d (K H locs la hH hS hl)
theorem gd_dast (X : Cx p s m args c cc nL own G) {a : Nat} {i : Int32} {v : UInt64} (d : decode cc pc = .ok (.dastore, 1)) (ha : kT S a = 16) (hi : vp_in i (kL S a)) (K : Gd p l e R s m args below meth c nL G Q k j (pD S a (ix i) v) (pc + 1) E st) : Gd p l e R s m args below meth c nL G Q k j S pc E (.double v :: .int i :: rf a :: st) := fun H locs la hH hS hl => by
  obtain ⟨L, q, hL, hP, hD, hm, hq⟩ := HR_at hH (a := a) (by rw [ha]; omega)
  have hq0 := hq
  rw [cell_d ha] at hq
  rw [rf_ne (a := a) (Cx.ne X hH (by rw [ha]; omega))]
  refine va_dast X.1 X.2.1 X.2.2.2.2.2.1.1 hP hD hS q 8 hq rfl hi d (fun H1 locs1 hP1 hD1 hS1 => ?_)
  refine K H1 locs1 la (HR_put hL hD hm hq0 hP1 hD1 (fun _ => rfl) ?_ (fun b hb => cell_pD hb)) hS1 hl
  rw [cell_d (S := pD S a (ix i) v) ha]
  congr 2
  congr 1
  congr 1
  congr 1; congr 1; congr 1
  funext j
  simp [sD_pD, vf_upd, ix]
end GD
end
section
theorem va_AOA.moved {ty : FieldType} {u U : State} (hvm : u.vm.Alike U.vm) (h : va_AOA ty u) : va_AOA ty U := Jvm.Stand.arrayOver_alikeB hvm h
theorem odd_warm {w : Cond} {s U : State} (hf : w.faceAtom = true) (ho : w.onTables = true) (hW : s.WarmedH U.vm) (h : w.before #[] s = true) : w.before #[] U = true := va_tabs ho (rfl : (s.setVm U.vm).vm = U.vm) (Cond.faceAtom_setVm hW.alike w hf h)
theorem odd_ok : ∀ w ∈ odd, w.faceAtom = true ∧ w.onTables = true := by decide +kernel
theorem wi_warm {G : GP} {s U : State} {H : Heap} {locs : List Loc} (hW : s.WarmedH U.vm) (hU : U.heap = H) (hS : va_S (Ab G) s.heap H locs) (h : WI G s) : WI G U := by
  obtain ⟨h1, h2, h3, h4, h5, h6, h7, h8, h9⟩ := h
  refine ⟨va_K.moved hW.alike h1, ?_, ?_, fun q hq => ?_, fun q hq => va_Nw.warmM hW (h5 q hq), fun C hC => va_AO.moved hW.alike (h6 C hC), va_AOA.moved hW.alike h7, fun a ha b hb hab => va_Nc.moved hW.alike (h8 a ha b hb hab), fun w hw => odd_warm (odd_ok w hw).1 (odd_ok w hw).2 hW (h9 w hw)⟩
  · rw [hU]; exact (h2.moved hW.alike).kept (fun a ha hA => hS.2.1 a ha hA)
  · rw [hU]; exact (h3.moved hW.alike).kept (fun a ha hA => hS.2.1 a ha hA)
  · obtain ⟨a, ha⟩ := h4 q hq
    exact ⟨a, ha.warm hW⟩
theorem wi_calling {G : GP} {U : State} {g : JFrame} {mk : MethodId} {a : Array Value} (h : WI G U) : WI G (U.calling g mk a) := by
  obtain ⟨h1, h2, h3, h4, h5, h6, h7, h8, h9⟩ := h
  have hA : U.vm.Alike (U.calling g mk a).vm := Vm.Alike.refl U.vm
  refine ⟨va_K.moved hA h1, h2.moved hA, h3.moved hA, fun q hq => ?_, fun q hq => (h5 q hq).same ?_ rfl, fun C hC => va_AO.moved hA (h6 C hC), va_AOA.moved hA h7, fun x hx y hy hxy => va_Nc.moved hA (h8 x hx y hy hxy), fun w hw => va_Nw.same (u := U) (odd_ok w hw).2 rfl (h9 w hw)⟩
  · obtain ⟨a, ha⟩ := h4 q hq
    exact ⟨a, ha.same rfl⟩
  · rfl
/-! CONTRACTS over the model state -/
def PcM (G : GP) (S : MS) (as : List Value) : Array Value → State → Prop := fun v U => v = as.toArray ∧ HR G S U.heap ∧ WI G U ∧ 1 ≤ G.2.2 ∧ G.2.2 ≤ U.heap.size
def QcM (G : GP) (post : Option Value → MS → Prop) : Array Value → State → Outcome → State → Prop := fun _ st o t => ∃ (v : Option Value) (S' : MS), o = .returned v ∧ post v S' ∧ HR G S' t.heap ∧ va_F (Ab G) st t
def XcM (G : GP) (xp : String → MS → Prop) : String → State → State → Prop := fun E st t => ∃ S' : MS, E ∈ excs ∧ xp E S' ∧ HR G S' t.heap ∧ va_F (Ab G) st t
def pI_ (post : Int32 → MS → Prop) : Option Value → MS → Prop := fun v S => ∃ r : Int32, v = some (.int r) ∧ post r S
def pR_ (post : Nat → MS → Prop) : Option Value → MS → Prop := fun v S => ∃ r : Nat, v = some (rf r) ∧ post r S
def pV_ (post : MS → Prop) : Option Value → MS → Prop := fun v S => v = none ∧ post S
def pD_ (post : UInt64 → MS → Prop) : Option Value → MS → Prop := fun v S => ∃ r : UInt64, v = some (.double r) ∧ post r S
def pF_ (post : UInt32 → MS → Prop) : Option Value → MS → Prop := fun v S => ∃ r : UInt32, v = some (.float r) ∧ post r S
/-- a method that returns -/
def MetM (l : Launch) (y : MethodName) (bytes : ByteArray) (maxL : Nat) (ret : Option FieldType) (rm : Room) (as : List Value) (G : GP) (S : MS) (post : Option Value → MS → Prop) : Prop := Met l y (Cond.code y bytes maxL ret :: lw_all) rm (PcM G S as) (QcM G post) rm.cells rm.slots (Ab G)
/-- a method that returns or throws -/
def MetX (l : Launch) (y : MethodName) (bytes : ByteArray) (maxL : Nat) (ret : Option FieldType) (rm : Room) (as : List Value) (G : GP) (S : MS) (post : Option Value → MS → Prop) (xp : String → MS → Prop) : Prop := vx_Met l y (Cond.code y bytes maxL ret :: lw_all) rm (PcM G S as) (QcM G post) (XcM G xp) rm.cells rm.slots (Ab G)
theorem pc_blind (G : GP) (S : MS) (as : List Value) : FrameBlind (PcM G S as) := fun a U g mk h => ⟨h.1, h.2.1, wi_calling h.2.2.1, h.2.2.2⟩
theorem cat_sum : ∀ (st : List Value), (st.map fun v => v.category).sum ≤ 2 * st.length
  | [] => Nat.le_refl 0
  | v :: st => by
    have h1 := cat_sum st
    have h2 : v.category ≤ 2 := by cases v <;> simp [Value.category]
    simp only [List.map_cons, List.sum_cons, List.length_cons]
    omega
theorem lw_goodIn {w : Cond} (h : w ∈ lw_all) : w ∈ lw_all ∧ ((w.onTables && w.keeps) = true ∨ ∃ ty, w = .arrayClass ty) := ⟨h, good_of_word (lw_all_good h)⟩
/-- what the tables say of a method that is called: by its receiver, statically, as a constructor -/
def MVw (y : MethodName) (bytes : ByteArray) (maxL : Nat) (ret : Option FieldType) (n : Nat) : Prop := Cond.instanceMethod y ∈ lw_all ∧ Cond.selects y.cls y y ∈ lw_all ∧ Cond.initialized y.cls ∈ lw_all ∧ Cond.code y bytes maxL ret ∈ lw_all ∧ y.cls ≠ "java/lang/invoke/MethodHandle" ∧ y.cls ≠ "java/lang/invoke/VarHandle" ∧ (parseMethodDescriptor y.desc).map (fun d => d.parameters.length) = some n
def MSw (y : MethodName) (bytes : ByteArray) (maxL : Nat) (ret : Option FieldType) (n : Nat) : Prop := Cond.static y ∈ lw_all ∧ Cond.initialized y.cls ∈ lw_all ∧ Cond.code y bytes maxL ret ∈ lw_all ∧ y.cls ≠ "java/lang/invoke/MethodHandle" ∧ y.cls ≠ "java/lang/invoke/VarHandle" ∧ (parseMethodDescriptor y.desc).map (fun d => d.parameters.length) = some n
def MIw (y : MethodName) (bytes : ByteArray) (maxL : Nat) (n : Nat) : Prop := Cond.instanceMethod y ∈ lw_all ∧ Cond.initialized y.cls ∈ lw_all ∧ Cond.code y bytes maxL none ∈ lw_all ∧ y.cls ≠ "java/lang/invoke/MethodHandle" ∧ y.cls ≠ "java/lang/invoke/VarHandle" ∧ (parseMethodDescriptor y.desc).map (fun d => d.parameters.length) = some n ∧ y.name = "<init>"
section CALLS
variable {p : Program} {l : Launch} {e : Env} {R : Room} {s : State} {m : MethodId} {args : Array Value} {below : List Frame} {meth : Method} {c : Code} {Q : State → Prop}
variable {cc : ByteArray} {nL : Nat} {own : String} {G : GP} {k j : Nat} {S : MS} {pc : Nat} {E : List (Nat × Value)} {st rest : List Value}
variable {y : MethodName} {bytes : ByteArray} {maxL : Nat} {ret : Option FieldType} {rm : Room} {post : Option Value → MS → Prop} {xp : String → MS → Prop} {As : List Value} {a ci index n : Nat}
theorem Cx.fix (X : Cx p s m args c cc nL own G) : CallFix p m c cc nL s args lw_all own := ⟨X.1, X.2.1, X.2.2.1, X.2.2.2.1, X.2.2.2.2.1⟩
theorem Cx.pre (X : Cx p s m args c cc nL own G) {H : Heap} {locs : List Loc} (hH : HR G S H) (hS : va_S (Ab G) s.heap H locs) {as : List Value} {v : Array Value} (hv : v = as.toArray) {U : State} (hU : U.heap = H) (hW : s.WarmedH U.vm) : PcM G S as v U :=
  ⟨hv, by rw [hU]; exact hH, wi_warm hW hU hS X.2.2.2.2.2.1, X.2.2.2.2.2.2.1, by rw [hU]; exact Nat.le_trans X.2.2.2.2.2.2.2 hS.1⟩
/-- behind a call that returned: the run goes on over the new model state -/
theorem gd_back {H : Heap} {locs : List Loc} {la : Array Slot} (hS : va_S (Ab G) s.heap H locs) (hl : lv_has la nL E) {a0 : Array Value} (hr : va_Run p l e R s m args below meth c H locs k j rm.cells rm.slots (F0 m pc la st) rest (QcM G post a0) (Ab G))
    (K : ∀ (v : Option Value) (S' : MS), post v S' → Gd p l e R s m args below meth c nL G Q (k + rm.cells) (j + rm.slots) S' (pc + 3) E (v.toList ++ rest)) : W p l e R s m args below meth c H locs k j Q (F0 m pc la st) := by
  intro T hT X
  obtain ⟨v, st₀, t, T', L, h0, X', hL, e1, e2, ⟨v', S', hv, hp, hH, hF⟩, go⟩ := hr T hT X
  cases hv
  obtain ⟨-, -, hS'⟩ := vx_keep h0 e1 hS (fun _ _ h => h) (fun _ h => h) hL hF
  obtain ⟨t2, a1, b1⟩ := K v S' hp T'.heap (locs ++ L) la (by rw [e1]; exact hH) hS' hl T' rfl X'
  exact ⟨t2, go t2 a1, b1⟩
theorem gd_backX {H : Heap} {locs : List Loc} {la : Array Slot} (hS : va_S (Ab G) s.heap H locs) (hl : lv_has la nL E) {a0 : Array Value} (hr : vx_Run p l e R s m args below meth c H locs k j rm.cells rm.slots (F0 m pc la st) rest (QcM G post a0) (XcM G xp) (Ab G))
    (K : ∀ (v : Option Value) (S' : MS), post v S' → Gd p l e R s m args below meth c nL G Q (k + rm.cells) (j + rm.slots) S' (pc + 3) E (v.toList ++ rest))
    (KX : ∀ (Ex : String) (S' : MS), Ex ∈ excs → xp Ex S' → ∀ (H1 : Heap) (locs1 : List Loc) (q : Addr) (ce : Cell), HR G S' H1 → va_S (Ab G) s.heap H1 locs1 → H1[q]? = some ce → ce.vm = .none → s.vm.findClass Ex = some ce.cls → vx_W p l e R s m args below meth c H1 locs1 (k + rm.cells) (j + rm.slots) Q (F0 m pc la rest) q) : W p l e R s m args below meth c H locs k j Q (F0 m pc la st) := by
  intro T hT X
  rcases hr T hT X with ⟨v, st₀, t, T', L, h0, X', hL, e1, e2, ⟨v', S', hv, hp, hH, hF⟩, go⟩ | ⟨q, st₀, t, T', L, Ex, ce, h0, X', hL, e1, e2, ⟨S', hE, hp, hH, hF⟩, hce, hcv, hcl, go⟩
  · cases hv
    obtain ⟨-, -, hS'⟩ := vx_keep h0 e1 hS (fun _ _ h => h) (fun _ h => h) hL hF
    obtain ⟨t2, a1, b1⟩ := K v S' hp T'.heap (locs ++ L) la (by rw [e1]; exact hH) hS' hl T' rfl X'
    exact ⟨t2, go t2 a1, b1⟩
  · obtain ⟨-, -, hS'⟩ := vx_keep h0 e1 hS (fun _ _ h => h) (fun _ h => h) hL hF
    obtain ⟨t2, a1, b1⟩ := KX Ex S' hE hp T'.heap (locs ++ L) q ce (by rw [e1]; exact hH) hS' (by rw [e1]; exact hce) hcv hcl T' rfl X'
    exact ⟨t2, go.trans a1, b1⟩
theorem gd_recv (X : Cx p s m args c cc nL own G) {H : Heap} (hH : HR G S H) {C : String} {T : u_T} {N : Nat} {ty : Nat → FieldType} (hc : CI ci C T N ty) (ha : kT S a = ci + 1) : ∃ cell : Cell, H[a]? = some cell ∧ cell.vm.isStatics = false ∧ s.vm.findClass C = some cell.cls := by
  obtain ⟨L, q, hL, hP, hD, hm, hq⟩ := HR_at hH (a := a) (by rw [ha]; omega)
  rw [cell_o ha hc.1] at hq
  exact va_recv X.2.2.2.2.2.1.1 hP hc.2.1 hq
theorem cwV_of (X : Cx p s m args c cc nL own G) (hm : MVw y bytes maxL ret n) (hl : Cond.methodLink own index y ∈ lw_all) (hR : rm.frames + 1 ≤ R.frames ∧ 8 + (maxL + 11) + rm.locals ≤ R.locals) : CallW R s args own y.cls index y bytes maxL ret (Cond.code y bytes maxL ret :: lw_all) rm rm.cells rm.slots n := by
  obtain ⟨h1, h2, h3, h4, h5, h6, h7⟩ := hm
  refine cwV (ws' := lw_all) n X.2.2.2.2.1 (fun w hw => ?_) rfl rfl rfl ⟨rfl, h5, h6, h7⟩ hR
  unfold wsV at hw
  rcases List.mem_append.mp hw with hw | hw
  · simp only [List.mem_cons, List.not_mem_nil, or_false] at hw
    rcases hw with rfl | rfl | rfl | rfl
    · exact lw_goodIn hl
    · exact lw_goodIn h1
    · exact lw_goodIn h2
    · exact lw_goodIn h3
  · rcases List.mem_cons.mp hw with rfl | hw
    · exact lw_goodIn h4
    · exact lw_goodIn hw
theorem cwB_of (X : Cx p s m args c cc nL own G) (h3 : Cond.initialized y.cls ∈ lw_all) (h4 : Cond.code y bytes maxL ret ∈ lw_all) (h5 : y.cls ≠ "java/lang/invoke/MethodHandle" ∧ y.cls ≠ "java/lang/invoke/VarHandle" ∧ (parseMethodDescriptor y.desc).map (fun d => d.parameters.length) = some n) (hl : Cond.methodLink own index y ∈ lw_all) (hR : rm.frames + 1 ≤ R.frames ∧ 8 + (maxL + 11) + rm.locals ≤ R.locals) : CallB R s args own index y bytes maxL ret (Cond.code y bytes maxL ret :: lw_all) rm rm.cells rm.slots n := by
  refine callB_of (ws' := lw_all) n X.2.2.2.2.1 (fun w hw => ?_) rfl rfl rfl (X.2.2.2.2.1 _ h3) (X.2.2.2.2.1 _ hl) h5 hR
  rcases List.mem_cons.mp hw with rfl | hw
  · exact lw_goodIn h4
  · exact lw_goodIn hw
theorem gd_callV (X : Cx p s m args c cc nL own G) (hM : MetM l y bytes maxL ret rm (rf a :: As) G S post) (hm : MVw y bytes maxL ret n) (hl : Cond.methodLink own index y ∈ lw_all) {C : String} {T : u_T} {N : Nat} {ty : Nat → FieldType} (hc : CI ci C T N ty) (hC : y.cls = C) (ha : kT S a = ci + 1) (hR : rm.frames + 1 ≤ R.frames ∧ 8 + (maxL + 11) + rm.locals ≤ R.locals) (hn : As.length = n) (hst : st = As.reverse ++ rf a :: rest) (hr : rest.length ≤ 4) (d : decode cc pc = .ok (.invokevirtual index, 3)) (hf : k + rm.cells ≤ R.cells ∧ j + rm.slots ≤ R.slots)
    (K : ∀ (v : Option Value) (S' : MS), post v S' → Gd p l e R s m args below meth c nL G Q (k + rm.cells) (j + rm.slots) S' (pc + 3) E (v.toList ++ rest)) : Gd p l e R s m args below meth c nL G Q k j S pc E st := fun H locs la hH hS hl2 => by
  have ha0 : rf a = .ref a := rf_ne (Cx.ne X hH (by rw [ha]; omega))
  subst hst
  rw [ha0] at hM ⊢
  refine gd_back (a0 := (Value.ref a :: As).toArray) hS hl2 (va_runV X.fix hM (cwV_of X hm hl hR) ⟨pc_blind G S _, by rw [hC]; exact gd_recv X hH hc ha, fun U hU hW => X.pre hH hS rfl hU hW⟩ rfl hn hl2.1 rfl (lv_room ?_) d hf) K
  have := cat_sum rest
  omega
theorem gd_callVX (X : Cx p s m args c cc nL own G) (hM : MetX l y bytes maxL ret rm (rf a :: As) G S post xp) (hm : MVw y bytes maxL ret n) (hl : Cond.methodLink own index y ∈ lw_all) {C : String} {T : u_T} {N : Nat} {ty : Nat → FieldType} (hc : CI ci C T N ty) (hC : y.cls = C) (ha : kT S a = ci + 1) (hR : rm.frames + 1 ≤ R.frames ∧ 8 + (maxL + 11) + rm.locals ≤ R.locals) (hn : As.length = n) (hst : st = As.reverse ++ rf a :: rest) (hr : rest.length ≤ 4) (d : decode cc pc = .ok (.invokevirtual index, 3)) (hf : k + rm.cells ≤ R.cells ∧ j + rm.slots ≤ R.slots)
    (K : ∀ (v : Option Value) (S' : MS), post v S' → Gd p l e R s m args below meth c nL G Q (k + rm.cells) (j + rm.slots) S' (pc + 3) E (v.toList ++ rest))
    (KX : ∀ (Ex : String) (S' : MS), Ex ∈ excs → xp Ex S' → ∀ (H1 : Heap) (locs1 : List Loc) (la : Array Slot) (q : Addr) (ce : Cell), HR G S' H1 → va_S (Ab G) s.heap H1 locs1 → lv_has la nL E → H1[q]? = some ce → ce.vm = .none → s.vm.findClass Ex = some ce.cls → vx_W p l e R s m args below meth c H1 locs1 (k + rm.cells) (j + rm.slots) Q (F0 m pc la rest) q) : Gd p l e R s m args below meth c nL G Q k j S pc E st := fun H locs la hH hS hl2 => by
  have ha0 : rf a = .ref a := rf_ne (Cx.ne X hH (by rw [ha]; omega))
  subst hst
  rw [ha0] at hM ⊢
  refine gd_backX (a0 := (Value.ref a :: As).toArray) hS hl2 (vx_runV X.fix hM (cwV_of X hm hl hR) ⟨pc_blind G S _, by rw [hC]; exact gd_recv X hH hc ha, fun U hU hW => X.pre hH hS rfl hU hW⟩ rfl hn hl2.1 rfl (lv_room ?_) d hf) K (fun Ex S' hE hp H1 locs1 q ce h1 h2 => KX Ex S' hE hp H1 locs1 la q ce h1 h2 hl2)
  have := cat_sum rest
  omega
theorem gd_callS (X : Cx p s m args c cc nL own G) (hM : MetM l y bytes maxL ret rm As G S post) (hm : MSw y bytes maxL ret n) (hl : Cond.methodLink own index y ∈ lw_all) (hR : rm.frames + 1 ≤ R.frames ∧ 8 + (maxL + 11) + rm.locals ≤ R.locals) (hn : As.length = n) (hst : st = As.reverse ++ rest) (hr : rest.length ≤ 4) (d : decode cc pc = .ok (.invokestatic index, 3)) (hf : k + rm.cells ≤ R.cells ∧ j + rm.slots ≤ R.slots)
    (K : ∀ (v : Option Value) (S' : MS), post v S' → Gd p l e R s m args below meth c nL G Q (k + rm.cells) (j + rm.slots) S' (pc + 3) E (v.toList ++ rest)) : Gd p l e R s m args below meth c nL G Q k j S pc E st := fun H locs la hH hS hl2 => by
  subst hst
  refine gd_back (a0 := As.toArray) hS hl2 (va_runS X.fix hM ⟨cwB_of X hm.2.1 hm.2.2.1 hm.2.2.2 hl hR, X.2.2.2.2.1 _ hm.1⟩ ⟨pc_blind G S _, fun U hU hW => X.pre hH hS rfl hU hW⟩ rfl hn hl2.1 rfl (lv_room ?_) d hf) K
  have := cat_sum rest
  omega
theorem gd_callSX (X : Cx p s m args c cc nL own G) (hM : MetX l y bytes maxL ret rm As G S post xp) (hm : MSw y bytes maxL ret n) (hl : Cond.methodLink own index y ∈ lw_all) (hR : rm.frames + 1 ≤ R.frames ∧ 8 + (maxL + 11) + rm.locals ≤ R.locals) (hn : As.length = n) (hst : st = As.reverse ++ rest) (hr : rest.length ≤ 4) (d : decode cc pc = .ok (.invokestatic index, 3)) (hf : k + rm.cells ≤ R.cells ∧ j + rm.slots ≤ R.slots)
    (K : ∀ (v : Option Value) (S' : MS), post v S' → Gd p l e R s m args below meth c nL G Q (k + rm.cells) (j + rm.slots) S' (pc + 3) E (v.toList ++ rest))
    (KX : ∀ (Ex : String) (S' : MS), Ex ∈ excs → xp Ex S' → ∀ (H1 : Heap) (locs1 : List Loc) (la : Array Slot) (q : Addr) (ce : Cell), HR G S' H1 → va_S (Ab G) s.heap H1 locs1 → lv_has la nL E → H1[q]? = some ce → ce.vm = .none → s.vm.findClass Ex = some ce.cls → vx_W p l e R s m args below meth c H1 locs1 (k + rm.cells) (j + rm.slots) Q (F0 m pc la rest) q) : Gd p l e R s m args below meth c nL G Q k j S pc E st := fun H locs la hH hS hl2 => by
  subst hst
  refine gd_backX (a0 := As.toArray) hS hl2 (vx_runS X.fix hM ⟨cwB_of X hm.2.1 hm.2.2.1 hm.2.2.2 hl hR, X.2.2.2.2.1 _ hm.1⟩ ⟨pc_blind G S _, fun U hU hW => X.pre hH hS rfl hU hW⟩ rfl hn hl2.1 rfl (lv_room ?_) d hf) K (fun Ex S' hE hp H1 locs1 q ce h1 h2 => KX Ex S' hE hp H1 locs1 la q ce h1 h2 hl2)
  have := cat_sum rest
  omega
theorem gd_callSN (X : Cx p s m args c cc nL own G) {host : String} (hM : MetM l y bytes maxL ret rm As G S post) (hm : MSw y bytes maxL ret n) (hl : (own, index, y, host) ∈ nest) (hR : rm.frames + 1 ≤ R.frames ∧ 8 + (maxL + 11) + rm.locals ≤ R.locals) (hn : As.length = n) (hst : st = As.reverse ++ rest) (hr : rest.length ≤ 4) (d : decode cc pc = .ok (.invokestatic index, 3)) (hf : k + rm.cells ≤ R.cells ∧ j + rm.slots ≤ R.slots)
    (K : ∀ (v : Option Value) (S' : MS), post v S' → Gd p l e R s m args below meth c nL G Q (k + rm.cells) (j + rm.slots) S' (pc + 3) E (v.toList ++ rest)) : Gd p l e R s m args below meth c nL G Q k j S pc E st := fun H locs la hH hS hl2 => by
  subst hst
  refine gd_back (a0 := As.toArray) hS hl2 (va_runSN X.fix hM ⟨va_cnB (host := host) (ws' := lw_all) n X.2.2.2.2.1 (fun w hw => ?_) rfl rfl rfl (X.2.2.2.2.2.1.2.2.2.2.1 _ hl) (X.2.2.2.2.1 _ hm.2.1) hm.2.2.2 hR, X.2.2.2.2.1 _ hm.1, trivial⟩ ⟨pc_blind G S _, fun U hU hW => X.pre hH hS rfl hU hW⟩ rfl hn hl2.1 rfl (lv_room ?_) d hf) K
  · rcases List.mem_cons.mp hw with rfl | hw
    · exact lw_goodIn hm.2.2.1
    · exact lw_goodIn hw
  · have := cat_sum rest
    omega
theorem gd_callI (X : Cx p s m args c cc nL own G) (hM : MetM l y bytes maxL none rm (rf a :: As) G S post) (hm : MIw y bytes maxL n) (hl : Cond.methodLink own index y ∈ lw_all) (ha : kT S a ≠ 0) (hR : rm.frames + 1 ≤ R.frames ∧ 8 + (maxL + 11) + rm.locals ≤ R.locals) (hn : As.length = n) (hst : st = As.reverse ++ rf a :: rest) (hr : rest.length ≤ 4) (d : decode cc pc = .ok (.invokespecial index, 3)) (hf : k + rm.cells ≤ R.cells ∧ j + rm.slots ≤ R.slots)
    (K : ∀ (v : Option Value) (S' : MS), post v S' → Gd p l e R s m args below meth c nL G Q (k + rm.cells) (j + rm.slots) S' (pc + 3) E (v.toList ++ rest)) : Gd p l e R s m args below meth c nL G Q k j S pc E st := fun H locs la hH hS hl2 => by
  have ha0 : rf a = .ref a := rf_ne (Cx.ne X hH ha)
  subst hst
  rw [ha0] at hM ⊢
  refine gd_back (a0 := (Value.ref a :: As).toArray) hS hl2 (va_runI X.fix hM ⟨cwB_of X hm.2.1 hm.2.2.1 ⟨hm.2.2.2.1, hm.2.2.2.2.1, hm.2.2.2.2.2.1⟩ hl hR, hm.2.2.2.2.2.2, X.2.2.2.2.1 _ hm.1⟩ ⟨pc_blind G S _, fun U hU hW => X.pre hH hS rfl hU hW⟩ rfl hn hl2.1 rfl (lv_room ?_) d hf) K
  have := cat_sum rest
  omega
theorem gd_objInit (X : Cx p s m args c cc nL own G) (ha : kT S a ≠ 0) (hl : Cond.methodLink own index objectInit ∈ lw_all) (h2 : Cond.instanceMethod objectInit ∈ lw_all) (h3 : Cond.code objectInit ⟨#[0xb1]⟩ 1 none ∈ lw_all) (d : decode cc pc = .ok (.invokespecial index, 3)) (hr : st.length ≤ 4) (hR : 1 ≤ R.frames ∧ 20 ≤ R.locals) (K : Gd p l e R s m args below meth c nL G Q k j S (pc + 3) E st) : Gd p l e R s m args below meth c nL G Q k j S pc E (rf a :: st) := fun H locs la hH hS hl2 => by
  rw [rf_ne (Cx.ne X hH ha)]
  refine W.objInit X.1 X.2.1 X.2.2.2.1 (X.2.2.2.2.1 _ hl) (X.2.2.2.2.1 _ h2) (X.2.2.2.2.1 _ h3) rfl (by rw [X.2.2.1]; exact hl2.1) rfl d hR.1 ?_ (K H locs la hH hS hl2)
  have := cat_sum st
  show 2 * 0 + _ + 12 ≤ _
  omega
end CALLS
end
section
/-! entries, ends, throws, catches; new cells; arrays of references; natives -/
def lv1 : Nat → List Value → List (Nat × Value)
  | _, [] => []
  | i, v :: vs => (i, v) :: lv1 (i + 1) vs
theorem lv1_args : ∀ (vs : List Value) (i : Nat), (∀ v ∈ vs, v.category = 1) → lv_args i vs = lv1 i vs
  | [], _, _ => rfl
  | v :: vs, i, h => by
    have h1 := h v List.mem_cons_self
    rw [lv_args, lv1, if_neg (by rw [h1]; decide), lv1_args vs (i + 1) (fun x hx => h x (List.mem_cons_of_mem _ hx))]
theorem lg_len : ∀ (vs : List Value), (∀ v ∈ vs, v.category = 1) → (lg_sl vs).length = vs.length
  | [], _ => rfl
  | v :: vs, h => by
    have h1 := h v List.mem_cons_self
    have h2 := lg_len vs (fun x hx => h x (List.mem_cons_of_mem _ hx))
    unfold lg_sl at h2 ⊢
    rw [List.flatMap_cons, List.length_append, h2, if_neg (by rw [h1]; decide)]
    simp [Nat.add_comm]
def cat1 : List Value → Prop
  | [] => True
  | v :: vs => v.category = 1 ∧ cat1 vs
theorem cat1_all : ∀ {vs : List Value}, cat1 vs → ∀ v ∈ vs, v.category = 1
  | [], _, _, h => by cases h
  | v :: vs, hc, w, h => by
    rcases List.mem_cons.mp h with rfl | h
    · exact hc.1
    · exact cat1_all hc.2 w h
theorem cat1_i {x : Int32} {vs : List Value} (h : cat1 vs) : cat1 (.int x :: vs) := ⟨rfl, h⟩
theorem cat1_r {a : Nat} {vs : List Value} (h : cat1 vs) : cat1 (rf a :: vs) := ⟨rf_cat a, h⟩
theorem cat1_n : cat1 [] := trivial
def MetW (l : Launch) (y : MethodName) (bytes : ByteArray) (maxL : Nat) (ret : Option FieldType) (hh : List (Nat × Nat × Nat × Nat)) (rm : Room) (as : List Value) (G : GP) (S : MS) (post : Option Value → MS → Prop) : Prop := vx_Met l y (Cond.codeWith y bytes maxL ret hh :: lw_all) rm (PcM G S as) (QcM G post) (XcM G (fun _ _ => False)) rm.cells rm.slots (Ab G)
section ENTRY
variable {l : Launch} {y : MethodName} {bytes : ByteArray} {maxL : Nat} {ret : Option FieldType} {rm : Room} {as : List Value} {G : GP} {S : MS} {post : Option Value → MS → Prop} {xp : String → MS → Prop}
theorem met_of (hy : plainName y.cls = true) (hc : cat1 as) (hlen : as.length ≤ maxL)
    (body : ∀ (p : Program) (e : Env) (s : State) (m : MethodId) (args : Array Value) (below : List Frame) (meth : Method) (c : Code), Cx p s m args c bytes maxL y.cls G → meth.sig.returnType = ret → meth.locks = false → meth.name = y.name →
      Gd p l e rm s m args below meth c maxL G (MQ below (QcM G post) args s rm.cells rm.slots (Ab G)) 0 0 S 0 (lv1 0 as) []) : MetM l y bytes maxL ret rm as G S post := by
  refine Met.ofW (cc := bytes) (maxL := maxL) (ret := ret) hy rfl ?_
  intro p e s m args below meth c s₁ B hml hv
  obtain ⟨rfl, hH, hWI, h1, h2⟩ := hv
  have hts := atoms_spec (ws := Cond.code y bytes maxL ret :: lw_all) B.pre
  have hown : s.vm.findClass y.cls = some m.cls := findClass_of_methodNamed B.named
  have hl := lv_entry as (n := maxL) (by rw [lg_len as (cat1_all hc)]; exact hlen)
  rw [lg_entry_eq]
  rw [lv1_args as 0 (cat1_all hc)] at hl
  exact body p e s m as.toArray below meth c ⟨B.exec, B.bytes, hml, hown, fun w hw => hts w (List.mem_cons_of_mem _ hw), hWI, h1, h2⟩ B.returns B.notSynchronized (name_of_methodNamed B.named B.method).1 s.heap [] _ hH va_S.rf hl
theorem metX_of (hy : plainName y.cls = true) (hc : cat1 as) (hlen : as.length ≤ maxL)
    (body : ∀ (p : Program) (e : Env) (s : State) (m : MethodId) (args : Array Value) (below : List Frame) (meth : Method) (c : Code), Cx p s m args c bytes maxL y.cls G → meth.sig.returnType = ret → meth.locks = false → (∀ x ∈ c.exceptionTable.toList, False) →
      Gd p l e rm s m args below meth c maxL G (vx_MQ below (QcM G post) (XcM G xp) args s rm.cells rm.slots (Ab G)) 0 0 S 0 (lv1 0 as) []) : MetX l y bytes maxL ret rm as G S post xp := by
  refine vx_ofW (cc := bytes) (maxL := maxL) (ret := ret) hy rfl ?_
  intro p e s m args below meth c s₁ B hml ht hv
  obtain ⟨rfl, hH, hWI, h1, h2⟩ := hv
  have hts := atoms_spec (ws := Cond.code y bytes maxL ret :: lw_all) B.pre
  have hown : s.vm.findClass y.cls = some m.cls := findClass_of_methodNamed B.named
  have hl := lv_entry as (n := maxL) (by rw [lg_len as (cat1_all hc)]; exact hlen)
  rw [lg_entry_eq]
  rw [lv1_args as 0 (cat1_all hc)] at hl
  exact body p e s m as.toArray below meth c ⟨B.exec, B.bytes, hml, hown, fun w hw => hts w (List.mem_cons_of_mem _ hw), hWI, h1, h2⟩ B.returns B.notSynchronized ht s.heap [] _ hH va_S.rf hl
theorem metW_of {hh : List (Nat × Nat × Nat × Nat)} (hy : plainName y.cls = true) (hc : cat1 as) (hlen : as.length ≤ maxL)
    (body : ∀ (p : Program) (e : Env) (s : State) (m : MethodId) (args : Array Value) (below : List Frame) (meth : Method) (c : Code), Cx p s m args c bytes maxL y.cls G → meth.sig.returnType = ret → meth.locks = false → c.exceptionTable.toList = tableOf hh →
      Gd p l e rm s m args below meth c maxL G (vx_MQ below (QcM G post) (XcM G (fun _ _ => False)) args s rm.cells rm.slots (Ab G)) 0 0 S 0 (lv1 0 as) []) : MetW l y bytes maxL ret hh rm as G S post := by
  refine vx_ofWH (cc := bytes) (maxL := maxL) (ret := ret) (hh := hh) hy rfl ?_
  intro p e s m args below meth c s₁ B hml hv
  obtain ⟨rfl, hH, hWI, h1, h2⟩ := hv
  have hts := atoms_spec (ws := Cond.codeWith y bytes maxL ret hh :: lw_all) B.pre
  have hown : s.vm.findClass y.cls = some m.cls := findClass_of_methodNamed B.named
  have hl := lv_entry as (n := maxL) (by rw [lg_len as (cat1_all hc)]; exact hlen)
  rw [lg_entry_eq]
  rw [lv1_args as 0 (cat1_all hc)] at hl
  exact body p e s m as.toArray below meth c ⟨B.exec, B.bytes, hml, hown, fun w hw => hts w (List.mem_cons_of_mem _ hw), hWI, h1, h2⟩ B.returns B.notSynchronized (vx_table (x := y) B (hts _ List.mem_cons_self)) s.heap [] _ hH va_S.rf hl
end ENTRY
section ENDS
variable {p : Program} {l : Launch} {e : Env} {R : Room} {s : State} {m : MethodId} {args : Array Value} {below : List Frame} {meth : Method} {c : Code} {Q : State → Prop}
variable {cc : ByteArray} {nL : Nat} {own : String} {G : GP} {k j mc ms : Nat} {S : MS} {pc : Nat} {E : List (Nat × Value)} {st rest : List Value} {post : Option Value → MS → Prop} {xp : String → MS → Prop}
/-- a value on return: what W's rows want of it -/
theorem gd_ret_i (X : Cx p s m args c cc nL own G) {ty : FieldType} {v : Int32} (hr : meth.sig.returnType = some ty) (hlk : meth.locks = false) (hn : narrow ty (.int v) = .int v) (hk : k ≤ mc) (hj : j ≤ ms) (d : decode cc pc = .ok (.ireturn, 1)) (h : post (some (.int v)) S) : Gd p l e R s m args below meth c nL G (MQ below (QcM G post) args s mc ms (Ab G)) k j S pc E [.int v] := fun H locs la hH hS _ =>
  W.widen hk hj (W.zret X.1 X.2.1 hr hn (fun t ht hW => ⟨_, S, rfl, h, by rw [ht]; exact hH, hS.F ht⟩) hS.2.2 d hlk)
theorem gd_ret_v (X : Cx p s m args c cc nL own G) (hr : meth.sig.returnType = none) (hlk : meth.locks = false) (hk : k ≤ mc) (hj : j ≤ ms) (d : decode cc pc = .ok (.return_, 1)) (h : post none S) : Gd p l e R s m args below meth c nL G (MQ below (QcM G post) args s mc ms (Ab G)) k j S pc E [] := fun H locs la hH hS _ =>
  W.widen hk hj (W.vret X.1 X.2.1 hr (fun t ht hW => ⟨_, S, rfl, h, by rw [ht]; exact hH, hS.F ht⟩) hS.2.2 d hlk)
theorem gd_ret_d (X : Cx p s m args c cc nL own G) {v : UInt64} (hr : meth.sig.returnType = some .double) (hlk : meth.locks = false) (hk : k ≤ mc) (hj : j ≤ ms) (d : decode cc pc = .ok (.dreturn, 1)) (h : post (some (.double v)) S) : Gd p l e R s m args below meth c nL G (MQ below (QcM G post) args s mc ms (Ab G)) k j S pc E [.double v] := fun H locs la hH hS _ =>
  W.widen hk hj (W.dret X.1 X.2.1 hr (fun t ht hW => ⟨_, S, rfl, h, by rw [ht]; exact hH, hS.F ht⟩) hS.2.2 d hlk)
theorem gd_ret_f (X : Cx p s m args c cc nL own G) {v : UInt32} (hr : meth.sig.returnType = some .float) (hlk : meth.locks = false) (hk : k ≤ mc) (hj : j ≤ ms) (d : decode cc pc = .ok (.freturn, 1)) (h : post (some (.float v)) S) : Gd p l e R s m args below meth c nL G (MQ below (QcM G post) args s mc ms (Ab G)) k j S pc E [.float v] := fun H locs la hH hS _ =>
  W.widen hk hj (W.fret X.1 X.2.1 hr (fun t ht hW => ⟨_, S, rfl, h, by rw [ht]; exact hH, hS.F ht⟩) hS.2.2 d hlk)
theorem gd_ret_a (X : Cx p s m args c cc nL own G) {ty : FieldType} {a : Nat} (hr : meth.sig.returnType = some ty) (hrt : (∃ n, ty = .object n) ∨ ∃ t, ty = .array t) (hlk : meth.locks = false) (hk : k ≤ mc) (hj : j ≤ ms) (d : decode cc pc = .ok (.areturn, 1)) (h : post (some (rf a)) S) : Gd p l e R s m args below meth c nL G (MQ below (QcM G post) args s mc ms (Ab G)) k j S pc E [rf a] := fun H locs la hH hS _ =>
  W.widen hk hj (W.aret X.1 X.2.1 hr hrt (by
    by_cases ha : a = 0
    · subst ha; exact Or.inl rf_0
    · exact Or.inr ⟨a, rf_ne ha⟩) (fun t ht hW => ⟨_, S, rfl, h, by rw [ht]; exact hH, hS.F ht⟩) hS.2.2 d hlk)
/-- the same ends in a method that may throw -/
theorem gd_x (K : Gd p l e R s m args below meth c nL G (MQ below (QcM G post) args s mc ms (Ab G)) k j S pc E st) : Gd p l e R s m args below meth c nL G (vx_MQ below (QcM G post) (XcM G xp) args s mc ms (Ab G)) k j S pc E st := fun H locs la hH hS hl => vx_ret (K H locs la hH hS hl)
theorem HR_kept {H H1 : Heap} (hH : HR G S H) (h : ∀ q : Nat, q < H.size → H1[q]? = H[q]?) : HR G S H1 := by
  obtain ⟨L, hL, hP, hD⟩ := hH
  exact ⟨L, hL, hP.kept (fun k q hq => h q.1 (hP k q hq).lt), hD⟩
theorem gd_xout (hlk : meth.locks = false) (ht : ∀ x ∈ c.exceptionTable.toList, False) (hk : k ≤ mc) (hj : j ≤ ms) {Ex : String} {S' : MS} (hE : Ex ∈ excs) (hp : xp Ex S') {H1 : Heap} {locs1 : List Loc} {la : Array Slot} {q : Addr} {ce : Cell} (hH : HR G S' H1) (hS : va_S (Ab G) s.heap H1 locs1) (hce : H1[q]? = some ce) (hcv : ce.vm = .none) (hcl : s.vm.findClass Ex = some ce.cls) : vx_W p l e R s m args below meth c H1 locs1 k j (vx_MQ below (QcM G post) (XcM G xp) args s mc ms (Ab G)) (F0 m pc la rest) q :=
  vx_out (fun x hx => (ht x hx).elim) hlk hce hcv hcl (fun t h1 h2 => ⟨S', hE, hp, by rw [h1]; exact hH, hS.F h1⟩) hS.2.2 hk hj
def xnames : List String := ["java/lang/RuntimeException", "java/lang/Exception"]
/-- the words of a throw of the class Ex by the method's class own, its constructor at ic -/
def THw (own : String) (ik is ic : Nat) (Ex text : String) : Prop := Ex ∈ excs ∧ Bundle.fit Ex = true ∧ Cond.classLink own ik Ex ∈ lw_all ∧ Cond.initialized Ex ∈ lw_all ∧ (own, is, text) ∈ strs ∧ (∀ w ∈ (vx_atS own ic Ex xnames).filter goodWord, w ∈ lw_all) ∧ (∀ w ∈ (vx_atS own ic Ex xnames).filter (fun w => !goodWord w), w ∈ odd) ∧ (∀ w ∈ Cond.classLink own ik Ex :: Cond.initialized Ex :: vx_atS own ic Ex xnames, vx_ot w = true)
theorem xnames_fit : ∀ n ∈ xnames, Bundle.fit n = true := by decide +kernel
theorem odd_args {args : Array Value} {s : State} (h : ∀ w ∈ odd, w.before #[] s = true) : ∀ w ∈ odd, w.before args s = true := fun w hw => va_Nw.use (odd_ok w hw).2 (h w hw)
theorem gd_throw (hfl : l.stackTraces = false) (X : Cx p s m args c cc nL own G) (hlk : meth.locks = false) (ht : ∀ x ∈ c.exceptionTable.toList, False) {Ex text : String} {ik is ic : Nat} (hw : THw own ik is ic Ex text) (d0 : decode cc pc = .ok (.new ik, 3)) (d3 : decode cc (pc + 3) = .ok (.dup, 1)) (d4 : decode cc (pc + 4) = .ok (.ldc is, 2)) (d6 : decode cc (pc + 6) = .ok (.invokespecial ic, 3)) (d9 : decode cc (pc + 9) = .ok (.athrow, 1))
    (hR : 6 ≤ R.frames ∧ 100 ≤ R.locals ∧ k + 1 ≤ R.cells ∧ j + 6 ≤ R.slots) (hst : st.length ≤ 4) (hk : k + 1 ≤ mc) (hj : j + 6 ≤ ms) (h : xp Ex S) : Gd p l e R s m args below meth c nL G (vx_MQ below (QcM G post) (XcM G xp) args s mc ms (Ab G)) k j S pc E st := fun H locs la hH hS hl => by
  obtain ⟨w0, w1, w2, w3, w4, w5, w6, w7⟩ := hw
  obtain ⟨sa, hstr⟩ := X.2.2.2.2.2.1.2.2.2.1 _ w4
  have hcs := cat_sum st
  refine vx_throwS X.1 X.2.1 hfl X.2.2.2.1 w1 xnames_fit (X.2.2.2.2.1 _ w2) (X.2.2.2.2.1 _ w3) hstr (vx_hat (fun w hw => X.2.2.2.2.1 w (w5 w hw)) w6 (odd_args X.2.2.2.2.2.1.2.2.2.2.2.2.2.2)) w7 X.2.2.2.2.2.1.2.1 X.2.2.2.2.2.1.2.2.1 hS (by rw [X.2.2.1]; exact hl.1) d0 d3 d4 d6 d9 (fun x hx => (ht x hx).elim) ?_ ?_ hR.2.2.1 hR.2.2.2 hlk ?_ hS.2.2 hk hj
  · show 2 + 3 < _
    omega
  · show _ + (13 * (2 + 1) + 43) ≤ _
    omega
  · intro t h1 h2 h3
    exact ⟨S, w0, h, HR_kept hH h3, Nat.le_trans hS.1 h2, fun q hq hA => (h3 q (Nat.lt_of_lt_of_le hq hS.1)).trans (hS.2.1 q hq hA)⟩
theorem gd_throwW (hfl : l.stackTraces = false) (X : Cx p s m args c cc nL own G) (hlk : meth.locks = false) (ht : ∀ x ∈ c.exceptionTable.toList, False) {Ex text : String} {ik is ic : Nat} (hw : THw own ik is ic Ex text) (d0 : decode cc pc = .ok (.new ik, 3)) (d3 : decode cc (pc + 3) = .ok (.dup, 1)) (d4 : decode cc (pc + 4) = .ok (.ldc_w is, 3)) (d6 : decode cc (pc + 7) = .ok (.invokespecial ic, 3)) (d9 : decode cc (pc + 10) = .ok (.athrow, 1))
    (hR : 6 ≤ R.frames ∧ 100 ≤ R.locals ∧ k + 1 ≤ R.cells ∧ j + 6 ≤ R.slots) (hst : st.length ≤ 4) (hk : k + 1 ≤ mc) (hj : j + 6 ≤ ms) (h : xp Ex S) : Gd p l e R s m args below meth c nL G (vx_MQ below (QcM G post) (XcM G xp) args s mc ms (Ab G)) k j S pc E st := fun H locs la hH hS hl => by
  obtain ⟨w0, w1, w2, w3, w4, w5, w6, w7⟩ := hw
  obtain ⟨sa, hstr⟩ := X.2.2.2.2.2.1.2.2.2.1 _ w4
  have hcs := cat_sum st
  refine vx_throwSW X.1 X.2.1 hfl X.2.2.2.1 w1 xnames_fit (X.2.2.2.2.1 _ w2) (X.2.2.2.2.1 _ w3) hstr (vx_hat (fun w hw => X.2.2.2.2.1 w (w5 w hw)) w6 (odd_args X.2.2.2.2.2.1.2.2.2.2.2.2.2.2)) w7 X.2.2.2.2.2.1.2.1 X.2.2.2.2.2.1.2.2.1 hS (by rw [X.2.2.1]; exact hl.1) d0 d3 d4 d6 d9 (fun x hx => (ht x hx).elim) ?_ ?_ hR.2.2.1 hR.2.2.2 hlk ?_ hS.2.2 hk hj
  · show 2 + 3 < _
    omega
  · show _ + (13 * (2 + 1) + 43) ≤ _
    omega
  · intro t h1 h2 h3
    exact ⟨S, w0, h, HR_kept hH h3, Nat.le_trans hS.1 h2, fun q hq hA => (h3 q (Nat.lt_of_lt_of_le hq hS.1)).trans (hS.2.1 q hq hA)⟩
/-- an exception that comes over a call, caught by the place i of the method's table; its handler begins with a store -/
theorem gd_catch (X : Cx p s m args c cc nL own G) {Ex : String} {S' : MS} {H1 : Heap} {locs1 : List Loc} {la : Array Slot} {q : Addr} {ce : Cell} (pre : List ExceptionTableEntry) (x : ExceptionTableEntry) (suf : List ExceptionTableEntry) (hsplit : c.exceptionTable.toList = pre ++ x :: suf)
    (hpass : ∀ z ∈ pre, z.catchType ≠ 0 ∧ ∃ nm ∈ excs, Cond.classLink own z.catchType nm ∈ lw_all ∧ Ex ≠ nm) (hx : covers x pc = true) (h0 : x.catchType ≠ 0) (hlink : Cond.classLink own x.catchType Ex ∈ lw_all) (hE : Ex ∈ excs) (hcast : Cond.castable Ex Ex ∈ odd)
    {i hp len : Nat} (hhp : x.handlerPc = hp) (hst : ∀ (H : Heap) (locs : List Loc) {k j : Nat} {lv' : List (Nat × Value)}, (i, Value.ref q) :: E.filter (fun q => !(q.1 == i) && !(q.1 + 1 == i && q.2.category == 2)) = lv' → (∀ ls' : Array Slot, lv_has ls' nL lv' → W p l e R s m args below meth c H locs k j Q (F0 m (hp + len) ls' [])) → W p l e R s m args below meth c H locs k j Q (F0 m hp la [.ref q]))
    (hH : HR G S' H1) (hS : va_S (Ab G) s.heap H1 locs1) (hce : H1[q]? = some ce) (hcv : ce.vm = .none) (hcl : s.vm.findClass Ex = some ce.cls)
    (K : Gd p l e R s m args below meth c nL G Q k j S' (hp + len) [] []) : vx_W p l e R s m args below meth c H1 locs1 k j Q (F0 m pc la rest) q := by
  refine vx_catch X.2.2.2.1 pre x suf hsplit (fun z hz => ?_) hx h0 (X.2.2.2.2.1 _ hlink) (odd_args X.2.2.2.2.2.1.2.2.2.2.2.2.2.2 _ hcast) hce hcv hcl ?_
  · obtain ⟨z0, nm, hnm, hl, hne⟩ := hpass z hz
    exact Or.inr ⟨z0, nm, X.2.2.2.2.1 _ hl, X.2.2.2.2.2.1.2.2.2.2.2.2.2.1 Ex hE nm hnm hne⟩
  · rw [hhp]
    refine hst H1 locs1 rfl (fun ls' hl' => K H1 locs1 ls' hH hS (lv_sub hl' [] rfl))
end ENDS
section MAKES
variable {p : Program} {l : Launch} {e : Env} {R : Room} {s : State} {m : MethodId} {args : Array Value} {below : List Frame} {meth : Method} {c : Code} {Q : State → Prop}
variable {cc : ByteArray} {nL : Nat} {own : String} {G : GP} {k j : Nat} {S : MS} {pc : Nat} {E : List (Nat × Value)} {st rest : List Value} {a index : Nat}
theorem fv_new (S : MS) (q t n : Nat) : ∀ (bs : List Bool) (k0 : Nat), fv (nw S q t n) q k0 bs = bs.map (fun b => if b then .null else .int 0)
  | [], _ => rfl
  | b :: bs, k0 => by
    rw [fv, List.map_cons, fv_new S q t n bs (k0 + 1)]
    have e1 : sI (nw S q t n) q k0 = 0 := by simp [sI, nw]
    have e2 : sR (nw S q t n) q k0 = 0 := by simp [sR, nw]
    rw [e1, e2, rf_0]
theorem kT_nw (S : MS) (q t n : Nat) : kT (nw S q t n) q = t := by simp [kT, nw]
theorem kL_nw (S : MS) (q t n : Nat) : kL (nw S q t n) q = n := by simp [kL, nw]
theorem gd_new (X : Cx p s m args c cc nL own G) {ci N : Nat} {C : String} {T : u_T} {ty : Nat → FieldType} (hc : CI ci C T N ty) (h1 : Cond.classLink own index C ∈ lw_all) (h2 : Cond.instantiable C N ∈ lw_all) (h3 : Cond.initialized C ∈ lw_all) (hdef : ∀ i, i < N → defaultValue (ty i) = vp_V ((fl (ci + 1)).map (fun b => if b then .null else .int 0)) i) (d : decode cc pc = .ok (.new index, 3)) (hR : k + 1 ≤ R.cells ∧ j + N ≤ R.slots)
    (K : ∀ q : Nat, kT S q = 0 → q ≠ 0 → Gd p l e R s m args below meth c nL G Q (k + 1) (j + N) (nw S q (ci + 1) 0) (pc + 3) E (rf q :: st)) : Gd p l e R s m args below meth c nL G Q k j S pc E st := fun H locs la hH hS hl => by
  obtain ⟨L, hL, hP, hD⟩ := hH
  refine va_new X.1 X.2.1 X.2.2.2.2.1 hc.2.2.1 ty hc.2.2.2.1 X.2.2.2.1 (X.2.2.2.2.1 _ h1) (X.2.2.2.2.1 _ h2) (X.2.2.2.2.1 _ h3) X.2.2.2.2.2.1.1 hP hD hS X.A hc.2.1 hdef hR.1 hR.2 d (fun q H1 hP1 hD1 hS1 => ?_)
  obtain ⟨hq, hq0, hH1⟩ := HR_new (t := ci + 1) (n := 0) X.2.2.2.2.2.2.1 (by omega) hL hP1 hD1 (by rw [cell_o (kT_nw S q (ci + 1) 0) hc.1, fv_new])
  have := K q hq hq0 H1 locs la hH1 hS1 hl
  rw [rf_ne hq0] at this
  exact this
theorem cy_eq (X : Cx p s m args c cc nL own G) {cA : ClassId} {t0 : Nat} {ty : FieldType} (hK : va_K G.1 cls (tysOf G ++ [(cA, ty)]) s) (h : (tysOf G)[t0]? = some (G.2.1 (t0 + 8), ty)) : cA = G.2.1 (t0 + 8) := by
  have h1 := (X.2.2.2.2.2.1.1.2 t0 _ h).2
  have h2 := (hK.2 9 (cA, ty) rfl).2
  cases ty with
  | object C =>
    obtain ⟨_, _, -, -, -, g1⟩ := h1
    obtain ⟨_, _, -, -, -, g2⟩ := h2
    exact Option.some.inj (g2.symm.trans g1)
  | _ => exact Option.some.inj (Eq.trans (Eq.symm h2) h1)
theorem gd_newaC (X : Cx p s m args c cc nL own G) {N : Nat} {n : Int32} (h1 : Cond.arrayClass .char ∈ lw_all) (hn : ¬ n < 0) (hN : n.toNatClampNeg = N) (hb : N * 8 ≤ 536870912) (d : decode cc pc = .ok (.newarray .char, 2)) (hR : k + 1 ≤ R.cells ∧ j + N ≤ R.slots)
    (K : ∀ q : Nat, kT S q = 0 → q ≠ 0 → Gd p l e R s m args below meth c nL G Q (k + 1) (j + N) (nw S q 8 N) (pc + 2) E (rf q :: st)) : Gd p l e R s m args below meth c nL G Q k j S pc E (.int n :: st) := fun H locs la hH hS hl => by
  obtain ⟨L, hL, hP, hD⟩ := hH
  refine va_newa (atype := .char) (ty := .char) (a0 := (N, .inl (fun _ => 0))) X.1 X.2.1 (X.2.2.2.2.1 _ h1) rfl X.2.2.2.2.2.1.1 hP hD hS X.A (fun _ => rfl) hn hN (Nat.le_trans (Nat.mul_le_mul_left N (by decide)) hb) hR.1 hR.2 d (fun q cA H1 hK1 hP1 hD1 hS1 => ?_)
  have hcA := cy_eq X hK1 (t0 := 0) rfl
  subst hcA
  obtain ⟨hq, hq0, hH1⟩ := HR_new (t := 8) (n := N) X.2.2.2.2.2.2.1 (by omega) hL hP1 hD1 (by
    rw [cell_i (kT_nw S q 8 N) (by omega) (by omega), kL_nw]
    have e1 : sI (nw S q 8 N) q = fun _ => 0 := by funext i; simp [sI, nw]
    rw [e1])
  have := K q hq hq0 H1 locs la hH1 hS1 hl
  rw [rf_ne hq0] at this
  exact this
theorem gd_newaI (X : Cx p s m args c cc nL own G) {N : Nat} {n : Int32} (h1 : Cond.arrayClass .int ∈ lw_all) (hn : ¬ n < 0) (hN : n.toNatClampNeg = N) (hb : N * 8 ≤ 536870912) (d : decode cc pc = .ok (.newarray .int, 2)) (hR : k + 1 ≤ R.cells ∧ j + N ≤ R.slots)
    (K : ∀ q : Nat, kT S q = 0 → q ≠ 0 → Gd p l e R s m args below meth c nL G Q (k + 1) (j + N) (nw S q 9 N) (pc + 2) E (rf q :: st)) : Gd p l e R s m args below meth c nL G Q k j S pc E (.int n :: st) := fun H locs la hH hS hl => by
  obtain ⟨L, hL, hP, hD⟩ := hH
  refine va_newa (atype := .int) (ty := .int) (a0 := (N, .inl (fun _ => 0))) X.1 X.2.1 (X.2.2.2.2.1 _ h1) rfl X.2.2.2.2.2.1.1 hP hD hS X.A (fun _ => rfl) hn hN (Nat.le_trans (Nat.mul_le_mul_left N (by decide)) hb) hR.1 hR.2 d (fun q cA H1 hK1 hP1 hD1 hS1 => ?_)
  have hcA := cy_eq X hK1 (t0 := 1) rfl
  subst hcA
  obtain ⟨hq, hq0, hH1⟩ := HR_new (t := 9) (n := N) X.2.2.2.2.2.2.1 (by omega) hL hP1 hD1 (by
    rw [cell_i (kT_nw S q 9 N) (by omega) (by omega), kL_nw]
    have e1 : sI (nw S q 9 N) q = fun _ => 0 := by funext i; simp [sI, nw]
    rw [e1])
  have := K q hq hq0 H1 locs la hH1 hS1 hl
  rw [rf_ne hq0] at this
  exact this
theorem gd_newaZ (X : Cx p s m args c cc nL own G) {N : Nat} {n : Int32} (h1 : Cond.arrayClass .boolean ∈ lw_all) (hn : ¬ n < 0) (hN : n.toNatClampNeg = N) (hb : N * 8 ≤ 536870912) (d : decode cc pc = .ok (.newarray .boolean, 2)) (hR : k + 1 ≤ R.cells ∧ j + N ≤ R.slots)
    (K : ∀ q : Nat, kT S q = 0 → q ≠ 0 → Gd p l e R s m args below meth c nL G Q (k + 1) (j + N) (nw S q 10 N) (pc + 2) E (rf q :: st)) : Gd p l e R s m args below meth c nL G Q k j S pc E (.int n :: st) := fun H locs la hH hS hl => by
  obtain ⟨L, hL, hP, hD⟩ := hH
  refine va_newa (atype := .boolean) (ty := .boolean) (a0 := (N, .inl (fun _ => 0))) X.1 X.2.1 (X.2.2.2.2.1 _ h1) rfl X.2.2.2.2.2.1.1 hP hD hS X.A (fun _ => rfl) hn hN (Nat.le_trans (Nat.mul_le_mul_left N (by decide)) hb) hR.1 hR.2 d (fun q cA H1 hK1 hP1 hD1 hS1 => ?_)
  have hcA := cy_eq X hK1 (t0 := 2) rfl
  subst hcA
  obtain ⟨hq, hq0, hH1⟩ := HR_new (t := 10) (n := N) X.2.2.2.2.2.2.1 (by omega) hL hP1 hD1 (by
    rw [cell_i (kT_nw S q 10 N) (by omega) (by omega), kL_nw]
    have e1 : sI (nw S q 10 N) q = fun _ => 0 := by funext i; simp [sI, nw]
    rw [e1])
  have := K q hq hq0 H1 locs la hH1 hS1 hl
  rw [rf_ne hq0] at this
  exact this
theorem gd_newaL (X : Cx p s m args c cc nL own G) {N : Nat} {n : Int32} (h1 : Cond.arrayClass .long ∈ lw_all) (hn : ¬ n < 0) (hN : n.toNatClampNeg = N) (hb : N * 8 ≤ 536870912) (d : decode cc pc = .ok (.newarray .long, 2)) (hR : k + 1 ≤ R.cells ∧ j + N ≤ R.slots)
    (K : ∀ q : Nat, kT S q = 0 → q ≠ 0 → Gd p l e R s m args below meth c nL G Q (k + 1) (j + N) (nw S q 15 N) (pc + 2) E (rf q :: st)) : Gd p l e R s m args below meth c nL G Q k j S pc E (.int n :: st) := fun H locs la hH hS hl => by
  obtain ⟨L, hL, hP, hD⟩ := hH
  refine va_newa (atype := .long) (ty := .long) (a0 := (N, .inr (.inl (fun _ => 0)))) X.1 X.2.1 (X.2.2.2.2.1 _ h1) rfl X.2.2.2.2.2.1.1 hP hD hS X.A (fun _ => rfl) hn hN (Nat.le_trans (Nat.mul_le_mul_left N (by decide)) hb) hR.1 hR.2 d (fun q cA H1 hK1 hP1 hD1 hS1 => ?_)
  have hcA := cy_eq X hK1 (t0 := 7) rfl
  subst hcA
  obtain ⟨hq, hq0, hH1⟩ := HR_new (t := 15) (n := N) X.2.2.2.2.2.2.1 (by omega) hL hP1 hD1 (by
    rw [cell_l (kT_nw S q 15 N), kL_nw]
    have e1 : sL (nw S q 15 N) q = fun _ => 0 := by funext i; simp [sL, nw]
    rw [e1])
  have := K q hq hq0 H1 locs la hH1 hS1 hl
  rw [rf_ne hq0] at this
  exact this
theorem gd_newaD (X : Cx p s m args c cc nL own G) {N : Nat} {n : Int32} (h1 : Cond.arrayClass .double ∈ lw_all) (hn : ¬ n < 0) (hN : n.toNatClampNeg = N) (hb : N * 8 ≤ 536870912) (d : decode cc pc = .ok (.newarray .double, 2)) (hR : k + 1 ≤ R.cells ∧ j + N ≤ R.slots)
    (K : ∀ q : Nat, kT S q = 0 → q ≠ 0 → Gd p l e R s m args below meth c nL G Q (k + 1) (j + N) (nw S q 16 N) (pc + 2) E (rf q :: st)) : Gd p l e R s m args below meth c nL G Q k j S pc E (.int n :: st) := fun H locs la hH hS hl => by
  obtain ⟨L, hL, hP, hD⟩ := hH
  refine va_newa (atype := .double) (ty := .double) (a0 := (N, .inr (.inr (.inr (.inl (fun _ => 0)))))) X.1 X.2.1 (X.2.2.2.2.1 _ h1) rfl X.2.2.2.2.2.1.1 hP hD hS X.A (fun _ => rfl) hn hN (Nat.le_trans (Nat.mul_le_mul_left N (by decide)) hb) hR.1 hR.2 d (fun q cA H1 hK1 hP1 hD1 hS1 => ?_)
  have hcA := cy_eq X hK1 (t0 := 8) rfl
  subst hcA
  obtain ⟨hq, hq0, hH1⟩ := HR_new (t := 16) (n := N) X.2.2.2.2.2.2.1 (by omega) hL hP1 hD1 (by
    rw [cell_d (kT_nw S q 16 N), kL_nw]
    have e1 : sD (nw S q 16 N) q = fun _ => 0 := by funext i; simp [sD, nw]
    rw [e1])
  have := K q hq hq0 H1 locs la hH1 hS1 hl
  rw [rf_ne hq0] at this
  exact this
theorem gd_anew (X : Cx p s m args c cc nL own G) {t N : Nat} {n : Int32} {C : String} (h1 : Cond.classLink own index C ∈ lw_all) (hC : C ∈ [RX0, RX2, RX4]) (ht : (tysOf G)[t]? = some (G.2.1 (t + 8), .object C)) (ht1 : 3 ≤ t) (ht2 : t ≤ 5) (hn : ¬ n < 0) (hN : n.toNatClampNeg = N) (hb : N * 4 ≤ 536870912) (d : decode cc pc = .ok (.anewarray index, 3)) (hR : k + 1 ≤ R.cells ∧ j + N ≤ R.slots)
    (K : ∀ q : Nat, kT S q = 0 → q ≠ 0 → Gd p l e R s m args below meth c nL G Q (k + 1) (j + N) (nw S q (t + 8) N) (pc + 3) E (rf q :: st)) : Gd p l e R s m args below meth c nL G Q k j S pc E (.int n :: st) := fun H locs la hH hS hl => by
  obtain ⟨L, hL, hP, hD⟩ := hH
  refine va_newq X.1 X.2.1 X.2.2.2.1 (X.2.2.2.2.1 _ h1) (X.2.2.2.2.2.1.2.2.2.2.2.1 C hC) X.2.2.2.2.2.1.1 hP hD hS X.A hn hN hb hR.1 hR.2 d (fun q cA H1 hK1 hP1 hD1 hS1 => ?_)
  have hcA := cy_eq X hK1 (t0 := t) ht
  subst hcA
  obtain ⟨hq, hq0, hH1⟩ := HR_new (t := t + 8) (n := N) X.2.2.2.2.2.2.1 (by omega) hL hP1 hD1 (by
    rw [cell_q (kT_nw S q (t + 8) N) (by omega) (by omega), kL_nw]
    have e1 : (fun i => op (sR (nw S q (t + 8) N) q i)) = fun _ => none := by funext i; simp [sR, nw, op]
    rw [e1])
  have := K q hq hq0 H1 locs la hH1 hS1 hl
  rw [rf_ne hq0] at this
  exact this
theorem gd_aald (X : Cx p s m args c cc nL own G) {a t : Nat} {i : Int32} {ty : FieldType} (ht : (tysOf G)[t]? = some (G.2.1 (t + 8), ty)) (hty : ty.isReference = true) (ht1 : 3 ≤ t) (ht2 : t ≤ 6) (d : decode cc pc = .ok (.aaload, 1)) (ha : kT S a = t + 8) (hi : vp_in i (kL S a)) (K : Gd p l e R s m args below meth c nL G Q k j S (pc + 1) E (rf (sR S a (ix i)) :: st)) : Gd p l e R s m args below meth c nL G Q k j S pc E (.int i :: rf a :: st) := fun H locs la hH hS hl => by
  obtain ⟨L, q, hL, hP, hD, hm, hq⟩ := HR_at hH (a := a) (by rw [ha]; omega)
  rw [cell_q ha (by omega) (by omega)] at hq
  rw [rf_ne (a := a) (Cx.ne X hH (by rw [ha]; omega))]
  have hlt : i.toNatClampNeg < kL S a := Nat.not_le.mp fun q => hi (Or.inr q)
  exact W.aald (v := rf (sR S a (ix i))) (ty := ty) X.1 X.2.1 (hP q _ hq) ((X.2.2.2.2.2.1.1.2 t _ ht).1 (kL S a) (fun j => va_rf (op (sR S a j)))) hty (fun q => by cases q) (by show ¬ (i < 0 ∨ (arrV _ _ _).slots.size ≤ _); rw [arrV_size]; exact hi) (by show (arrV _ _ _).slots[_]? = _; rw [arrV_read _ _ hlt]; rfl) rfl rfl d (K H locs la hH hS hl)
theorem gd_aast (X : Cx p s m args c cc nL own G) {a t v ci : Nat} {i : Int32} {C : String} {T : u_T} {N : Nat} {ty : Nat → FieldType} (hc : CI ci C T N ty) (ht : (tysOf G)[t]? = some (G.2.1 (t + 8), .object C)) (ht1 : 3 ≤ t) (ht2 : t ≤ 6) (d : decode cc pc = .ok (.aastore, 1)) (ha : kT S a = t + 8) (hv : kT S v = ci + 1) (hi : vp_in i (kL S a)) (K : Gd p l e R s m args below meth c nL G Q k j (pR S a (ix i) v) (pc + 1) E st) : Gd p l e R s m args below meth c nL G Q k j S pc E (rf v :: .int i :: rf a :: st) := fun H locs la hH hS hl => by
  obtain ⟨L, q, hL, hP, hD, hm, hq⟩ := HR_at hH (a := a) (by rw [ha]; omega)
  have hq0 := hq
  obtain ⟨qv, hqv⟩ := va_pl_get (X := []) (f := cellOf G.2.1 S) ((hL v).mpr (by rw [hv]; omega))
  have hqv : (va_pl L (cellOf G.2.1 S))[qv]? = some (v, cellOf G.2.1 S v) := hqv
  rw [cell_o hv hc.1] at hqv
  rw [cell_q ha (by omega) (by omega)] at hq
  have hv0 : v ≠ 0 := Cx.ne X hH (by rw [hv]; omega)
  rw [rf_ne (a := a) (Cx.ne X hH (by rw [ha]; omega)), rf_ne (a := v) hv0]
  refine va_astq X.1 X.2.1 X.2.2.2.2.2.1.1 hP hD hS q t qv ci hq ht hqv hc.2.1 hi d (fun H1 locs1 hP1 hD1 hS1 => ?_)
  refine K H1 locs1 la (HR_put hL hD hm hq0 hP1 hD1 (fun _ => rfl) ?_ (fun b hb => cell_pR hb)) hS1 hl
  rw [cell_q (S := pR S a (ix i) v) ha (by omega) (by omega)]
  congr 2
  congr 1
  congr 1
  congr 1
  congr 1
  congr 1
  funext z
  simp only [sR_pR, va_up, ix, if_pos]
  by_cases hz : z = i.toNatClampNeg
  · simp [hz, op_ne hv0]
  · simp [hz]
theorem gd_copy (X : Cx p s m args c cc nL own G) {a b : Nat} {sp dp n : Int32} (h1 : Cond.methodLink own index arraycopyName ∈ lw_all) (h2 : Cond.native arraycopyName ∈ lw_all) (h3 : Cond.static arraycopyName ∈ lw_all) (h4 : Cond.initialized "java/lang/System" ∈ lw_all) (d : decode cc pc = .ok (.invokestatic index, 3)) (ha : kT S a = 9) (hb : kT S b = 9) (n1 : ¬ sp < 0) (n2 : ¬ dp < 0) (n3 : ¬ n < 0) (n4 : ix sp + ix n ≤ kL S a) (n5 : ix dp + ix n ≤ kL S b) (hR : 1 ≤ R.frames ∧ 100 ≤ R.locals) (hst : st.length ≤ 4)
    (K : Gd p l e R s m args below meth c nL G Q k j (S.1, fun x => if x = b then va_cpy (sI S a) (sI S b) (ix sp) (ix dp) (ix n) else sI S x, S.2.2) (pc + 3) E st) : Gd p l e R s m args below meth c nL G Q k j S pc E (.int n :: .int dp :: rf b :: .int sp :: rf a :: st) := fun H locs la hH hS hl => by
  obtain ⟨L, q, hL, hP, hD, hm, hq⟩ := HR_at hH (a := b) (by rw [hb]; omega)
  have hq0 := hq
  obtain ⟨qa, hqa⟩ := va_pl_get (X := []) (f := cellOf G.2.1 S) ((hL a).mpr (by rw [ha]; omega))
  have hqa : (va_pl L (cellOf G.2.1 S))[qa]? = some (a, cellOf G.2.1 S a) := hqa
  rw [cell_i ha (by omega) (by omega)] at hqa
  rw [cell_i hb (by omega) (by omega)] at hq
  rw [rf_ne (a := a) (Cx.ne X hH (by rw [ha]; omega)), rf_ne (a := b) (Cx.ne X hH (by rw [hb]; omega))]
  have hcs := cat_sum st
  refine va_copyi (ty := .int) X.1 X.2.1 (X.2.2.1.trans hl.1.symm) X.2.2.2.1 (X.2.2.2.2.1 _ h1) (X.2.2.2.2.1 _ h2) (X.2.2.2.2.1 _ h3) (X.2.2.2.2.1 _ h4) X.2.2.2.2.2.1.1 hP hD hS qa q 1 1 hqa hq rfl rfl rfl n1 n2 n3 n4 n5 (fun _ _ => rfl) hR.1 (Nat.le_trans (Nat.add_le_add_right (show _ ≤ 8 by omega) _) (Nat.le_trans (show 8 + (nativeFrameWords "java/lang/System" "arraycopy" 5 + 11) ≤ 100 by decide +kernel) hR.2)) d (fun H1 locs1 hP1 hD1 hS1 => ?_)
  refine K H1 locs1 la (HR_put hL hD hm hq0 hP1 hD1 (fun _ => rfl) ?_ (fun x hx => ?_)) hS1 hl
  · rw [cell_i (S := (S.1, fun x => if x = b then va_cpy (sI S a) (sI S b) (ix sp) (ix dp) (ix n) else sI S x, S.2.2)) hb (by omega) (by omega)]
    simp only [sI, kL, ix, if_pos]
  · refine cell_congr rfl rfl ?_ rfl rfl rfl
    show (if x = b then _ else sI S x) = sI S x
    rw [if_neg hx]
theorem gd_max (X : Cx p s m args c cc nL own G) {x y : Int32} (h1 : Cond.methodLink own index Lib.Math.max.name ∈ lw_all) (h2 : Cond.static Lib.Math.max.name ∈ lw_all) (h3 : Cond.initialized "java/lang/Math" ∈ lw_all) (h4 : Cond.code Lib.Math.max.name Lib.Math.max.code 2 (some .int) ∈ lw_all) (d : decode cc pc = .ok (.invokestatic index, 3)) (hR : 1 ≤ R.frames ∧ 100 ≤ R.locals ∧ k ≤ R.cells ∧ j ≤ R.slots) (hst : st.length ≤ 4)
    (K : Gd p l e R s m args below meth c nL G Q k j S (pc + 3) E (.int (if x < y then y else x) :: st)) : Gd p l e R s m args below meth c nL G Q k j S pc E (.int y :: .int x :: st) := fun H locs la hH hS hl => by
  have hcs := cat_sum st
  exact va_mmax X.1 X.2.1 (X.2.2.1.trans hl.1.symm) X.2.2.2.1 (X.2.2.2.2.1 _ h1) (X.2.2.2.2.1 _ h2) (X.2.2.2.2.1 _ h3) (X.2.2.2.2.1 _ h4) hR.1 (by omega) hR.2.2.1 hR.2.2.2 d (K H locs la hH hS hl)
theorem gd_tableOut (X : Cx p s m args c cc nL own G) {dflt lo hi : Int} {offs : Array Int} {len : Nat} {x : Int32} (tgt : Nat) (d : decode cc pc = .ok (.tableswitch dflt lo hi offs, len)) (h : x.toInt < lo ∨ hi < x.toInt) (ht : (pc : Int) + dflt = (tgt : Int)) (K : Gd p l e R s m args below meth c nL G Q k j S tgt E st) : Gd p l e R s m args below meth c nL G Q k j S pc E (.int x :: st) := fun H locs la hH hS hl => lv_tableOut X.1 X.2.1 d h ht (K H locs la hH hS hl)
theorem gd_tableIn (X : Cx p s m args c cc nL own G) {dflt lo hi : Int} {offs : Array Int} {len : Nat} {x : Int32} {off : Int} (tgt : Nat) (d : decode cc pc = .ok (.tableswitch dflt lo hi offs, len)) (h1 : ¬ x.toInt < lo) (h2 : ¬ hi < x.toInt) (ho : offs[(x.toInt - lo).toNat]? = some off) (ht : (pc : Int) + off = (tgt : Int)) (K : Gd p l e R s m args below meth c nL G Q k j S tgt E st) : Gd p l e R s m args below meth c nL G Q k j S pc E (.int x :: st) := fun H locs la hH hS hl => lv_tableIn X.1 X.2.1 d h1 h2 ho ht (K H locs la hH hS hl)
theorem gd_callW (X : Cx p s m args c cc nL own G) {y : MethodName} {bytes : ByteArray} {maxL n : Nat} {ret : Option FieldType} {hh : List (Nat × Nat × Nat × Nat)} {rm : Room} {As : List Value} {post : Option Value → MS → Prop} (hM : MetW l y bytes maxL ret hh rm As G S post) (h1 : Cond.static y ∈ lw_all) (h2 : Cond.initialized y.cls ∈ lw_all) (h3 : Cond.codeWith y bytes maxL ret hh ∈ lw_all) (h4 : y.cls ≠ "java/lang/invoke/MethodHandle" ∧ y.cls ≠ "java/lang/invoke/VarHandle" ∧ (parseMethodDescriptor y.desc).map (fun d => d.parameters.length) = some n) (hl : Cond.methodLink own index y ∈ lw_all) (hR : rm.frames + 1 ≤ R.frames ∧ 8 + (maxL + 11) + rm.locals ≤ R.locals) (hn : As.length = n) (hst : st = As.reverse ++ rest) (hr : rest.length ≤ 4) (d : decode cc pc = .ok (.invokestatic index, 3)) (hf : k + rm.cells ≤ R.cells ∧ j + rm.slots ≤ R.slots)
    (K : ∀ (v : Option Value) (S' : MS), post v S' → Gd p l e R s m args below meth c nL G Q (k + rm.cells) (j + rm.slots) S' (pc + 3) E (v.toList ++ rest)) : Gd p l e R s m args below meth c nL G Q k j S pc E st := fun H locs la hH hS hl2 => by
  subst hst
  refine gd_backX (a0 := As.toArray) hS hl2 (vx_runSX (hh := hh) X.fix hM (vx_cwSW (ws' := lw_all) n X.2.2.2.2.1 (fun w hw => ?_) rfl rfl rfl h4 hR) ⟨pc_blind G S _, fun U hU hW => X.pre hH hS rfl hU hW⟩ rfl hn hl2.1 rfl (lv_room ?_) d hf) K (fun Ex S' hE hp => hp.elim)
  · unfold va_wsS at hw
    rcases List.mem_append.mp hw with hw | hw
    · simp only [List.mem_cons, List.not_mem_nil, or_false] at hw
      rcases hw with rfl | rfl | rfl
      · exact lw_goodIn hl
      · exact lw_goodIn h1
      · exact lw_goodIn h2
    · rcases List.mem_cons.mp hw with rfl | hw
      · exact lw_goodIn h3
      · exact lw_goodIn hw
  · have := cat_sum rest
    omega
end MAKES
end
