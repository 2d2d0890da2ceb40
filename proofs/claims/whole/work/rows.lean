section
-- ===== PART A: goes FIRST, ahead of the names: the tables' words, and 'selects' of the private methods out of them =====
/-- a private method of a class that the tables say can be made, by its rows of tables_1 -/
def lw_okq (q : MethodName × Nat) : Prop := (q.1.cls ≠ "java/lang/invoke/MethodHandle" ∧ q.1.cls ≠ "java/lang/invoke/VarHandle") ∧ Cond.instantiable q.1.cls q.2 ∈ tables_1 ∧ Cond.privateMethod q.1 ∈ tables_1 ∧ Cond.instanceMethod q.1 ∈ tables_1
theorem lw_p0 : lw_okq (⟨"DecisionWeb", "begin", "(II)V"⟩, 13) := ⟨⟨by decide +kernel, by decide +kernel⟩, List.mem_of_getElem? (i := 10) (by decide +kernel), List.mem_of_getElem? (i := 48) (by decide +kernel), List.mem_of_getElem? (i := 49) (by decide +kernel)⟩
theorem lw_p1 : lw_okq (⟨"DecisionWeb", "restPointer", "()V"⟩, 13) := ⟨⟨by decide +kernel, by decide +kernel⟩, List.mem_of_getElem? (i := 10) (by decide +kernel), List.mem_of_getElem? (i := 62) (by decide +kernel), List.mem_of_getElem? (i := 63) (by decide +kernel)⟩
theorem lw_p2 : lw_okq (⟨"DecisionWeb", "pointAt", "(I)V"⟩, 13) := ⟨⟨by decide +kernel, by decide +kernel⟩, List.mem_of_getElem? (i := 10) (by decide +kernel), List.mem_of_getElem? (i := 66) (by decide +kernel), List.mem_of_getElem? (i := 67) (by decide +kernel)⟩
theorem lw_p3 : lw_okq (⟨"DecisionWeb", "isLetter", "(I)Z"⟩, 13) := ⟨⟨by decide +kernel, by decide +kernel⟩, List.mem_of_getElem? (i := 10) (by decide +kernel), List.mem_of_getElem? (i := 131) (by decide +kernel), List.mem_of_getElem? (i := 132) (by decide +kernel)⟩
theorem lw_p4 : lw_okq (⟨"DecisionWeb", "placeOf", "(I)I"⟩, 13) := ⟨⟨by decide +kernel, by decide +kernel⟩, List.mem_of_getElem? (i := 10) (by decide +kernel), List.mem_of_getElem? (i := 135) (by decide +kernel), List.mem_of_getElem? (i := 136) (by decide +kernel)⟩
theorem lw_p5 : lw_okq (⟨"DecisionWeb", "levelOf", "(I)I"⟩, 13) := ⟨⟨by decide +kernel, by decide +kernel⟩, List.mem_of_getElem? (i := 10) (by decide +kernel), List.mem_of_getElem? (i := 139) (by decide +kernel), List.mem_of_getElem? (i := 140) (by decide +kernel)⟩
theorem lw_p6 : lw_okq (⟨"DecisionWeb", "placeAt", "(I)I"⟩, 13) := ⟨⟨by decide +kernel, by decide +kernel⟩, List.mem_of_getElem? (i := 10) (by decide +kernel), List.mem_of_getElem? (i := 143) (by decide +kernel), List.mem_of_getElem? (i := 144) (by decide +kernel)⟩
theorem lw_p7 : lw_okq (⟨"DecisionWeb", "keep", "(I)I"⟩, 13) := ⟨⟨by decide +kernel, by decide +kernel⟩, List.mem_of_getElem? (i := 10) (by decide +kernel), List.mem_of_getElem? (i := 152) (by decide +kernel), List.mem_of_getElem? (i := 153) (by decide +kernel)⟩
theorem lw_p8 : lw_okq (⟨"DecisionWeb$Survey", "forksOf", "([[JIIII)I"⟩, 6) := ⟨⟨by decide +kernel, by decide +kernel⟩, List.mem_of_getElem? (i := 20) (by decide +kernel), List.mem_of_getElem? (i := 158) (by decide +kernel), List.mem_of_getElem? (i := 159) (by decide +kernel)⟩
theorem lw_p9 : lw_okq (⟨"DecisionWeb$Survey", "list", "([[JIIII)V"⟩, 6) := ⟨⟨by decide +kernel, by decide +kernel⟩, List.mem_of_getElem? (i := 20) (by decide +kernel), List.mem_of_getElem? (i := 162) (by decide +kernel), List.mem_of_getElem? (i := 163) (by decide +kernel)⟩
theorem lw_p10 : lw_okq (⟨"DecisionWeb$Survey", "clear", "(I)V"⟩, 6) := ⟨⟨by decide +kernel, by decide +kernel⟩, List.mem_of_getElem? (i := 20) (by decide +kernel), List.mem_of_getElem? (i := 166) (by decide +kernel), List.mem_of_getElem? (i := 167) (by decide +kernel)⟩
theorem lw_p11 : lw_okq (⟨"DecisionWeb$Survey", "find", "([[JIII)V"⟩, 6) := ⟨⟨by decide +kernel, by decide +kernel⟩, List.mem_of_getElem? (i := 20) (by decide +kernel), List.mem_of_getElem? (i := 173) (by decide +kernel), List.mem_of_getElem? (i := 174) (by decide +kernel)⟩
theorem lw_p12 : lw_okq (⟨"DecisionWeb$Survey", "note", "(II)V"⟩, 6) := ⟨⟨by decide +kernel, by decide +kernel⟩, List.mem_of_getElem? (i := 20) (by decide +kernel), List.mem_of_getElem? (i := 184) (by decide +kernel), List.mem_of_getElem? (i := 185) (by decide +kernel)⟩
theorem lw_p13 : lw_okq (⟨"DecisionWeb$Survey", "cut", "([[JI)I"⟩, 6) := ⟨⟨by decide +kernel, by decide +kernel⟩, List.mem_of_getElem? (i := 20) (by decide +kernel), List.mem_of_getElem? (i := 191) (by decide +kernel), List.mem_of_getElem? (i := 192) (by decide +kernel)⟩
theorem lw_p14 : lw_okq (⟨"DecisionWeb", "isAssignment", "(I)Z"⟩, 13) := ⟨⟨by decide +kernel, by decide +kernel⟩, List.mem_of_getElem? (i := 10) (by decide +kernel), List.mem_of_getElem? (i := 227) (by decide +kernel), List.mem_of_getElem? (i := 228) (by decide +kernel)⟩
theorem lw_p15 : lw_okq (⟨"DecisionWeb", "copyToSpare", "(I)V"⟩, 13) := ⟨⟨by decide +kernel, by decide +kernel⟩, List.mem_of_getElem? (i := 10) (by decide +kernel), List.mem_of_getElem? (i := 231) (by decide +kernel), List.mem_of_getElem? (i := 232) (by decide +kernel)⟩
def lw_privs_1 : List (MethodName × Nat) := [(⟨"DecisionWeb", "begin", "(II)V"⟩, 13), (⟨"DecisionWeb", "restPointer", "()V"⟩, 13), (⟨"DecisionWeb", "pointAt", "(I)V"⟩, 13), (⟨"DecisionWeb", "isLetter", "(I)Z"⟩, 13), (⟨"DecisionWeb", "placeOf", "(I)I"⟩, 13), (⟨"DecisionWeb", "levelOf", "(I)I"⟩, 13), (⟨"DecisionWeb", "placeAt", "(I)I"⟩, 13), (⟨"DecisionWeb", "keep", "(I)I"⟩, 13), (⟨"DecisionWeb$Survey", "forksOf", "([[JIIII)I"⟩, 6), (⟨"DecisionWeb$Survey", "list", "([[JIIII)V"⟩, 6), (⟨"DecisionWeb$Survey", "clear", "(I)V"⟩, 6), (⟨"DecisionWeb$Survey", "find", "([[JIII)V"⟩, 6), (⟨"DecisionWeb$Survey", "note", "(II)V"⟩, 6), (⟨"DecisionWeb$Survey", "cut", "([[JI)I"⟩, 6), (⟨"DecisionWeb", "isAssignment", "(I)Z"⟩, 13), (⟨"DecisionWeb", "copyToSpare", "(I)V"⟩, 13)]
theorem lw_r1 : ∀ q ∈ lw_privs_1, lw_okq q := List.forall_mem_cons.mpr ⟨lw_p0, List.forall_mem_cons.mpr ⟨lw_p1, List.forall_mem_cons.mpr ⟨lw_p2, List.forall_mem_cons.mpr ⟨lw_p3, List.forall_mem_cons.mpr ⟨lw_p4, List.forall_mem_cons.mpr ⟨lw_p5, List.forall_mem_cons.mpr ⟨lw_p6, List.forall_mem_cons.mpr ⟨lw_p7, List.forall_mem_cons.mpr ⟨lw_p8, List.forall_mem_cons.mpr ⟨lw_p9, List.forall_mem_cons.mpr ⟨lw_p10, List.forall_mem_cons.mpr ⟨lw_p11, List.forall_mem_cons.mpr ⟨lw_p12, List.forall_mem_cons.mpr ⟨lw_p13, List.forall_mem_cons.mpr ⟨lw_p14, List.forall_mem_cons.mpr ⟨lw_p15, fun _ h => absurd h List.not_mem_nil⟩⟩⟩⟩⟩⟩⟩⟩⟩⟩⟩⟩⟩⟩⟩⟩
theorem lw_p16 : lw_okq (⟨"DecisionWeb", "sumSpare", "(IZ)V"⟩, 13) := ⟨⟨by decide +kernel, by decide +kernel⟩, List.mem_of_getElem? (i := 10) (by decide +kernel), List.mem_of_getElem? (i := 235) (by decide +kernel), List.mem_of_getElem? (i := 236) (by decide +kernel)⟩
theorem lw_p17 : lw_okq (⟨"DecisionWeb", "isAll", "(IJ)Z"⟩, 13) := ⟨⟨by decide +kernel, by decide +kernel⟩, List.mem_of_getElem? (i := 10) (by decide +kernel), List.mem_of_getElem? (i := 263) (by decide +kernel), List.mem_of_getElem? (i := 264) (by decide +kernel)⟩
theorem lw_p18 : lw_okq (⟨"DecisionWeb", "findNearest", "([J[I[I)V"⟩, 13) := ⟨⟨by decide +kernel, by decide +kernel⟩, List.mem_of_getElem? (i := 10) (by decide +kernel), List.mem_of_getElem? (i := 267) (by decide +kernel), List.mem_of_getElem? (i := 268) (by decide +kernel)⟩
theorem lw_p19 : lw_okq (⟨"DecisionWeb", "isLevel", "(I)Z"⟩, 13) := ⟨⟨by decide +kernel, by decide +kernel⟩, List.mem_of_getElem? (i := 10) (by decide +kernel), List.mem_of_getElem? (i := 285) (by decide +kernel), List.mem_of_getElem? (i := 286) (by decide +kernel)⟩
theorem lw_p20 : lw_okq (⟨"DecisionWeb", "turn", "(I)V"⟩, 13) := ⟨⟨by decide +kernel, by decide +kernel⟩, List.mem_of_getElem? (i := 10) (by decide +kernel), List.mem_of_getElem? (i := 289) (by decide +kernel), List.mem_of_getElem? (i := 290) (by decide +kernel)⟩
theorem lw_p21 : lw_okq (⟨"DecisionWeb", "forksOfAll", "()I"⟩, 13) := ⟨⟨by decide +kernel, by decide +kernel⟩, List.mem_of_getElem? (i := 10) (by decide +kernel), List.mem_of_getElem? (i := 293) (by decide +kernel), List.mem_of_getElem? (i := 294) (by decide +kernel)⟩
theorem lw_p22 : lw_okq (⟨"DecisionWeb", "bestLevelGoingDown", "()I"⟩, 13) := ⟨⟨by decide +kernel, by decide +kernel⟩, List.mem_of_getElem? (i := 10) (by decide +kernel), List.mem_of_getElem? (i := 301) (by decide +kernel), List.mem_of_getElem? (i := 302) (by decide +kernel)⟩
theorem lw_p23 : lw_okq (⟨"DecisionWeb$Survey", "forksListed", "([[JI)I"⟩, 6) := ⟨⟨by decide +kernel, by decide +kernel⟩, List.mem_of_getElem? (i := 20) (by decide +kernel), List.mem_of_getElem? (i := 307) (by decide +kernel), List.mem_of_getElem? (i := 308) (by decide +kernel)⟩
theorem lw_p24 : lw_okq (⟨"DecisionWeb", "bitOf", "(I)I"⟩, 13) := ⟨⟨by decide +kernel, by decide +kernel⟩, List.mem_of_getElem? (i := 10) (by decide +kernel), List.mem_of_getElem? (i := 325) (by decide +kernel), List.mem_of_getElem? (i := 326) (by decide +kernel)⟩
theorem lw_p25 : lw_okq (⟨"DecisionWeb", "listBits", "([I)V"⟩, 13) := ⟨⟨by decide +kernel, by decide +kernel⟩, List.mem_of_getElem? (i := 10) (by decide +kernel), List.mem_of_getElem? (i := 343) (by decide +kernel), List.mem_of_getElem? (i := 344) (by decide +kernel)⟩
theorem lw_p26 : lw_okq (⟨"DecisionWeb", "listCosts", "([I)V"⟩, 13) := ⟨⟨by decide +kernel, by decide +kernel⟩, List.mem_of_getElem? (i := 10) (by decide +kernel), List.mem_of_getElem? (i := 354) (by decide +kernel), List.mem_of_getElem? (i := 355) (by decide +kernel)⟩
theorem lw_p27 : lw_okq (⟨"DecisionWeb", "differsBy", "([JI)Z"⟩, 13) := ⟨⟨by decide +kernel, by decide +kernel⟩, List.mem_of_getElem? (i := 10) (by decide +kernel), List.mem_of_getElem? (i := 366) (by decide +kernel), List.mem_of_getElem? (i := 367) (by decide +kernel)⟩
theorem lw_p28 : lw_okq (⟨"DecisionWeb", "forksOfOne", "(I)I"⟩, 13) := ⟨⟨by decide +kernel, by decide +kernel⟩, List.mem_of_getElem? (i := 10) (by decide +kernel), List.mem_of_getElem? (i := 374) (by decide +kernel), List.mem_of_getElem? (i := 375) (by decide +kernel)⟩
theorem lw_p29 : lw_okq (⟨"DecisionWeb", "pointerFork", "()I"⟩, 13) := ⟨⟨by decide +kernel, by decide +kernel⟩, List.mem_of_getElem? (i := 10) (by decide +kernel), List.mem_of_getElem? (i := 390) (by decide +kernel), List.mem_of_getElem? (i := 391) (by decide +kernel)⟩
theorem lw_p30 : lw_okq (⟨"DecisionWeb", "unsettledRegisters", "()I"⟩, 13) := ⟨⟨by decide +kernel, by decide +kernel⟩, List.mem_of_getElem? (i := 10) (by decide +kernel), List.mem_of_getElem? (i := 406) (by decide +kernel), List.mem_of_getElem? (i := 407) (by decide +kernel)⟩
theorem lw_p31 : lw_okq (⟨"DecisionWebModel", "done", "()I"⟩, 18) := ⟨⟨by decide +kernel, by decide +kernel⟩, List.mem_of_getElem? (i := 410) (by decide +kernel), List.mem_of_getElem? (i := 421) (by decide +kernel), List.mem_of_getElem? (i := 422) (by decide +kernel)⟩
def lw_privs_2 : List (MethodName × Nat) := [(⟨"DecisionWeb", "sumSpare", "(IZ)V"⟩, 13), (⟨"DecisionWeb", "isAll", "(IJ)Z"⟩, 13), (⟨"DecisionWeb", "findNearest", "([J[I[I)V"⟩, 13), (⟨"DecisionWeb", "isLevel", "(I)Z"⟩, 13), (⟨"DecisionWeb", "turn", "(I)V"⟩, 13), (⟨"DecisionWeb", "forksOfAll", "()I"⟩, 13), (⟨"DecisionWeb", "bestLevelGoingDown", "()I"⟩, 13), (⟨"DecisionWeb$Survey", "forksListed", "([[JI)I"⟩, 6), (⟨"DecisionWeb", "bitOf", "(I)I"⟩, 13), (⟨"DecisionWeb", "listBits", "([I)V"⟩, 13), (⟨"DecisionWeb", "listCosts", "([I)V"⟩, 13), (⟨"DecisionWeb", "differsBy", "([JI)Z"⟩, 13), (⟨"DecisionWeb", "forksOfOne", "(I)I"⟩, 13), (⟨"DecisionWeb", "pointerFork", "()I"⟩, 13), (⟨"DecisionWeb", "unsettledRegisters", "()I"⟩, 13), (⟨"DecisionWebModel", "done", "()I"⟩, 18)]
theorem lw_r2 : ∀ q ∈ lw_privs_2, lw_okq q := List.forall_mem_cons.mpr ⟨lw_p16, List.forall_mem_cons.mpr ⟨lw_p17, List.forall_mem_cons.mpr ⟨lw_p18, List.forall_mem_cons.mpr ⟨lw_p19, List.forall_mem_cons.mpr ⟨lw_p20, List.forall_mem_cons.mpr ⟨lw_p21, List.forall_mem_cons.mpr ⟨lw_p22, List.forall_mem_cons.mpr ⟨lw_p23, List.forall_mem_cons.mpr ⟨lw_p24, List.forall_mem_cons.mpr ⟨lw_p25, List.forall_mem_cons.mpr ⟨lw_p26, List.forall_mem_cons.mpr ⟨lw_p27, List.forall_mem_cons.mpr ⟨lw_p28, List.forall_mem_cons.mpr ⟨lw_p29, List.forall_mem_cons.mpr ⟨lw_p30, List.forall_mem_cons.mpr ⟨lw_p31, fun _ h => absurd h List.not_mem_nil⟩⟩⟩⟩⟩⟩⟩⟩⟩⟩⟩⟩⟩⟩⟩⟩
theorem lw_p32 : lw_okq (⟨"DecisionWebModel", "isRegister", "(I)Z"⟩, 18) := ⟨⟨by decide +kernel, by decide +kernel⟩, List.mem_of_getElem? (i := 410) (by decide +kernel), List.mem_of_getElem? (i := 486) (by decide +kernel), List.mem_of_getElem? (i := 487) (by decide +kernel)⟩
theorem lw_p33 : lw_okq (⟨"DecisionWebModel", "isLetter", "(I)Z"⟩, 18) := ⟨⟨by decide +kernel, by decide +kernel⟩, List.mem_of_getElem? (i := 410) (by decide +kernel), List.mem_of_getElem? (i := 494) (by decide +kernel), List.mem_of_getElem? (i := 495) (by decide +kernel)⟩
theorem lw_p34 : lw_okq (⟨"DecisionWebModel", "puts", "(I)I"⟩, 18) := ⟨⟨by decide +kernel, by decide +kernel⟩, List.mem_of_getElem? (i := 410) (by decide +kernel), List.mem_of_getElem? (i := 498) (by decide +kernel), List.mem_of_getElem? (i := 499) (by decide +kernel)⟩
theorem lw_p35 : lw_okq (⟨"DecisionWebModel", "forks", "(III[I)I"⟩, 18) := ⟨⟨by decide +kernel, by decide +kernel⟩, List.mem_of_getElem? (i := 410) (by decide +kernel), List.mem_of_getElem? (i := 502) (by decide +kernel), List.mem_of_getElem? (i := 503) (by decide +kernel)⟩
theorem lw_p36 : lw_okq (⟨"DecisionWebModel", "spread", "(I[I)I"⟩, 18) := ⟨⟨by decide +kernel, by decide +kernel⟩, List.mem_of_getElem? (i := 410) (by decide +kernel), List.mem_of_getElem? (i := 506) (by decide +kernel), List.mem_of_getElem? (i := 507) (by decide +kernel)⟩
theorem lw_p37 : lw_okq (⟨"DecisionWebModel", "get", "(II)Z"⟩, 18) := ⟨⟨by decide +kernel, by decide +kernel⟩, List.mem_of_getElem? (i := 410) (by decide +kernel), List.mem_of_getElem? (i := 510) (by decide +kernel), List.mem_of_getElem? (i := 511) (by decide +kernel)⟩
theorem lw_p38 : lw_okq (⟨"DecisionWebModel", "pair", "(III)I"⟩, 18) := ⟨⟨by decide +kernel, by decide +kernel⟩, List.mem_of_getElem? (i := 410) (by decide +kernel), List.mem_of_getElem? (i := 514) (by decide +kernel), List.mem_of_getElem? (i := 515) (by decide +kernel)⟩
theorem lw_p39 : lw_okq (⟨"DecisionWebModel", "manyOf", "(I)I"⟩, 18) := ⟨⟨by decide +kernel, by decide +kernel⟩, List.mem_of_getElem? (i := 410) (by decide +kernel), List.mem_of_getElem? (i := 551) (by decide +kernel), List.mem_of_getElem? (i := 552) (by decide +kernel)⟩
theorem lw_p40 : lw_okq (⟨"DecisionWebModel", "nearest", "(II)I"⟩, 18) := ⟨⟨by decide +kernel, by decide +kernel⟩, List.mem_of_getElem? (i := 410) (by decide +kernel), List.mem_of_getElem? (i := 555) (by decide +kernel), List.mem_of_getElem? (i := 556) (by decide +kernel)⟩
theorem lw_p41 : lw_okq (⟨"DecisionWebModel", "isSome", "(III)Z"⟩, 18) := ⟨⟨by decide +kernel, by decide +kernel⟩, List.mem_of_getElem? (i := 410) (by decide +kernel), List.mem_of_getElem? (i := 559) (by decide +kernel), List.mem_of_getElem? (i := 560) (by decide +kernel)⟩
theorem lw_p42 : lw_okq (⟨"DecisionWebModel", "tries", "(II)V"⟩, 18) := ⟨⟨by decide +kernel, by decide +kernel⟩, List.mem_of_getElem? (i := 410) (by decide +kernel), List.mem_of_getElem? (i := 576) (by decide +kernel), List.mem_of_getElem? (i := 577) (by decide +kernel)⟩
theorem lw_p43 : lw_okq (⟨"DecisionWebModel", "costOf", "(I)I"⟩, 18) := ⟨⟨by decide +kernel, by decide +kernel⟩, List.mem_of_getElem? (i := 410) (by decide +kernel), List.mem_of_getElem? (i := 605) (by decide +kernel), List.mem_of_getElem? (i := 606) (by decide +kernel)⟩
theorem lw_p44 : lw_okq (⟨"DecisionWebModel", "differs", "(II)Z"⟩, 18) := ⟨⟨by decide +kernel, by decide +kernel⟩, List.mem_of_getElem? (i := 410) (by decide +kernel), List.mem_of_getElem? (i := 618) (by decide +kernel), List.mem_of_getElem? (i := 619) (by decide +kernel)⟩
theorem lw_p45 : lw_okq (⟨"DecisionWebModel", "firstLetter", "()I"⟩, 18) := ⟨⟨by decide +kernel, by decide +kernel⟩, List.mem_of_getElem? (i := 410) (by decide +kernel), List.mem_of_getElem? (i := 638) (by decide +kernel), List.mem_of_getElem? (i := 639) (by decide +kernel)⟩
theorem lw_p46 : lw_okq (⟨"DecisionWebModel", "mixed", "()I"⟩, 18) := ⟨⟨by decide +kernel, by decide +kernel⟩, List.mem_of_getElem? (i := 410) (by decide +kernel), List.mem_of_getElem? (i := 654) (by decide +kernel), List.mem_of_getElem? (i := 655) (by decide +kernel)⟩
def lw_privs_3 : List (MethodName × Nat) := [(⟨"DecisionWebModel", "isRegister", "(I)Z"⟩, 18), (⟨"DecisionWebModel", "isLetter", "(I)Z"⟩, 18), (⟨"DecisionWebModel", "puts", "(I)I"⟩, 18), (⟨"DecisionWebModel", "forks", "(III[I)I"⟩, 18), (⟨"DecisionWebModel", "spread", "(I[I)I"⟩, 18), (⟨"DecisionWebModel", "get", "(II)Z"⟩, 18), (⟨"DecisionWebModel", "pair", "(III)I"⟩, 18), (⟨"DecisionWebModel", "manyOf", "(I)I"⟩, 18), (⟨"DecisionWebModel", "nearest", "(II)I"⟩, 18), (⟨"DecisionWebModel", "isSome", "(III)Z"⟩, 18), (⟨"DecisionWebModel", "tries", "(II)V"⟩, 18), (⟨"DecisionWebModel", "costOf", "(I)I"⟩, 18), (⟨"DecisionWebModel", "differs", "(II)Z"⟩, 18), (⟨"DecisionWebModel", "firstLetter", "()I"⟩, 18), (⟨"DecisionWebModel", "mixed", "()I"⟩, 18)]
theorem lw_r3 : ∀ q ∈ lw_privs_3, lw_okq q := List.forall_mem_cons.mpr ⟨lw_p32, List.forall_mem_cons.mpr ⟨lw_p33, List.forall_mem_cons.mpr ⟨lw_p34, List.forall_mem_cons.mpr ⟨lw_p35, List.forall_mem_cons.mpr ⟨lw_p36, List.forall_mem_cons.mpr ⟨lw_p37, List.forall_mem_cons.mpr ⟨lw_p38, List.forall_mem_cons.mpr ⟨lw_p39, List.forall_mem_cons.mpr ⟨lw_p40, List.forall_mem_cons.mpr ⟨lw_p41, List.forall_mem_cons.mpr ⟨lw_p42, List.forall_mem_cons.mpr ⟨lw_p43, List.forall_mem_cons.mpr ⟨lw_p44, List.forall_mem_cons.mpr ⟨lw_p45, List.forall_mem_cons.mpr ⟨lw_p46, fun _ h => absurd h List.not_mem_nil⟩⟩⟩⟩⟩⟩⟩⟩⟩⟩⟩⟩⟩⟩⟩
def lw_privs : List (MethodName × Nat) := lw_privs_1 ++ (lw_privs_2 ++ (lw_privs_3))
def lw_tbl : List Cond := k2_sels lw_privs ++ tables_1
theorem lw_privs_ok : ∀ q ∈ lw_privs, lw_okq q := by
  show ∀ q ∈ lw_privs_1 ++ (lw_privs_2 ++ (lw_privs_3)), lw_okq q
  exact List.forall_mem_append.mpr ⟨lw_r1, List.forall_mem_append.mpr ⟨lw_r2, lw_r3⟩⟩
end
section
/-! ===== BEGIN words of one list among another's, by their places ===== -/
theorem goodIn_r {big : List Cond} (ws : List Cond) (ps : List Nat) (hp : ws = ps.filterMap (fun i => big[i]?)) (h : ws.all goodWord = true) : GoodIn big ws := by
  intro w hw
  have h1 := List.all_eq_true.mp h w hw
  rw [hp] at hw
  obtain ⟨i, -, hi⟩ := List.mem_filterMap.mp hw
  have hm : w ∈ big := by first | exact List.mem_of_getElem? hi | exact List.getElem?_mem hi
  exact ⟨hm, good_of_word h1⟩
theorem goodIn_app {big a b : List Cond} (ha : GoodIn big a) (hb : GoodIn big b) : GoodIn big (a ++ b) := fun w h => (List.mem_append.mp h).elim (ha w) (hb w)
theorem goodIn_ca {big a b : List Cond} {c : Cond} (ha : GoodIn big (c :: a)) (hb : GoodIn big b) : GoodIn big (c :: (a ++ b)) := fun w h => (List.mem_cons.mp h).elim (fun e => ha w (List.mem_cons.mpr (Or.inl e))) (fun h => (List.mem_append.mp h).elim (fun h => ha w (List.mem_cons.mpr (Or.inr h))) (hb w))
theorem goodIn_sub {big ws : List Cond} (hm : ∀ w ∈ ws, w ∈ big) (h : ws.all goodWord = true) : GoodIn big ws := fun w hw => ⟨hm w hw, good_of_word (List.all_eq_true.mp h w hw)⟩
/-! ===== END ===== -/

/-! ===== BEGIN new T[n][m]: the outer array a place, the inner ones among the pooled ===== -/
/-- f, but v at every address of l -/
def vr_up {α : Type} (f : Nat → α) (l : List Nat) (v : α) : Nat → α := fun a => if a ∈ l then v else f a
theorem vr_up_in {α : Type} {f : Nat → α} {l : List Nat} {v : α} {a : Nat} (h : a ∈ l) : vr_up f l v a = v := if_pos h
theorem vr_up_ne {α : Type} {f : Nat → α} {l : List Nat} {v : α} {a : Nat} (h : a ∉ l) : vr_up f l v a = f a := if_neg h
theorem vr_rows {L l : List Nat} {f : Nat → va_E} {e : va_E} (h : ∀ a, a ∈ l → a ∉ L) : va_pl L f ++ l.map (fun a => (a, e)) = va_pl (L ++ l) (vr_up f l e) := by
  unfold va_pl
  rw [List.map_append]
  congr 1
  · apply List.map_congr_left
    intro a ha
    rw [vr_up_ne (fun q => h a q ha)]
  · apply List.map_congr_left
    intro a ha
    rw [vr_up_in ha]
theorem vr_lay {X rows : va_W} {x : Nat × va_E} {pl : va_W} {D : va_G} {cl : List vw_C} {H : Heap} (hP : va_P D cl (((X ++ pl) ++ [x]) ++ rows) H) : va_P D cl ((X ++ [x]) ++ (pl ++ rows)) H := by
  rw [List.append_assoc (X ++ pl)] at hP
  have h := va_P.swap hP
  rw [← List.append_assoc X] at h
  have h2 := va_P.swap h
  rw [List.append_assoc (X ++ [x])] at h2
  exact h2
theorem vr_layD {X rows : va_W} {x : Nat × va_E} {pl : va_W} {A : Nat → Prop} (hD : va_D A (((X ++ pl) ++ [x]) ++ rows)) : va_D A ((X ++ [x]) ++ (pl ++ rows)) := by
  rw [List.append_assoc (X ++ pl)] at hD
  have h := va_D.swap hD
  rw [← List.append_assoc X] at h
  have h2 := va_D.swap h
  rw [List.append_assoc (X ++ [x])] at h2
  exact h2
theorem vr_outer (c : ClassId) (N h0 : Nat) : ∀ i : Nat, Jvm.Free.Multi.outerC c N h0 i = arrV c N (fun j => va_rf (if j < i then some (h0 + 1 + j) else none))
  | 0 => by
    show ({ cls := c, slots := Array.replicate N .null, vm := .none } : Cell) = _
    rw [arrV_new]
    refine congrArg (arrV c N) (funext fun j => ?_)
    simp [va_rf]
  | i + 1 => by
    show (Jvm.Free.Multi.outerC c N h0 i).setSlot i (.ref (h0 + 1 + i)) = _
    rw [vr_outer c N h0 i, arrV_store]
    refine congrArg (arrV c N) (funext fun j => ?_)
    by_cases e : j = i
    · subst e
      simp [updV, va_rf]
    · by_cases h : j < i
      · simp [updV, e, h, Nat.lt_succ_of_lt h]
      · simp [updV, e, h, show ¬ j < i + 1 by omega]
section VGM
variable {p : Program} {l : Launch} {e : Env} {R : Room} {s : State} {m : MethodId} {args : Array Value} {below : List Frame} {meth : Method} {c : Code} {H : Heap} {locs : List Loc} {cells slots : Nat} {Q : State → Prop}
variable {cc : ByteArray} {pc : Nat} {ls : Array Slot} {rest : List Value} {D : va_G} {cl : List vw_C} {A : Nat → Prop} {a : Nat} {tys : List (ClassId × FieldType)} {ws : va_W} {H0 : Heap}
theorem va_mna {X : va_W} {L : List Nat} {f : Nat → va_E} {cc : ByteArray} (hexec : p.tables.exec = Jvm.exec) (hb : c.code = cc) {own : String} {index : Nat} {ty : FieldType} {cy : ClassId} (hown : s.vm.findClass own = some m.cls) (hclink : (Cond.classLink own index ("[" ++ (FieldType.array ty).toString)).before args s = true) (hover : (Cond.arrayOver (.array ty)).before args s = true) (harr : (Cond.arrayClass ty).before args s = true) (hcy : s.vm.findClass (FieldType.array ty).toString = some cy)
    (hK : va_K D cl tys s) (hP : va_P D cl (X ++ va_pl L f) H) (hD : va_D A (X ++ va_pl L f)) (hS : va_S A H0 H locs) (hA : ∀ q, H0.size ≤ q → A q) {n k : Int32} {N' K' : Nat} {z : vp_A} (hn : ¬ n < 0) (hk : ¬ k < 0) (hN : n.toNatClampNeg = N') (hM : k.toNatClampNeg = K')
    (hb1 : N' * 4 ≤ 536870912) (hb2 : K' * componentBytes ty ≤ 536870912) (hb3 : K' ≤ 536870912) (hdf : fits ty (defaultValue ty) = true) (hdd : (defaultValue ty).isDefault = true) (hcells : cells + (1 + N') ≤ R.cells) (hslots : slots + (N' + N' * K') ≤ R.slots) (hz : ∀ c : ClassId, Jvm.Free.Multi.innerC c K' (defaultValue ty) = vp_cell c z) (hdg : decode cc pc = .ok (.multianewarray index 2, 4))
    (kk : ∀ (q : Nat) (r : Nat → Nat) (cA : ClassId) (H1 : Heap), (∀ i j : Nat, i < N' → j < N' → r i = r j → i = j) → (∀ i : Nat, i < N' → r i ∉ L) → va_K D cl (tys ++ [(cA, .array ty)]) s →
      va_P D cl ((X ++ [(q, .inl (cA, N', .inr (.inr (.inr (.inr (fun i => if i < N' then some (r i) else none))))))]) ++ va_pl (L ++ (List.range N').map r) (vr_up f ((List.range N').map r) (.inl (cy, z)))) H1 → va_D A ((X ++ [(q, .inl (cA, N', .inr (.inr (.inr (.inr (fun i => if i < N' then some (r i) else none))))))]) ++ va_pl (L ++ (List.range N').map r) (vr_up f ((List.range N').map r) (.inl (cy, z)))) → va_S A H0 H1 locs →
      W p l e R s m args below meth c H1 locs (cells + 1 + N') (slots + N' + N' * K') Q (F0 m (pc + 4) ls (.ref q :: rest))) : W p l e R s m args below meth c H locs cells slots Q (F0 m pc ls (.int k :: .int n :: rest)) := by
  subst hN
  subst hM
  intro T hT Xs
  obtain ⟨vm₁, cA, comp, -, fA, fC, hO, -, X', step⟩ := Xs.multianewarray2F hexec hown hclink hover harr (g := F0 m pc ls (.int k :: .int n :: rest)) rfl (by rw [hb]; exact hdg) rfl hn hk hb1 hb2 hb3 hdf hdd hcells hslots
  have ec : some cy = some comp := hcy.symm.trans fC
  cases ec
  generalize hF : Jvm.Free.Multi.fill (T.setVm vm₁) cA cy n.toNatClampNeg k.toNatClampNeg (defaultValue ty) n.toNatClampNeg = F at X' step
  have hTh : (T.setVm vm₁).heap = H := hT
  obtain ⟨f1, f2, -, -⟩ := Jvm.Free.Multi.fill_facts (T.setVm vm₁) cA cy n.toNatClampNeg k.toNatClampNeg (defaultValue ty) n.toNatClampNeg
  rw [hF, hTh] at f1 f2
  have hold : ∀ x : Nat, x < H.size → F.heap[x]? = H[x]? := fun x hx => by
    have := Jvm.Free.Multi.fill_old (T.setVm vm₁) cA cy n.toNatClampNeg k.toNatClampNeg (defaultValue ty) (a := x) (by rw [hTh]; exact hx) n.toNatClampNeg
    rw [hF, hTh] at this
    exact this
  have hrow : ∀ j : Nat, j < n.toNatClampNeg → F.heap[H.size + 1 + j]? = some (vp_cell cy z) := fun j hj => by
    have := Jvm.Free.Multi.fill_inner (T.setVm vm₁) cA cy n.toNatClampNeg k.toNatClampNeg (defaultValue ty) n.toNatClampNeg j hj
    rw [hF, hTh, hz] at this
    exact this
  have hout : Jvm.Free.Multi.outerC cA n.toNatClampNeg H.size n.toNatClampNeg = vp_cell cA (n.toNatClampNeg, .inr (.inr (.inr (.inr (fun i => if i < n.toNatClampNeg then some (H.size + 1 + i) else none))))) := by
    rw [vp_cell_q]
    exact vr_outer cA n.toNatClampNeg H.size n.toNatClampNeg
  rw [hout] at f2
  have hlt : ∀ a, a ∈ L → a < H.size := fun a ha => by
    obtain ⟨k9, hk9⟩ := va_pl_get (X := X) (f := f) ha
    exact (hP k9 _ hk9).lt
  have hnl : ∀ i : Nat, i < n.toNatClampNeg → H.size + 1 + i ∉ L := fun i _ h => by
    have := hlt _ h
    omega
  have hnm : ∀ a, a ∈ (List.range n.toNatClampNeg).map (fun i => H.size + 1 + i) → a ∉ L := fun a ha h => by
    obtain ⟨i, -, rfl⟩ := List.mem_map.mp ha
    have := hlt _ h
    omega
  have hP0 : va_P D cl (X ++ va_pl L f) F.heap := hP.kept (fun k9 x hx => hold x.1 ((hP k9 x hx).lt))
  have hP1 : va_P D cl ((X ++ va_pl L f) ++ [(H.size, .inl (cA, n.toNatClampNeg, .inr (.inr (.inr (.inr (fun i => if i < n.toNatClampNeg then some (H.size + 1 + i) else none))))))]) F.heap := hP0.app (fun k9 x hx => by
    have h0 : k9 < 1 := (List.getElem?_eq_some_iff.mp hx).1
    rw [show k9 = 0 by omega] at hx
    cases hx
    exact f2)
  have hP2 : va_P D cl (((X ++ va_pl L f) ++ [(H.size, .inl (cA, n.toNatClampNeg, .inr (.inr (.inr (.inr (fun i => if i < n.toNatClampNeg then some (H.size + 1 + i) else none))))))]) ++ ((List.range n.toNatClampNeg).map (fun i => H.size + 1 + i)).map (fun a => (a, .inl (cy, z)))) F.heap := hP1.app (fun k9 x hx => by
    obtain ⟨a, ha, rfl⟩ := List.mem_map.mp (List.mem_of_getElem? hx)
    obtain ⟨i, hi, rfl⟩ := List.mem_map.mp ha
    exact hrow i (List.mem_range.mp hi))
  have hD2 : va_D A (((X ++ va_pl L f) ++ [(H.size, .inl (cA, n.toNatClampNeg, .inr (.inr (.inr (.inr (fun i => if i < n.toNatClampNeg then some (H.size + 1 + i) else none))))))]) ++ ((List.range n.toNatClampNeg).map (fun i => H.size + 1 + i)).map (fun a => (a, .inl (cy, z)))) := by
    have hD1 := hD.push (e := .inl (cA, n.toNatClampNeg, .inr (.inr (.inr (.inr (fun i => if i < n.toNatClampNeg then some (H.size + 1 + i) else none)))))) hP rfl (hA _ hS.1)
    generalize hW1 : (X ++ va_pl L f) ++ [(H.size, .inl (cA, n.toNatClampNeg, .inr (.inr (.inr (.inr (fun i => if i < n.toNatClampNeg then some (H.size + 1 + i) else none))))))] = W1 at hD1 hP1 ⊢
    have hle : ∀ (k9 : Nat) (x : Nat × va_E), W1[k9]? = some x → x.1 ≤ H.size := fun k9 x hx => by
      rw [← hW1] at hx
      by_cases hl : k9 < (X ++ va_pl L f).length
      · rw [List.getElem?_append_left hl] at hx
        exact Nat.le_of_lt ((hP k9 x hx).lt)
      · rw [List.getElem?_append_right (by omega)] at hx
        have h0 : k9 - (X ++ va_pl L f).length < 1 := (List.getElem?_eq_some_iff.mp hx).1
        rw [show k9 - (X ++ va_pl L f).length = 0 by omega] at hx
        cases hx
        exact Nat.le_refl _
    have hr : ∀ (k9 : Nat) (x : Nat × va_E), (((List.range n.toNatClampNeg).map (fun i => H.size + 1 + i)).map (fun a => ((a, .inl (cy, z)) : Nat × va_E)))[k9]? = some x → x.1 = H.size + 1 + k9 := fun k9 x hx => by
      rw [List.getElem?_map, List.getElem?_map] at hx
      by_cases h9 : k9 < n.toNatClampNeg
      · rw [List.getElem?_range h9] at hx
        cases hx
        rfl
      · have hn0 : (List.range n.toNatClampNeg)[k9]? = none := List.getElem?_eq_none (by rw [List.length_range]; omega)
        rw [hn0] at hx
        cases hx
    refine ⟨fun i j x y hi hj hxy => ?_, fun k9 x hx => ?_⟩
    · by_cases h1 : i < W1.length <;> by_cases h2 : j < W1.length
      · rw [List.getElem?_append_left h1] at hi
        rw [List.getElem?_append_left h2] at hj
        exact hD1.1 i j x y hi hj hxy
      · rw [List.getElem?_append_left h1] at hi
        rw [List.getElem?_append_right (by omega)] at hj
        have := hle _ _ hi
        have := hr _ _ hj
        omega
      · rw [List.getElem?_append_right (by omega)] at hi
        rw [List.getElem?_append_left h2] at hj
        have := hle _ _ hj
        have := hr _ _ hi
        omega
      · rw [List.getElem?_append_right (by omega)] at hi hj
        have := hr _ _ hi
        have := hr _ _ hj
        omega
    · by_cases h1 : k9 < W1.length
      · rw [List.getElem?_append_left h1] at hx
        exact hD1.2 k9 x hx
      · rw [List.getElem?_append_right (by omega)] at hx
        have := hr _ _ hx
        exact hA _ (by have := hS.1; omega)
  have hAr : ArrOfT s cA (.array ty) := fun N9 z9 => by
    obtain ⟨-, k9, hk9, cm9, hkk9⟩ := (hO 0 0 0).1
    exact ⟨(fun q hq => by cases hq), k9, hk9, cm9, hkk9⟩
  have hK2 : va_K D cl (tys ++ [(cA, .array ty)]) s := ⟨hK.1, fun k9 x hx => by
    by_cases hl : k9 < tys.length
    · rw [List.getElem?_append_left hl] at hx
      exact hK.2 k9 x hx
    · rw [List.getElem?_append_right (by omega)] at hx
      have h0 : k9 - tys.length < 1 := (List.getElem?_eq_some_iff.mp hx).1
      rw [show k9 - tys.length = 0 by omega] at hx
      cases hx
      exact ⟨hAr, fA⟩⟩
  obtain ⟨t, a1, b1⟩ := kk H.size (fun i => H.size + 1 + i) cA F.heap (fun i j _ _ h => by have h9 : H.size + 1 + i = H.size + 1 + j := h; omega) hnl hK2 (by rw [← vr_rows hnm]; exact vr_lay hP2) (by rw [← vr_rows hnm]; exact vr_layD hD2) ⟨by rw [f1]; have := hS.1; omega, fun x h1 h2 => (hold x (Nat.lt_of_lt_of_le h1 hS.1)).trans (hS.2.1 x h1 h2), hS.2.2⟩ F rfl X'
  refine ⟨t, step t ?_, b1⟩
  have e : T.heap.size = H.size := by rw [hT]
  rw [e]
  exact a1
end VGM
/-! ===== END ===== -/

/-! ===== BEGIN printed: names, fields, word lists, decode rows ===== -/
def RX0 : String := "DecisionWeb$Bits"
def TX0 : u_T := fun k => match k with
  | _ => ("", "", "", false)
def tyX0 : Nat → FieldType := fun k => match k with
  | _ => .int
abbrev wsX00 : List Cond := u_ws RX0 TX0 0
theorem nmX0 : ∀ a, a < 0 → ∀ b, b < 0 → a ≠ b → (TX0 a).2.1 ≠ (TX0 b).2.1 := by decide +kernel
theorem tyX0_ok : ∀ k, k < 0 → parseFieldDescriptor (TX0 k).2.2.1 = some (tyX0 k) := by decide +kernel
abbrev cX0_has : ByteArray := prog_2_method_2_code
def yX0_has : MethodName := ⟨RX0, "has", "([JI)Z"⟩
abbrev cX0_mark : ByteArray := prog_2_method_3_code
def yX0_mark : MethodName := ⟨RX0, "mark", "([JI)V"⟩
abbrev cX0_lowOnes : ByteArray := prog_2_method_4_code
def yX0_lowOnes : MethodName := ⟨RX0, "lowOnes", "(I)J"⟩
abbrev cX0_letterWord : ByteArray := prog_2_method_5_code
def yX0_letterWord : MethodName := ⟨RX0, "letterWord", "(II)J"⟩
abbrev cX0_joinedWord : ByteArray := prog_2_method_6_code
def yX0_joinedWord : MethodName := ⟨RX0, "joinedWord", "(JJI)J"⟩
abbrev cX0_chosenWord : ByteArray := prog_2_method_7_code
def yX0_chosenWord : MethodName := ⟨RX0, "chosenWord", "(JJJ)J"⟩
abbrev cX0_fixedWord : ByteArray := prog_2_method_8_code
def yX0_fixedWord : MethodName := ⟨RX0, "fixedWord", "([JIIZ)J"⟩
abbrev cX0_alike : ByteArray := prog_2_method_9_code
def yX0_alike : MethodName := ⟨RX0, "alike", "([JI[JII)Z"⟩
abbrev cX0_shortPart : ByteArray := prog_2_method_10_code
def yX0_shortPart : MethodName := ⟨RX0, "shortPart", "([JII)J"⟩
abbrev cX0_hash : ByteArray := prog_2_method_11_code
def yX0_hash : MethodName := ⟨RX0, "hash", "([JII)I"⟩
abbrev cX0_exchange : ByteArray := prog_2_method_12_code
def yX0_exchange : MethodName := ⟨RX0, "exchange", "([JIII)V"⟩
abbrev cX0_exchangeInWords : ByteArray := prog_2_method_13_code
def yX0_exchangeInWords : MethodName := ⟨RX0, "exchangeInWords", "([JIII)V"⟩
abbrev cX0_exchangeAcrossWords : ByteArray := prog_2_method_14_code
def yX0_exchangeAcrossWords : MethodName := ⟨RX0, "exchangeAcrossWords", "([JIII)V"⟩
abbrev cX0_exchangeWords : ByteArray := prog_2_method_15_code
def yX0_exchangeWords : MethodName := ⟨RX0, "exchangeWords", "([JIII)V"⟩
def RX1 : String := "DecisionWeb$Survey"
def TX1 : u_T := fun k => match k with
  | 0 => ("DecisionWeb$Survey", "widths", "[I", true)
  | 1 => ("DecisionWeb$Survey", "upper", "[I", false)
  | 2 => ("DecisionWeb$Survey", "found", "[I", false)
  | 3 => ("DecisionWeb$Survey", "foundCount", "I", false)
  | 4 => ("DecisionWeb$Survey", "slots", "[I", true)
  | _ => ("DecisionWeb$Survey", "slotCount", "I", false)
def tyX1 : Nat → FieldType := fun k => match k with
  | 0 => .array .int
  | 1 => .array .int
  | 2 => .array .int
  | 3 => .int
  | 4 => .array .int
  | _ => .int
abbrev wsX10 : List Cond := u_ws RX1 TX1 6
theorem nmX1 : ∀ a, a < 6 → ∀ b, b < 6 → a ≠ b → (TX1 a).2.1 ≠ (TX1 b).2.1 := by decide +kernel
theorem tyX1_ok : ∀ k, k < 6 → parseFieldDescriptor (TX1 k).2.2.1 = some (tyX1 k) := by decide +kernel
abbrev cX1_init : ByteArray := prog_3_method_1_code
def yX1_init : MethodName := ⟨RX1, "<init>", "()V"⟩
abbrev cX1_forksOf : ByteArray := prog_3_method_2_code
def yX1_forksOf : MethodName := ⟨RX1, "forksOf", "([[JIIII)I"⟩
abbrev cX1_list : ByteArray := prog_3_method_3_code
def yX1_list : MethodName := ⟨RX1, "list", "([[JIIII)V"⟩
abbrev cX1_forksListed : ByteArray := prog_3_method_4_code
def yX1_forksListed : MethodName := ⟨RX1, "forksListed", "([[JI)I"⟩
abbrev cX1_cut : ByteArray := prog_3_method_5_code
def yX1_cut : MethodName := ⟨RX1, "cut", "([[JI)I"⟩
abbrev cX1_clear : ByteArray := prog_3_method_6_code
def yX1_clear : MethodName := ⟨RX1, "clear", "(I)V"⟩
abbrev cX1_find : ByteArray := prog_3_method_7_code
def yX1_find : MethodName := ⟨RX1, "find", "([[JIII)V"⟩
abbrev cX1_note : ByteArray := prog_3_method_8_code
def yX1_note : MethodName := ⟨RX1, "note", "(II)V"⟩
def RX2 : String := "DecisionWeb"
def TX2 : u_T := fun k => match k with
  | 0 => ("DecisionWeb", "tables", "[[J", true)
  | 1 => ("DecisionWeb", "order", "[I", true)
  | 2 => ("DecisionWeb", "costs", "[I", true)
  | 3 => ("DecisionWeb", "firstRow", "[I", true)
  | 4 => ("DecisionWeb", "secondRow", "[I", true)
  | 5 => ("DecisionWeb", "survey", "LDecisionWeb$Survey;", true)
  | 6 => ("DecisionWeb", "letterCount", "I", false)
  | 7 => ("DecisionWeb", "capacity", "I", false)
  | 8 => ("DecisionWeb", "words", "I", false)
  | 9 => ("DecisionWeb", "wholeWord", "J", false)
  | 10 => ("DecisionWeb", "pointerTable", "I", false)
  | 11 => ("DecisionWeb", "pointerStart", "I", false)
  | _ => ("DecisionWeb", "pointerLevel", "I", false)
def tyX2 : Nat → FieldType := fun k => match k with
  | 0 => .array (.array .long)
  | 1 => .array .int
  | 2 => .array .int
  | 3 => .array .int
  | 4 => .array .int
  | 5 => .object "DecisionWeb$Survey"
  | 6 => .int
  | 7 => .int
  | 8 => .int
  | 9 => .long
  | 10 => .int
  | 11 => .int
  | _ => .int
abbrev wsX20 : List Cond := u_ws RX2 TX2 13
theorem nmX2 : ∀ a, a < 13 → ∀ b, b < 13 → a ≠ b → (TX2 a).2.1 ≠ (TX2 b).2.1 := by decide +kernel
theorem tyX2_ok : ∀ k, k < 13 → parseFieldDescriptor (TX2 k).2.2.1 = some (tyX2 k) := by decide +kernel
abbrev cX2_init : ByteArray := prog_1_method_1_code
def yX2_init : MethodName := ⟨RX2, "<init>", "()V"⟩
abbrev cX2_fresh : ByteArray := prog_1_method_2_code
def yX2_fresh : MethodName := ⟨RX2, "fresh", "(II)Z"⟩
abbrev cX2_constant : ByteArray := prog_1_method_3_code
def yX2_constant : MethodName := ⟨RX2, "constant", "(IZ)I"⟩
abbrev cX2_letter : ByteArray := prog_1_method_4_code
def yX2_letter : MethodName := ⟨RX2, "letter", "(II)I"⟩
abbrev cX2_join : ByteArray := prog_1_method_5_code
def yX2_join : MethodName := ⟨RX2, "join", "(IIII)I"⟩
abbrev cX2_fork : ByteArray := prog_1_method_6_code
def yX2_fork : MethodName := ⟨RX2, "fork", "(IIII)I"⟩
abbrev cX2_fix : ByteArray := prog_1_method_7_code
def yX2_fix : MethodName := ⟨RX2, "fix", "(IIIZ)I"⟩
abbrev cX2_put : ByteArray := prog_1_method_8_code
def yX2_put : MethodName := ⟨RX2, "put", "(IIII)I"⟩
abbrev cX2_sum : ByteArray := prog_1_method_9_code
def yX2_sum : MethodName := ⟨RX2, "sum", "(IIIZ)I"⟩
abbrev cX2_trade : ByteArray := prog_1_method_10_code
def yX2_trade : MethodName := ⟨RX2, "trade", "(IIII)I"⟩
abbrev cX2_near : ByteArray := prog_1_method_11_code
def yX2_near : MethodName := ⟨RX2, "near", "(III)I"⟩
abbrev cX2_copy : ByteArray := prog_1_method_12_code
def yX2_copy : MethodName := ⟨RX2, "copy", "(II)I"⟩
abbrev cX2_swap : ByteArray := prog_1_method_13_code
def yX2_swap : MethodName := ⟨RX2, "swap", "(I)I"⟩
abbrev cX2_sift : ByteArray := prog_1_method_14_code
def yX2_sift : MethodName := ⟨RX2, "sift", "(I)I"⟩
abbrev cX2_cost : ByteArray := prog_1_method_15_code
def yX2_cost : MethodName := ⟨RX2, "cost", "(II)I"⟩
abbrev cX2_same : ByteArray := prog_1_method_16_code
def yX2_same : MethodName := ⟨RX2, "same", "(II)I"⟩
abbrev cX2_tells : ByteArray := prog_1_method_17_code
def yX2_tells : MethodName := ⟨RX2, "tells", "(II)I"⟩
abbrev cX2_many : ByteArray := prog_1_method_18_code
def yX2_many : MethodName := ⟨RX2, "many", "(I)I"⟩
abbrev cX2_pick : ByteArray := prog_1_method_19_code
def yX2_pick : MethodName := ⟨RX2, "pick", "(II)I"⟩
abbrev cX2_cheapest : ByteArray := prog_1_method_20_code
def yX2_cheapest : MethodName := ⟨RX2, "cheapest", "(I)I"⟩
abbrev cX2_dearest : ByteArray := prog_1_method_21_code
def yX2_dearest : MethodName := ⟨RX2, "dearest", "(I)I"⟩
abbrev cX2_letters : ByteArray := prog_1_method_22_code
def yX2_letters : MethodName := ⟨RX2, "letters", "(I)I"⟩
abbrev cX2_size : ByteArray := prog_1_method_23_code
def yX2_size : MethodName := ⟨RX2, "size", "(I)I"⟩
abbrev cX2_width : ByteArray := prog_1_method_24_code
def yX2_width : MethodName := ⟨RX2, "width", "(II)I"⟩
abbrev cX2_point : ByteArray := prog_1_method_25_code
def yX2_point : MethodName := ⟨RX2, "point", "(I)I"⟩
abbrev cX2_go : ByteArray := prog_1_method_26_code
def yX2_go : MethodName := ⟨RX2, "go", "(Z)Z"⟩
abbrev cX2_at : ByteArray := prog_1_method_27_code
def yX2_at : MethodName := ⟨RX2, "at", "()I"⟩
abbrev cX2_level : ByteArray := prog_1_method_28_code
def yX2_level : MethodName := ⟨RX2, "level", "(II)I"⟩
abbrev cX2_count : ByteArray := prog_1_method_29_code
def yX2_count : MethodName := ⟨RX2, "count", "(I)I"⟩
abbrev cX2_begin : ByteArray := prog_1_method_30_code
def yX2_begin : MethodName := ⟨RX2, "begin", "(II)V"⟩
abbrev cX2_isRegister : ByteArray := prog_1_method_31_code
def yX2_isRegister : MethodName := ⟨RX2, "isRegister", "(I)Z"⟩
abbrev cX2_isLetter : ByteArray := prog_1_method_32_code
def yX2_isLetter : MethodName := ⟨RX2, "isLetter", "(I)Z"⟩
abbrev cX2_isLevel : ByteArray := prog_1_method_33_code
def yX2_isLevel : MethodName := ⟨RX2, "isLevel", "(I)Z"⟩
abbrev cX2_isAssignment : ByteArray := prog_1_method_34_code
def yX2_isAssignment : MethodName := ⟨RX2, "isAssignment", "(I)Z"⟩
abbrev cX2_levelOf : ByteArray := prog_1_method_35_code
def yX2_levelOf : MethodName := ⟨RX2, "levelOf", "(I)I"⟩
abbrev cX2_placeAt : ByteArray := prog_1_method_36_code
def yX2_placeAt : MethodName := ⟨RX2, "placeAt", "(I)I"⟩
abbrev cX2_placeOf : ByteArray := prog_1_method_37_code
def yX2_placeOf : MethodName := ⟨RX2, "placeOf", "(I)I"⟩
abbrev cX2_bitOf : ByteArray := prog_1_method_38_code
def yX2_bitOf : MethodName := ⟨RX2, "bitOf", "(I)I"⟩
abbrev cX2_listBits : ByteArray := prog_1_method_39_code
def yX2_listBits : MethodName := ⟨RX2, "listBits", "([I)V"⟩
abbrev cX2_listCosts : ByteArray := prog_1_method_40_code
def yX2_listCosts : MethodName := ⟨RX2, "listCosts", "([I)V"⟩
abbrev cX2_extend : ByteArray := prog_1_method_41_code
def yX2_extend : MethodName := ⟨RX2, "extend", "([III)V"⟩
abbrev cX2_copyToSpare : ByteArray := prog_1_method_42_code
def yX2_copyToSpare : MethodName := ⟨RX2, "copyToSpare", "(I)V"⟩
abbrev cX2_sumSpare : ByteArray := prog_1_method_43_code
def yX2_sumSpare : MethodName := ⟨RX2, "sumSpare", "(IZ)V"⟩
abbrev cX2_findNearest : ByteArray := prog_1_method_44_code
def yX2_findNearest : MethodName := ⟨RX2, "findNearest", "([J[I[I)V"⟩
abbrev cX2_keep : ByteArray := prog_1_method_45_code
def yX2_keep : MethodName := ⟨RX2, "keep", "(I)I"⟩
abbrev cX2_forksOfAll : ByteArray := prog_1_method_46_code
def yX2_forksOfAll : MethodName := ⟨RX2, "forksOfAll", "()I"⟩
abbrev cX2_forksOfOne : ByteArray := prog_1_method_47_code
def yX2_forksOfOne : MethodName := ⟨RX2, "forksOfOne", "(I)I"⟩
abbrev cX2_bestLevelGoingDown : ByteArray := prog_1_method_48_code
def yX2_bestLevelGoingDown : MethodName := ⟨RX2, "bestLevelGoingDown", "()I"⟩
abbrev cX2_turn : ByteArray := prog_1_method_49_code
def yX2_turn : MethodName := ⟨RX2, "turn", "(I)V"⟩
abbrev cX2_differsBy : ByteArray := prog_1_method_50_code
def yX2_differsBy : MethodName := ⟨RX2, "differsBy", "([JI)Z"⟩
abbrev cX2_isAll : ByteArray := prog_1_method_51_code
def yX2_isAll : MethodName := ⟨RX2, "isAll", "(IJ)Z"⟩
abbrev cX2_unsettledRegisters : ByteArray := prog_1_method_52_code
def yX2_unsettledRegisters : MethodName := ⟨RX2, "unsettledRegisters", "()I"⟩
abbrev cX2_restPointer : ByteArray := prog_1_method_53_code
def yX2_restPointer : MethodName := ⟨RX2, "restPointer", "()V"⟩
abbrev cX2_pointAt : ByteArray := prog_1_method_54_code
def yX2_pointAt : MethodName := ⟨RX2, "pointAt", "(I)V"⟩
abbrev cX2_pointerFork : ByteArray := prog_1_method_55_code
def yX2_pointerFork : MethodName := ⟨RX2, "pointerFork", "()I"⟩
def RX3 : String := "DecisionWebModel"
def TX3 : u_T := fun k => match k with
  | 0 => ("DecisionWebModel", "n", "I", false)
  | 1 => ("DecisionWebModel", "all", "I", false)
  | 2 => ("DecisionWebModel", "capacity", "I", false)
  | 3 => ("DecisionWebModel", "tells", "[Z", true)
  | 4 => ("DecisionWebModel", "made", "[Z", true)
  | 5 => ("DecisionWebModel", "pointed", "[Z", true)
  | 6 => ("DecisionWebModel", "cost", "[I", true)
  | 7 => ("DecisionWebModel", "order", "[I", true)
  | 8 => ("DecisionWebModel", "tried", "[I", true)
  | 9 => ("DecisionWebModel", "number", "[I", true)
  | 10 => ("DecisionWebModel", "below", "[I", true)
  | 11 => ("DecisionWebModel", "wide", "[I", true)
  | 12 => ("DecisionWebModel", "place", "[I", true)
  | 13 => ("DecisionWebModel", "low", "[I", true)
  | 14 => ("DecisionWebModel", "high", "[I", true)
  | 15 => ("DecisionWebModel", "own", "[I", true)
  | 16 => ("DecisionWebModel", "numbers", "I", false)
  | _ => ("DecisionWebModel", "seen", "I", false)
def tyX3 : Nat → FieldType := fun k => match k with
  | 0 => .int
  | 1 => .int
  | 2 => .int
  | 3 => .array .boolean
  | 4 => .array .boolean
  | 5 => .array .boolean
  | 6 => .array .int
  | 7 => .array .int
  | 8 => .array .int
  | 9 => .array .int
  | 10 => .array .int
  | 11 => .array .int
  | 12 => .array .int
  | 13 => .array .int
  | 14 => .array .int
  | 15 => .array .int
  | 16 => .int
  | _ => .int
abbrev wsX30 : List Cond := u_ws RX3 TX3 18
theorem nmX3 : ∀ a, a < 18 → ∀ b, b < 18 → a ≠ b → (TX3 a).2.1 ≠ (TX3 b).2.1 := by decide +kernel
theorem tyX3_ok : ∀ k, k < 18 → parseFieldDescriptor (TX3 k).2.2.1 = some (tyX3 k) := by decide +kernel
abbrev cX3_init : ByteArray := prog_5_method_1_code
def yX3_init : MethodName := ⟨RX3, "<init>", "()V"⟩
abbrev cX3_isRegister : ByteArray := prog_5_method_2_code
def yX3_isRegister : MethodName := ⟨RX3, "isRegister", "(I)Z"⟩
abbrev cX3_isLetter : ByteArray := prog_5_method_3_code
def yX3_isLetter : MethodName := ⟨RX3, "isLetter", "(I)Z"⟩
abbrev cX3_get : ByteArray := prog_5_method_4_code
def yX3_get : MethodName := ⟨RX3, "get", "(II)Z"⟩
abbrev cX3_done : ByteArray := prog_5_method_5_code
def yX3_done : MethodName := ⟨RX3, "done", "()I"⟩
abbrev cX3_fresh : ByteArray := prog_5_method_6_code
def yX3_fresh : MethodName := ⟨RX3, "fresh", "(II)Z"⟩
abbrev cX3_pair : ByteArray := prog_5_method_7_code
def yX3_pair : MethodName := ⟨RX3, "pair", "(III)I"⟩
abbrev cX3_spread : ByteArray := prog_5_method_8_code
def yX3_spread : MethodName := ⟨RX3, "spread", "(I[I)I"⟩
abbrev cX3_forks : ByteArray := prog_5_method_9_code
def yX3_forks : MethodName := ⟨RX3, "forks", "(III[I)I"⟩
abbrev cX3_puts : ByteArray := prog_5_method_10_code
def yX3_puts : MethodName := ⟨RX3, "puts", "(I)I"⟩
abbrev cX3_constant : ByteArray := prog_5_method_11_code
def yX3_constant : MethodName := ⟨RX3, "constant", "(IZ)I"⟩
abbrev cX3_letter : ByteArray := prog_5_method_12_code
def yX3_letter : MethodName := ⟨RX3, "letter", "(II)I"⟩
abbrev cX3_join : ByteArray := prog_5_method_13_code
def yX3_join : MethodName := ⟨RX3, "join", "(IIII)I"⟩
abbrev cX3_fork : ByteArray := prog_5_method_14_code
def yX3_fork : MethodName := ⟨RX3, "fork", "(IIII)I"⟩
abbrev cX3_with : ByteArray := prog_5_method_15_code
def yX3_with : MethodName := ⟨RX3, "with", "(IIZ)I"⟩
abbrev cX3_fix : ByteArray := prog_5_method_16_code
def yX3_fix : MethodName := ⟨RX3, "fix", "(IIIZ)I"⟩
abbrev cX3_put : ByteArray := prog_5_method_17_code
def yX3_put : MethodName := ⟨RX3, "put", "(IIII)I"⟩
abbrev cX3_sum : ByteArray := prog_5_method_18_code
def yX3_sum : MethodName := ⟨RX3, "sum", "(IIIZ)I"⟩
abbrev cX3_trade : ByteArray := prog_5_method_19_code
def yX3_trade : MethodName := ⟨RX3, "trade", "(IIII)I"⟩
abbrev cX3_manyOf : ByteArray := prog_5_method_20_code
def yX3_manyOf : MethodName := ⟨RX3, "manyOf", "(I)I"⟩
abbrev cX3_isSome : ByteArray := prog_5_method_21_code
def yX3_isSome : MethodName := ⟨RX3, "isSome", "(III)Z"⟩
abbrev cX3_nearest : ByteArray := prog_5_method_22_code
def yX3_nearest : MethodName := ⟨RX3, "nearest", "(II)I"⟩
abbrev cX3_near : ByteArray := prog_5_method_23_code
def yX3_near : MethodName := ⟨RX3, "near", "(III)I"⟩
abbrev cX3_copy : ByteArray := prog_5_method_24_code
def yX3_copy : MethodName := ⟨RX3, "copy", "(II)I"⟩
abbrev cX3_swap : ByteArray := prog_5_method_25_code
def yX3_swap : MethodName := ⟨RX3, "swap", "(I)I"⟩
abbrev cX3_tries : ByteArray := prog_5_method_26_code
def yX3_tries : MethodName := ⟨RX3, "tries", "(II)V"⟩
abbrev cX3_sift : ByteArray := prog_5_method_27_code
def yX3_sift : MethodName := ⟨RX3, "sift", "(I)I"⟩
abbrev cX3_cost : ByteArray := prog_5_method_28_code
def yX3_cost : MethodName := ⟨RX3, "cost", "(II)I"⟩
abbrev cX3_same : ByteArray := prog_5_method_29_code
def yX3_same : MethodName := ⟨RX3, "same", "(II)I"⟩
abbrev cX3_tells : ByteArray := prog_5_method_30_code
def yX3_tells : MethodName := ⟨RX3, "tells", "(II)I"⟩
abbrev cX3_many : ByteArray := prog_5_method_31_code
def yX3_many : MethodName := ⟨RX3, "many", "(I)I"⟩
abbrev cX3_pick : ByteArray := prog_5_method_32_code
def yX3_pick : MethodName := ⟨RX3, "pick", "(II)I"⟩
abbrev cX3_costOf : ByteArray := prog_5_method_33_code
def yX3_costOf : MethodName := ⟨RX3, "costOf", "(I)I"⟩
abbrev cX3_cheapest : ByteArray := prog_5_method_34_code
def yX3_cheapest : MethodName := ⟨RX3, "cheapest", "(I)I"⟩
abbrev cX3_dearest : ByteArray := prog_5_method_35_code
def yX3_dearest : MethodName := ⟨RX3, "dearest", "(I)I"⟩
abbrev cX3_differs : ByteArray := prog_5_method_36_code
def yX3_differs : MethodName := ⟨RX3, "differs", "(II)Z"⟩
abbrev cX3_letters : ByteArray := prog_5_method_37_code
def yX3_letters : MethodName := ⟨RX3, "letters", "(I)I"⟩
abbrev cX3_size : ByteArray := prog_5_method_38_code
def yX3_size : MethodName := ⟨RX3, "size", "(I)I"⟩
abbrev cX3_width : ByteArray := prog_5_method_39_code
def yX3_width : MethodName := ⟨RX3, "width", "(II)I"⟩
abbrev cX3_point : ByteArray := prog_5_method_40_code
def yX3_point : MethodName := ⟨RX3, "point", "(I)I"⟩
abbrev cX3_firstLetter : ByteArray := prog_5_method_41_code
def yX3_firstLetter : MethodName := ⟨RX3, "firstLetter", "()I"⟩
abbrev cX3_go : ByteArray := prog_5_method_42_code
def yX3_go : MethodName := ⟨RX3, "go", "(Z)Z"⟩
abbrev cX3_at : ByteArray := prog_5_method_43_code
def yX3_at : MethodName := ⟨RX3, "at", "()I"⟩
abbrev cX3_level : ByteArray := prog_5_method_44_code
def yX3_level : MethodName := ⟨RX3, "level", "(II)I"⟩
abbrev cX3_count : ByteArray := prog_5_method_45_code
def yX3_count : MethodName := ⟨RX3, "count", "(I)I"⟩
abbrev cX3_mixed : ByteArray := prog_5_method_46_code
def yX3_mixed : MethodName := ⟨RX3, "mixed", "()I"⟩
def RJ13 : String := "java/lang/Long"
def TJ13 : u_T := fun k => match k with
  | _ => ("", "", "", false)
def tyJ13 : Nat → FieldType := fun k => match k with
  | _ => .int
abbrev wsJ130 : List Cond := u_ws RJ13 TJ13 0
theorem nmJ13 : ∀ a, a < 0 → ∀ b, b < 0 → a ≠ b → (TJ13 a).2.1 ≠ (TJ13 b).2.1 := by decide +kernel
theorem tyJ13_ok : ∀ k, k < 0 → parseFieldDescriptor (TJ13 k).2.2.1 = some (tyJ13 k) := by decide +kernel
abbrev cJ13_bitCount_95d88 : ByteArray := prog_6_method_50_code
def yJ13_bitCount_95d88 : MethodName := ⟨RJ13, "bitCount", "(J)I"⟩
def RJ9 : String := "java/lang/Math"
def TJ9 : u_T := fun k => match k with
  | _ => ("", "", "", false)
def tyJ9 : Nat → FieldType := fun k => match k with
  | _ => .int
abbrev wsJ90 : List Cond := u_ws RJ9 TJ9 0
theorem nmJ9 : ∀ a, a < 0 → ∀ b, b < 0 → a ≠ b → (TJ9 a).2.1 ≠ (TJ9 b).2.1 := by decide +kernel
theorem tyJ9_ok : ∀ k, k < 0 → parseFieldDescriptor (TJ9 k).2.2.1 = some (tyJ9 k) := by decide +kernel
abbrev cJ9_max_7cf53 : ByteArray := prog_7_method_65_code
def yJ9_max_7cf53 : MethodName := ⟨RJ9, "max", "(II)I"⟩
abbrev cJ9_min_7cf53 : ByteArray := prog_7_method_69_code
def yJ9_min_7cf53 : MethodName := ⟨RJ9, "min", "(II)I"⟩
def RJ10 : String := "java/lang/System"
def TJ10 : u_T := fun k => match k with
  | _ => ("", "", "", false)
def tyJ10 : Nat → FieldType := fun k => match k with
  | _ => .int
abbrev wsJ100 : List Cond := u_ws RJ10 TJ10 0
theorem nmJ10 : ∀ a, a < 0 → ∀ b, b < 0 → a ≠ b → (TJ10 a).2.1 ≠ (TJ10 b).2.1 := by decide +kernel
theorem tyJ10_ok : ∀ k, k < 0 → parseFieldDescriptor (TJ10 k).2.2.1 = some (tyJ10 k) := by decide +kernel
def RJ7 : String := "java/util/Arrays"
def TJ7 : u_T := fun k => match k with
  | _ => ("", "", "", false)
def tyJ7 : Nat → FieldType := fun k => match k with
  | _ => .int
abbrev wsJ70 : List Cond := u_ws RJ7 TJ7 0
theorem nmJ7 : ∀ a, a < 0 → ∀ b, b < 0 → a ≠ b → (TJ7 a).2.1 ≠ (TJ7 b).2.1 := by decide +kernel
theorem tyJ7_ok : ∀ k, k < 0 → parseFieldDescriptor (TJ7 k).2.2.1 = some (tyJ7 k) := by decide +kernel
abbrev cJ7_rangeCheck_23922 : ByteArray := prog_9_method_30_code
def yJ7_rangeCheck_23922 : MethodName := ⟨RJ7, "rangeCheck", "(III)V"⟩
abbrev cJ7_fill_d0a16 : ByteArray := prog_9_method_101_code
def yJ7_fill_d0a16 : MethodName := ⟨RJ7, "fill", "([JJ)V"⟩
abbrev cJ7_fill_bad5a : ByteArray := prog_9_method_102_code
def yJ7_fill_bad5a : MethodName := ⟨RJ7, "fill", "([JIIJ)V"⟩
abbrev cJ7_fill_fda19 : ByteArray := prog_9_method_104_code
def yJ7_fill_fda19 : MethodName := ⟨RJ7, "fill", "([IIII)V"⟩
def RL : String := "DecisionWebLaw"
abbrev cL_law : ByteArray := code
def yL_law : MethodName := ⟨RL, "law", "([I)Z"⟩
theorem inX0 : ∀ w ∈ wsX00, w ∈ lw_tbl := by decide +kernel
theorem inX1 : ∀ w ∈ wsX10, w ∈ lw_tbl := by decide +kernel
theorem inX2 : ∀ w ∈ wsX20, w ∈ lw_tbl := by decide +kernel
theorem inX3 : ∀ w ∈ wsX30, w ∈ lw_tbl := by decide +kernel
theorem inJ13 : ∀ w ∈ wsJ130, w ∈ lw_tbl := by decide +kernel
theorem inJ9 : ∀ w ∈ wsJ90, w ∈ lw_tbl := by decide +kernel
theorem inJ10 : ∀ w ∈ wsJ100, w ∈ lw_tbl := by decide +kernel
theorem inJ7 : ∀ w ∈ wsJ70, w ∈ lw_tbl := by decide +kernel
abbrev vwCl : List vw_C := [(RX1, TX1, 6), (RX2, TX2, 13), (RX3, TX3, 18)]
end
section
theorem dX0_has_0 : decode cX0_has 0 = .ok (.aload_n 0, 1) := by decide +kernel
theorem dX0_has_1 : decode cX0_has 1 = .ok (.iload_n 1, 1) := by decide +kernel
theorem dX0_has_2 : decode cX0_has 2 = .ok (.bipush 6, 2) := by decide +kernel
theorem dX0_has_4 : decode cX0_has 4 = .ok (.ishr, 1) := by decide +kernel
theorem dX0_has_5 : decode cX0_has 5 = .ok (.laload, 1) := by decide +kernel
theorem dX0_has_6 : decode cX0_has 6 = .ok (.iload_n 1, 1) := by decide +kernel
theorem dX0_has_7 : decode cX0_has 7 = .ok (.bipush 63, 2) := by decide +kernel
theorem dX0_has_9 : decode cX0_has 9 = .ok (.iand, 1) := by decide +kernel
theorem dX0_has_10 : decode cX0_has 10 = .ok (.lushr, 1) := by decide +kernel
theorem dX0_has_11 : decode cX0_has 11 = .ok (.lconst 1, 1) := by decide +kernel
theorem dX0_has_12 : decode cX0_has 12 = .ok (.land, 1) := by decide +kernel
theorem dX0_has_13 : decode cX0_has 13 = .ok (.lconst 0, 1) := by decide +kernel
theorem dX0_has_14 : decode cX0_has 14 = .ok (.lcmp, 1) := by decide +kernel
theorem dX0_has_15 : decode cX0_has 15 = .ok (.ifCond .eq 7, 3) := by decide +kernel
theorem dX0_has_18 : decode cX0_has 18 = .ok (.iconst 1, 1) := by decide +kernel
theorem dX0_has_19 : decode cX0_has 19 = .ok (.goto 4, 3) := by decide +kernel
theorem dX0_has_22 : decode cX0_has 22 = .ok (.iconst 0, 1) := by decide +kernel
theorem dX0_has_23 : decode cX0_has 23 = .ok (.ireturn, 1) := by decide +kernel
theorem dX0_mark_0 : decode cX0_mark 0 = .ok (.aload_n 0, 1) := by decide +kernel
theorem dX0_mark_1 : decode cX0_mark 1 = .ok (.iload_n 1, 1) := by decide +kernel
theorem dX0_mark_2 : decode cX0_mark 2 = .ok (.bipush 6, 2) := by decide +kernel
theorem dX0_mark_4 : decode cX0_mark 4 = .ok (.ishr, 1) := by decide +kernel
theorem dX0_mark_5 : decode cX0_mark 5 = .ok (.dup2, 1) := by decide +kernel
theorem dX0_mark_6 : decode cX0_mark 6 = .ok (.laload, 1) := by decide +kernel
theorem dX0_mark_7 : decode cX0_mark 7 = .ok (.lconst 1, 1) := by decide +kernel
theorem dX0_mark_8 : decode cX0_mark 8 = .ok (.iload_n 1, 1) := by decide +kernel
theorem dX0_mark_9 : decode cX0_mark 9 = .ok (.bipush 63, 2) := by decide +kernel
theorem dX0_mark_11 : decode cX0_mark 11 = .ok (.iand, 1) := by decide +kernel
theorem dX0_mark_12 : decode cX0_mark 12 = .ok (.lshl, 1) := by decide +kernel
theorem dX0_mark_13 : decode cX0_mark 13 = .ok (.lor, 1) := by decide +kernel
theorem dX0_mark_14 : decode cX0_mark 14 = .ok (.lastore, 1) := by decide +kernel
theorem dX0_mark_15 : decode cX0_mark 15 = .ok (.return_, 1) := by decide +kernel
theorem dX0_lowOnes_0 : decode cX0_lowOnes 0 = .ok (.iload_n 0, 1) := by decide +kernel
theorem dX0_lowOnes_1 : decode cX0_lowOnes 1 = .ok (.bipush 64, 2) := by decide +kernel
theorem dX0_lowOnes_3 : decode cX0_lowOnes 3 = .ok (.if_icmp .lt 9, 3) := by decide +kernel
theorem dX0_lowOnes_6 : decode cX0_lowOnes 6 = .ok (.ldc2_w 9, 3) := by decide +kernel
theorem dX0_lowOnes_9 : decode cX0_lowOnes 9 = .ok (.goto 8, 3) := by decide +kernel
theorem dX0_lowOnes_12 : decode cX0_lowOnes 12 = .ok (.lconst 1, 1) := by decide +kernel
theorem dX0_lowOnes_13 : decode cX0_lowOnes 13 = .ok (.iload_n 0, 1) := by decide +kernel
theorem dX0_lowOnes_14 : decode cX0_lowOnes 14 = .ok (.lshl, 1) := by decide +kernel
theorem dX0_lowOnes_15 : decode cX0_lowOnes 15 = .ok (.lconst 1, 1) := by decide +kernel
theorem dX0_lowOnes_16 : decode cX0_lowOnes 16 = .ok (.lsub, 1) := by decide +kernel
theorem dX0_lowOnes_17 : decode cX0_lowOnes 17 = .ok (.lreturn, 1) := by decide +kernel
theorem dX0_letterWord_0 : decode cX0_letterWord 0 = .ok (.iload_n 1, 1) := by decide +kernel
theorem dX0_letterWord_1 : decode cX0_letterWord 1 = .ok (.bipush 6, 2) := by decide +kernel
theorem dX0_letterWord_3 : decode cX0_letterWord 3 = .ok (.if_icmp .ge 9, 3) := by decide +kernel
theorem dX0_letterWord_6 : decode cX0_letterWord 6 = .ok (.getstatic 11, 3) := by decide +kernel
theorem dX0_letterWord_9 : decode cX0_letterWord 9 = .ok (.iload_n 1, 1) := by decide +kernel
theorem dX0_letterWord_10 : decode cX0_letterWord 10 = .ok (.laload, 1) := by decide +kernel
theorem dX0_letterWord_11 : decode cX0_letterWord 11 = .ok (.lreturn, 1) := by decide +kernel
theorem dX0_letterWord_12 : decode cX0_letterWord 12 = .ok (.iload_n 0, 1) := by decide +kernel
theorem dX0_letterWord_13 : decode cX0_letterWord 13 = .ok (.iload_n 1, 1) := by decide +kernel
theorem dX0_letterWord_14 : decode cX0_letterWord 14 = .ok (.bipush 6, 2) := by decide +kernel
theorem dX0_letterWord_16 : decode cX0_letterWord 16 = .ok (.isub, 1) := by decide +kernel
theorem dX0_letterWord_17 : decode cX0_letterWord 17 = .ok (.ishr, 1) := by decide +kernel
theorem dX0_letterWord_18 : decode cX0_letterWord 18 = .ok (.iconst 1, 1) := by decide +kernel
theorem dX0_letterWord_19 : decode cX0_letterWord 19 = .ok (.iand, 1) := by decide +kernel
theorem dX0_letterWord_20 : decode cX0_letterWord 20 = .ok (.ifCond .eq 9, 3) := by decide +kernel
theorem dX0_letterWord_23 : decode cX0_letterWord 23 = .ok (.ldc2_w 9, 3) := by decide +kernel
theorem dX0_letterWord_26 : decode cX0_letterWord 26 = .ok (.goto 4, 3) := by decide +kernel
theorem dX0_letterWord_29 : decode cX0_letterWord 29 = .ok (.lconst 0, 1) := by decide +kernel
theorem dX0_letterWord_30 : decode cX0_letterWord 30 = .ok (.lreturn, 1) := by decide +kernel
theorem dX0_joinedWord_0 : decode cX0_joinedWord 0 = .ok (.lconst 0, 1) := by decide +kernel
theorem dX0_joinedWord_1 : decode cX0_joinedWord 1 = .ok (.lstore 5, 2) := by decide +kernel
theorem dX0_joinedWord_3 : decode cX0_joinedWord 3 = .ok (.iload 4, 2) := by decide +kernel
theorem dX0_joinedWord_5 : decode cX0_joinedWord 5 = .ok (.iconst 1, 1) := by decide +kernel
theorem dX0_joinedWord_6 : decode cX0_joinedWord 6 = .ok (.iand, 1) := by decide +kernel
theorem dX0_joinedWord_7 : decode cX0_joinedWord 7 = .ok (.ifCond .eq 19, 3) := by decide +kernel
theorem dX0_joinedWord_10 : decode cX0_joinedWord 10 = .ok (.lload 5, 2) := by decide +kernel
theorem dX0_joinedWord_12 : decode cX0_joinedWord 12 = .ok (.lload_n 0, 1) := by decide +kernel
theorem dX0_joinedWord_13 : decode cX0_joinedWord 13 = .ok (.ldc2_w 9, 3) := by decide +kernel
theorem dX0_joinedWord_16 : decode cX0_joinedWord 16 = .ok (.lxor, 1) := by decide +kernel
theorem dX0_joinedWord_17 : decode cX0_joinedWord 17 = .ok (.lload_n 2, 1) := by decide +kernel
theorem dX0_joinedWord_18 : decode cX0_joinedWord 18 = .ok (.ldc2_w 9, 3) := by decide +kernel
theorem dX0_joinedWord_21 : decode cX0_joinedWord 21 = .ok (.lxor, 1) := by decide +kernel
theorem dX0_joinedWord_22 : decode cX0_joinedWord 22 = .ok (.land, 1) := by decide +kernel
theorem dX0_joinedWord_23 : decode cX0_joinedWord 23 = .ok (.lor, 1) := by decide +kernel
theorem dX0_joinedWord_24 : decode cX0_joinedWord 24 = .ok (.lstore 5, 2) := by decide +kernel
theorem dX0_joinedWord_26 : decode cX0_joinedWord 26 = .ok (.iload 4, 2) := by decide +kernel
theorem dX0_joinedWord_28 : decode cX0_joinedWord 28 = .ok (.iconst 2, 1) := by decide +kernel
theorem dX0_joinedWord_29 : decode cX0_joinedWord 29 = .ok (.iand, 1) := by decide +kernel
theorem dX0_joinedWord_30 : decode cX0_joinedWord 30 = .ok (.ifCond .eq 15, 3) := by decide +kernel
theorem dX0_joinedWord_33 : decode cX0_joinedWord 33 = .ok (.lload 5, 2) := by decide +kernel
theorem dX0_joinedWord_35 : decode cX0_joinedWord 35 = .ok (.lload_n 0, 1) := by decide +kernel
theorem dX0_joinedWord_36 : decode cX0_joinedWord 36 = .ok (.lload_n 2, 1) := by decide +kernel
theorem dX0_joinedWord_37 : decode cX0_joinedWord 37 = .ok (.ldc2_w 9, 3) := by decide +kernel
theorem dX0_joinedWord_40 : decode cX0_joinedWord 40 = .ok (.lxor, 1) := by decide +kernel
theorem dX0_joinedWord_41 : decode cX0_joinedWord 41 = .ok (.land, 1) := by decide +kernel
theorem dX0_joinedWord_42 : decode cX0_joinedWord 42 = .ok (.lor, 1) := by decide +kernel
theorem dX0_joinedWord_43 : decode cX0_joinedWord 43 = .ok (.lstore 5, 2) := by decide +kernel
theorem dX0_joinedWord_45 : decode cX0_joinedWord 45 = .ok (.iload 4, 2) := by decide +kernel
theorem dX0_joinedWord_47 : decode cX0_joinedWord 47 = .ok (.iconst 4, 1) := by decide +kernel
theorem dX0_joinedWord_48 : decode cX0_joinedWord 48 = .ok (.iand, 1) := by decide +kernel
theorem dX0_joinedWord_49 : decode cX0_joinedWord 49 = .ok (.ifCond .eq 15, 3) := by decide +kernel
theorem dX0_joinedWord_52 : decode cX0_joinedWord 52 = .ok (.lload 5, 2) := by decide +kernel
theorem dX0_joinedWord_54 : decode cX0_joinedWord 54 = .ok (.lload_n 0, 1) := by decide +kernel
theorem dX0_joinedWord_55 : decode cX0_joinedWord 55 = .ok (.ldc2_w 9, 3) := by decide +kernel
theorem dX0_joinedWord_58 : decode cX0_joinedWord 58 = .ok (.lxor, 1) := by decide +kernel
theorem dX0_joinedWord_59 : decode cX0_joinedWord 59 = .ok (.lload_n 2, 1) := by decide +kernel
theorem dX0_joinedWord_60 : decode cX0_joinedWord 60 = .ok (.land, 1) := by decide +kernel
theorem dX0_joinedWord_61 : decode cX0_joinedWord 61 = .ok (.lor, 1) := by decide +kernel
theorem dX0_joinedWord_62 : decode cX0_joinedWord 62 = .ok (.lstore 5, 2) := by decide +kernel
theorem dX0_joinedWord_64 : decode cX0_joinedWord 64 = .ok (.iload 4, 2) := by decide +kernel
theorem dX0_joinedWord_66 : decode cX0_joinedWord 66 = .ok (.bipush 8, 2) := by decide +kernel
theorem dX0_joinedWord_68 : decode cX0_joinedWord 68 = .ok (.iand, 1) := by decide +kernel
theorem dX0_joinedWord_69 : decode cX0_joinedWord 69 = .ok (.ifCond .eq 11, 3) := by decide +kernel
theorem dX0_joinedWord_72 : decode cX0_joinedWord 72 = .ok (.lload 5, 2) := by decide +kernel
theorem dX0_joinedWord_74 : decode cX0_joinedWord 74 = .ok (.lload_n 0, 1) := by decide +kernel
theorem dX0_joinedWord_75 : decode cX0_joinedWord 75 = .ok (.lload_n 2, 1) := by decide +kernel
theorem dX0_joinedWord_76 : decode cX0_joinedWord 76 = .ok (.land, 1) := by decide +kernel
theorem dX0_joinedWord_77 : decode cX0_joinedWord 77 = .ok (.lor, 1) := by decide +kernel
theorem dX0_joinedWord_78 : decode cX0_joinedWord 78 = .ok (.lstore 5, 2) := by decide +kernel
theorem dX0_joinedWord_80 : decode cX0_joinedWord 80 = .ok (.lload 5, 2) := by decide +kernel
theorem dX0_joinedWord_82 : decode cX0_joinedWord 82 = .ok (.lreturn, 1) := by decide +kernel
theorem dX0_chosenWord_0 : decode cX0_chosenWord 0 = .ok (.lload_n 0, 1) := by decide +kernel
theorem dX0_chosenWord_1 : decode cX0_chosenWord 1 = .ok (.lload_n 2, 1) := by decide +kernel
theorem dX0_chosenWord_2 : decode cX0_chosenWord 2 = .ok (.land, 1) := by decide +kernel
theorem dX0_chosenWord_3 : decode cX0_chosenWord 3 = .ok (.lload_n 0, 1) := by decide +kernel
theorem dX0_chosenWord_4 : decode cX0_chosenWord 4 = .ok (.ldc2_w 9, 3) := by decide +kernel
theorem dX0_chosenWord_7 : decode cX0_chosenWord 7 = .ok (.lxor, 1) := by decide +kernel
theorem dX0_chosenWord_8 : decode cX0_chosenWord 8 = .ok (.lload 4, 2) := by decide +kernel
theorem dX0_chosenWord_10 : decode cX0_chosenWord 10 = .ok (.land, 1) := by decide +kernel
theorem dX0_chosenWord_11 : decode cX0_chosenWord 11 = .ok (.lor, 1) := by decide +kernel
theorem dX0_chosenWord_12 : decode cX0_chosenWord 12 = .ok (.lreturn, 1) := by decide +kernel
theorem dX0_fixedWord_0 : decode cX0_fixedWord 0 = .ok (.iload_n 2, 1) := by decide +kernel
theorem dX0_fixedWord_1 : decode cX0_fixedWord 1 = .ok (.bipush 6, 2) := by decide +kernel
theorem dX0_fixedWord_3 : decode cX0_fixedWord 3 = .ok (.if_icmp .lt 31, 3) := by decide +kernel
theorem dX0_fixedWord_6 : decode cX0_fixedWord 6 = .ok (.iconst 1, 1) := by decide +kernel
theorem dX0_fixedWord_7 : decode cX0_fixedWord 7 = .ok (.iload_n 2, 1) := by decide +kernel
theorem dX0_fixedWord_8 : decode cX0_fixedWord 8 = .ok (.bipush 6, 2) := by decide +kernel
theorem dX0_fixedWord_10 : decode cX0_fixedWord 10 = .ok (.isub, 1) := by decide +kernel
theorem dX0_fixedWord_11 : decode cX0_fixedWord 11 = .ok (.ishl, 1) := by decide +kernel
theorem dX0_fixedWord_12 : decode cX0_fixedWord 12 = .ok (.istore 4, 2) := by decide +kernel
theorem dX0_fixedWord_14 : decode cX0_fixedWord 14 = .ok (.aload_n 0, 1) := by decide +kernel
theorem dX0_fixedWord_15 : decode cX0_fixedWord 15 = .ok (.iload_n 3, 1) := by decide +kernel
theorem dX0_fixedWord_16 : decode cX0_fixedWord 16 = .ok (.ifCond .eq 10, 3) := by decide +kernel
theorem dX0_fixedWord_19 : decode cX0_fixedWord 19 = .ok (.iload_n 1, 1) := by decide +kernel
theorem dX0_fixedWord_20 : decode cX0_fixedWord 20 = .ok (.iload 4, 2) := by decide +kernel
theorem dX0_fixedWord_22 : decode cX0_fixedWord 22 = .ok (.ior, 1) := by decide +kernel
theorem dX0_fixedWord_23 : decode cX0_fixedWord 23 = .ok (.goto 9, 3) := by decide +kernel
theorem dX0_fixedWord_26 : decode cX0_fixedWord 26 = .ok (.iload_n 1, 1) := by decide +kernel
theorem dX0_fixedWord_27 : decode cX0_fixedWord 27 = .ok (.iload 4, 2) := by decide +kernel
theorem dX0_fixedWord_29 : decode cX0_fixedWord 29 = .ok (.iconst (-1), 1) := by decide +kernel
theorem dX0_fixedWord_30 : decode cX0_fixedWord 30 = .ok (.ixor, 1) := by decide +kernel
theorem dX0_fixedWord_31 : decode cX0_fixedWord 31 = .ok (.iand, 1) := by decide +kernel
theorem dX0_fixedWord_32 : decode cX0_fixedWord 32 = .ok (.laload, 1) := by decide +kernel
theorem dX0_fixedWord_33 : decode cX0_fixedWord 33 = .ok (.lreturn, 1) := by decide +kernel
theorem dX0_fixedWord_34 : decode cX0_fixedWord 34 = .ok (.iconst 1, 1) := by decide +kernel
theorem dX0_fixedWord_35 : decode cX0_fixedWord 35 = .ok (.iload_n 2, 1) := by decide +kernel
theorem dX0_fixedWord_36 : decode cX0_fixedWord 36 = .ok (.ishl, 1) := by decide +kernel
theorem dX0_fixedWord_37 : decode cX0_fixedWord 37 = .ok (.istore 4, 2) := by decide +kernel
theorem dX0_fixedWord_39 : decode cX0_fixedWord 39 = .ok (.iload_n 3, 1) := by decide +kernel
theorem dX0_fixedWord_40 : decode cX0_fixedWord 40 = .ok (.ifCond .eq 23, 3) := by decide +kernel
theorem dX0_fixedWord_43 : decode cX0_fixedWord 43 = .ok (.aload_n 0, 1) := by decide +kernel
theorem dX0_fixedWord_44 : decode cX0_fixedWord 44 = .ok (.iload_n 1, 1) := by decide +kernel
theorem dX0_fixedWord_45 : decode cX0_fixedWord 45 = .ok (.laload, 1) := by decide +kernel
theorem dX0_fixedWord_46 : decode cX0_fixedWord 46 = .ok (.getstatic 11, 3) := by decide +kernel
theorem dX0_fixedWord_49 : decode cX0_fixedWord 49 = .ok (.iload_n 2, 1) := by decide +kernel
theorem dX0_fixedWord_50 : decode cX0_fixedWord 50 = .ok (.laload, 1) := by decide +kernel
theorem dX0_fixedWord_51 : decode cX0_fixedWord 51 = .ok (.land, 1) := by decide +kernel
theorem dX0_fixedWord_52 : decode cX0_fixedWord 52 = .ok (.lstore 5, 2) := by decide +kernel
theorem dX0_fixedWord_54 : decode cX0_fixedWord 54 = .ok (.lload 5, 2) := by decide +kernel
theorem dX0_fixedWord_56 : decode cX0_fixedWord 56 = .ok (.lload 5, 2) := by decide +kernel
theorem dX0_fixedWord_58 : decode cX0_fixedWord 58 = .ok (.iload 4, 2) := by decide +kernel
theorem dX0_fixedWord_60 : decode cX0_fixedWord 60 = .ok (.lushr, 1) := by decide +kernel
theorem dX0_fixedWord_61 : decode cX0_fixedWord 61 = .ok (.lor, 1) := by decide +kernel
theorem dX0_fixedWord_62 : decode cX0_fixedWord 62 = .ok (.lreturn, 1) := by decide +kernel
theorem dX0_fixedWord_63 : decode cX0_fixedWord 63 = .ok (.aload_n 0, 1) := by decide +kernel
theorem dX0_fixedWord_64 : decode cX0_fixedWord 64 = .ok (.iload_n 1, 1) := by decide +kernel
theorem dX0_fixedWord_65 : decode cX0_fixedWord 65 = .ok (.laload, 1) := by decide +kernel
theorem dX0_fixedWord_66 : decode cX0_fixedWord 66 = .ok (.getstatic 11, 3) := by decide +kernel
theorem dX0_fixedWord_69 : decode cX0_fixedWord 69 = .ok (.iload_n 2, 1) := by decide +kernel
theorem dX0_fixedWord_70 : decode cX0_fixedWord 70 = .ok (.laload, 1) := by decide +kernel
theorem dX0_fixedWord_71 : decode cX0_fixedWord 71 = .ok (.ldc2_w 9, 3) := by decide +kernel
theorem dX0_fixedWord_74 : decode cX0_fixedWord 74 = .ok (.lxor, 1) := by decide +kernel
theorem dX0_fixedWord_75 : decode cX0_fixedWord 75 = .ok (.land, 1) := by decide +kernel
theorem dX0_fixedWord_76 : decode cX0_fixedWord 76 = .ok (.lstore 5, 2) := by decide +kernel
theorem dX0_fixedWord_78 : decode cX0_fixedWord 78 = .ok (.lload 5, 2) := by decide +kernel
theorem dX0_fixedWord_80 : decode cX0_fixedWord 80 = .ok (.lload 5, 2) := by decide +kernel
theorem dX0_fixedWord_82 : decode cX0_fixedWord 82 = .ok (.iload 4, 2) := by decide +kernel
theorem dX0_fixedWord_84 : decode cX0_fixedWord 84 = .ok (.lshl, 1) := by decide +kernel
theorem dX0_fixedWord_85 : decode cX0_fixedWord 85 = .ok (.lor, 1) := by decide +kernel
theorem dX0_fixedWord_86 : decode cX0_fixedWord 86 = .ok (.lreturn, 1) := by decide +kernel
theorem dX0_alike_0 : decode cX0_alike 0 = .ok (.iload 4, 2) := by decide +kernel
theorem dX0_alike_2 : decode cX0_alike 2 = .ok (.bipush 64, 2) := by decide +kernel
theorem dX0_alike_4 : decode cX0_alike 4 = .ok (.if_icmp .ge 27, 3) := by decide +kernel
theorem dX0_alike_7 : decode cX0_alike 7 = .ok (.aload_n 0, 1) := by decide +kernel
theorem dX0_alike_8 : decode cX0_alike 8 = .ok (.iload_n 1, 1) := by decide +kernel
theorem dX0_alike_9 : decode cX0_alike 9 = .ok (.iload 4, 2) := by decide +kernel
theorem dX0_alike_11 : decode cX0_alike 11 = .ok (.invokestatic 15, 3) := by decide +kernel
theorem dX0_alike_14 : decode cX0_alike 14 = .ok (.aload_n 2, 1) := by decide +kernel
theorem dX0_alike_15 : decode cX0_alike 15 = .ok (.iload_n 3, 1) := by decide +kernel
theorem dX0_alike_16 : decode cX0_alike 16 = .ok (.iload 4, 2) := by decide +kernel
theorem dX0_alike_18 : decode cX0_alike 18 = .ok (.invokestatic 15, 3) := by decide +kernel
theorem dX0_alike_21 : decode cX0_alike 21 = .ok (.lcmp, 1) := by decide +kernel
theorem dX0_alike_22 : decode cX0_alike 22 = .ok (.ifCond .ne 7, 3) := by decide +kernel
theorem dX0_alike_25 : decode cX0_alike 25 = .ok (.iconst 1, 1) := by decide +kernel
theorem dX0_alike_26 : decode cX0_alike 26 = .ok (.goto 4, 3) := by decide +kernel
theorem dX0_alike_29 : decode cX0_alike 29 = .ok (.iconst 0, 1) := by decide +kernel
theorem dX0_alike_30 : decode cX0_alike 30 = .ok (.ireturn, 1) := by decide +kernel
theorem dX0_alike_31 : decode cX0_alike 31 = .ok (.iload_n 1, 1) := by decide +kernel
theorem dX0_alike_32 : decode cX0_alike 32 = .ok (.bipush 6, 2) := by decide +kernel
theorem dX0_alike_34 : decode cX0_alike 34 = .ok (.ishr, 1) := by decide +kernel
theorem dX0_alike_35 : decode cX0_alike 35 = .ok (.istore 5, 2) := by decide +kernel
theorem dX0_alike_37 : decode cX0_alike 37 = .ok (.iload_n 3, 1) := by decide +kernel
theorem dX0_alike_38 : decode cX0_alike 38 = .ok (.bipush 6, 2) := by decide +kernel
theorem dX0_alike_40 : decode cX0_alike 40 = .ok (.ishr, 1) := by decide +kernel
theorem dX0_alike_41 : decode cX0_alike 41 = .ok (.istore 6, 2) := by decide +kernel
theorem dX0_alike_43 : decode cX0_alike 43 = .ok (.iload 4, 2) := by decide +kernel
theorem dX0_alike_45 : decode cX0_alike 45 = .ok (.bipush 6, 2) := by decide +kernel
theorem dX0_alike_47 : decode cX0_alike 47 = .ok (.ishr, 1) := by decide +kernel
theorem dX0_alike_48 : decode cX0_alike 48 = .ok (.istore 7, 2) := by decide +kernel
theorem dX0_alike_50 : decode cX0_alike 50 = .ok (.iconst 0, 1) := by decide +kernel
theorem dX0_alike_51 : decode cX0_alike 51 = .ok (.istore 8, 2) := by decide +kernel
theorem dX0_alike_53 : decode cX0_alike 53 = .ok (.iload 8, 2) := by decide +kernel
theorem dX0_alike_55 : decode cX0_alike 55 = .ok (.iload 7, 2) := by decide +kernel
theorem dX0_alike_57 : decode cX0_alike 57 = .ok (.if_icmp .ge 29, 3) := by decide +kernel
theorem dX0_alike_60 : decode cX0_alike 60 = .ok (.aload_n 0, 1) := by decide +kernel
theorem dX0_alike_61 : decode cX0_alike 61 = .ok (.iload 5, 2) := by decide +kernel
theorem dX0_alike_63 : decode cX0_alike 63 = .ok (.iload 8, 2) := by decide +kernel
theorem dX0_alike_65 : decode cX0_alike 65 = .ok (.iadd, 1) := by decide +kernel
theorem dX0_alike_66 : decode cX0_alike 66 = .ok (.laload, 1) := by decide +kernel
theorem dX0_alike_67 : decode cX0_alike 67 = .ok (.aload_n 2, 1) := by decide +kernel
theorem dX0_alike_68 : decode cX0_alike 68 = .ok (.iload 6, 2) := by decide +kernel
theorem dX0_alike_70 : decode cX0_alike 70 = .ok (.iload 8, 2) := by decide +kernel
theorem dX0_alike_72 : decode cX0_alike 72 = .ok (.iadd, 1) := by decide +kernel
theorem dX0_alike_73 : decode cX0_alike 73 = .ok (.laload, 1) := by decide +kernel
theorem dX0_alike_74 : decode cX0_alike 74 = .ok (.lcmp, 1) := by decide +kernel
theorem dX0_alike_75 : decode cX0_alike 75 = .ok (.ifCond .eq 5, 3) := by decide +kernel
theorem dX0_alike_78 : decode cX0_alike 78 = .ok (.iconst 0, 1) := by decide +kernel
theorem dX0_alike_79 : decode cX0_alike 79 = .ok (.ireturn, 1) := by decide +kernel
theorem dX0_alike_80 : decode cX0_alike 80 = .ok (.iinc 8 1, 3) := by decide +kernel
theorem dX0_alike_83 : decode cX0_alike 83 = .ok (.goto (-30), 3) := by decide +kernel
theorem dX0_alike_86 : decode cX0_alike 86 = .ok (.iconst 1, 1) := by decide +kernel
theorem dX0_alike_87 : decode cX0_alike 87 = .ok (.ireturn, 1) := by decide +kernel
theorem dX0_shortPart_0 : decode cX0_shortPart 0 = .ok (.aload_n 0, 1) := by decide +kernel
theorem dX0_shortPart_1 : decode cX0_shortPart 1 = .ok (.iload_n 1, 1) := by decide +kernel
theorem dX0_shortPart_2 : decode cX0_shortPart 2 = .ok (.bipush 6, 2) := by decide +kernel
theorem dX0_shortPart_4 : decode cX0_shortPart 4 = .ok (.ishr, 1) := by decide +kernel
theorem dX0_shortPart_5 : decode cX0_shortPart 5 = .ok (.laload, 1) := by decide +kernel
theorem dX0_shortPart_6 : decode cX0_shortPart 6 = .ok (.iload_n 1, 1) := by decide +kernel
theorem dX0_shortPart_7 : decode cX0_shortPart 7 = .ok (.bipush 63, 2) := by decide +kernel
theorem dX0_shortPart_9 : decode cX0_shortPart 9 = .ok (.iand, 1) := by decide +kernel
theorem dX0_shortPart_10 : decode cX0_shortPart 10 = .ok (.lushr, 1) := by decide +kernel
theorem dX0_shortPart_11 : decode cX0_shortPart 11 = .ok (.lconst 1, 1) := by decide +kernel
theorem dX0_shortPart_12 : decode cX0_shortPart 12 = .ok (.iload_n 2, 1) := by decide +kernel
theorem dX0_shortPart_13 : decode cX0_shortPart 13 = .ok (.lshl, 1) := by decide +kernel
theorem dX0_shortPart_14 : decode cX0_shortPart 14 = .ok (.lconst 1, 1) := by decide +kernel
theorem dX0_shortPart_15 : decode cX0_shortPart 15 = .ok (.lsub, 1) := by decide +kernel
theorem dX0_shortPart_16 : decode cX0_shortPart 16 = .ok (.land, 1) := by decide +kernel
theorem dX0_shortPart_17 : decode cX0_shortPart 17 = .ok (.lreturn, 1) := by decide +kernel
theorem dX0_hash_0 : decode cX0_hash 0 = .ok (.iload_n 2, 1) := by decide +kernel
theorem dX0_hash_1 : decode cX0_hash 1 = .ok (.bipush 64, 2) := by decide +kernel
theorem dX0_hash_3 : decode cX0_hash 3 = .ok (.if_icmp .ge 18, 3) := by decide +kernel
theorem dX0_hash_6 : decode cX0_hash 6 = .ok (.aload_n 0, 1) := by decide +kernel
theorem dX0_hash_7 : decode cX0_hash 7 = .ok (.iload_n 1, 1) := by decide +kernel
theorem dX0_hash_8 : decode cX0_hash 8 = .ok (.iload_n 2, 1) := by decide +kernel
theorem dX0_hash_9 : decode cX0_hash 9 = .ok (.invokestatic 15, 3) := by decide +kernel
theorem dX0_hash_12 : decode cX0_hash 12 = .ok (.ldc2_w 19, 3) := by decide +kernel
theorem dX0_hash_15 : decode cX0_hash 15 = .ok (.lmul, 1) := by decide +kernel
theorem dX0_hash_16 : decode cX0_hash 16 = .ok (.bipush 32, 2) := by decide +kernel
theorem dX0_hash_18 : decode cX0_hash 18 = .ok (.lushr, 1) := by decide +kernel
theorem dX0_hash_19 : decode cX0_hash 19 = .ok (.l2i, 1) := by decide +kernel
theorem dX0_hash_20 : decode cX0_hash 20 = .ok (.ireturn, 1) := by decide +kernel
theorem dX0_hash_21 : decode cX0_hash 21 = .ok (.iload_n 1, 1) := by decide +kernel
theorem dX0_hash_22 : decode cX0_hash 22 = .ok (.bipush 6, 2) := by decide +kernel
theorem dX0_hash_24 : decode cX0_hash 24 = .ok (.ishr, 1) := by decide +kernel
theorem dX0_hash_25 : decode cX0_hash 25 = .ok (.istore_n 3, 1) := by decide +kernel
theorem dX0_hash_26 : decode cX0_hash 26 = .ok (.iload_n 2, 1) := by decide +kernel
theorem dX0_hash_27 : decode cX0_hash 27 = .ok (.bipush 6, 2) := by decide +kernel
theorem dX0_hash_29 : decode cX0_hash 29 = .ok (.ishr, 1) := by decide +kernel
theorem dX0_hash_30 : decode cX0_hash 30 = .ok (.istore 4, 2) := by decide +kernel
theorem dX0_hash_32 : decode cX0_hash 32 = .ok (.lconst 0, 1) := by decide +kernel
theorem dX0_hash_33 : decode cX0_hash 33 = .ok (.lstore 5, 2) := by decide +kernel
theorem dX0_hash_35 : decode cX0_hash 35 = .ok (.iconst 0, 1) := by decide +kernel
theorem dX0_hash_36 : decode cX0_hash 36 = .ok (.istore 7, 2) := by decide +kernel
theorem dX0_hash_38 : decode cX0_hash 38 = .ok (.iload 7, 2) := by decide +kernel
theorem dX0_hash_40 : decode cX0_hash 40 = .ok (.iload 4, 2) := by decide +kernel
theorem dX0_hash_42 : decode cX0_hash 42 = .ok (.if_icmp .ge 34, 3) := by decide +kernel
theorem dX0_hash_45 : decode cX0_hash 45 = .ok (.lload 5, 2) := by decide +kernel
theorem dX0_hash_47 : decode cX0_hash 47 = .ok (.aload_n 0, 1) := by decide +kernel
theorem dX0_hash_48 : decode cX0_hash 48 = .ok (.iload_n 3, 1) := by decide +kernel
theorem dX0_hash_49 : decode cX0_hash 49 = .ok (.iload 7, 2) := by decide +kernel
theorem dX0_hash_51 : decode cX0_hash 51 = .ok (.iadd, 1) := by decide +kernel
theorem dX0_hash_52 : decode cX0_hash 52 = .ok (.laload, 1) := by decide +kernel
theorem dX0_hash_53 : decode cX0_hash 53 = .ok (.lxor, 1) := by decide +kernel
theorem dX0_hash_54 : decode cX0_hash 54 = .ok (.ldc2_w 19, 3) := by decide +kernel
theorem dX0_hash_57 : decode cX0_hash 57 = .ok (.lmul, 1) := by decide +kernel
theorem dX0_hash_58 : decode cX0_hash 58 = .ok (.lstore 5, 2) := by decide +kernel
theorem dX0_hash_60 : decode cX0_hash 60 = .ok (.lload 5, 2) := by decide +kernel
theorem dX0_hash_62 : decode cX0_hash 62 = .ok (.lload 5, 2) := by decide +kernel
theorem dX0_hash_64 : decode cX0_hash 64 = .ok (.bipush 32, 2) := by decide +kernel
theorem dX0_hash_66 : decode cX0_hash 66 = .ok (.lushr, 1) := by decide +kernel
theorem dX0_hash_67 : decode cX0_hash 67 = .ok (.lxor, 1) := by decide +kernel
theorem dX0_hash_68 : decode cX0_hash 68 = .ok (.lstore 5, 2) := by decide +kernel
theorem dX0_hash_70 : decode cX0_hash 70 = .ok (.iinc 7 1, 3) := by decide +kernel
theorem dX0_hash_73 : decode cX0_hash 73 = .ok (.goto (-35), 3) := by decide +kernel
theorem dX0_hash_76 : decode cX0_hash 76 = .ok (.lload 5, 2) := by decide +kernel
theorem dX0_hash_78 : decode cX0_hash 78 = .ok (.l2i, 1) := by decide +kernel
theorem dX0_hash_79 : decode cX0_hash 79 = .ok (.ireturn, 1) := by decide +kernel
theorem dX0_exchange_0 : decode cX0_exchange 0 = .ok (.iload_n 2, 1) := by decide +kernel
theorem dX0_exchange_1 : decode cX0_exchange 1 = .ok (.iload_n 3, 1) := by decide +kernel
theorem dX0_exchange_2 : decode cX0_exchange 2 = .ok (.invokestatic 21, 3) := by decide +kernel
theorem dX0_exchange_5 : decode cX0_exchange 5 = .ok (.istore 4, 2) := by decide +kernel
theorem dX0_exchange_7 : decode cX0_exchange 7 = .ok (.iload_n 2, 1) := by decide +kernel
theorem dX0_exchange_8 : decode cX0_exchange 8 = .ok (.iload_n 3, 1) := by decide +kernel
theorem dX0_exchange_9 : decode cX0_exchange 9 = .ok (.invokestatic 27, 3) := by decide +kernel
theorem dX0_exchange_12 : decode cX0_exchange 12 = .ok (.istore 5, 2) := by decide +kernel
theorem dX0_exchange_14 : decode cX0_exchange 14 = .ok (.iload 4, 2) := by decide +kernel
theorem dX0_exchange_16 : decode cX0_exchange 16 = .ok (.iload 5, 2) := by decide +kernel
theorem dX0_exchange_18 : decode cX0_exchange 18 = .ok (.if_icmp .ne 4, 3) := by decide +kernel
theorem dX0_exchange_21 : decode cX0_exchange 21 = .ok (.return_, 1) := by decide +kernel
theorem dX0_exchange_22 : decode cX0_exchange 22 = .ok (.iload 4, 2) := by decide +kernel
theorem dX0_exchange_24 : decode cX0_exchange 24 = .ok (.bipush 6, 2) := by decide +kernel
theorem dX0_exchange_26 : decode cX0_exchange 26 = .ok (.if_icmp .ge 15, 3) := by decide +kernel
theorem dX0_exchange_29 : decode cX0_exchange 29 = .ok (.aload_n 0, 1) := by decide +kernel
theorem dX0_exchange_30 : decode cX0_exchange 30 = .ok (.iload_n 1, 1) := by decide +kernel
theorem dX0_exchange_31 : decode cX0_exchange 31 = .ok (.iload 4, 2) := by decide +kernel
theorem dX0_exchange_33 : decode cX0_exchange 33 = .ok (.iload 5, 2) := by decide +kernel
theorem dX0_exchange_35 : decode cX0_exchange 35 = .ok (.invokestatic 30, 3) := by decide +kernel
theorem dX0_exchange_38 : decode cX0_exchange 38 = .ok (.goto 31, 3) := by decide +kernel
theorem dX0_exchange_41 : decode cX0_exchange 41 = .ok (.iload 5, 2) := by decide +kernel
theorem dX0_exchange_43 : decode cX0_exchange 43 = .ok (.bipush 6, 2) := by decide +kernel
theorem dX0_exchange_45 : decode cX0_exchange 45 = .ok (.if_icmp .ge 15, 3) := by decide +kernel
theorem dX0_exchange_48 : decode cX0_exchange 48 = .ok (.aload_n 0, 1) := by decide +kernel
theorem dX0_exchange_49 : decode cX0_exchange 49 = .ok (.iload_n 1, 1) := by decide +kernel
theorem dX0_exchange_50 : decode cX0_exchange 50 = .ok (.iload 4, 2) := by decide +kernel
theorem dX0_exchange_52 : decode cX0_exchange 52 = .ok (.iload 5, 2) := by decide +kernel
theorem dX0_exchange_54 : decode cX0_exchange 54 = .ok (.invokestatic 34, 3) := by decide +kernel
theorem dX0_exchange_57 : decode cX0_exchange 57 = .ok (.goto 12, 3) := by decide +kernel
theorem dX0_exchange_60 : decode cX0_exchange 60 = .ok (.aload_n 0, 1) := by decide +kernel
theorem dX0_exchange_61 : decode cX0_exchange 61 = .ok (.iload_n 1, 1) := by decide +kernel
theorem dX0_exchange_62 : decode cX0_exchange 62 = .ok (.iload 4, 2) := by decide +kernel
theorem dX0_exchange_64 : decode cX0_exchange 64 = .ok (.iload 5, 2) := by decide +kernel
theorem dX0_exchange_66 : decode cX0_exchange 66 = .ok (.invokestatic 37, 3) := by decide +kernel
theorem dX0_exchange_69 : decode cX0_exchange 69 = .ok (.return_, 1) := by decide +kernel
theorem dX0_exchangeInWords_0 : decode cX0_exchangeInWords 0 = .ok (.iconst 1, 1) := by decide +kernel
theorem dX0_exchangeInWords_1 : decode cX0_exchangeInWords 1 = .ok (.iload_n 2, 1) := by decide +kernel
theorem dX0_exchangeInWords_2 : decode cX0_exchangeInWords 2 = .ok (.ishl, 1) := by decide +kernel
theorem dX0_exchangeInWords_3 : decode cX0_exchangeInWords 3 = .ok (.iconst 1, 1) := by decide +kernel
theorem dX0_exchangeInWords_4 : decode cX0_exchangeInWords 4 = .ok (.iload_n 3, 1) := by decide +kernel
theorem dX0_exchangeInWords_5 : decode cX0_exchangeInWords 5 = .ok (.ishl, 1) := by decide +kernel
theorem dX0_exchangeInWords_6 : decode cX0_exchangeInWords 6 = .ok (.isub, 1) := by decide +kernel
theorem dX0_exchangeInWords_7 : decode cX0_exchangeInWords 7 = .ok (.istore 4, 2) := by decide +kernel
theorem dX0_exchangeInWords_9 : decode cX0_exchangeInWords 9 = .ok (.getstatic 11, 3) := by decide +kernel
theorem dX0_exchangeInWords_12 : decode cX0_exchangeInWords 12 = .ok (.iload_n 3, 1) := by decide +kernel
theorem dX0_exchangeInWords_13 : decode cX0_exchangeInWords 13 = .ok (.laload, 1) := by decide +kernel
theorem dX0_exchangeInWords_14 : decode cX0_exchangeInWords 14 = .ok (.getstatic 11, 3) := by decide +kernel
theorem dX0_exchangeInWords_17 : decode cX0_exchangeInWords 17 = .ok (.iload_n 2, 1) := by decide +kernel
theorem dX0_exchangeInWords_18 : decode cX0_exchangeInWords 18 = .ok (.laload, 1) := by decide +kernel
theorem dX0_exchangeInWords_19 : decode cX0_exchangeInWords 19 = .ok (.ldc2_w 9, 3) := by decide +kernel
theorem dX0_exchangeInWords_22 : decode cX0_exchangeInWords 22 = .ok (.lxor, 1) := by decide +kernel
theorem dX0_exchangeInWords_23 : decode cX0_exchangeInWords 23 = .ok (.land, 1) := by decide +kernel
theorem dX0_exchangeInWords_24 : decode cX0_exchangeInWords 24 = .ok (.lstore 5, 2) := by decide +kernel
theorem dX0_exchangeInWords_26 : decode cX0_exchangeInWords 26 = .ok (.iconst 0, 1) := by decide +kernel
theorem dX0_exchangeInWords_27 : decode cX0_exchangeInWords 27 = .ok (.istore 7, 2) := by decide +kernel
theorem dX0_exchangeInWords_29 : decode cX0_exchangeInWords 29 = .ok (.iload 7, 2) := by decide +kernel
theorem dX0_exchangeInWords_31 : decode cX0_exchangeInWords 31 = .ok (.iload_n 1, 1) := by decide +kernel
theorem dX0_exchangeInWords_32 : decode cX0_exchangeInWords 32 = .ok (.if_icmp .ge 43, 3) := by decide +kernel
theorem dX0_exchangeInWords_35 : decode cX0_exchangeInWords 35 = .ok (.aload_n 0, 1) := by decide +kernel
theorem dX0_exchangeInWords_36 : decode cX0_exchangeInWords 36 = .ok (.iload 7, 2) := by decide +kernel
theorem dX0_exchangeInWords_38 : decode cX0_exchangeInWords 38 = .ok (.laload, 1) := by decide +kernel
theorem dX0_exchangeInWords_39 : decode cX0_exchangeInWords 39 = .ok (.lstore 8, 2) := by decide +kernel
theorem dX0_exchangeInWords_41 : decode cX0_exchangeInWords 41 = .ok (.lload 8, 2) := by decide +kernel
theorem dX0_exchangeInWords_43 : decode cX0_exchangeInWords 43 = .ok (.iload 4, 2) := by decide +kernel
theorem dX0_exchangeInWords_45 : decode cX0_exchangeInWords 45 = .ok (.lushr, 1) := by decide +kernel
theorem dX0_exchangeInWords_46 : decode cX0_exchangeInWords 46 = .ok (.lload 8, 2) := by decide +kernel
theorem dX0_exchangeInWords_48 : decode cX0_exchangeInWords 48 = .ok (.lxor, 1) := by decide +kernel
theorem dX0_exchangeInWords_49 : decode cX0_exchangeInWords 49 = .ok (.lload 5, 2) := by decide +kernel
theorem dX0_exchangeInWords_51 : decode cX0_exchangeInWords 51 = .ok (.land, 1) := by decide +kernel
theorem dX0_exchangeInWords_52 : decode cX0_exchangeInWords 52 = .ok (.lstore 10, 2) := by decide +kernel
theorem dX0_exchangeInWords_54 : decode cX0_exchangeInWords 54 = .ok (.aload_n 0, 1) := by decide +kernel
theorem dX0_exchangeInWords_55 : decode cX0_exchangeInWords 55 = .ok (.iload 7, 2) := by decide +kernel
theorem dX0_exchangeInWords_57 : decode cX0_exchangeInWords 57 = .ok (.lload 8, 2) := by decide +kernel
theorem dX0_exchangeInWords_59 : decode cX0_exchangeInWords 59 = .ok (.lload 10, 2) := by decide +kernel
theorem dX0_exchangeInWords_61 : decode cX0_exchangeInWords 61 = .ok (.lxor, 1) := by decide +kernel
theorem dX0_exchangeInWords_62 : decode cX0_exchangeInWords 62 = .ok (.lload 10, 2) := by decide +kernel
theorem dX0_exchangeInWords_64 : decode cX0_exchangeInWords 64 = .ok (.iload 4, 2) := by decide +kernel
theorem dX0_exchangeInWords_66 : decode cX0_exchangeInWords 66 = .ok (.lshl, 1) := by decide +kernel
theorem dX0_exchangeInWords_67 : decode cX0_exchangeInWords 67 = .ok (.lxor, 1) := by decide +kernel
theorem dX0_exchangeInWords_68 : decode cX0_exchangeInWords 68 = .ok (.lastore, 1) := by decide +kernel
theorem dX0_exchangeInWords_69 : decode cX0_exchangeInWords 69 = .ok (.iinc 7 1, 3) := by decide +kernel
theorem dX0_exchangeInWords_72 : decode cX0_exchangeInWords 72 = .ok (.goto (-43), 3) := by decide +kernel
theorem dX0_exchangeInWords_75 : decode cX0_exchangeInWords 75 = .ok (.return_, 1) := by decide +kernel
theorem dX0_exchangeAcrossWords_0 : decode cX0_exchangeAcrossWords 0 = .ok (.iconst 1, 1) := by decide +kernel
theorem dX0_exchangeAcrossWords_1 : decode cX0_exchangeAcrossWords 1 = .ok (.iload_n 2, 1) := by decide +kernel
theorem dX0_exchangeAcrossWords_2 : decode cX0_exchangeAcrossWords 2 = .ok (.bipush 6, 2) := by decide +kernel
theorem dX0_exchangeAcrossWords_4 : decode cX0_exchangeAcrossWords 4 = .ok (.isub, 1) := by decide +kernel
theorem dX0_exchangeAcrossWords_5 : decode cX0_exchangeAcrossWords 5 = .ok (.ishl, 1) := by decide +kernel
theorem dX0_exchangeAcrossWords_6 : decode cX0_exchangeAcrossWords 6 = .ok (.istore 4, 2) := by decide +kernel
theorem dX0_exchangeAcrossWords_8 : decode cX0_exchangeAcrossWords 8 = .ok (.iconst 1, 1) := by decide +kernel
theorem dX0_exchangeAcrossWords_9 : decode cX0_exchangeAcrossWords 9 = .ok (.iload_n 3, 1) := by decide +kernel
theorem dX0_exchangeAcrossWords_10 : decode cX0_exchangeAcrossWords 10 = .ok (.ishl, 1) := by decide +kernel
theorem dX0_exchangeAcrossWords_11 : decode cX0_exchangeAcrossWords 11 = .ok (.istore 5, 2) := by decide +kernel
theorem dX0_exchangeAcrossWords_13 : decode cX0_exchangeAcrossWords 13 = .ok (.iconst 0, 1) := by decide +kernel
theorem dX0_exchangeAcrossWords_14 : decode cX0_exchangeAcrossWords 14 = .ok (.istore 6, 2) := by decide +kernel
theorem dX0_exchangeAcrossWords_16 : decode cX0_exchangeAcrossWords 16 = .ok (.iload 6, 2) := by decide +kernel
theorem dX0_exchangeAcrossWords_18 : decode cX0_exchangeAcrossWords 18 = .ok (.iload_n 1, 1) := by decide +kernel
theorem dX0_exchangeAcrossWords_19 : decode cX0_exchangeAcrossWords 19 = .ok (.if_icmp .ge 68, 3) := by decide +kernel
theorem dX0_exchangeAcrossWords_22 : decode cX0_exchangeAcrossWords 22 = .ok (.iload 6, 2) := by decide +kernel
theorem dX0_exchangeAcrossWords_24 : decode cX0_exchangeAcrossWords 24 = .ok (.iload 4, 2) := by decide +kernel
theorem dX0_exchangeAcrossWords_26 : decode cX0_exchangeAcrossWords 26 = .ok (.iand, 1) := by decide +kernel
theorem dX0_exchangeAcrossWords_27 : decode cX0_exchangeAcrossWords 27 = .ok (.ifCond .ne 54, 3) := by decide +kernel
theorem dX0_exchangeAcrossWords_30 : decode cX0_exchangeAcrossWords 30 = .ok (.aload_n 0, 1) := by decide +kernel
theorem dX0_exchangeAcrossWords_31 : decode cX0_exchangeAcrossWords 31 = .ok (.iload 6, 2) := by decide +kernel
theorem dX0_exchangeAcrossWords_33 : decode cX0_exchangeAcrossWords 33 = .ok (.laload, 1) := by decide +kernel
theorem dX0_exchangeAcrossWords_34 : decode cX0_exchangeAcrossWords 34 = .ok (.iload 5, 2) := by decide +kernel
theorem dX0_exchangeAcrossWords_36 : decode cX0_exchangeAcrossWords 36 = .ok (.lushr, 1) := by decide +kernel
theorem dX0_exchangeAcrossWords_37 : decode cX0_exchangeAcrossWords 37 = .ok (.aload_n 0, 1) := by decide +kernel
theorem dX0_exchangeAcrossWords_38 : decode cX0_exchangeAcrossWords 38 = .ok (.iload 6, 2) := by decide +kernel
theorem dX0_exchangeAcrossWords_40 : decode cX0_exchangeAcrossWords 40 = .ok (.iload 4, 2) := by decide +kernel
theorem dX0_exchangeAcrossWords_42 : decode cX0_exchangeAcrossWords 42 = .ok (.iadd, 1) := by decide +kernel
theorem dX0_exchangeAcrossWords_43 : decode cX0_exchangeAcrossWords 43 = .ok (.laload, 1) := by decide +kernel
theorem dX0_exchangeAcrossWords_44 : decode cX0_exchangeAcrossWords 44 = .ok (.lxor, 1) := by decide +kernel
theorem dX0_exchangeAcrossWords_45 : decode cX0_exchangeAcrossWords 45 = .ok (.getstatic 11, 3) := by decide +kernel
theorem dX0_exchangeAcrossWords_48 : decode cX0_exchangeAcrossWords 48 = .ok (.iload_n 3, 1) := by decide +kernel
theorem dX0_exchangeAcrossWords_49 : decode cX0_exchangeAcrossWords 49 = .ok (.laload, 1) := by decide +kernel
theorem dX0_exchangeAcrossWords_50 : decode cX0_exchangeAcrossWords 50 = .ok (.ldc2_w 9, 3) := by decide +kernel
theorem dX0_exchangeAcrossWords_53 : decode cX0_exchangeAcrossWords 53 = .ok (.lxor, 1) := by decide +kernel
theorem dX0_exchangeAcrossWords_54 : decode cX0_exchangeAcrossWords 54 = .ok (.land, 1) := by decide +kernel
theorem dX0_exchangeAcrossWords_55 : decode cX0_exchangeAcrossWords 55 = .ok (.lstore 7, 2) := by decide +kernel
theorem dX0_exchangeAcrossWords_57 : decode cX0_exchangeAcrossWords 57 = .ok (.aload_n 0, 1) := by decide +kernel
theorem dX0_exchangeAcrossWords_58 : decode cX0_exchangeAcrossWords 58 = .ok (.iload 6, 2) := by decide +kernel
theorem dX0_exchangeAcrossWords_60 : decode cX0_exchangeAcrossWords 60 = .ok (.iload 4, 2) := by decide +kernel
theorem dX0_exchangeAcrossWords_62 : decode cX0_exchangeAcrossWords 62 = .ok (.iadd, 1) := by decide +kernel
theorem dX0_exchangeAcrossWords_63 : decode cX0_exchangeAcrossWords 63 = .ok (.dup2, 1) := by decide +kernel
theorem dX0_exchangeAcrossWords_64 : decode cX0_exchangeAcrossWords 64 = .ok (.laload, 1) := by decide +kernel
theorem dX0_exchangeAcrossWords_65 : decode cX0_exchangeAcrossWords 65 = .ok (.lload 7, 2) := by decide +kernel
theorem dX0_exchangeAcrossWords_67 : decode cX0_exchangeAcrossWords 67 = .ok (.lxor, 1) := by decide +kernel
theorem dX0_exchangeAcrossWords_68 : decode cX0_exchangeAcrossWords 68 = .ok (.lastore, 1) := by decide +kernel
theorem dX0_exchangeAcrossWords_69 : decode cX0_exchangeAcrossWords 69 = .ok (.aload_n 0, 1) := by decide +kernel
theorem dX0_exchangeAcrossWords_70 : decode cX0_exchangeAcrossWords 70 = .ok (.iload 6, 2) := by decide +kernel
theorem dX0_exchangeAcrossWords_72 : decode cX0_exchangeAcrossWords 72 = .ok (.dup2, 1) := by decide +kernel
theorem dX0_exchangeAcrossWords_73 : decode cX0_exchangeAcrossWords 73 = .ok (.laload, 1) := by decide +kernel
theorem dX0_exchangeAcrossWords_74 : decode cX0_exchangeAcrossWords 74 = .ok (.lload 7, 2) := by decide +kernel
theorem dX0_exchangeAcrossWords_76 : decode cX0_exchangeAcrossWords 76 = .ok (.iload 5, 2) := by decide +kernel
theorem dX0_exchangeAcrossWords_78 : decode cX0_exchangeAcrossWords 78 = .ok (.lshl, 1) := by decide +kernel
theorem dX0_exchangeAcrossWords_79 : decode cX0_exchangeAcrossWords 79 = .ok (.lxor, 1) := by decide +kernel
theorem dX0_exchangeAcrossWords_80 : decode cX0_exchangeAcrossWords 80 = .ok (.lastore, 1) := by decide +kernel
theorem dX0_exchangeAcrossWords_81 : decode cX0_exchangeAcrossWords 81 = .ok (.iinc 6 1, 3) := by decide +kernel
theorem dX0_exchangeAcrossWords_84 : decode cX0_exchangeAcrossWords 84 = .ok (.goto (-68), 3) := by decide +kernel
theorem dX0_exchangeAcrossWords_87 : decode cX0_exchangeAcrossWords 87 = .ok (.return_, 1) := by decide +kernel
theorem dX0_exchangeWords_0 : decode cX0_exchangeWords 0 = .ok (.iconst 1, 1) := by decide +kernel
theorem dX0_exchangeWords_1 : decode cX0_exchangeWords 1 = .ok (.iload_n 2, 1) := by decide +kernel
theorem dX0_exchangeWords_2 : decode cX0_exchangeWords 2 = .ok (.bipush 6, 2) := by decide +kernel
theorem dX0_exchangeWords_4 : decode cX0_exchangeWords 4 = .ok (.isub, 1) := by decide +kernel
theorem dX0_exchangeWords_5 : decode cX0_exchangeWords 5 = .ok (.ishl, 1) := by decide +kernel
theorem dX0_exchangeWords_6 : decode cX0_exchangeWords 6 = .ok (.istore 4, 2) := by decide +kernel
theorem dX0_exchangeWords_8 : decode cX0_exchangeWords 8 = .ok (.iconst 1, 1) := by decide +kernel
theorem dX0_exchangeWords_9 : decode cX0_exchangeWords 9 = .ok (.iload_n 3, 1) := by decide +kernel
theorem dX0_exchangeWords_10 : decode cX0_exchangeWords 10 = .ok (.bipush 6, 2) := by decide +kernel
theorem dX0_exchangeWords_12 : decode cX0_exchangeWords 12 = .ok (.isub, 1) := by decide +kernel
theorem dX0_exchangeWords_13 : decode cX0_exchangeWords 13 = .ok (.ishl, 1) := by decide +kernel
theorem dX0_exchangeWords_14 : decode cX0_exchangeWords 14 = .ok (.istore 5, 2) := by decide +kernel
theorem dX0_exchangeWords_16 : decode cX0_exchangeWords 16 = .ok (.iconst 0, 1) := by decide +kernel
theorem dX0_exchangeWords_17 : decode cX0_exchangeWords 17 = .ok (.istore 6, 2) := by decide +kernel
theorem dX0_exchangeWords_19 : decode cX0_exchangeWords 19 = .ok (.iload 6, 2) := by decide +kernel
theorem dX0_exchangeWords_21 : decode cX0_exchangeWords 21 = .ok (.iload_n 1, 1) := by decide +kernel
theorem dX0_exchangeWords_22 : decode cX0_exchangeWords 22 = .ok (.if_icmp .ge 55, 3) := by decide +kernel
theorem dX0_exchangeWords_25 : decode cX0_exchangeWords 25 = .ok (.iload 6, 2) := by decide +kernel
theorem dX0_exchangeWords_27 : decode cX0_exchangeWords 27 = .ok (.iload 4, 2) := by decide +kernel
theorem dX0_exchangeWords_29 : decode cX0_exchangeWords 29 = .ok (.iand, 1) := by decide +kernel
theorem dX0_exchangeWords_30 : decode cX0_exchangeWords 30 = .ok (.ifCond .ne 41, 3) := by decide +kernel
theorem dX0_exchangeWords_33 : decode cX0_exchangeWords 33 = .ok (.iload 6, 2) := by decide +kernel
theorem dX0_exchangeWords_35 : decode cX0_exchangeWords 35 = .ok (.iload 5, 2) := by decide +kernel
theorem dX0_exchangeWords_37 : decode cX0_exchangeWords 37 = .ok (.iand, 1) := by decide +kernel
theorem dX0_exchangeWords_38 : decode cX0_exchangeWords 38 = .ok (.ifCond .eq 33, 3) := by decide +kernel
theorem dX0_exchangeWords_41 : decode cX0_exchangeWords 41 = .ok (.iload 6, 2) := by decide +kernel
theorem dX0_exchangeWords_43 : decode cX0_exchangeWords 43 = .ok (.iload 4, 2) := by decide +kernel
theorem dX0_exchangeWords_45 : decode cX0_exchangeWords 45 = .ok (.iadd, 1) := by decide +kernel
theorem dX0_exchangeWords_46 : decode cX0_exchangeWords 46 = .ok (.iload 5, 2) := by decide +kernel
theorem dX0_exchangeWords_48 : decode cX0_exchangeWords 48 = .ok (.isub, 1) := by decide +kernel
theorem dX0_exchangeWords_49 : decode cX0_exchangeWords 49 = .ok (.istore 7, 2) := by decide +kernel
theorem dX0_exchangeWords_51 : decode cX0_exchangeWords 51 = .ok (.aload_n 0, 1) := by decide +kernel
theorem dX0_exchangeWords_52 : decode cX0_exchangeWords 52 = .ok (.iload 6, 2) := by decide +kernel
theorem dX0_exchangeWords_54 : decode cX0_exchangeWords 54 = .ok (.laload, 1) := by decide +kernel
theorem dX0_exchangeWords_55 : decode cX0_exchangeWords 55 = .ok (.lstore 8, 2) := by decide +kernel
theorem dX0_exchangeWords_57 : decode cX0_exchangeWords 57 = .ok (.aload_n 0, 1) := by decide +kernel
theorem dX0_exchangeWords_58 : decode cX0_exchangeWords 58 = .ok (.iload 6, 2) := by decide +kernel
theorem dX0_exchangeWords_60 : decode cX0_exchangeWords 60 = .ok (.aload_n 0, 1) := by decide +kernel
theorem dX0_exchangeWords_61 : decode cX0_exchangeWords 61 = .ok (.iload 7, 2) := by decide +kernel
theorem dX0_exchangeWords_63 : decode cX0_exchangeWords 63 = .ok (.laload, 1) := by decide +kernel
theorem dX0_exchangeWords_64 : decode cX0_exchangeWords 64 = .ok (.lastore, 1) := by decide +kernel
theorem dX0_exchangeWords_65 : decode cX0_exchangeWords 65 = .ok (.aload_n 0, 1) := by decide +kernel
theorem dX0_exchangeWords_66 : decode cX0_exchangeWords 66 = .ok (.iload 7, 2) := by decide +kernel
theorem dX0_exchangeWords_68 : decode cX0_exchangeWords 68 = .ok (.lload 8, 2) := by decide +kernel
theorem dX0_exchangeWords_70 : decode cX0_exchangeWords 70 = .ok (.lastore, 1) := by decide +kernel
theorem dX0_exchangeWords_71 : decode cX0_exchangeWords 71 = .ok (.iinc 6 1, 3) := by decide +kernel
theorem dX0_exchangeWords_74 : decode cX0_exchangeWords 74 = .ok (.goto (-55), 3) := by decide +kernel
theorem dX0_exchangeWords_77 : decode cX0_exchangeWords 77 = .ok (.return_, 1) := by decide +kernel
theorem dX1_init_0 : decode cX1_init 0 = .ok (.aload_n 0, 1) := by decide +kernel
theorem dX1_init_1 : decode cX1_init 1 = .ok (.invokespecial 5, 3) := by decide +kernel
theorem dX1_init_4 : decode cX1_init 4 = .ok (.aload_n 0, 1) := by decide +kernel
theorem dX1_init_5 : decode cX1_init 5 = .ok (.bipush 12, 2) := by decide +kernel
theorem dX1_init_7 : decode cX1_init 7 = .ok (.newarray .int, 2) := by decide +kernel
theorem dX1_init_9 : decode cX1_init 9 = .ok (.putfield 11, 3) := by decide +kernel
theorem dX1_init_12 : decode cX1_init 12 = .ok (.aload_n 0, 1) := by decide +kernel
theorem dX1_init_13 : decode cX1_init 13 = .ok (.sipush 8192, 3) := by decide +kernel
theorem dX1_init_16 : decode cX1_init 16 = .ok (.newarray .int, 2) := by decide +kernel
theorem dX1_init_18 : decode cX1_init 18 = .ok (.putfield 15, 3) := by decide +kernel
theorem dX1_init_21 : decode cX1_init 21 = .ok (.aload_n 0, 1) := by decide +kernel
theorem dX1_init_22 : decode cX1_init 22 = .ok (.sipush 8192, 3) := by decide +kernel
theorem dX1_init_25 : decode cX1_init 25 = .ok (.newarray .int, 2) := by decide +kernel
theorem dX1_init_27 : decode cX1_init 27 = .ok (.putfield 18, 3) := by decide +kernel
theorem dX1_init_30 : decode cX1_init 30 = .ok (.aload_n 0, 1) := by decide +kernel
theorem dX1_init_31 : decode cX1_init 31 = .ok (.sipush 16384, 3) := by decide +kernel
theorem dX1_init_34 : decode cX1_init 34 = .ok (.newarray .int, 2) := by decide +kernel
theorem dX1_init_36 : decode cX1_init 36 = .ok (.putfield 21, 3) := by decide +kernel
theorem dX1_init_39 : decode cX1_init 39 = .ok (.return_, 1) := by decide +kernel
theorem dX1_forksOf_0 : decode cX1_forksOf 0 = .ok (.aload_n 0, 1) := by decide +kernel
theorem dX1_forksOf_1 : decode cX1_forksOf 1 = .ok (.aload_n 1, 1) := by decide +kernel
theorem dX1_forksOf_2 : decode cX1_forksOf 2 = .ok (.iload_n 2, 1) := by decide +kernel
theorem dX1_forksOf_3 : decode cX1_forksOf 3 = .ok (.iload_n 3, 1) := by decide +kernel
theorem dX1_forksOf_4 : decode cX1_forksOf 4 = .ok (.iload 4, 2) := by decide +kernel
theorem dX1_forksOf_6 : decode cX1_forksOf 6 = .ok (.iload 5, 2) := by decide +kernel
theorem dX1_forksOf_8 : decode cX1_forksOf 8 = .ok (.invokevirtual 24, 3) := by decide +kernel
theorem dX1_forksOf_11 : decode cX1_forksOf 11 = .ok (.iconst 0, 1) := by decide +kernel
theorem dX1_forksOf_12 : decode cX1_forksOf 12 = .ok (.istore 6, 2) := by decide +kernel
theorem dX1_forksOf_14 : decode cX1_forksOf 14 = .ok (.iconst 0, 1) := by decide +kernel
theorem dX1_forksOf_15 : decode cX1_forksOf 15 = .ok (.istore 7, 2) := by decide +kernel
theorem dX1_forksOf_17 : decode cX1_forksOf 17 = .ok (.iload 7, 2) := by decide +kernel
theorem dX1_forksOf_19 : decode cX1_forksOf 19 = .ok (.iload 5, 2) := by decide +kernel
theorem dX1_forksOf_21 : decode cX1_forksOf 21 = .ok (.if_icmp .ge 42, 3) := by decide +kernel
theorem dX1_forksOf_24 : decode cX1_forksOf 24 = .ok (.aload_n 0, 1) := by decide +kernel
theorem dX1_forksOf_25 : decode cX1_forksOf 25 = .ok (.getfield 11, 3) := by decide +kernel
theorem dX1_forksOf_28 : decode cX1_forksOf 28 = .ok (.iload 7, 2) := by decide +kernel
theorem dX1_forksOf_30 : decode cX1_forksOf 30 = .ok (.aload_n 0, 1) := by decide +kernel
theorem dX1_forksOf_31 : decode cX1_forksOf 31 = .ok (.aload_n 1, 1) := by decide +kernel
theorem dX1_forksOf_32 : decode cX1_forksOf 32 = .ok (.iconst 1, 1) := by decide +kernel
theorem dX1_forksOf_33 : decode cX1_forksOf 33 = .ok (.iload 5, 2) := by decide +kernel
theorem dX1_forksOf_35 : decode cX1_forksOf 35 = .ok (.iconst 1, 1) := by decide +kernel
theorem dX1_forksOf_36 : decode cX1_forksOf 36 = .ok (.isub, 1) := by decide +kernel
theorem dX1_forksOf_37 : decode cX1_forksOf 37 = .ok (.iload 7, 2) := by decide +kernel
theorem dX1_forksOf_39 : decode cX1_forksOf 39 = .ok (.isub, 1) := by decide +kernel
theorem dX1_forksOf_40 : decode cX1_forksOf 40 = .ok (.ishl, 1) := by decide +kernel
theorem dX1_forksOf_41 : decode cX1_forksOf 41 = .ok (.invokevirtual 28, 3) := by decide +kernel
theorem dX1_forksOf_44 : decode cX1_forksOf 44 = .ok (.iastore, 1) := by decide +kernel
theorem dX1_forksOf_45 : decode cX1_forksOf 45 = .ok (.iload 6, 2) := by decide +kernel
theorem dX1_forksOf_47 : decode cX1_forksOf 47 = .ok (.aload_n 0, 1) := by decide +kernel
theorem dX1_forksOf_48 : decode cX1_forksOf 48 = .ok (.getfield 11, 3) := by decide +kernel
theorem dX1_forksOf_51 : decode cX1_forksOf 51 = .ok (.iload 7, 2) := by decide +kernel
theorem dX1_forksOf_53 : decode cX1_forksOf 53 = .ok (.iaload, 1) := by decide +kernel
theorem dX1_forksOf_54 : decode cX1_forksOf 54 = .ok (.iadd, 1) := by decide +kernel
theorem dX1_forksOf_55 : decode cX1_forksOf 55 = .ok (.istore 6, 2) := by decide +kernel
theorem dX1_forksOf_57 : decode cX1_forksOf 57 = .ok (.iinc 7 1, 3) := by decide +kernel
theorem dX1_forksOf_60 : decode cX1_forksOf 60 = .ok (.goto (-43), 3) := by decide +kernel
theorem dX1_forksOf_63 : decode cX1_forksOf 63 = .ok (.iload 6, 2) := by decide +kernel
theorem dX1_forksOf_65 : decode cX1_forksOf 65 = .ok (.ireturn, 1) := by decide +kernel
theorem dX1_list_0 : decode cX1_list 0 = .ok (.aload_n 0, 1) := by decide +kernel
theorem dX1_list_1 : decode cX1_list 1 = .ok (.iload_n 3, 1) := by decide +kernel
theorem dX1_list_2 : decode cX1_list 2 = .ok (.iload_n 2, 1) := by decide +kernel
theorem dX1_list_3 : decode cX1_list 3 = .ok (.isub, 1) := by decide +kernel
theorem dX1_list_4 : decode cX1_list 4 = .ok (.iconst 1, 1) := by decide +kernel
theorem dX1_list_5 : decode cX1_list 5 = .ok (.iadd, 1) := by decide +kernel
theorem dX1_list_6 : decode cX1_list 6 = .ok (.invokevirtual 32, 3) := by decide +kernel
theorem dX1_list_9 : decode cX1_list 9 = .ok (.iload_n 2, 1) := by decide +kernel
theorem dX1_list_10 : decode cX1_list 10 = .ok (.istore 6, 2) := by decide +kernel
theorem dX1_list_12 : decode cX1_list 12 = .ok (.iload 6, 2) := by decide +kernel
theorem dX1_list_14 : decode cX1_list 14 = .ok (.iload_n 3, 1) := by decide +kernel
theorem dX1_list_15 : decode cX1_list 15 = .ok (.if_icmp .gt 33, 3) := by decide +kernel
theorem dX1_list_18 : decode cX1_list 18 = .ok (.aload_n 0, 1) := by decide +kernel
theorem dX1_list_19 : decode cX1_list 19 = .ok (.aload_n 1, 1) := by decide +kernel
theorem dX1_list_20 : decode cX1_list 20 = .ok (.iload 6, 2) := by decide +kernel
theorem dX1_list_22 : decode cX1_list 22 = .ok (.iload 4, 2) := by decide +kernel
theorem dX1_list_24 : decode cX1_list 24 = .ok (.if_icmp .ne 8, 3) := by decide +kernel
theorem dX1_list_27 : decode cX1_list 27 = .ok (.bipush 32, 2) := by decide +kernel
theorem dX1_list_29 : decode cX1_list 29 = .ok (.goto 5, 3) := by decide +kernel
theorem dX1_list_32 : decode cX1_list 32 = .ok (.iload 6, 2) := by decide +kernel
theorem dX1_list_34 : decode cX1_list 34 = .ok (.iconst 0, 1) := by decide +kernel
theorem dX1_list_35 : decode cX1_list 35 = .ok (.iconst 1, 1) := by decide +kernel
theorem dX1_list_36 : decode cX1_list 36 = .ok (.iload 5, 2) := by decide +kernel
theorem dX1_list_38 : decode cX1_list 38 = .ok (.ishl, 1) := by decide +kernel
theorem dX1_list_39 : decode cX1_list 39 = .ok (.invokevirtual 36, 3) := by decide +kernel
theorem dX1_list_42 : decode cX1_list 42 = .ok (.iinc 6 1, 3) := by decide +kernel
theorem dX1_list_45 : decode cX1_list 45 = .ok (.goto (-33), 3) := by decide +kernel
theorem dX1_list_48 : decode cX1_list 48 = .ok (.return_, 1) := by decide +kernel
theorem dX1_forksListed_0 : decode cX1_forksListed 0 = .ok (.iconst 0, 1) := by decide +kernel
theorem dX1_forksListed_1 : decode cX1_forksListed 1 = .ok (.istore_n 3, 1) := by decide +kernel
theorem dX1_forksListed_2 : decode cX1_forksListed 2 = .ok (.iconst 0, 1) := by decide +kernel
theorem dX1_forksListed_3 : decode cX1_forksListed 3 = .ok (.istore 4, 2) := by decide +kernel
theorem dX1_forksListed_5 : decode cX1_forksListed 5 = .ok (.iload 4, 2) := by decide +kernel
theorem dX1_forksListed_7 : decode cX1_forksListed 7 = .ok (.aload_n 0, 1) := by decide +kernel
theorem dX1_forksListed_8 : decode cX1_forksListed 8 = .ok (.getfield 40, 3) := by decide +kernel
theorem dX1_forksListed_11 : decode cX1_forksListed 11 = .ok (.if_icmp .ge 56, 3) := by decide +kernel
theorem dX1_forksListed_14 : decode cX1_forksListed 14 = .ok (.aload_n 1, 1) := by decide +kernel
theorem dX1_forksListed_15 : decode cX1_forksListed 15 = .ok (.aload_n 0, 1) := by decide +kernel
theorem dX1_forksListed_16 : decode cX1_forksListed 16 = .ok (.getfield 18, 3) := by decide +kernel
theorem dX1_forksListed_19 : decode cX1_forksListed 19 = .ok (.iload 4, 2) := by decide +kernel
theorem dX1_forksListed_21 : decode cX1_forksListed 21 = .ok (.iaload, 1) := by decide +kernel
theorem dX1_forksListed_22 : decode cX1_forksListed 22 = .ok (.bipush 12, 2) := by decide +kernel
theorem dX1_forksListed_24 : decode cX1_forksListed 24 = .ok (.ishr, 1) := by decide +kernel
theorem dX1_forksListed_25 : decode cX1_forksListed 25 = .ok (.aaload, 1) := by decide +kernel
theorem dX1_forksListed_26 : decode cX1_forksListed 26 = .ok (.astore 5, 2) := by decide +kernel
theorem dX1_forksListed_28 : decode cX1_forksListed 28 = .ok (.aload_n 0, 1) := by decide +kernel
theorem dX1_forksListed_29 : decode cX1_forksListed 29 = .ok (.getfield 18, 3) := by decide +kernel
theorem dX1_forksListed_32 : decode cX1_forksListed 32 = .ok (.iload 4, 2) := by decide +kernel
theorem dX1_forksListed_34 : decode cX1_forksListed 34 = .ok (.iaload, 1) := by decide +kernel
theorem dX1_forksListed_35 : decode cX1_forksListed 35 = .ok (.sipush 4095, 3) := by decide +kernel
theorem dX1_forksListed_38 : decode cX1_forksListed 38 = .ok (.iand, 1) := by decide +kernel
theorem dX1_forksListed_39 : decode cX1_forksListed 39 = .ok (.istore 6, 2) := by decide +kernel
theorem dX1_forksListed_41 : decode cX1_forksListed 41 = .ok (.aload 5, 2) := by decide +kernel
theorem dX1_forksListed_43 : decode cX1_forksListed 43 = .ok (.iload 6, 2) := by decide +kernel
theorem dX1_forksListed_45 : decode cX1_forksListed 45 = .ok (.aload 5, 2) := by decide +kernel
theorem dX1_forksListed_47 : decode cX1_forksListed 47 = .ok (.iload 6, 2) := by decide +kernel
theorem dX1_forksListed_49 : decode cX1_forksListed 49 = .ok (.iload_n 2, 1) := by decide +kernel
theorem dX1_forksListed_50 : decode cX1_forksListed 50 = .ok (.iadd, 1) := by decide +kernel
theorem dX1_forksListed_51 : decode cX1_forksListed 51 = .ok (.iload_n 2, 1) := by decide +kernel
theorem dX1_forksListed_52 : decode cX1_forksListed 52 = .ok (.invokestatic 44, 3) := by decide +kernel
theorem dX1_forksListed_55 : decode cX1_forksListed 55 = .ok (.ifCond .ne 6, 3) := by decide +kernel
theorem dX1_forksListed_58 : decode cX1_forksListed 58 = .ok (.iinc 3 1, 3) := by decide +kernel
theorem dX1_forksListed_61 : decode cX1_forksListed 61 = .ok (.iinc 4 1, 3) := by decide +kernel
theorem dX1_forksListed_64 : decode cX1_forksListed 64 = .ok (.goto (-59), 3) := by decide +kernel
theorem dX1_forksListed_67 : decode cX1_forksListed 67 = .ok (.iload_n 3, 1) := by decide +kernel
theorem dX1_forksListed_68 : decode cX1_forksListed 68 = .ok (.ireturn, 1) := by decide +kernel
theorem dX1_cut_0 : decode cX1_cut 0 = .ok (.aload_n 0, 1) := by decide +kernel
theorem dX1_cut_1 : decode cX1_cut 1 = .ok (.getfield 18, 3) := by decide +kernel
theorem dX1_cut_4 : decode cX1_cut 4 = .ok (.astore_n 3, 1) := by decide +kernel
theorem dX1_cut_5 : decode cX1_cut 5 = .ok (.aload_n 0, 1) := by decide +kernel
theorem dX1_cut_6 : decode cX1_cut 6 = .ok (.aload_n 0, 1) := by decide +kernel
theorem dX1_cut_7 : decode cX1_cut 7 = .ok (.getfield 15, 3) := by decide +kernel
theorem dX1_cut_10 : decode cX1_cut 10 = .ok (.putfield 18, 3) := by decide +kernel
theorem dX1_cut_13 : decode cX1_cut 13 = .ok (.aload_n 0, 1) := by decide +kernel
theorem dX1_cut_14 : decode cX1_cut 14 = .ok (.aload_n 3, 1) := by decide +kernel
theorem dX1_cut_15 : decode cX1_cut 15 = .ok (.putfield 15, 3) := by decide +kernel
theorem dX1_cut_18 : decode cX1_cut 18 = .ok (.aload_n 0, 1) := by decide +kernel
theorem dX1_cut_19 : decode cX1_cut 19 = .ok (.getfield 40, 3) := by decide +kernel
theorem dX1_cut_22 : decode cX1_cut 22 = .ok (.istore 4, 2) := by decide +kernel
theorem dX1_cut_24 : decode cX1_cut 24 = .ok (.aload_n 0, 1) := by decide +kernel
theorem dX1_cut_25 : decode cX1_cut 25 = .ok (.iconst 2, 1) := by decide +kernel
theorem dX1_cut_26 : decode cX1_cut 26 = .ok (.iload 4, 2) := by decide +kernel
theorem dX1_cut_28 : decode cX1_cut 28 = .ok (.imul, 1) := by decide +kernel
theorem dX1_cut_29 : decode cX1_cut 29 = .ok (.invokevirtual 32, 3) := by decide +kernel
theorem dX1_cut_32 : decode cX1_cut 32 = .ok (.iconst 0, 1) := by decide +kernel
theorem dX1_cut_33 : decode cX1_cut 33 = .ok (.istore 5, 2) := by decide +kernel
theorem dX1_cut_35 : decode cX1_cut 35 = .ok (.iconst 0, 1) := by decide +kernel
theorem dX1_cut_36 : decode cX1_cut 36 = .ok (.istore 6, 2) := by decide +kernel
theorem dX1_cut_38 : decode cX1_cut 38 = .ok (.iload 6, 2) := by decide +kernel
theorem dX1_cut_40 : decode cX1_cut 40 = .ok (.iload 4, 2) := by decide +kernel
theorem dX1_cut_42 : decode cX1_cut 42 = .ok (.if_icmp .ge 80, 3) := by decide +kernel
theorem dX1_cut_45 : decode cX1_cut 45 = .ok (.aload_n 0, 1) := by decide +kernel
theorem dX1_cut_46 : decode cX1_cut 46 = .ok (.getfield 15, 3) := by decide +kernel
theorem dX1_cut_49 : decode cX1_cut 49 = .ok (.iload 6, 2) := by decide +kernel
theorem dX1_cut_51 : decode cX1_cut 51 = .ok (.iaload, 1) := by decide +kernel
theorem dX1_cut_52 : decode cX1_cut 52 = .ok (.bipush 12, 2) := by decide +kernel
theorem dX1_cut_54 : decode cX1_cut 54 = .ok (.ishr, 1) := by decide +kernel
theorem dX1_cut_55 : decode cX1_cut 55 = .ok (.istore 7, 2) := by decide +kernel
theorem dX1_cut_57 : decode cX1_cut 57 = .ok (.aload_n 0, 1) := by decide +kernel
theorem dX1_cut_58 : decode cX1_cut 58 = .ok (.getfield 15, 3) := by decide +kernel
theorem dX1_cut_61 : decode cX1_cut 61 = .ok (.iload 6, 2) := by decide +kernel
theorem dX1_cut_63 : decode cX1_cut 63 = .ok (.iaload, 1) := by decide +kernel
theorem dX1_cut_64 : decode cX1_cut 64 = .ok (.sipush 4095, 3) := by decide +kernel
theorem dX1_cut_67 : decode cX1_cut 67 = .ok (.iand, 1) := by decide +kernel
theorem dX1_cut_68 : decode cX1_cut 68 = .ok (.istore 8, 2) := by decide +kernel
theorem dX1_cut_70 : decode cX1_cut 70 = .ok (.aload_n 0, 1) := by decide +kernel
theorem dX1_cut_71 : decode cX1_cut 71 = .ok (.aload_n 1, 1) := by decide +kernel
theorem dX1_cut_72 : decode cX1_cut 72 = .ok (.iload 7, 2) := by decide +kernel
theorem dX1_cut_74 : decode cX1_cut 74 = .ok (.iload 8, 2) := by decide +kernel
theorem dX1_cut_76 : decode cX1_cut 76 = .ok (.iload_n 2, 1) := by decide +kernel
theorem dX1_cut_77 : decode cX1_cut 77 = .ok (.invokevirtual 36, 3) := by decide +kernel
theorem dX1_cut_80 : decode cX1_cut 80 = .ok (.aload_n 1, 1) := by decide +kernel
theorem dX1_cut_81 : decode cX1_cut 81 = .ok (.iload 7, 2) := by decide +kernel
theorem dX1_cut_83 : decode cX1_cut 83 = .ok (.aaload, 1) := by decide +kernel
theorem dX1_cut_84 : decode cX1_cut 84 = .ok (.iload 8, 2) := by decide +kernel
theorem dX1_cut_86 : decode cX1_cut 86 = .ok (.aload_n 1, 1) := by decide +kernel
theorem dX1_cut_87 : decode cX1_cut 87 = .ok (.iload 7, 2) := by decide +kernel
theorem dX1_cut_89 : decode cX1_cut 89 = .ok (.aaload, 1) := by decide +kernel
theorem dX1_cut_90 : decode cX1_cut 90 = .ok (.iload 8, 2) := by decide +kernel
theorem dX1_cut_92 : decode cX1_cut 92 = .ok (.iload_n 2, 1) := by decide +kernel
theorem dX1_cut_93 : decode cX1_cut 93 = .ok (.iadd, 1) := by decide +kernel
theorem dX1_cut_94 : decode cX1_cut 94 = .ok (.iload_n 2, 1) := by decide +kernel
theorem dX1_cut_95 : decode cX1_cut 95 = .ok (.invokestatic 44, 3) := by decide +kernel
theorem dX1_cut_98 : decode cX1_cut 98 = .ok (.ifCond .ne 18, 3) := by decide +kernel
theorem dX1_cut_101 : decode cX1_cut 101 = .ok (.aload_n 0, 1) := by decide +kernel
theorem dX1_cut_102 : decode cX1_cut 102 = .ok (.aload_n 1, 1) := by decide +kernel
theorem dX1_cut_103 : decode cX1_cut 103 = .ok (.iload 7, 2) := by decide +kernel
theorem dX1_cut_105 : decode cX1_cut 105 = .ok (.iload 8, 2) := by decide +kernel
theorem dX1_cut_107 : decode cX1_cut 107 = .ok (.iload_n 2, 1) := by decide +kernel
theorem dX1_cut_108 : decode cX1_cut 108 = .ok (.iadd, 1) := by decide +kernel
theorem dX1_cut_109 : decode cX1_cut 109 = .ok (.iload_n 2, 1) := by decide +kernel
theorem dX1_cut_110 : decode cX1_cut 110 = .ok (.invokevirtual 36, 3) := by decide +kernel
theorem dX1_cut_113 : decode cX1_cut 113 = .ok (.iinc 5 1, 3) := by decide +kernel
theorem dX1_cut_116 : decode cX1_cut 116 = .ok (.iinc 6 1, 3) := by decide +kernel
theorem dX1_cut_119 : decode cX1_cut 119 = .ok (.goto (-81), 3) := by decide +kernel
theorem dX1_cut_122 : decode cX1_cut 122 = .ok (.iload 5, 2) := by decide +kernel
theorem dX1_cut_124 : decode cX1_cut 124 = .ok (.ireturn, 1) := by decide +kernel
theorem dX1_clear_0 : decode cX1_clear 0 = .ok (.aload_n 0, 1) := by decide +kernel
theorem dX1_clear_1 : decode cX1_clear 1 = .ok (.iconst 2, 1) := by decide +kernel
theorem dX1_clear_2 : decode cX1_clear 2 = .ok (.putfield 50, 3) := by decide +kernel
theorem dX1_clear_5 : decode cX1_clear 5 = .ok (.aload_n 0, 1) := by decide +kernel
theorem dX1_clear_6 : decode cX1_clear 6 = .ok (.getfield 50, 3) := by decide +kernel
theorem dX1_clear_9 : decode cX1_clear 9 = .ok (.iconst 2, 1) := by decide +kernel
theorem dX1_clear_10 : decode cX1_clear 10 = .ok (.iload_n 1, 1) := by decide +kernel
theorem dX1_clear_11 : decode cX1_clear 11 = .ok (.imul, 1) := by decide +kernel
theorem dX1_clear_12 : decode cX1_clear 12 = .ok (.if_icmp .ge 26, 3) := by decide +kernel
theorem dX1_clear_15 : decode cX1_clear 15 = .ok (.aload_n 0, 1) := by decide +kernel
theorem dX1_clear_16 : decode cX1_clear 16 = .ok (.getfield 50, 3) := by decide +kernel
theorem dX1_clear_19 : decode cX1_clear 19 = .ok (.sipush 16384, 3) := by decide +kernel
theorem dX1_clear_22 : decode cX1_clear 22 = .ok (.if_icmp .ge 16, 3) := by decide +kernel
theorem dX1_clear_25 : decode cX1_clear 25 = .ok (.aload_n 0, 1) := by decide +kernel
theorem dX1_clear_26 : decode cX1_clear 26 = .ok (.dup, 1) := by decide +kernel
theorem dX1_clear_27 : decode cX1_clear 27 = .ok (.getfield 50, 3) := by decide +kernel
theorem dX1_clear_30 : decode cX1_clear 30 = .ok (.iconst 2, 1) := by decide +kernel
theorem dX1_clear_31 : decode cX1_clear 31 = .ok (.imul, 1) := by decide +kernel
theorem dX1_clear_32 : decode cX1_clear 32 = .ok (.putfield 50, 3) := by decide +kernel
theorem dX1_clear_35 : decode cX1_clear 35 = .ok (.goto (-30), 3) := by decide +kernel
theorem dX1_clear_38 : decode cX1_clear 38 = .ok (.aload_n 0, 1) := by decide +kernel
theorem dX1_clear_39 : decode cX1_clear 39 = .ok (.getfield 21, 3) := by decide +kernel
theorem dX1_clear_42 : decode cX1_clear 42 = .ok (.iconst 0, 1) := by decide +kernel
theorem dX1_clear_43 : decode cX1_clear 43 = .ok (.aload_n 0, 1) := by decide +kernel
theorem dX1_clear_44 : decode cX1_clear 44 = .ok (.getfield 50, 3) := by decide +kernel
theorem dX1_clear_47 : decode cX1_clear 47 = .ok (.iconst 0, 1) := by decide +kernel
theorem dX1_clear_48 : decode cX1_clear 48 = .ok (.invokestatic 53, 3) := by decide +kernel
theorem dX1_clear_51 : decode cX1_clear 51 = .ok (.aload_n 0, 1) := by decide +kernel
theorem dX1_clear_52 : decode cX1_clear 52 = .ok (.iconst 0, 1) := by decide +kernel
theorem dX1_clear_53 : decode cX1_clear 53 = .ok (.putfield 40, 3) := by decide +kernel
theorem dX1_clear_56 : decode cX1_clear 56 = .ok (.return_, 1) := by decide +kernel
theorem dX1_find_0 : decode cX1_find 0 = .ok (.aload_n 1, 1) := by decide +kernel
theorem dX1_find_1 : decode cX1_find 1 = .ok (.iload_n 2, 1) := by decide +kernel
theorem dX1_find_2 : decode cX1_find 2 = .ok (.aaload, 1) := by decide +kernel
theorem dX1_find_3 : decode cX1_find 3 = .ok (.astore 5, 2) := by decide +kernel
theorem dX1_find_5 : decode cX1_find 5 = .ok (.aload 5, 2) := by decide +kernel
theorem dX1_find_7 : decode cX1_find 7 = .ok (.iload_n 3, 1) := by decide +kernel
theorem dX1_find_8 : decode cX1_find 8 = .ok (.iload 4, 2) := by decide +kernel
theorem dX1_find_10 : decode cX1_find 10 = .ok (.invokestatic 59, 3) := by decide +kernel
theorem dX1_find_13 : decode cX1_find 13 = .ok (.aload_n 0, 1) := by decide +kernel
theorem dX1_find_14 : decode cX1_find 14 = .ok (.getfield 50, 3) := by decide +kernel
theorem dX1_find_17 : decode cX1_find 17 = .ok (.iconst 1, 1) := by decide +kernel
theorem dX1_find_18 : decode cX1_find 18 = .ok (.isub, 1) := by decide +kernel
theorem dX1_find_19 : decode cX1_find 19 = .ok (.iand, 1) := by decide +kernel
theorem dX1_find_20 : decode cX1_find 20 = .ok (.istore 6, 2) := by decide +kernel
theorem dX1_find_22 : decode cX1_find 22 = .ok (.iconst 0, 1) := by decide +kernel
theorem dX1_find_23 : decode cX1_find 23 = .ok (.istore 7, 2) := by decide +kernel
theorem dX1_find_25 : decode cX1_find 25 = .ok (.iload 7, 2) := by decide +kernel
theorem dX1_find_27 : decode cX1_find 27 = .ok (.aload_n 0, 1) := by decide +kernel
theorem dX1_find_28 : decode cX1_find 28 = .ok (.getfield 50, 3) := by decide +kernel
theorem dX1_find_31 : decode cX1_find 31 = .ok (.if_icmp .ge 90, 3) := by decide +kernel
theorem dX1_find_34 : decode cX1_find 34 = .ok (.aload_n 0, 1) := by decide +kernel
theorem dX1_find_35 : decode cX1_find 35 = .ok (.getfield 21, 3) := by decide +kernel
theorem dX1_find_38 : decode cX1_find 38 = .ok (.iload 6, 2) := by decide +kernel
theorem dX1_find_40 : decode cX1_find 40 = .ok (.iaload, 1) := by decide +kernel
theorem dX1_find_41 : decode cX1_find 41 = .ok (.iconst 1, 1) := by decide +kernel
theorem dX1_find_42 : decode cX1_find 42 = .ok (.isub, 1) := by decide +kernel
theorem dX1_find_43 : decode cX1_find 43 = .ok (.istore 8, 2) := by decide +kernel
theorem dX1_find_45 : decode cX1_find 45 = .ok (.iload 8, 2) := by decide +kernel
theorem dX1_find_47 : decode cX1_find 47 = .ok (.ifCond .ge 16, 3) := by decide +kernel
theorem dX1_find_50 : decode cX1_find 50 = .ok (.aload_n 0, 1) := by decide +kernel
theorem dX1_find_51 : decode cX1_find 51 = .ok (.iload 6, 2) := by decide +kernel
theorem dX1_find_53 : decode cX1_find 53 = .ok (.iload_n 2, 1) := by decide +kernel
theorem dX1_find_54 : decode cX1_find 54 = .ok (.bipush 12, 2) := by decide +kernel
theorem dX1_find_56 : decode cX1_find 56 = .ok (.ishl, 1) := by decide +kernel
theorem dX1_find_57 : decode cX1_find 57 = .ok (.iload_n 3, 1) := by decide +kernel
theorem dX1_find_58 : decode cX1_find 58 = .ok (.ior, 1) := by decide +kernel
theorem dX1_find_59 : decode cX1_find 59 = .ok (.invokevirtual 63, 3) := by decide +kernel
theorem dX1_find_62 : decode cX1_find 62 = .ok (.return_, 1) := by decide +kernel
theorem dX1_find_63 : decode cX1_find 63 = .ok (.aload_n 1, 1) := by decide +kernel
theorem dX1_find_64 : decode cX1_find 64 = .ok (.aload_n 0, 1) := by decide +kernel
theorem dX1_find_65 : decode cX1_find 65 = .ok (.getfield 18, 3) := by decide +kernel
theorem dX1_find_68 : decode cX1_find 68 = .ok (.iload 8, 2) := by decide +kernel
theorem dX1_find_70 : decode cX1_find 70 = .ok (.iaload, 1) := by decide +kernel
theorem dX1_find_71 : decode cX1_find 71 = .ok (.bipush 12, 2) := by decide +kernel
theorem dX1_find_73 : decode cX1_find 73 = .ok (.ishr, 1) := by decide +kernel
theorem dX1_find_74 : decode cX1_find 74 = .ok (.aaload, 1) := by decide +kernel
theorem dX1_find_75 : decode cX1_find 75 = .ok (.astore 9, 2) := by decide +kernel
theorem dX1_find_77 : decode cX1_find 77 = .ok (.aload 5, 2) := by decide +kernel
theorem dX1_find_79 : decode cX1_find 79 = .ok (.iload_n 3, 1) := by decide +kernel
theorem dX1_find_80 : decode cX1_find 80 = .ok (.aload 9, 2) := by decide +kernel
theorem dX1_find_82 : decode cX1_find 82 = .ok (.aload_n 0, 1) := by decide +kernel
theorem dX1_find_83 : decode cX1_find 83 = .ok (.getfield 18, 3) := by decide +kernel
theorem dX1_find_86 : decode cX1_find 86 = .ok (.iload 8, 2) := by decide +kernel
theorem dX1_find_88 : decode cX1_find 88 = .ok (.iaload, 1) := by decide +kernel
theorem dX1_find_89 : decode cX1_find 89 = .ok (.sipush 4095, 3) := by decide +kernel
theorem dX1_find_92 : decode cX1_find 92 = .ok (.iand, 1) := by decide +kernel
theorem dX1_find_93 : decode cX1_find 93 = .ok (.iload 4, 2) := by decide +kernel
theorem dX1_find_95 : decode cX1_find 95 = .ok (.invokestatic 44, 3) := by decide +kernel
theorem dX1_find_98 : decode cX1_find 98 = .ok (.ifCond .eq 4, 3) := by decide +kernel
theorem dX1_find_101 : decode cX1_find 101 = .ok (.return_, 1) := by decide +kernel
theorem dX1_find_102 : decode cX1_find 102 = .ok (.iload 6, 2) := by decide +kernel
theorem dX1_find_104 : decode cX1_find 104 = .ok (.iconst 1, 1) := by decide +kernel
theorem dX1_find_105 : decode cX1_find 105 = .ok (.iadd, 1) := by decide +kernel
theorem dX1_find_106 : decode cX1_find 106 = .ok (.aload_n 0, 1) := by decide +kernel
theorem dX1_find_107 : decode cX1_find 107 = .ok (.getfield 50, 3) := by decide +kernel
theorem dX1_find_110 : decode cX1_find 110 = .ok (.iconst 1, 1) := by decide +kernel
theorem dX1_find_111 : decode cX1_find 111 = .ok (.isub, 1) := by decide +kernel
theorem dX1_find_112 : decode cX1_find 112 = .ok (.iand, 1) := by decide +kernel
theorem dX1_find_113 : decode cX1_find 113 = .ok (.istore 6, 2) := by decide +kernel
theorem dX1_find_115 : decode cX1_find 115 = .ok (.iinc 7 1, 3) := by decide +kernel
theorem dX1_find_118 : decode cX1_find 118 = .ok (.goto (-93), 3) := by decide +kernel
theorem dX1_find_121 : decode cX1_find 121 = .ok (.return_, 1) := by decide +kernel
theorem dX1_note_0 : decode cX1_note 0 = .ok (.aload_n 0, 1) := by decide +kernel
theorem dX1_note_1 : decode cX1_note 1 = .ok (.getfield 40, 3) := by decide +kernel
theorem dX1_note_4 : decode cX1_note 4 = .ok (.sipush 8192, 3) := by decide +kernel
theorem dX1_note_7 : decode cX1_note 7 = .ok (.if_icmp .ge 33, 3) := by decide +kernel
theorem dX1_note_10 : decode cX1_note 10 = .ok (.aload_n 0, 1) := by decide +kernel
theorem dX1_note_11 : decode cX1_note 11 = .ok (.getfield 18, 3) := by decide +kernel
theorem dX1_note_14 : decode cX1_note 14 = .ok (.aload_n 0, 1) := by decide +kernel
theorem dX1_note_15 : decode cX1_note 15 = .ok (.getfield 40, 3) := by decide +kernel
theorem dX1_note_18 : decode cX1_note 18 = .ok (.iload_n 2, 1) := by decide +kernel
theorem dX1_note_19 : decode cX1_note 19 = .ok (.iastore, 1) := by decide +kernel
theorem dX1_note_20 : decode cX1_note 20 = .ok (.aload_n 0, 1) := by decide +kernel
theorem dX1_note_21 : decode cX1_note 21 = .ok (.dup, 1) := by decide +kernel
theorem dX1_note_22 : decode cX1_note 22 = .ok (.getfield 40, 3) := by decide +kernel
theorem dX1_note_25 : decode cX1_note 25 = .ok (.iconst 1, 1) := by decide +kernel
theorem dX1_note_26 : decode cX1_note 26 = .ok (.iadd, 1) := by decide +kernel
theorem dX1_note_27 : decode cX1_note 27 = .ok (.putfield 40, 3) := by decide +kernel
theorem dX1_note_30 : decode cX1_note 30 = .ok (.aload_n 0, 1) := by decide +kernel
theorem dX1_note_31 : decode cX1_note 31 = .ok (.getfield 21, 3) := by decide +kernel
theorem dX1_note_34 : decode cX1_note 34 = .ok (.iload_n 1, 1) := by decide +kernel
theorem dX1_note_35 : decode cX1_note 35 = .ok (.aload_n 0, 1) := by decide +kernel
theorem dX1_note_36 : decode cX1_note 36 = .ok (.getfield 40, 3) := by decide +kernel
theorem dX1_note_39 : decode cX1_note 39 = .ok (.iastore, 1) := by decide +kernel
theorem dX1_note_40 : decode cX1_note 40 = .ok (.return_, 1) := by decide +kernel
theorem dJ13_bitCount_95d88_0 : decode cJ13_bitCount_95d88 0 = .ok (.lload_n 0, 1) := by decide +kernel
theorem dJ13_bitCount_95d88_1 : decode cJ13_bitCount_95d88 1 = .ok (.lload_n 0, 1) := by decide +kernel
theorem dJ13_bitCount_95d88_2 : decode cJ13_bitCount_95d88 2 = .ok (.iconst 1, 1) := by decide +kernel
theorem dJ13_bitCount_95d88_3 : decode cJ13_bitCount_95d88 3 = .ok (.lushr, 1) := by decide +kernel
theorem dJ13_bitCount_95d88_4 : decode cJ13_bitCount_95d88 4 = .ok (.ldc2_w 314, 3) := by decide +kernel
theorem dJ13_bitCount_95d88_7 : decode cJ13_bitCount_95d88 7 = .ok (.land, 1) := by decide +kernel
theorem dJ13_bitCount_95d88_8 : decode cJ13_bitCount_95d88 8 = .ok (.lsub, 1) := by decide +kernel
theorem dJ13_bitCount_95d88_9 : decode cJ13_bitCount_95d88 9 = .ok (.lstore_n 0, 1) := by decide +kernel
theorem dJ13_bitCount_95d88_10 : decode cJ13_bitCount_95d88 10 = .ok (.lload_n 0, 1) := by decide +kernel
theorem dJ13_bitCount_95d88_11 : decode cJ13_bitCount_95d88 11 = .ok (.ldc2_w 316, 3) := by decide +kernel
theorem dJ13_bitCount_95d88_14 : decode cJ13_bitCount_95d88 14 = .ok (.land, 1) := by decide +kernel
theorem dJ13_bitCount_95d88_15 : decode cJ13_bitCount_95d88 15 = .ok (.lload_n 0, 1) := by decide +kernel
theorem dJ13_bitCount_95d88_16 : decode cJ13_bitCount_95d88 16 = .ok (.iconst 2, 1) := by decide +kernel
theorem dJ13_bitCount_95d88_17 : decode cJ13_bitCount_95d88 17 = .ok (.lushr, 1) := by decide +kernel
theorem dJ13_bitCount_95d88_18 : decode cJ13_bitCount_95d88 18 = .ok (.ldc2_w 316, 3) := by decide +kernel
theorem dJ13_bitCount_95d88_21 : decode cJ13_bitCount_95d88 21 = .ok (.land, 1) := by decide +kernel
theorem dJ13_bitCount_95d88_22 : decode cJ13_bitCount_95d88 22 = .ok (.ladd, 1) := by decide +kernel
theorem dJ13_bitCount_95d88_23 : decode cJ13_bitCount_95d88 23 = .ok (.lstore_n 0, 1) := by decide +kernel
theorem dJ13_bitCount_95d88_24 : decode cJ13_bitCount_95d88 24 = .ok (.lload_n 0, 1) := by decide +kernel
theorem dJ13_bitCount_95d88_25 : decode cJ13_bitCount_95d88 25 = .ok (.lload_n 0, 1) := by decide +kernel
theorem dJ13_bitCount_95d88_26 : decode cJ13_bitCount_95d88 26 = .ok (.iconst 4, 1) := by decide +kernel
theorem dJ13_bitCount_95d88_27 : decode cJ13_bitCount_95d88 27 = .ok (.lushr, 1) := by decide +kernel
theorem dJ13_bitCount_95d88_28 : decode cJ13_bitCount_95d88 28 = .ok (.ladd, 1) := by decide +kernel
theorem dJ13_bitCount_95d88_29 : decode cJ13_bitCount_95d88 29 = .ok (.ldc2_w 318, 3) := by decide +kernel
theorem dJ13_bitCount_95d88_32 : decode cJ13_bitCount_95d88 32 = .ok (.land, 1) := by decide +kernel
theorem dJ13_bitCount_95d88_33 : decode cJ13_bitCount_95d88 33 = .ok (.lstore_n 0, 1) := by decide +kernel
theorem dJ13_bitCount_95d88_34 : decode cJ13_bitCount_95d88 34 = .ok (.lload_n 0, 1) := by decide +kernel
theorem dJ13_bitCount_95d88_35 : decode cJ13_bitCount_95d88 35 = .ok (.lload_n 0, 1) := by decide +kernel
theorem dJ13_bitCount_95d88_36 : decode cJ13_bitCount_95d88 36 = .ok (.bipush 8, 2) := by decide +kernel
theorem dJ13_bitCount_95d88_38 : decode cJ13_bitCount_95d88 38 = .ok (.lushr, 1) := by decide +kernel
theorem dJ13_bitCount_95d88_39 : decode cJ13_bitCount_95d88 39 = .ok (.ladd, 1) := by decide +kernel
theorem dJ13_bitCount_95d88_40 : decode cJ13_bitCount_95d88 40 = .ok (.lstore_n 0, 1) := by decide +kernel
theorem dJ13_bitCount_95d88_41 : decode cJ13_bitCount_95d88 41 = .ok (.lload_n 0, 1) := by decide +kernel
theorem dJ13_bitCount_95d88_42 : decode cJ13_bitCount_95d88 42 = .ok (.lload_n 0, 1) := by decide +kernel
theorem dJ13_bitCount_95d88_43 : decode cJ13_bitCount_95d88 43 = .ok (.bipush 16, 2) := by decide +kernel
theorem dJ13_bitCount_95d88_45 : decode cJ13_bitCount_95d88 45 = .ok (.lushr, 1) := by decide +kernel
theorem dJ13_bitCount_95d88_46 : decode cJ13_bitCount_95d88 46 = .ok (.ladd, 1) := by decide +kernel
theorem dJ13_bitCount_95d88_47 : decode cJ13_bitCount_95d88 47 = .ok (.lstore_n 0, 1) := by decide +kernel
theorem dJ13_bitCount_95d88_48 : decode cJ13_bitCount_95d88 48 = .ok (.lload_n 0, 1) := by decide +kernel
theorem dJ13_bitCount_95d88_49 : decode cJ13_bitCount_95d88 49 = .ok (.lload_n 0, 1) := by decide +kernel
theorem dJ13_bitCount_95d88_50 : decode cJ13_bitCount_95d88 50 = .ok (.bipush 32, 2) := by decide +kernel
theorem dJ13_bitCount_95d88_52 : decode cJ13_bitCount_95d88 52 = .ok (.lushr, 1) := by decide +kernel
theorem dJ13_bitCount_95d88_53 : decode cJ13_bitCount_95d88 53 = .ok (.ladd, 1) := by decide +kernel
theorem dJ13_bitCount_95d88_54 : decode cJ13_bitCount_95d88 54 = .ok (.lstore_n 0, 1) := by decide +kernel
theorem dJ13_bitCount_95d88_55 : decode cJ13_bitCount_95d88 55 = .ok (.lload_n 0, 1) := by decide +kernel
theorem dJ13_bitCount_95d88_56 : decode cJ13_bitCount_95d88 56 = .ok (.l2i, 1) := by decide +kernel
theorem dJ13_bitCount_95d88_57 : decode cJ13_bitCount_95d88 57 = .ok (.bipush 127, 2) := by decide +kernel
theorem dJ13_bitCount_95d88_59 : decode cJ13_bitCount_95d88 59 = .ok (.iand, 1) := by decide +kernel
theorem dJ13_bitCount_95d88_60 : decode cJ13_bitCount_95d88 60 = .ok (.ireturn, 1) := by decide +kernel
theorem dJ9_max_7cf53_0 : decode cJ9_max_7cf53 0 = .ok (.iload_n 0, 1) := by decide +kernel
theorem dJ9_max_7cf53_1 : decode cJ9_max_7cf53 1 = .ok (.iload_n 1, 1) := by decide +kernel
theorem dJ9_max_7cf53_2 : decode cJ9_max_7cf53 2 = .ok (.if_icmp .lt 7, 3) := by decide +kernel
theorem dJ9_max_7cf53_5 : decode cJ9_max_7cf53 5 = .ok (.iload_n 0, 1) := by decide +kernel
theorem dJ9_max_7cf53_6 : decode cJ9_max_7cf53 6 = .ok (.goto 4, 3) := by decide +kernel
theorem dJ9_max_7cf53_9 : decode cJ9_max_7cf53 9 = .ok (.iload_n 1, 1) := by decide +kernel
theorem dJ9_max_7cf53_10 : decode cJ9_max_7cf53 10 = .ok (.ireturn, 1) := by decide +kernel
theorem dJ9_min_7cf53_0 : decode cJ9_min_7cf53 0 = .ok (.iload_n 0, 1) := by decide +kernel
theorem dJ9_min_7cf53_1 : decode cJ9_min_7cf53 1 = .ok (.iload_n 1, 1) := by decide +kernel
theorem dJ9_min_7cf53_2 : decode cJ9_min_7cf53 2 = .ok (.if_icmp .gt 7, 3) := by decide +kernel
theorem dJ9_min_7cf53_5 : decode cJ9_min_7cf53 5 = .ok (.iload_n 0, 1) := by decide +kernel
theorem dJ9_min_7cf53_6 : decode cJ9_min_7cf53 6 = .ok (.goto 4, 3) := by decide +kernel
theorem dJ9_min_7cf53_9 : decode cJ9_min_7cf53 9 = .ok (.iload_n 1, 1) := by decide +kernel
theorem dJ9_min_7cf53_10 : decode cJ9_min_7cf53 10 = .ok (.ireturn, 1) := by decide +kernel
theorem dJ7_rangeCheck_23922_0 : decode cJ7_rangeCheck_23922 0 = .ok (.iload_n 1, 1) := by decide +kernel
theorem dJ7_rangeCheck_23922_1 : decode cJ7_rangeCheck_23922 1 = .ok (.iload_n 2, 1) := by decide +kernel
theorem dJ7_rangeCheck_23922_2 : decode cJ7_rangeCheck_23922 2 = .ok (.if_icmp .le 44, 3) := by decide +kernel
theorem dJ7_rangeCheck_23922_5 : decode cJ7_rangeCheck_23922 5 = .ok (.new 43, 3) := by decide +kernel
theorem dJ7_rangeCheck_23922_8 : decode cJ7_rangeCheck_23922 8 = .ok (.dup, 1) := by decide +kernel
theorem dJ7_rangeCheck_23922_9 : decode cJ7_rangeCheck_23922 9 = .ok (.new 45, 3) := by decide +kernel
theorem dJ7_rangeCheck_23922_12 : decode cJ7_rangeCheck_23922 12 = .ok (.dup, 1) := by decide +kernel
theorem dJ7_rangeCheck_23922_13 : decode cJ7_rangeCheck_23922 13 = .ok (.invokespecial 47, 3) := by decide +kernel
theorem dJ7_rangeCheck_23922_16 : decode cJ7_rangeCheck_23922 16 = .ok (.ldc 48, 2) := by decide +kernel
theorem dJ7_rangeCheck_23922_18 : decode cJ7_rangeCheck_23922 18 = .ok (.invokevirtual 50, 3) := by decide +kernel
theorem dJ7_rangeCheck_23922_21 : decode cJ7_rangeCheck_23922 21 = .ok (.iload_n 1, 1) := by decide +kernel
theorem dJ7_rangeCheck_23922_22 : decode cJ7_rangeCheck_23922 22 = .ok (.invokevirtual 54, 3) := by decide +kernel
theorem dJ7_rangeCheck_23922_25 : decode cJ7_rangeCheck_23922 25 = .ok (.ldc 57, 2) := by decide +kernel
theorem dJ7_rangeCheck_23922_27 : decode cJ7_rangeCheck_23922 27 = .ok (.invokevirtual 50, 3) := by decide +kernel
theorem dJ7_rangeCheck_23922_30 : decode cJ7_rangeCheck_23922 30 = .ok (.iload_n 2, 1) := by decide +kernel
theorem dJ7_rangeCheck_23922_31 : decode cJ7_rangeCheck_23922 31 = .ok (.invokevirtual 54, 3) := by decide +kernel
theorem dJ7_rangeCheck_23922_34 : decode cJ7_rangeCheck_23922 34 = .ok (.ldc 59, 2) := by decide +kernel
theorem dJ7_rangeCheck_23922_36 : decode cJ7_rangeCheck_23922 36 = .ok (.invokevirtual 50, 3) := by decide +kernel
theorem dJ7_rangeCheck_23922_39 : decode cJ7_rangeCheck_23922 39 = .ok (.invokevirtual 61, 3) := by decide +kernel
theorem dJ7_rangeCheck_23922_42 : decode cJ7_rangeCheck_23922 42 = .ok (.invokespecial 65, 3) := by decide +kernel
theorem dJ7_rangeCheck_23922_45 : decode cJ7_rangeCheck_23922 45 = .ok (.athrow, 1) := by decide +kernel
theorem dJ7_rangeCheck_23922_46 : decode cJ7_rangeCheck_23922 46 = .ok (.iload_n 1, 1) := by decide +kernel
theorem dJ7_rangeCheck_23922_47 : decode cJ7_rangeCheck_23922 47 = .ok (.ifCond .ge 12, 3) := by decide +kernel
theorem dJ7_rangeCheck_23922_50 : decode cJ7_rangeCheck_23922 50 = .ok (.new 68, 3) := by decide +kernel
theorem dJ7_rangeCheck_23922_53 : decode cJ7_rangeCheck_23922 53 = .ok (.dup, 1) := by decide +kernel
theorem dJ7_rangeCheck_23922_54 : decode cJ7_rangeCheck_23922 54 = .ok (.iload_n 1, 1) := by decide +kernel
theorem dJ7_rangeCheck_23922_55 : decode cJ7_rangeCheck_23922 55 = .ok (.invokespecial 70, 3) := by decide +kernel
theorem dJ7_rangeCheck_23922_58 : decode cJ7_rangeCheck_23922 58 = .ok (.athrow, 1) := by decide +kernel
theorem dJ7_rangeCheck_23922_59 : decode cJ7_rangeCheck_23922 59 = .ok (.iload_n 2, 1) := by decide +kernel
theorem dJ7_rangeCheck_23922_60 : decode cJ7_rangeCheck_23922 60 = .ok (.iload_n 0, 1) := by decide +kernel
theorem dJ7_rangeCheck_23922_61 : decode cJ7_rangeCheck_23922 61 = .ok (.if_icmp .le 12, 3) := by decide +kernel
theorem dJ7_rangeCheck_23922_64 : decode cJ7_rangeCheck_23922 64 = .ok (.new 68, 3) := by decide +kernel
theorem dJ7_rangeCheck_23922_67 : decode cJ7_rangeCheck_23922 67 = .ok (.dup, 1) := by decide +kernel
theorem dJ7_rangeCheck_23922_68 : decode cJ7_rangeCheck_23922 68 = .ok (.iload_n 2, 1) := by decide +kernel
theorem dJ7_rangeCheck_23922_69 : decode cJ7_rangeCheck_23922 69 = .ok (.invokespecial 70, 3) := by decide +kernel
theorem dJ7_rangeCheck_23922_72 : decode cJ7_rangeCheck_23922 72 = .ok (.athrow, 1) := by decide +kernel
theorem dJ7_rangeCheck_23922_73 : decode cJ7_rangeCheck_23922 73 = .ok (.return_, 1) := by decide +kernel
theorem dJ7_fill_d0a16_0 : decode cJ7_fill_d0a16 0 = .ok (.iconst 0, 1) := by decide +kernel
theorem dJ7_fill_d0a16_1 : decode cJ7_fill_d0a16 1 = .ok (.istore_n 3, 1) := by decide +kernel
theorem dJ7_fill_d0a16_2 : decode cJ7_fill_d0a16 2 = .ok (.aload_n 0, 1) := by decide +kernel
theorem dJ7_fill_d0a16_3 : decode cJ7_fill_d0a16 3 = .ok (.arraylength, 1) := by decide +kernel
theorem dJ7_fill_d0a16_4 : decode cJ7_fill_d0a16 4 = .ok (.istore 4, 2) := by decide +kernel
theorem dJ7_fill_d0a16_6 : decode cJ7_fill_d0a16 6 = .ok (.iload_n 3, 1) := by decide +kernel
theorem dJ7_fill_d0a16_7 : decode cJ7_fill_d0a16 7 = .ok (.iload 4, 2) := by decide +kernel
theorem dJ7_fill_d0a16_9 : decode cJ7_fill_d0a16 9 = .ok (.if_icmp .ge 13, 3) := by decide +kernel
theorem dJ7_fill_d0a16_12 : decode cJ7_fill_d0a16 12 = .ok (.aload_n 0, 1) := by decide +kernel
theorem dJ7_fill_d0a16_13 : decode cJ7_fill_d0a16 13 = .ok (.iload_n 3, 1) := by decide +kernel
theorem dJ7_fill_d0a16_14 : decode cJ7_fill_d0a16 14 = .ok (.lload_n 1, 1) := by decide +kernel
theorem dJ7_fill_d0a16_15 : decode cJ7_fill_d0a16 15 = .ok (.lastore, 1) := by decide +kernel
theorem dJ7_fill_d0a16_16 : decode cJ7_fill_d0a16 16 = .ok (.iinc 3 1, 3) := by decide +kernel
theorem dJ7_fill_d0a16_19 : decode cJ7_fill_d0a16 19 = .ok (.goto (-13), 3) := by decide +kernel
theorem dJ7_fill_d0a16_22 : decode cJ7_fill_d0a16 22 = .ok (.return_, 1) := by decide +kernel
theorem dJ7_fill_bad5a_0 : decode cJ7_fill_bad5a 0 = .ok (.aload_n 0, 1) := by decide +kernel
theorem dJ7_fill_bad5a_1 : decode cJ7_fill_bad5a 1 = .ok (.arraylength, 1) := by decide +kernel
theorem dJ7_fill_bad5a_2 : decode cJ7_fill_bad5a 2 = .ok (.iload_n 1, 1) := by decide +kernel
theorem dJ7_fill_bad5a_3 : decode cJ7_fill_bad5a 3 = .ok (.iload_n 2, 1) := by decide +kernel
theorem dJ7_fill_bad5a_4 : decode cJ7_fill_bad5a 4 = .ok (.invokestatic 13, 3) := by decide +kernel
theorem dJ7_fill_bad5a_7 : decode cJ7_fill_bad5a 7 = .ok (.iload_n 1, 1) := by decide +kernel
theorem dJ7_fill_bad5a_8 : decode cJ7_fill_bad5a 8 = .ok (.istore 5, 2) := by decide +kernel
theorem dJ7_fill_bad5a_10 : decode cJ7_fill_bad5a 10 = .ok (.iload 5, 2) := by decide +kernel
theorem dJ7_fill_bad5a_12 : decode cJ7_fill_bad5a 12 = .ok (.iload_n 2, 1) := by decide +kernel
theorem dJ7_fill_bad5a_13 : decode cJ7_fill_bad5a 13 = .ok (.if_icmp .ge 14, 3) := by decide +kernel
theorem dJ7_fill_bad5a_16 : decode cJ7_fill_bad5a 16 = .ok (.aload_n 0, 1) := by decide +kernel
theorem dJ7_fill_bad5a_17 : decode cJ7_fill_bad5a 17 = .ok (.iload 5, 2) := by decide +kernel
theorem dJ7_fill_bad5a_19 : decode cJ7_fill_bad5a 19 = .ok (.lload_n 3, 1) := by decide +kernel
theorem dJ7_fill_bad5a_20 : decode cJ7_fill_bad5a 20 = .ok (.lastore, 1) := by decide +kernel
theorem dJ7_fill_bad5a_21 : decode cJ7_fill_bad5a 21 = .ok (.iinc 5 1, 3) := by decide +kernel
theorem dJ7_fill_bad5a_24 : decode cJ7_fill_bad5a 24 = .ok (.goto (-14), 3) := by decide +kernel
theorem dJ7_fill_bad5a_27 : decode cJ7_fill_bad5a 27 = .ok (.return_, 1) := by decide +kernel
theorem dJ7_fill_fda19_0 : decode cJ7_fill_fda19 0 = .ok (.aload_n 0, 1) := by decide +kernel
theorem dJ7_fill_fda19_1 : decode cJ7_fill_fda19 1 = .ok (.arraylength, 1) := by decide +kernel
theorem dJ7_fill_fda19_2 : decode cJ7_fill_fda19 2 = .ok (.iload_n 1, 1) := by decide +kernel
theorem dJ7_fill_fda19_3 : decode cJ7_fill_fda19 3 = .ok (.iload_n 2, 1) := by decide +kernel
theorem dJ7_fill_fda19_4 : decode cJ7_fill_fda19 4 = .ok (.invokestatic 13, 3) := by decide +kernel
theorem dJ7_fill_fda19_7 : decode cJ7_fill_fda19 7 = .ok (.iload_n 1, 1) := by decide +kernel
theorem dJ7_fill_fda19_8 : decode cJ7_fill_fda19 8 = .ok (.istore 4, 2) := by decide +kernel
theorem dJ7_fill_fda19_10 : decode cJ7_fill_fda19 10 = .ok (.iload 4, 2) := by decide +kernel
theorem dJ7_fill_fda19_12 : decode cJ7_fill_fda19 12 = .ok (.iload_n 2, 1) := by decide +kernel
theorem dJ7_fill_fda19_13 : decode cJ7_fill_fda19 13 = .ok (.if_icmp .ge 14, 3) := by decide +kernel
theorem dJ7_fill_fda19_16 : decode cJ7_fill_fda19 16 = .ok (.aload_n 0, 1) := by decide +kernel
theorem dJ7_fill_fda19_17 : decode cJ7_fill_fda19 17 = .ok (.iload 4, 2) := by decide +kernel
theorem dJ7_fill_fda19_19 : decode cJ7_fill_fda19 19 = .ok (.iload_n 3, 1) := by decide +kernel
theorem dJ7_fill_fda19_20 : decode cJ7_fill_fda19 20 = .ok (.iastore, 1) := by decide +kernel
theorem dJ7_fill_fda19_21 : decode cJ7_fill_fda19 21 = .ok (.iinc 4 1, 3) := by decide +kernel
theorem dJ7_fill_fda19_24 : decode cJ7_fill_fda19 24 = .ok (.goto (-14), 3) := by decide +kernel
theorem dJ7_fill_fda19_27 : decode cJ7_fill_fda19 27 = .ok (.return_, 1) := by decide +kernel
end
section
theorem dX2_init_0 : decode cX2_init 0 = .ok (.aload_n 0, 1) := by decide +kernel
theorem dX2_init_1 : decode cX2_init 1 = .ok (.invokespecial 3, 3) := by decide +kernel
theorem dX2_init_4 : decode cX2_init 4 = .ok (.aload_n 0, 1) := by decide +kernel
theorem dX2_init_5 : decode cX2_init 5 = .ok (.bipush 34, 2) := by decide +kernel
theorem dX2_init_7 : decode cX2_init 7 = .ok (.bipush 64, 2) := by decide +kernel
theorem dX2_init_9 : decode cX2_init 9 = .ok (.multianewarray 11 2, 4) := by decide +kernel
theorem dX2_init_13 : decode cX2_init 13 = .ok (.putfield 13, 3) := by decide +kernel
theorem dX2_init_16 : decode cX2_init 16 = .ok (.aload_n 0, 1) := by decide +kernel
theorem dX2_init_17 : decode cX2_init 17 = .ok (.bipush 12, 2) := by decide +kernel
theorem dX2_init_19 : decode cX2_init 19 = .ok (.newarray .int, 2) := by decide +kernel
theorem dX2_init_21 : decode cX2_init 21 = .ok (.putfield 16, 3) := by decide +kernel
theorem dX2_init_24 : decode cX2_init 24 = .ok (.aload_n 0, 1) := by decide +kernel
theorem dX2_init_25 : decode cX2_init 25 = .ok (.bipush 12, 2) := by decide +kernel
theorem dX2_init_27 : decode cX2_init 27 = .ok (.newarray .int, 2) := by decide +kernel
theorem dX2_init_29 : decode cX2_init 29 = .ok (.putfield 20, 3) := by decide +kernel
theorem dX2_init_32 : decode cX2_init 32 = .ok (.aload_n 0, 1) := by decide +kernel
theorem dX2_init_33 : decode cX2_init 33 = .ok (.sipush 8192, 3) := by decide +kernel
theorem dX2_init_36 : decode cX2_init 36 = .ok (.newarray .int, 2) := by decide +kernel
theorem dX2_init_38 : decode cX2_init 38 = .ok (.putfield 23, 3) := by decide +kernel
theorem dX2_init_41 : decode cX2_init 41 = .ok (.aload_n 0, 1) := by decide +kernel
theorem dX2_init_42 : decode cX2_init 42 = .ok (.sipush 8192, 3) := by decide +kernel
theorem dX2_init_45 : decode cX2_init 45 = .ok (.newarray .int, 2) := by decide +kernel
theorem dX2_init_47 : decode cX2_init 47 = .ok (.putfield 26, 3) := by decide +kernel
theorem dX2_init_50 : decode cX2_init 50 = .ok (.aload_n 0, 1) := by decide +kernel
theorem dX2_init_51 : decode cX2_init 51 = .ok (.new 29, 3) := by decide +kernel
theorem dX2_init_54 : decode cX2_init 54 = .ok (.dup, 1) := by decide +kernel
theorem dX2_init_55 : decode cX2_init 55 = .ok (.invokespecial 31, 3) := by decide +kernel
theorem dX2_init_58 : decode cX2_init 58 = .ok (.putfield 32, 3) := by decide +kernel
theorem dX2_init_61 : decode cX2_init 61 = .ok (.aload_n 0, 1) := by decide +kernel
theorem dX2_init_62 : decode cX2_init 62 = .ok (.bipush 6, 2) := by decide +kernel
theorem dX2_init_64 : decode cX2_init 64 = .ok (.sipush 2000, 3) := by decide +kernel
theorem dX2_init_67 : decode cX2_init 67 = .ok (.invokevirtual 36, 3) := by decide +kernel
theorem dX2_init_70 : decode cX2_init 70 = .ok (.return_, 1) := by decide +kernel
theorem dX2_fresh_0 : decode cX2_fresh 0 = .ok (.iload_n 1, 1) := by decide +kernel
theorem dX2_fresh_1 : decode cX2_fresh 1 = .ok (.iconst 1, 1) := by decide +kernel
theorem dX2_fresh_2 : decode cX2_fresh 2 = .ok (.if_icmp .lt 20, 3) := by decide +kernel
theorem dX2_fresh_5 : decode cX2_fresh 5 = .ok (.iload_n 1, 1) := by decide +kernel
theorem dX2_fresh_6 : decode cX2_fresh 6 = .ok (.bipush 12, 2) := by decide +kernel
theorem dX2_fresh_8 : decode cX2_fresh 8 = .ok (.if_icmp .gt 14, 3) := by decide +kernel
theorem dX2_fresh_11 : decode cX2_fresh 11 = .ok (.iload_n 2, 1) := by decide +kernel
theorem dX2_fresh_12 : decode cX2_fresh 12 = .ok (.ifCond .lt 10, 3) := by decide +kernel
theorem dX2_fresh_15 : decode cX2_fresh 15 = .ok (.iload_n 2, 1) := by decide +kernel
theorem dX2_fresh_16 : decode cX2_fresh 16 = .ok (.sipush 20000, 3) := by decide +kernel
theorem dX2_fresh_19 : decode cX2_fresh 19 = .ok (.if_icmp .le 5, 3) := by decide +kernel
theorem dX2_fresh_22 : decode cX2_fresh 22 = .ok (.iconst 0, 1) := by decide +kernel
theorem dX2_fresh_23 : decode cX2_fresh 23 = .ok (.ireturn, 1) := by decide +kernel
theorem dX2_fresh_24 : decode cX2_fresh 24 = .ok (.aload_n 0, 1) := by decide +kernel
theorem dX2_fresh_25 : decode cX2_fresh 25 = .ok (.iload_n 1, 1) := by decide +kernel
theorem dX2_fresh_26 : decode cX2_fresh 26 = .ok (.iload_n 2, 1) := by decide +kernel
theorem dX2_fresh_27 : decode cX2_fresh 27 = .ok (.invokevirtual 36, 3) := by decide +kernel
theorem dX2_fresh_30 : decode cX2_fresh 30 = .ok (.iconst 1, 1) := by decide +kernel
theorem dX2_fresh_31 : decode cX2_fresh 31 = .ok (.ireturn, 1) := by decide +kernel
theorem dX2_constant_0 : decode cX2_constant 0 = .ok (.iload_n 1, 1) := by decide +kernel
theorem dX2_constant_1 : decode cX2_constant 1 = .ok (.invokestatic 40, 3) := by decide +kernel
theorem dX2_constant_4 : decode cX2_constant 4 = .ok (.ifCond .ne 6, 3) := by decide +kernel
theorem dX2_constant_7 : decode cX2_constant 7 = .ok (.bipush (-2), 2) := by decide +kernel
theorem dX2_constant_9 : decode cX2_constant 9 = .ok (.ireturn, 1) := by decide +kernel
theorem dX2_constant_10 : decode cX2_constant 10 = .ok (.aload_n 0, 1) := by decide +kernel
theorem dX2_constant_11 : decode cX2_constant 11 = .ok (.getfield 13, 3) := by decide +kernel
theorem dX2_constant_14 : decode cX2_constant 14 = .ok (.iload_n 1, 1) := by decide +kernel
theorem dX2_constant_15 : decode cX2_constant 15 = .ok (.aaload, 1) := by decide +kernel
theorem dX2_constant_16 : decode cX2_constant 16 = .ok (.iconst 0, 1) := by decide +kernel
theorem dX2_constant_17 : decode cX2_constant 17 = .ok (.aload_n 0, 1) := by decide +kernel
theorem dX2_constant_18 : decode cX2_constant 18 = .ok (.getfield 44, 3) := by decide +kernel
theorem dX2_constant_21 : decode cX2_constant 21 = .ok (.iload_n 2, 1) := by decide +kernel
theorem dX2_constant_22 : decode cX2_constant 22 = .ok (.ifCond .eq 10, 3) := by decide +kernel
theorem dX2_constant_25 : decode cX2_constant 25 = .ok (.aload_n 0, 1) := by decide +kernel
theorem dX2_constant_26 : decode cX2_constant 26 = .ok (.getfield 48, 3) := by decide +kernel
theorem dX2_constant_29 : decode cX2_constant 29 = .ok (.goto 4, 3) := by decide +kernel
theorem dX2_constant_32 : decode cX2_constant 32 = .ok (.lconst 0, 1) := by decide +kernel
theorem dX2_constant_33 : decode cX2_constant 33 = .ok (.invokestatic 52, 3) := by decide +kernel
theorem dX2_constant_36 : decode cX2_constant 36 = .ok (.aload_n 0, 1) := by decide +kernel
theorem dX2_constant_37 : decode cX2_constant 37 = .ok (.invokevirtual 58, 3) := by decide +kernel
theorem dX2_constant_40 : decode cX2_constant 40 = .ok (.iconst 0, 1) := by decide +kernel
theorem dX2_constant_41 : decode cX2_constant 41 = .ok (.ireturn, 1) := by decide +kernel
theorem dX2_letter_0 : decode cX2_letter 0 = .ok (.iload_n 1, 1) := by decide +kernel
theorem dX2_letter_1 : decode cX2_letter 1 = .ok (.invokestatic 40, 3) := by decide +kernel
theorem dX2_letter_4 : decode cX2_letter 4 = .ok (.ifCond .eq 11, 3) := by decide +kernel
theorem dX2_letter_7 : decode cX2_letter 7 = .ok (.aload_n 0, 1) := by decide +kernel
theorem dX2_letter_8 : decode cX2_letter 8 = .ok (.iload_n 2, 1) := by decide +kernel
theorem dX2_letter_9 : decode cX2_letter 9 = .ok (.invokevirtual 61, 3) := by decide +kernel
theorem dX2_letter_12 : decode cX2_letter 12 = .ok (.ifCond .ne 6, 3) := by decide +kernel
theorem dX2_letter_15 : decode cX2_letter 15 = .ok (.bipush (-2), 2) := by decide +kernel
theorem dX2_letter_17 : decode cX2_letter 17 = .ok (.ireturn, 1) := by decide +kernel
theorem dX2_letter_18 : decode cX2_letter 18 = .ok (.aload_n 0, 1) := by decide +kernel
theorem dX2_letter_19 : decode cX2_letter 19 = .ok (.iload_n 2, 1) := by decide +kernel
theorem dX2_letter_20 : decode cX2_letter 20 = .ok (.invokevirtual 64, 3) := by decide +kernel
theorem dX2_letter_23 : decode cX2_letter 23 = .ok (.istore_n 3, 1) := by decide +kernel
theorem dX2_letter_24 : decode cX2_letter 24 = .ok (.aload_n 0, 1) := by decide +kernel
theorem dX2_letter_25 : decode cX2_letter 25 = .ok (.getfield 13, 3) := by decide +kernel
theorem dX2_letter_28 : decode cX2_letter 28 = .ok (.bipush 32, 2) := by decide +kernel
theorem dX2_letter_30 : decode cX2_letter 30 = .ok (.aaload, 1) := by decide +kernel
theorem dX2_letter_31 : decode cX2_letter 31 = .ok (.astore 4, 2) := by decide +kernel
theorem dX2_letter_33 : decode cX2_letter 33 = .ok (.iconst 0, 1) := by decide +kernel
theorem dX2_letter_34 : decode cX2_letter 34 = .ok (.istore 5, 2) := by decide +kernel
theorem dX2_letter_36 : decode cX2_letter 36 = .ok (.iload 5, 2) := by decide +kernel
theorem dX2_letter_38 : decode cX2_letter 38 = .ok (.aload_n 0, 1) := by decide +kernel
theorem dX2_letter_39 : decode cX2_letter 39 = .ok (.getfield 44, 3) := by decide +kernel
theorem dX2_letter_42 : decode cX2_letter 42 = .ok (.if_icmp .ge 25, 3) := by decide +kernel
theorem dX2_letter_45 : decode cX2_letter 45 = .ok (.aload 4, 2) := by decide +kernel
theorem dX2_letter_47 : decode cX2_letter 47 = .ok (.iload 5, 2) := by decide +kernel
theorem dX2_letter_49 : decode cX2_letter 49 = .ok (.iload 5, 2) := by decide +kernel
theorem dX2_letter_51 : decode cX2_letter 51 = .ok (.iload_n 3, 1) := by decide +kernel
theorem dX2_letter_52 : decode cX2_letter 52 = .ok (.invokestatic 68, 3) := by decide +kernel
theorem dX2_letter_55 : decode cX2_letter 55 = .ok (.aload_n 0, 1) := by decide +kernel
theorem dX2_letter_56 : decode cX2_letter 56 = .ok (.getfield 48, 3) := by decide +kernel
theorem dX2_letter_59 : decode cX2_letter 59 = .ok (.land, 1) := by decide +kernel
theorem dX2_letter_60 : decode cX2_letter 60 = .ok (.lastore, 1) := by decide +kernel
theorem dX2_letter_61 : decode cX2_letter 61 = .ok (.iinc 5 1, 3) := by decide +kernel
theorem dX2_letter_64 : decode cX2_letter 64 = .ok (.goto (-28), 3) := by decide +kernel
theorem dX2_letter_67 : decode cX2_letter 67 = .ok (.aload_n 0, 1) := by decide +kernel
theorem dX2_letter_68 : decode cX2_letter 68 = .ok (.iload_n 1, 1) := by decide +kernel
theorem dX2_letter_69 : decode cX2_letter 69 = .ok (.invokevirtual 72, 3) := by decide +kernel
theorem dX2_letter_72 : decode cX2_letter 72 = .ok (.ireturn, 1) := by decide +kernel
theorem dX2_join_0 : decode cX2_join 0 = .ok (.iload_n 1, 1) := by decide +kernel
theorem dX2_join_1 : decode cX2_join 1 = .ok (.invokestatic 40, 3) := by decide +kernel
theorem dX2_join_4 : decode cX2_join 4 = .ok (.ifCond .eq 29, 3) := by decide +kernel
theorem dX2_join_7 : decode cX2_join 7 = .ok (.iload_n 2, 1) := by decide +kernel
theorem dX2_join_8 : decode cX2_join 8 = .ok (.invokestatic 40, 3) := by decide +kernel
theorem dX2_join_11 : decode cX2_join 11 = .ok (.ifCond .eq 22, 3) := by decide +kernel
theorem dX2_join_14 : decode cX2_join 14 = .ok (.iload_n 3, 1) := by decide +kernel
theorem dX2_join_15 : decode cX2_join 15 = .ok (.invokestatic 40, 3) := by decide +kernel
theorem dX2_join_18 : decode cX2_join 18 = .ok (.ifCond .eq 15, 3) := by decide +kernel
theorem dX2_join_21 : decode cX2_join 21 = .ok (.iload 4, 2) := by decide +kernel
theorem dX2_join_23 : decode cX2_join 23 = .ok (.ifCond .lt 10, 3) := by decide +kernel
theorem dX2_join_26 : decode cX2_join 26 = .ok (.iload 4, 2) := by decide +kernel
theorem dX2_join_28 : decode cX2_join 28 = .ok (.bipush 15, 2) := by decide +kernel
theorem dX2_join_30 : decode cX2_join 30 = .ok (.if_icmp .le 6, 3) := by decide +kernel
theorem dX2_join_33 : decode cX2_join 33 = .ok (.bipush (-2), 2) := by decide +kernel
theorem dX2_join_35 : decode cX2_join 35 = .ok (.ireturn, 1) := by decide +kernel
theorem dX2_join_36 : decode cX2_join 36 = .ok (.aload_n 0, 1) := by decide +kernel
theorem dX2_join_37 : decode cX2_join 37 = .ok (.getfield 13, 3) := by decide +kernel
theorem dX2_join_40 : decode cX2_join 40 = .ok (.bipush 32, 2) := by decide +kernel
theorem dX2_join_42 : decode cX2_join 42 = .ok (.aaload, 1) := by decide +kernel
theorem dX2_join_43 : decode cX2_join 43 = .ok (.astore 5, 2) := by decide +kernel
theorem dX2_join_45 : decode cX2_join 45 = .ok (.iconst 0, 1) := by decide +kernel
theorem dX2_join_46 : decode cX2_join 46 = .ok (.istore 6, 2) := by decide +kernel
theorem dX2_join_48 : decode cX2_join 48 = .ok (.iload 6, 2) := by decide +kernel
theorem dX2_join_50 : decode cX2_join 50 = .ok (.aload_n 0, 1) := by decide +kernel
theorem dX2_join_51 : decode cX2_join 51 = .ok (.getfield 44, 3) := by decide +kernel
theorem dX2_join_54 : decode cX2_join 54 = .ok (.if_icmp .ge 42, 3) := by decide +kernel
theorem dX2_join_57 : decode cX2_join 57 = .ok (.aload 5, 2) := by decide +kernel
theorem dX2_join_59 : decode cX2_join 59 = .ok (.iload 6, 2) := by decide +kernel
theorem dX2_join_61 : decode cX2_join 61 = .ok (.aload_n 0, 1) := by decide +kernel
theorem dX2_join_62 : decode cX2_join 62 = .ok (.getfield 13, 3) := by decide +kernel
theorem dX2_join_65 : decode cX2_join 65 = .ok (.iload_n 2, 1) := by decide +kernel
theorem dX2_join_66 : decode cX2_join 66 = .ok (.aaload, 1) := by decide +kernel
theorem dX2_join_67 : decode cX2_join 67 = .ok (.iload 6, 2) := by decide +kernel
theorem dX2_join_69 : decode cX2_join 69 = .ok (.laload, 1) := by decide +kernel
theorem dX2_join_70 : decode cX2_join 70 = .ok (.aload_n 0, 1) := by decide +kernel
theorem dX2_join_71 : decode cX2_join 71 = .ok (.getfield 13, 3) := by decide +kernel
theorem dX2_join_74 : decode cX2_join 74 = .ok (.iload_n 3, 1) := by decide +kernel
theorem dX2_join_75 : decode cX2_join 75 = .ok (.aaload, 1) := by decide +kernel
theorem dX2_join_76 : decode cX2_join 76 = .ok (.iload 6, 2) := by decide +kernel
theorem dX2_join_78 : decode cX2_join 78 = .ok (.laload, 1) := by decide +kernel
theorem dX2_join_79 : decode cX2_join 79 = .ok (.iload 4, 2) := by decide +kernel
theorem dX2_join_81 : decode cX2_join 81 = .ok (.invokestatic 75, 3) := by decide +kernel
theorem dX2_join_84 : decode cX2_join 84 = .ok (.aload_n 0, 1) := by decide +kernel
theorem dX2_join_85 : decode cX2_join 85 = .ok (.getfield 48, 3) := by decide +kernel
theorem dX2_join_88 : decode cX2_join 88 = .ok (.land, 1) := by decide +kernel
theorem dX2_join_89 : decode cX2_join 89 = .ok (.lastore, 1) := by decide +kernel
theorem dX2_join_90 : decode cX2_join 90 = .ok (.iinc 6 1, 3) := by decide +kernel
theorem dX2_join_93 : decode cX2_join 93 = .ok (.goto (-45), 3) := by decide +kernel
theorem dX2_join_96 : decode cX2_join 96 = .ok (.aload_n 0, 1) := by decide +kernel
theorem dX2_join_97 : decode cX2_join 97 = .ok (.iload_n 1, 1) := by decide +kernel
theorem dX2_join_98 : decode cX2_join 98 = .ok (.invokevirtual 72, 3) := by decide +kernel
theorem dX2_join_101 : decode cX2_join 101 = .ok (.ireturn, 1) := by decide +kernel
theorem dX2_fork_0 : decode cX2_fork 0 = .ok (.iload_n 1, 1) := by decide +kernel
theorem dX2_fork_1 : decode cX2_fork 1 = .ok (.invokestatic 40, 3) := by decide +kernel
theorem dX2_fork_4 : decode cX2_fork 4 = .ok (.ifCond .eq 25, 3) := by decide +kernel
theorem dX2_fork_7 : decode cX2_fork 7 = .ok (.iload_n 2, 1) := by decide +kernel
theorem dX2_fork_8 : decode cX2_fork 8 = .ok (.invokestatic 40, 3) := by decide +kernel
theorem dX2_fork_11 : decode cX2_fork 11 = .ok (.ifCond .eq 18, 3) := by decide +kernel
theorem dX2_fork_14 : decode cX2_fork 14 = .ok (.iload_n 3, 1) := by decide +kernel
theorem dX2_fork_15 : decode cX2_fork 15 = .ok (.invokestatic 40, 3) := by decide +kernel
theorem dX2_fork_18 : decode cX2_fork 18 = .ok (.ifCond .eq 11, 3) := by decide +kernel
theorem dX2_fork_21 : decode cX2_fork 21 = .ok (.iload 4, 2) := by decide +kernel
theorem dX2_fork_23 : decode cX2_fork 23 = .ok (.invokestatic 40, 3) := by decide +kernel
theorem dX2_fork_26 : decode cX2_fork 26 = .ok (.ifCond .ne 6, 3) := by decide +kernel
theorem dX2_fork_29 : decode cX2_fork 29 = .ok (.bipush (-2), 2) := by decide +kernel
theorem dX2_fork_31 : decode cX2_fork 31 = .ok (.ireturn, 1) := by decide +kernel
theorem dX2_fork_32 : decode cX2_fork 32 = .ok (.aload_n 0, 1) := by decide +kernel
theorem dX2_fork_33 : decode cX2_fork 33 = .ok (.getfield 13, 3) := by decide +kernel
theorem dX2_fork_36 : decode cX2_fork 36 = .ok (.bipush 32, 2) := by decide +kernel
theorem dX2_fork_38 : decode cX2_fork 38 = .ok (.aaload, 1) := by decide +kernel
theorem dX2_fork_39 : decode cX2_fork 39 = .ok (.astore 5, 2) := by decide +kernel
theorem dX2_fork_41 : decode cX2_fork 41 = .ok (.iconst 0, 1) := by decide +kernel
theorem dX2_fork_42 : decode cX2_fork 42 = .ok (.istore 6, 2) := by decide +kernel
theorem dX2_fork_44 : decode cX2_fork 44 = .ok (.iload 6, 2) := by decide +kernel
theorem dX2_fork_46 : decode cX2_fork 46 = .ok (.aload_n 0, 1) := by decide +kernel
theorem dX2_fork_47 : decode cX2_fork 47 = .ok (.getfield 44, 3) := by decide +kernel
theorem dX2_fork_50 : decode cX2_fork 50 = .ok (.if_icmp .ge 45, 3) := by decide +kernel
theorem dX2_fork_53 : decode cX2_fork 53 = .ok (.aload 5, 2) := by decide +kernel
theorem dX2_fork_55 : decode cX2_fork 55 = .ok (.iload 6, 2) := by decide +kernel
theorem dX2_fork_57 : decode cX2_fork 57 = .ok (.aload_n 0, 1) := by decide +kernel
theorem dX2_fork_58 : decode cX2_fork 58 = .ok (.getfield 13, 3) := by decide +kernel
theorem dX2_fork_61 : decode cX2_fork 61 = .ok (.iload_n 2, 1) := by decide +kernel
theorem dX2_fork_62 : decode cX2_fork 62 = .ok (.aaload, 1) := by decide +kernel
theorem dX2_fork_63 : decode cX2_fork 63 = .ok (.iload 6, 2) := by decide +kernel
theorem dX2_fork_65 : decode cX2_fork 65 = .ok (.laload, 1) := by decide +kernel
theorem dX2_fork_66 : decode cX2_fork 66 = .ok (.aload_n 0, 1) := by decide +kernel
theorem dX2_fork_67 : decode cX2_fork 67 = .ok (.getfield 13, 3) := by decide +kernel
theorem dX2_fork_70 : decode cX2_fork 70 = .ok (.iload_n 3, 1) := by decide +kernel
theorem dX2_fork_71 : decode cX2_fork 71 = .ok (.aaload, 1) := by decide +kernel
theorem dX2_fork_72 : decode cX2_fork 72 = .ok (.iload 6, 2) := by decide +kernel
theorem dX2_fork_74 : decode cX2_fork 74 = .ok (.laload, 1) := by decide +kernel
theorem dX2_fork_75 : decode cX2_fork 75 = .ok (.aload_n 0, 1) := by decide +kernel
theorem dX2_fork_76 : decode cX2_fork 76 = .ok (.getfield 13, 3) := by decide +kernel
theorem dX2_fork_79 : decode cX2_fork 79 = .ok (.iload 4, 2) := by decide +kernel
theorem dX2_fork_81 : decode cX2_fork 81 = .ok (.aaload, 1) := by decide +kernel
theorem dX2_fork_82 : decode cX2_fork 82 = .ok (.iload 6, 2) := by decide +kernel
theorem dX2_fork_84 : decode cX2_fork 84 = .ok (.laload, 1) := by decide +kernel
theorem dX2_fork_85 : decode cX2_fork 85 = .ok (.invokestatic 79, 3) := by decide +kernel
theorem dX2_fork_88 : decode cX2_fork 88 = .ok (.lastore, 1) := by decide +kernel
theorem dX2_fork_89 : decode cX2_fork 89 = .ok (.iinc 6 1, 3) := by decide +kernel
theorem dX2_fork_92 : decode cX2_fork 92 = .ok (.goto (-48), 3) := by decide +kernel
theorem dX2_fork_95 : decode cX2_fork 95 = .ok (.aload_n 0, 1) := by decide +kernel
theorem dX2_fork_96 : decode cX2_fork 96 = .ok (.iload_n 1, 1) := by decide +kernel
theorem dX2_fork_97 : decode cX2_fork 97 = .ok (.invokevirtual 72, 3) := by decide +kernel
theorem dX2_fork_100 : decode cX2_fork 100 = .ok (.ireturn, 1) := by decide +kernel
theorem dX2_fix_0 : decode cX2_fix 0 = .ok (.iload_n 1, 1) := by decide +kernel
theorem dX2_fix_1 : decode cX2_fix 1 = .ok (.invokestatic 40, 3) := by decide +kernel
theorem dX2_fix_4 : decode cX2_fix 4 = .ok (.ifCond .eq 18, 3) := by decide +kernel
theorem dX2_fix_7 : decode cX2_fix 7 = .ok (.iload_n 2, 1) := by decide +kernel
theorem dX2_fix_8 : decode cX2_fix 8 = .ok (.invokestatic 40, 3) := by decide +kernel
theorem dX2_fix_11 : decode cX2_fix 11 = .ok (.ifCond .eq 11, 3) := by decide +kernel
theorem dX2_fix_14 : decode cX2_fix 14 = .ok (.aload_n 0, 1) := by decide +kernel
theorem dX2_fix_15 : decode cX2_fix 15 = .ok (.iload_n 3, 1) := by decide +kernel
theorem dX2_fix_16 : decode cX2_fix 16 = .ok (.invokevirtual 61, 3) := by decide +kernel
theorem dX2_fix_19 : decode cX2_fix 19 = .ok (.ifCond .ne 6, 3) := by decide +kernel
theorem dX2_fix_22 : decode cX2_fix 22 = .ok (.bipush (-2), 2) := by decide +kernel
theorem dX2_fix_24 : decode cX2_fix 24 = .ok (.ireturn, 1) := by decide +kernel
theorem dX2_fix_25 : decode cX2_fix 25 = .ok (.aload_n 0, 1) := by decide +kernel
theorem dX2_fix_26 : decode cX2_fix 26 = .ok (.iload_n 3, 1) := by decide +kernel
theorem dX2_fix_27 : decode cX2_fix 27 = .ok (.invokevirtual 64, 3) := by decide +kernel
theorem dX2_fix_30 : decode cX2_fix 30 = .ok (.istore 5, 2) := by decide +kernel
theorem dX2_fix_32 : decode cX2_fix 32 = .ok (.aload_n 0, 1) := by decide +kernel
theorem dX2_fix_33 : decode cX2_fix 33 = .ok (.getfield 13, 3) := by decide +kernel
theorem dX2_fix_36 : decode cX2_fix 36 = .ok (.bipush 32, 2) := by decide +kernel
theorem dX2_fix_38 : decode cX2_fix 38 = .ok (.aaload, 1) := by decide +kernel
theorem dX2_fix_39 : decode cX2_fix 39 = .ok (.astore 6, 2) := by decide +kernel
theorem dX2_fix_41 : decode cX2_fix 41 = .ok (.iconst 0, 1) := by decide +kernel
theorem dX2_fix_42 : decode cX2_fix 42 = .ok (.istore 7, 2) := by decide +kernel
theorem dX2_fix_44 : decode cX2_fix 44 = .ok (.iload 7, 2) := by decide +kernel
theorem dX2_fix_46 : decode cX2_fix 46 = .ok (.aload_n 0, 1) := by decide +kernel
theorem dX2_fix_47 : decode cX2_fix 47 = .ok (.getfield 44, 3) := by decide +kernel
theorem dX2_fix_50 : decode cX2_fix 50 = .ok (.if_icmp .ge 29, 3) := by decide +kernel
theorem dX2_fix_53 : decode cX2_fix 53 = .ok (.aload 6, 2) := by decide +kernel
theorem dX2_fix_55 : decode cX2_fix 55 = .ok (.iload 7, 2) := by decide +kernel
theorem dX2_fix_57 : decode cX2_fix 57 = .ok (.aload_n 0, 1) := by decide +kernel
theorem dX2_fix_58 : decode cX2_fix 58 = .ok (.getfield 13, 3) := by decide +kernel
theorem dX2_fix_61 : decode cX2_fix 61 = .ok (.iload_n 2, 1) := by decide +kernel
theorem dX2_fix_62 : decode cX2_fix 62 = .ok (.aaload, 1) := by decide +kernel
theorem dX2_fix_63 : decode cX2_fix 63 = .ok (.iload 7, 2) := by decide +kernel
theorem dX2_fix_65 : decode cX2_fix 65 = .ok (.iload 5, 2) := by decide +kernel
theorem dX2_fix_67 : decode cX2_fix 67 = .ok (.iload 4, 2) := by decide +kernel
theorem dX2_fix_69 : decode cX2_fix 69 = .ok (.invokestatic 83, 3) := by decide +kernel
theorem dX2_fix_72 : decode cX2_fix 72 = .ok (.lastore, 1) := by decide +kernel
theorem dX2_fix_73 : decode cX2_fix 73 = .ok (.iinc 7 1, 3) := by decide +kernel
theorem dX2_fix_76 : decode cX2_fix 76 = .ok (.goto (-32), 3) := by decide +kernel
theorem dX2_fix_79 : decode cX2_fix 79 = .ok (.aload_n 0, 1) := by decide +kernel
theorem dX2_fix_80 : decode cX2_fix 80 = .ok (.iload_n 1, 1) := by decide +kernel
theorem dX2_fix_81 : decode cX2_fix 81 = .ok (.invokevirtual 72, 3) := by decide +kernel
theorem dX2_fix_84 : decode cX2_fix 84 = .ok (.ireturn, 1) := by decide +kernel
theorem dX2_put_0 : decode cX2_put 0 = .ok (.iload_n 1, 1) := by decide +kernel
theorem dX2_put_1 : decode cX2_put 1 = .ok (.invokestatic 40, 3) := by decide +kernel
theorem dX2_put_4 : decode cX2_put 4 = .ok (.ifCond .eq 26, 3) := by decide +kernel
theorem dX2_put_7 : decode cX2_put 7 = .ok (.iload_n 2, 1) := by decide +kernel
theorem dX2_put_8 : decode cX2_put 8 = .ok (.invokestatic 40, 3) := by decide +kernel
theorem dX2_put_11 : decode cX2_put 11 = .ok (.ifCond .eq 19, 3) := by decide +kernel
theorem dX2_put_14 : decode cX2_put 14 = .ok (.aload_n 0, 1) := by decide +kernel
theorem dX2_put_15 : decode cX2_put 15 = .ok (.iload_n 3, 1) := by decide +kernel
theorem dX2_put_16 : decode cX2_put 16 = .ok (.invokevirtual 61, 3) := by decide +kernel
theorem dX2_put_19 : decode cX2_put 19 = .ok (.ifCond .eq 11, 3) := by decide +kernel
theorem dX2_put_22 : decode cX2_put 22 = .ok (.iload 4, 2) := by decide +kernel
theorem dX2_put_24 : decode cX2_put 24 = .ok (.invokestatic 40, 3) := by decide +kernel
theorem dX2_put_27 : decode cX2_put 27 = .ok (.ifCond .ne 6, 3) := by decide +kernel
theorem dX2_put_30 : decode cX2_put 30 = .ok (.bipush (-2), 2) := by decide +kernel
theorem dX2_put_32 : decode cX2_put 32 = .ok (.ireturn, 1) := by decide +kernel
theorem dX2_put_33 : decode cX2_put 33 = .ok (.aload_n 0, 1) := by decide +kernel
theorem dX2_put_34 : decode cX2_put 34 = .ok (.iload_n 3, 1) := by decide +kernel
theorem dX2_put_35 : decode cX2_put 35 = .ok (.invokevirtual 64, 3) := by decide +kernel
theorem dX2_put_38 : decode cX2_put 38 = .ok (.istore 5, 2) := by decide +kernel
theorem dX2_put_40 : decode cX2_put 40 = .ok (.aload_n 0, 1) := by decide +kernel
theorem dX2_put_41 : decode cX2_put 41 = .ok (.getfield 13, 3) := by decide +kernel
theorem dX2_put_44 : decode cX2_put 44 = .ok (.bipush 32, 2) := by decide +kernel
theorem dX2_put_46 : decode cX2_put 46 = .ok (.aaload, 1) := by decide +kernel
theorem dX2_put_47 : decode cX2_put 47 = .ok (.astore 6, 2) := by decide +kernel
theorem dX2_put_49 : decode cX2_put 49 = .ok (.iconst 0, 1) := by decide +kernel
theorem dX2_put_50 : decode cX2_put 50 = .ok (.istore 7, 2) := by decide +kernel
theorem dX2_put_52 : decode cX2_put 52 = .ok (.iload 7, 2) := by decide +kernel
theorem dX2_put_54 : decode cX2_put 54 = .ok (.aload_n 0, 1) := by decide +kernel
theorem dX2_put_55 : decode cX2_put 55 = .ok (.getfield 44, 3) := by decide +kernel
theorem dX2_put_58 : decode cX2_put 58 = .ok (.if_icmp .ge 63, 3) := by decide +kernel
theorem dX2_put_61 : decode cX2_put 61 = .ok (.aload_n 0, 1) := by decide +kernel
theorem dX2_put_62 : decode cX2_put 62 = .ok (.getfield 13, 3) := by decide +kernel
theorem dX2_put_65 : decode cX2_put 65 = .ok (.iload_n 2, 1) := by decide +kernel
theorem dX2_put_66 : decode cX2_put 66 = .ok (.aaload, 1) := by decide +kernel
theorem dX2_put_67 : decode cX2_put 67 = .ok (.iload 7, 2) := by decide +kernel
theorem dX2_put_69 : decode cX2_put 69 = .ok (.iload 5, 2) := by decide +kernel
theorem dX2_put_71 : decode cX2_put 71 = .ok (.iconst 1, 1) := by decide +kernel
theorem dX2_put_72 : decode cX2_put 72 = .ok (.invokestatic 83, 3) := by decide +kernel
theorem dX2_put_75 : decode cX2_put 75 = .ok (.lstore 8, 2) := by decide +kernel
theorem dX2_put_77 : decode cX2_put 77 = .ok (.aload_n 0, 1) := by decide +kernel
theorem dX2_put_78 : decode cX2_put 78 = .ok (.getfield 13, 3) := by decide +kernel
theorem dX2_put_81 : decode cX2_put 81 = .ok (.iload_n 2, 1) := by decide +kernel
theorem dX2_put_82 : decode cX2_put 82 = .ok (.aaload, 1) := by decide +kernel
theorem dX2_put_83 : decode cX2_put 83 = .ok (.iload 7, 2) := by decide +kernel
theorem dX2_put_85 : decode cX2_put 85 = .ok (.iload 5, 2) := by decide +kernel
theorem dX2_put_87 : decode cX2_put 87 = .ok (.iconst 0, 1) := by decide +kernel
theorem dX2_put_88 : decode cX2_put 88 = .ok (.invokestatic 83, 3) := by decide +kernel
theorem dX2_put_91 : decode cX2_put 91 = .ok (.lstore 10, 2) := by decide +kernel
theorem dX2_put_93 : decode cX2_put 93 = .ok (.aload 6, 2) := by decide +kernel
theorem dX2_put_95 : decode cX2_put 95 = .ok (.iload 7, 2) := by decide +kernel
theorem dX2_put_97 : decode cX2_put 97 = .ok (.aload_n 0, 1) := by decide +kernel
theorem dX2_put_98 : decode cX2_put 98 = .ok (.getfield 13, 3) := by decide +kernel
theorem dX2_put_101 : decode cX2_put 101 = .ok (.iload 4, 2) := by decide +kernel
theorem dX2_put_103 : decode cX2_put 103 = .ok (.aaload, 1) := by decide +kernel
theorem dX2_put_104 : decode cX2_put 104 = .ok (.iload 7, 2) := by decide +kernel
theorem dX2_put_106 : decode cX2_put 106 = .ok (.laload, 1) := by decide +kernel
theorem dX2_put_107 : decode cX2_put 107 = .ok (.lload 8, 2) := by decide +kernel
theorem dX2_put_109 : decode cX2_put 109 = .ok (.lload 10, 2) := by decide +kernel
theorem dX2_put_111 : decode cX2_put 111 = .ok (.invokestatic 79, 3) := by decide +kernel
theorem dX2_put_114 : decode cX2_put 114 = .ok (.lastore, 1) := by decide +kernel
theorem dX2_put_115 : decode cX2_put 115 = .ok (.iinc 7 1, 3) := by decide +kernel
theorem dX2_put_118 : decode cX2_put 118 = .ok (.goto (-66), 3) := by decide +kernel
theorem dX2_put_121 : decode cX2_put 121 = .ok (.aload_n 0, 1) := by decide +kernel
theorem dX2_put_122 : decode cX2_put 122 = .ok (.iload_n 1, 1) := by decide +kernel
theorem dX2_put_123 : decode cX2_put 123 = .ok (.invokevirtual 72, 3) := by decide +kernel
theorem dX2_put_126 : decode cX2_put 126 = .ok (.ireturn, 1) := by decide +kernel
theorem dX2_sum_0 : decode cX2_sum 0 = .ok (.iload_n 1, 1) := by decide +kernel
theorem dX2_sum_1 : decode cX2_sum 1 = .ok (.invokestatic 40, 3) := by decide +kernel
theorem dX2_sum_4 : decode cX2_sum 4 = .ok (.ifCond .eq 18, 3) := by decide +kernel
theorem dX2_sum_7 : decode cX2_sum 7 = .ok (.iload_n 2, 1) := by decide +kernel
theorem dX2_sum_8 : decode cX2_sum 8 = .ok (.invokestatic 40, 3) := by decide +kernel
theorem dX2_sum_11 : decode cX2_sum 11 = .ok (.ifCond .eq 11, 3) := by decide +kernel
theorem dX2_sum_14 : decode cX2_sum 14 = .ok (.aload_n 0, 1) := by decide +kernel
theorem dX2_sum_15 : decode cX2_sum 15 = .ok (.iload_n 3, 1) := by decide +kernel
theorem dX2_sum_16 : decode cX2_sum 16 = .ok (.invokevirtual 87, 3) := by decide +kernel
theorem dX2_sum_19 : decode cX2_sum 19 = .ok (.ifCond .ne 6, 3) := by decide +kernel
theorem dX2_sum_22 : decode cX2_sum 22 = .ok (.bipush (-2), 2) := by decide +kernel
theorem dX2_sum_24 : decode cX2_sum 24 = .ok (.ireturn, 1) := by decide +kernel
theorem dX2_sum_25 : decode cX2_sum 25 = .ok (.aload_n 0, 1) := by decide +kernel
theorem dX2_sum_26 : decode cX2_sum 26 = .ok (.iload_n 2, 1) := by decide +kernel
theorem dX2_sum_27 : decode cX2_sum 27 = .ok (.invokevirtual 90, 3) := by decide +kernel
theorem dX2_sum_30 : decode cX2_sum 30 = .ok (.iconst 0, 1) := by decide +kernel
theorem dX2_sum_31 : decode cX2_sum 31 = .ok (.istore 5, 2) := by decide +kernel
theorem dX2_sum_33 : decode cX2_sum 33 = .ok (.iload 5, 2) := by decide +kernel
theorem dX2_sum_35 : decode cX2_sum 35 = .ok (.aload_n 0, 1) := by decide +kernel
theorem dX2_sum_36 : decode cX2_sum 36 = .ok (.getfield 94, 3) := by decide +kernel
theorem dX2_sum_39 : decode cX2_sum 39 = .ok (.if_icmp .ge 30, 3) := by decide +kernel
theorem dX2_sum_42 : decode cX2_sum 42 = .ok (.iload_n 3, 1) := by decide +kernel
theorem dX2_sum_43 : decode cX2_sum 43 = .ok (.iload 5, 2) := by decide +kernel
theorem dX2_sum_45 : decode cX2_sum 45 = .ok (.ishr, 1) := by decide +kernel
theorem dX2_sum_46 : decode cX2_sum 46 = .ok (.iconst 1, 1) := by decide +kernel
theorem dX2_sum_47 : decode cX2_sum 47 = .ok (.iand, 1) := by decide +kernel
theorem dX2_sum_48 : decode cX2_sum 48 = .ok (.ifCond .eq 15, 3) := by decide +kernel
theorem dX2_sum_51 : decode cX2_sum 51 = .ok (.aload_n 0, 1) := by decide +kernel
theorem dX2_sum_52 : decode cX2_sum 52 = .ok (.aload_n 0, 1) := by decide +kernel
theorem dX2_sum_53 : decode cX2_sum 53 = .ok (.iload 5, 2) := by decide +kernel
theorem dX2_sum_55 : decode cX2_sum 55 = .ok (.invokevirtual 64, 3) := by decide +kernel
theorem dX2_sum_58 : decode cX2_sum 58 = .ok (.iload 4, 2) := by decide +kernel
theorem dX2_sum_60 : decode cX2_sum 60 = .ok (.invokevirtual 97, 3) := by decide +kernel
theorem dX2_sum_63 : decode cX2_sum 63 = .ok (.iinc 5 1, 3) := by decide +kernel
theorem dX2_sum_66 : decode cX2_sum 66 = .ok (.goto (-33), 3) := by decide +kernel
theorem dX2_sum_69 : decode cX2_sum 69 = .ok (.aload_n 0, 1) := by decide +kernel
theorem dX2_sum_70 : decode cX2_sum 70 = .ok (.iload_n 1, 1) := by decide +kernel
theorem dX2_sum_71 : decode cX2_sum 71 = .ok (.invokevirtual 72, 3) := by decide +kernel
theorem dX2_sum_74 : decode cX2_sum 74 = .ok (.ireturn, 1) := by decide +kernel
theorem dX2_trade_0 : decode cX2_trade 0 = .ok (.iload_n 1, 1) := by decide +kernel
theorem dX2_trade_1 : decode cX2_trade 1 = .ok (.invokestatic 40, 3) := by decide +kernel
theorem dX2_trade_4 : decode cX2_trade 4 = .ok (.ifCond .eq 27, 3) := by decide +kernel
theorem dX2_trade_7 : decode cX2_trade 7 = .ok (.iload_n 2, 1) := by decide +kernel
theorem dX2_trade_8 : decode cX2_trade 8 = .ok (.invokestatic 40, 3) := by decide +kernel
theorem dX2_trade_11 : decode cX2_trade 11 = .ok (.ifCond .eq 20, 3) := by decide +kernel
theorem dX2_trade_14 : decode cX2_trade 14 = .ok (.aload_n 0, 1) := by decide +kernel
theorem dX2_trade_15 : decode cX2_trade 15 = .ok (.iload_n 3, 1) := by decide +kernel
theorem dX2_trade_16 : decode cX2_trade 16 = .ok (.invokevirtual 61, 3) := by decide +kernel
theorem dX2_trade_19 : decode cX2_trade 19 = .ok (.ifCond .eq 12, 3) := by decide +kernel
theorem dX2_trade_22 : decode cX2_trade 22 = .ok (.aload_n 0, 1) := by decide +kernel
theorem dX2_trade_23 : decode cX2_trade 23 = .ok (.iload 4, 2) := by decide +kernel
theorem dX2_trade_25 : decode cX2_trade 25 = .ok (.invokevirtual 61, 3) := by decide +kernel
theorem dX2_trade_28 : decode cX2_trade 28 = .ok (.ifCond .ne 6, 3) := by decide +kernel
theorem dX2_trade_31 : decode cX2_trade 31 = .ok (.bipush (-2), 2) := by decide +kernel
theorem dX2_trade_33 : decode cX2_trade 33 = .ok (.ireturn, 1) := by decide +kernel
theorem dX2_trade_34 : decode cX2_trade 34 = .ok (.aload_n 0, 1) := by decide +kernel
theorem dX2_trade_35 : decode cX2_trade 35 = .ok (.iload_n 2, 1) := by decide +kernel
theorem dX2_trade_36 : decode cX2_trade 36 = .ok (.invokevirtual 90, 3) := by decide +kernel
theorem dX2_trade_39 : decode cX2_trade 39 = .ok (.aload_n 0, 1) := by decide +kernel
theorem dX2_trade_40 : decode cX2_trade 40 = .ok (.getfield 13, 3) := by decide +kernel
theorem dX2_trade_43 : decode cX2_trade 43 = .ok (.bipush 32, 2) := by decide +kernel
theorem dX2_trade_45 : decode cX2_trade 45 = .ok (.aaload, 1) := by decide +kernel
theorem dX2_trade_46 : decode cX2_trade 46 = .ok (.aload_n 0, 1) := by decide +kernel
theorem dX2_trade_47 : decode cX2_trade 47 = .ok (.getfield 44, 3) := by decide +kernel
theorem dX2_trade_50 : decode cX2_trade 50 = .ok (.aload_n 0, 1) := by decide +kernel
theorem dX2_trade_51 : decode cX2_trade 51 = .ok (.iload_n 3, 1) := by decide +kernel
theorem dX2_trade_52 : decode cX2_trade 52 = .ok (.invokevirtual 64, 3) := by decide +kernel
theorem dX2_trade_55 : decode cX2_trade 55 = .ok (.aload_n 0, 1) := by decide +kernel
theorem dX2_trade_56 : decode cX2_trade 56 = .ok (.iload 4, 2) := by decide +kernel
theorem dX2_trade_58 : decode cX2_trade 58 = .ok (.invokevirtual 64, 3) := by decide +kernel
theorem dX2_trade_61 : decode cX2_trade 61 = .ok (.invokestatic 101, 3) := by decide +kernel
theorem dX2_trade_64 : decode cX2_trade 64 = .ok (.aload_n 0, 1) := by decide +kernel
theorem dX2_trade_65 : decode cX2_trade 65 = .ok (.iload_n 1, 1) := by decide +kernel
theorem dX2_trade_66 : decode cX2_trade 66 = .ok (.invokevirtual 72, 3) := by decide +kernel
theorem dX2_trade_69 : decode cX2_trade 69 = .ok (.ireturn, 1) := by decide +kernel
theorem dX2_near_0 : decode cX2_near 0 = .ok (.iload_n 1, 1) := by decide +kernel
theorem dX2_near_1 : decode cX2_near 1 = .ok (.invokestatic 40, 3) := by decide +kernel
theorem dX2_near_4 : decode cX2_near 4 = .ok (.ifCond .eq 17, 3) := by decide +kernel
theorem dX2_near_7 : decode cX2_near 7 = .ok (.iload_n 2, 1) := by decide +kernel
theorem dX2_near_8 : decode cX2_near 8 = .ok (.invokestatic 40, 3) := by decide +kernel
theorem dX2_near_11 : decode cX2_near 11 = .ok (.ifCond .eq 10, 3) := by decide +kernel
theorem dX2_near_14 : decode cX2_near 14 = .ok (.iload_n 3, 1) := by decide +kernel
theorem dX2_near_15 : decode cX2_near 15 = .ok (.invokestatic 40, 3) := by decide +kernel
theorem dX2_near_18 : decode cX2_near 18 = .ok (.ifCond .ne 6, 3) := by decide +kernel
theorem dX2_near_21 : decode cX2_near 21 = .ok (.bipush (-2), 2) := by decide +kernel
theorem dX2_near_23 : decode cX2_near 23 = .ok (.ireturn, 1) := by decide +kernel
theorem dX2_near_24 : decode cX2_near 24 = .ok (.aload_n 0, 1) := by decide +kernel
theorem dX2_near_25 : decode cX2_near 25 = .ok (.iload_n 3, 1) := by decide +kernel
theorem dX2_near_26 : decode cX2_near 26 = .ok (.lconst 0, 1) := by decide +kernel
theorem dX2_near_27 : decode cX2_near 27 = .ok (.invokevirtual 105, 3) := by decide +kernel
theorem dX2_near_30 : decode cX2_near 30 = .ok (.ifCond .eq 6, 3) := by decide +kernel
theorem dX2_near_33 : decode cX2_near 33 = .ok (.bipush (-3), 2) := by decide +kernel
theorem dX2_near_35 : decode cX2_near 35 = .ok (.ireturn, 1) := by decide +kernel
theorem dX2_near_36 : decode cX2_near 36 = .ok (.aload_n 0, 1) := by decide +kernel
theorem dX2_near_37 : decode cX2_near 37 = .ok (.aload_n 0, 1) := by decide +kernel
theorem dX2_near_38 : decode cX2_near 38 = .ok (.getfield 13, 3) := by decide +kernel
theorem dX2_near_41 : decode cX2_near 41 = .ok (.iload_n 3, 1) := by decide +kernel
theorem dX2_near_42 : decode cX2_near 42 = .ok (.aaload, 1) := by decide +kernel
theorem dX2_near_43 : decode cX2_near 43 = .ok (.aload_n 0, 1) := by decide +kernel
theorem dX2_near_44 : decode cX2_near 44 = .ok (.getfield 23, 3) := by decide +kernel
theorem dX2_near_47 : decode cX2_near 47 = .ok (.aload_n 0, 1) := by decide +kernel
theorem dX2_near_48 : decode cX2_near 48 = .ok (.getfield 26, 3) := by decide +kernel
theorem dX2_near_51 : decode cX2_near 51 = .ok (.invokevirtual 109, 3) := by decide +kernel
theorem dX2_near_54 : decode cX2_near 54 = .ok (.iconst 1, 1) := by decide +kernel
theorem dX2_near_55 : decode cX2_near 55 = .ok (.aload_n 0, 1) := by decide +kernel
theorem dX2_near_56 : decode cX2_near 56 = .ok (.getfield 94, 3) := by decide +kernel
theorem dX2_near_59 : decode cX2_near 59 = .ok (.ishl, 1) := by decide +kernel
theorem dX2_near_60 : decode cX2_near 60 = .ok (.istore 4, 2) := by decide +kernel
theorem dX2_near_62 : decode cX2_near 62 = .ok (.aload_n 0, 1) := by decide +kernel
theorem dX2_near_63 : decode cX2_near 63 = .ok (.getfield 13, 3) := by decide +kernel
theorem dX2_near_66 : decode cX2_near 66 = .ok (.bipush 32, 2) := by decide +kernel
theorem dX2_near_68 : decode cX2_near 68 = .ok (.aaload, 1) := by decide +kernel
theorem dX2_near_69 : decode cX2_near 69 = .ok (.astore 5, 2) := by decide +kernel
theorem dX2_near_71 : decode cX2_near 71 = .ok (.aload 5, 2) := by decide +kernel
theorem dX2_near_73 : decode cX2_near 73 = .ok (.iconst 0, 1) := by decide +kernel
theorem dX2_near_74 : decode cX2_near 74 = .ok (.aload_n 0, 1) := by decide +kernel
theorem dX2_near_75 : decode cX2_near 75 = .ok (.getfield 44, 3) := by decide +kernel
theorem dX2_near_78 : decode cX2_near 78 = .ok (.lconst 0, 1) := by decide +kernel
theorem dX2_near_79 : decode cX2_near 79 = .ok (.invokestatic 52, 3) := by decide +kernel
theorem dX2_near_82 : decode cX2_near 82 = .ok (.iconst 0, 1) := by decide +kernel
theorem dX2_near_83 : decode cX2_near 83 = .ok (.istore 6, 2) := by decide +kernel
theorem dX2_near_85 : decode cX2_near 85 = .ok (.iload 6, 2) := by decide +kernel
theorem dX2_near_87 : decode cX2_near 87 = .ok (.iload 4, 2) := by decide +kernel
theorem dX2_near_89 : decode cX2_near 89 = .ok (.if_icmp .ge 41, 3) := by decide +kernel
theorem dX2_near_92 : decode cX2_near 92 = .ok (.aload_n 0, 1) := by decide +kernel
theorem dX2_near_93 : decode cX2_near 93 = .ok (.getfield 13, 3) := by decide +kernel
theorem dX2_near_96 : decode cX2_near 96 = .ok (.iload_n 2, 1) := by decide +kernel
theorem dX2_near_97 : decode cX2_near 97 = .ok (.aaload, 1) := by decide +kernel
theorem dX2_near_98 : decode cX2_near 98 = .ok (.aload_n 0, 1) := by decide +kernel
theorem dX2_near_99 : decode cX2_near 99 = .ok (.getfield 26, 3) := by decide +kernel
theorem dX2_near_102 : decode cX2_near 102 = .ok (.iload 4, 2) := by decide +kernel
theorem dX2_near_104 : decode cX2_near 104 = .ok (.iload 6, 2) := by decide +kernel
theorem dX2_near_106 : decode cX2_near 106 = .ok (.iadd, 1) := by decide +kernel
theorem dX2_near_107 : decode cX2_near 107 = .ok (.iaload, 1) := by decide +kernel
theorem dX2_near_108 : decode cX2_near 108 = .ok (.iload 4, 2) := by decide +kernel
theorem dX2_near_110 : decode cX2_near 110 = .ok (.isub, 1) := by decide +kernel
theorem dX2_near_111 : decode cX2_near 111 = .ok (.invokestatic 113, 3) := by decide +kernel
theorem dX2_near_114 : decode cX2_near 114 = .ok (.ifCond .eq 10, 3) := by decide +kernel
theorem dX2_near_117 : decode cX2_near 117 = .ok (.aload 5, 2) := by decide +kernel
theorem dX2_near_119 : decode cX2_near 119 = .ok (.iload 6, 2) := by decide +kernel
theorem dX2_near_121 : decode cX2_near 121 = .ok (.invokestatic 117, 3) := by decide +kernel
theorem dX2_near_124 : decode cX2_near 124 = .ok (.iinc 6 1, 3) := by decide +kernel
theorem dX2_near_127 : decode cX2_near 127 = .ok (.goto (-42), 3) := by decide +kernel
theorem dX2_near_130 : decode cX2_near 130 = .ok (.aload_n 0, 1) := by decide +kernel
theorem dX2_near_131 : decode cX2_near 131 = .ok (.iload_n 1, 1) := by decide +kernel
theorem dX2_near_132 : decode cX2_near 132 = .ok (.invokevirtual 72, 3) := by decide +kernel
theorem dX2_near_135 : decode cX2_near 135 = .ok (.ireturn, 1) := by decide +kernel
theorem dX2_copy_0 : decode cX2_copy 0 = .ok (.iload_n 1, 1) := by decide +kernel
theorem dX2_copy_1 : decode cX2_copy 1 = .ok (.invokestatic 40, 3) := by decide +kernel
theorem dX2_copy_4 : decode cX2_copy 4 = .ok (.ifCond .eq 10, 3) := by decide +kernel
theorem dX2_copy_7 : decode cX2_copy 7 = .ok (.iload_n 2, 1) := by decide +kernel
theorem dX2_copy_8 : decode cX2_copy 8 = .ok (.invokestatic 40, 3) := by decide +kernel
theorem dX2_copy_11 : decode cX2_copy 11 = .ok (.ifCond .ne 6, 3) := by decide +kernel
theorem dX2_copy_14 : decode cX2_copy 14 = .ok (.bipush (-2), 2) := by decide +kernel
theorem dX2_copy_16 : decode cX2_copy 16 = .ok (.ireturn, 1) := by decide +kernel
theorem dX2_copy_17 : decode cX2_copy 17 = .ok (.aload_n 0, 1) := by decide +kernel
theorem dX2_copy_18 : decode cX2_copy 18 = .ok (.getfield 13, 3) := by decide +kernel
theorem dX2_copy_21 : decode cX2_copy 21 = .ok (.iload_n 2, 1) := by decide +kernel
theorem dX2_copy_22 : decode cX2_copy 22 = .ok (.aaload, 1) := by decide +kernel
theorem dX2_copy_23 : decode cX2_copy 23 = .ok (.iconst 0, 1) := by decide +kernel
theorem dX2_copy_24 : decode cX2_copy 24 = .ok (.aload_n 0, 1) := by decide +kernel
theorem dX2_copy_25 : decode cX2_copy 25 = .ok (.getfield 13, 3) := by decide +kernel
theorem dX2_copy_28 : decode cX2_copy 28 = .ok (.iload_n 1, 1) := by decide +kernel
theorem dX2_copy_29 : decode cX2_copy 29 = .ok (.aaload, 1) := by decide +kernel
theorem dX2_copy_30 : decode cX2_copy 30 = .ok (.iconst 0, 1) := by decide +kernel
theorem dX2_copy_31 : decode cX2_copy 31 = .ok (.aload_n 0, 1) := by decide +kernel
theorem dX2_copy_32 : decode cX2_copy 32 = .ok (.getfield 44, 3) := by decide +kernel
theorem dX2_copy_35 : decode cX2_copy 35 = .ok (.invokestatic 121, 3) := by decide +kernel
theorem dX2_copy_38 : decode cX2_copy 38 = .ok (.aload_n 0, 1) := by decide +kernel
theorem dX2_copy_39 : decode cX2_copy 39 = .ok (.invokevirtual 58, 3) := by decide +kernel
theorem dX2_copy_42 : decode cX2_copy 42 = .ok (.iconst 0, 1) := by decide +kernel
theorem dX2_copy_43 : decode cX2_copy 43 = .ok (.ireturn, 1) := by decide +kernel
theorem dX2_swap_0 : decode cX2_swap 0 = .ok (.aload_n 0, 1) := by decide +kernel
theorem dX2_swap_1 : decode cX2_swap 1 = .ok (.iload_n 1, 1) := by decide +kernel
theorem dX2_swap_2 : decode cX2_swap 2 = .ok (.invokevirtual 127, 3) := by decide +kernel
theorem dX2_swap_5 : decode cX2_swap 5 = .ok (.ifCond .eq 13, 3) := by decide +kernel
theorem dX2_swap_8 : decode cX2_swap 8 = .ok (.iload_n 1, 1) := by decide +kernel
theorem dX2_swap_9 : decode cX2_swap 9 = .ok (.aload_n 0, 1) := by decide +kernel
theorem dX2_swap_10 : decode cX2_swap 10 = .ok (.getfield 94, 3) := by decide +kernel
theorem dX2_swap_13 : decode cX2_swap 13 = .ok (.iconst 1, 1) := by decide +kernel
theorem dX2_swap_14 : decode cX2_swap 14 = .ok (.isub, 1) := by decide +kernel
theorem dX2_swap_15 : decode cX2_swap 15 = .ok (.if_icmp .ne 6, 3) := by decide +kernel
theorem dX2_swap_18 : decode cX2_swap 18 = .ok (.bipush (-2), 2) := by decide +kernel
theorem dX2_swap_20 : decode cX2_swap 20 = .ok (.ireturn, 1) := by decide +kernel
theorem dX2_swap_21 : decode cX2_swap 21 = .ok (.aload_n 0, 1) := by decide +kernel
theorem dX2_swap_22 : decode cX2_swap 22 = .ok (.iload_n 1, 1) := by decide +kernel
theorem dX2_swap_23 : decode cX2_swap 23 = .ok (.invokevirtual 130, 3) := by decide +kernel
theorem dX2_swap_26 : decode cX2_swap 26 = .ok (.aload_n 0, 1) := by decide +kernel
theorem dX2_swap_27 : decode cX2_swap 27 = .ok (.invokevirtual 133, 3) := by decide +kernel
theorem dX2_swap_30 : decode cX2_swap 30 = .ok (.aload_n 0, 1) := by decide +kernel
theorem dX2_swap_31 : decode cX2_swap 31 = .ok (.getfield 137, 3) := by decide +kernel
theorem dX2_swap_34 : decode cX2_swap 34 = .ok (.if_icmp .le 11, 3) := by decide +kernel
theorem dX2_swap_37 : decode cX2_swap 37 = .ok (.aload_n 0, 1) := by decide +kernel
theorem dX2_swap_38 : decode cX2_swap 38 = .ok (.iload_n 1, 1) := by decide +kernel
theorem dX2_swap_39 : decode cX2_swap 39 = .ok (.invokevirtual 130, 3) := by decide +kernel
theorem dX2_swap_42 : decode cX2_swap 42 = .ok (.bipush (-8), 2) := by decide +kernel
theorem dX2_swap_44 : decode cX2_swap 44 = .ok (.ireturn, 1) := by decide +kernel
theorem dX2_swap_45 : decode cX2_swap 45 = .ok (.aload_n 0, 1) := by decide +kernel
theorem dX2_swap_46 : decode cX2_swap 46 = .ok (.invokevirtual 58, 3) := by decide +kernel
theorem dX2_swap_49 : decode cX2_swap 49 = .ok (.iconst 0, 1) := by decide +kernel
theorem dX2_swap_50 : decode cX2_swap 50 = .ok (.ireturn, 1) := by decide +kernel
theorem dX2_sift_0 : decode cX2_sift 0 = .ok (.aload_n 0, 1) := by decide +kernel
theorem dX2_sift_1 : decode cX2_sift 1 = .ok (.iload_n 1, 1) := by decide +kernel
theorem dX2_sift_2 : decode cX2_sift 2 = .ok (.invokevirtual 61, 3) := by decide +kernel
theorem dX2_sift_5 : decode cX2_sift 5 = .ok (.ifCond .ne 6, 3) := by decide +kernel
theorem dX2_sift_8 : decode cX2_sift 8 = .ok (.bipush (-2), 2) := by decide +kernel
theorem dX2_sift_10 : decode cX2_sift 10 = .ok (.ireturn, 1) := by decide +kernel
theorem dX2_sift_11 : decode cX2_sift 11 = .ok (.aload_n 0, 1) := by decide +kernel
theorem dX2_sift_12 : decode cX2_sift 12 = .ok (.iload_n 1, 1) := by decide +kernel
theorem dX2_sift_13 : decode cX2_sift 13 = .ok (.invokevirtual 140, 3) := by decide +kernel
theorem dX2_sift_16 : decode cX2_sift 16 = .ok (.iconst 1, 1) := by decide +kernel
theorem dX2_sift_17 : decode cX2_sift 17 = .ok (.isub, 1) := by decide +kernel
theorem dX2_sift_18 : decode cX2_sift 18 = .ok (.istore_n 2, 1) := by decide +kernel
theorem dX2_sift_19 : decode cX2_sift 19 = .ok (.iload_n 2, 1) := by decide +kernel
theorem dX2_sift_20 : decode cX2_sift 20 = .ok (.ifCond .lt 14, 3) := by decide +kernel
theorem dX2_sift_23 : decode cX2_sift 23 = .ok (.aload_n 0, 1) := by decide +kernel
theorem dX2_sift_24 : decode cX2_sift 24 = .ok (.iload_n 2, 1) := by decide +kernel
theorem dX2_sift_25 : decode cX2_sift 25 = .ok (.invokevirtual 130, 3) := by decide +kernel
theorem dX2_sift_28 : decode cX2_sift 28 = .ok (.iinc 2 (-1), 3) := by decide +kernel
theorem dX2_sift_31 : decode cX2_sift 31 = .ok (.goto (-12), 3) := by decide +kernel
theorem dX2_sift_34 : decode cX2_sift 34 = .ok (.aload_n 0, 1) := by decide +kernel
theorem dX2_sift_35 : decode cX2_sift 35 = .ok (.invokevirtual 143, 3) := by decide +kernel
theorem dX2_sift_38 : decode cX2_sift 38 = .ok (.istore_n 2, 1) := by decide +kernel
theorem dX2_sift_39 : decode cX2_sift 39 = .ok (.aload_n 0, 1) := by decide +kernel
theorem dX2_sift_40 : decode cX2_sift 40 = .ok (.getfield 94, 3) := by decide +kernel
theorem dX2_sift_43 : decode cX2_sift 43 = .ok (.iconst 2, 1) := by decide +kernel
theorem dX2_sift_44 : decode cX2_sift 44 = .ok (.isub, 1) := by decide +kernel
theorem dX2_sift_45 : decode cX2_sift 45 = .ok (.istore_n 3, 1) := by decide +kernel
theorem dX2_sift_46 : decode cX2_sift 46 = .ok (.iload_n 3, 1) := by decide +kernel
theorem dX2_sift_47 : decode cX2_sift 47 = .ok (.iload_n 2, 1) := by decide +kernel
theorem dX2_sift_48 : decode cX2_sift 48 = .ok (.if_icmp .lt 14, 3) := by decide +kernel
theorem dX2_sift_51 : decode cX2_sift 51 = .ok (.aload_n 0, 1) := by decide +kernel
theorem dX2_sift_52 : decode cX2_sift 52 = .ok (.iload_n 3, 1) := by decide +kernel
theorem dX2_sift_53 : decode cX2_sift 53 = .ok (.invokevirtual 130, 3) := by decide +kernel
theorem dX2_sift_56 : decode cX2_sift 56 = .ok (.iinc 3 (-1), 3) := by decide +kernel
theorem dX2_sift_59 : decode cX2_sift 59 = .ok (.goto (-13), 3) := by decide +kernel
theorem dX2_sift_62 : decode cX2_sift 62 = .ok (.aload_n 0, 1) := by decide +kernel
theorem dX2_sift_63 : decode cX2_sift 63 = .ok (.invokevirtual 58, 3) := by decide +kernel
theorem dX2_sift_66 : decode cX2_sift 66 = .ok (.iload_n 2, 1) := by decide +kernel
theorem dX2_sift_67 : decode cX2_sift 67 = .ok (.ireturn, 1) := by decide +kernel
theorem dX2_cost_0 : decode cX2_cost 0 = .ok (.aload_n 0, 1) := by decide +kernel
theorem dX2_cost_1 : decode cX2_cost 1 = .ok (.iload_n 1, 1) := by decide +kernel
theorem dX2_cost_2 : decode cX2_cost 2 = .ok (.invokevirtual 61, 3) := by decide +kernel
theorem dX2_cost_5 : decode cX2_cost 5 = .ok (.ifCond .eq 13, 3) := by decide +kernel
theorem dX2_cost_8 : decode cX2_cost 8 = .ok (.iload_n 2, 1) := by decide +kernel
theorem dX2_cost_9 : decode cX2_cost 9 = .ok (.ifCond .lt 9, 3) := by decide +kernel
theorem dX2_cost_12 : decode cX2_cost 12 = .ok (.iload_n 2, 1) := by decide +kernel
theorem dX2_cost_13 : decode cX2_cost 13 = .ok (.ldc 146, 2) := by decide +kernel
theorem dX2_cost_15 : decode cX2_cost 15 = .ok (.if_icmp .le 6, 3) := by decide +kernel
theorem dX2_cost_18 : decode cX2_cost 18 = .ok (.bipush (-2), 2) := by decide +kernel
theorem dX2_cost_20 : decode cX2_cost 20 = .ok (.ireturn, 1) := by decide +kernel
theorem dX2_cost_21 : decode cX2_cost 21 = .ok (.aload_n 0, 1) := by decide +kernel
theorem dX2_cost_22 : decode cX2_cost 22 = .ok (.getfield 20, 3) := by decide +kernel
theorem dX2_cost_25 : decode cX2_cost 25 = .ok (.iload_n 1, 1) := by decide +kernel
theorem dX2_cost_26 : decode cX2_cost 26 = .ok (.iaload, 1) := by decide +kernel
theorem dX2_cost_27 : decode cX2_cost 27 = .ok (.istore_n 3, 1) := by decide +kernel
theorem dX2_cost_28 : decode cX2_cost 28 = .ok (.aload_n 0, 1) := by decide +kernel
theorem dX2_cost_29 : decode cX2_cost 29 = .ok (.getfield 20, 3) := by decide +kernel
theorem dX2_cost_32 : decode cX2_cost 32 = .ok (.iload_n 1, 1) := by decide +kernel
theorem dX2_cost_33 : decode cX2_cost 33 = .ok (.iload_n 2, 1) := by decide +kernel
theorem dX2_cost_34 : decode cX2_cost 34 = .ok (.iastore, 1) := by decide +kernel
theorem dX2_cost_35 : decode cX2_cost 35 = .ok (.iload_n 3, 1) := by decide +kernel
theorem dX2_cost_36 : decode cX2_cost 36 = .ok (.ireturn, 1) := by decide +kernel
theorem dX2_same_0 : decode cX2_same 0 = .ok (.iload_n 1, 1) := by decide +kernel
theorem dX2_same_1 : decode cX2_same 1 = .ok (.invokestatic 40, 3) := by decide +kernel
theorem dX2_same_4 : decode cX2_same 4 = .ok (.ifCond .eq 10, 3) := by decide +kernel
theorem dX2_same_7 : decode cX2_same 7 = .ok (.iload_n 2, 1) := by decide +kernel
theorem dX2_same_8 : decode cX2_same 8 = .ok (.invokestatic 40, 3) := by decide +kernel
theorem dX2_same_11 : decode cX2_same 11 = .ok (.ifCond .ne 6, 3) := by decide +kernel
theorem dX2_same_14 : decode cX2_same 14 = .ok (.bipush (-2), 2) := by decide +kernel
theorem dX2_same_16 : decode cX2_same 16 = .ok (.ireturn, 1) := by decide +kernel
theorem dX2_same_17 : decode cX2_same 17 = .ok (.aload_n 0, 1) := by decide +kernel
theorem dX2_same_18 : decode cX2_same 18 = .ok (.getfield 13, 3) := by decide +kernel
theorem dX2_same_21 : decode cX2_same 21 = .ok (.iload_n 1, 1) := by decide +kernel
theorem dX2_same_22 : decode cX2_same 22 = .ok (.aaload, 1) := by decide +kernel
theorem dX2_same_23 : decode cX2_same 23 = .ok (.iconst 0, 1) := by decide +kernel
theorem dX2_same_24 : decode cX2_same 24 = .ok (.aload_n 0, 1) := by decide +kernel
theorem dX2_same_25 : decode cX2_same 25 = .ok (.getfield 13, 3) := by decide +kernel
theorem dX2_same_28 : decode cX2_same 28 = .ok (.iload_n 2, 1) := by decide +kernel
theorem dX2_same_29 : decode cX2_same 29 = .ok (.aaload, 1) := by decide +kernel
theorem dX2_same_30 : decode cX2_same 30 = .ok (.iconst 0, 1) := by decide +kernel
theorem dX2_same_31 : decode cX2_same 31 = .ok (.iconst 1, 1) := by decide +kernel
theorem dX2_same_32 : decode cX2_same 32 = .ok (.aload_n 0, 1) := by decide +kernel
theorem dX2_same_33 : decode cX2_same 33 = .ok (.getfield 94, 3) := by decide +kernel
theorem dX2_same_36 : decode cX2_same 36 = .ok (.ishl, 1) := by decide +kernel
theorem dX2_same_37 : decode cX2_same 37 = .ok (.invokestatic 147, 3) := by decide +kernel
theorem dX2_same_40 : decode cX2_same 40 = .ok (.ifCond .eq 7, 3) := by decide +kernel
theorem dX2_same_43 : decode cX2_same 43 = .ok (.iconst 1, 1) := by decide +kernel
theorem dX2_same_44 : decode cX2_same 44 = .ok (.goto 4, 3) := by decide +kernel
theorem dX2_same_47 : decode cX2_same 47 = .ok (.iconst 0, 1) := by decide +kernel
theorem dX2_same_48 : decode cX2_same 48 = .ok (.ireturn, 1) := by decide +kernel
theorem dX2_tells_0 : decode cX2_tells 0 = .ok (.iload_n 1, 1) := by decide +kernel
theorem dX2_tells_1 : decode cX2_tells 1 = .ok (.invokestatic 40, 3) := by decide +kernel
theorem dX2_tells_4 : decode cX2_tells 4 = .ok (.ifCond .eq 11, 3) := by decide +kernel
theorem dX2_tells_7 : decode cX2_tells 7 = .ok (.aload_n 0, 1) := by decide +kernel
theorem dX2_tells_8 : decode cX2_tells 8 = .ok (.iload_n 2, 1) := by decide +kernel
theorem dX2_tells_9 : decode cX2_tells 9 = .ok (.invokevirtual 87, 3) := by decide +kernel
theorem dX2_tells_12 : decode cX2_tells 12 = .ok (.ifCond .ne 6, 3) := by decide +kernel
theorem dX2_tells_15 : decode cX2_tells 15 = .ok (.bipush (-2), 2) := by decide +kernel
theorem dX2_tells_17 : decode cX2_tells 17 = .ok (.ireturn, 1) := by decide +kernel
theorem dX2_tells_18 : decode cX2_tells 18 = .ok (.aload_n 0, 1) := by decide +kernel
theorem dX2_tells_19 : decode cX2_tells 19 = .ok (.getfield 13, 3) := by decide +kernel
theorem dX2_tells_22 : decode cX2_tells 22 = .ok (.iload_n 1, 1) := by decide +kernel
theorem dX2_tells_23 : decode cX2_tells 23 = .ok (.aaload, 1) := by decide +kernel
theorem dX2_tells_24 : decode cX2_tells 24 = .ok (.aload_n 0, 1) := by decide +kernel
theorem dX2_tells_25 : decode cX2_tells 25 = .ok (.iload_n 2, 1) := by decide +kernel
theorem dX2_tells_26 : decode cX2_tells 26 = .ok (.invokevirtual 151, 3) := by decide +kernel
theorem dX2_tells_29 : decode cX2_tells 29 = .ok (.invokestatic 113, 3) := by decide +kernel
theorem dX2_tells_32 : decode cX2_tells 32 = .ok (.ifCond .eq 7, 3) := by decide +kernel
theorem dX2_tells_35 : decode cX2_tells 35 = .ok (.iconst 1, 1) := by decide +kernel
theorem dX2_tells_36 : decode cX2_tells 36 = .ok (.goto 4, 3) := by decide +kernel
theorem dX2_tells_39 : decode cX2_tells 39 = .ok (.iconst 0, 1) := by decide +kernel
theorem dX2_tells_40 : decode cX2_tells 40 = .ok (.ireturn, 1) := by decide +kernel
theorem dX2_many_0 : decode cX2_many 0 = .ok (.iload_n 1, 1) := by decide +kernel
theorem dX2_many_1 : decode cX2_many 1 = .ok (.invokestatic 40, 3) := by decide +kernel
theorem dX2_many_4 : decode cX2_many 4 = .ok (.ifCond .ne 6, 3) := by decide +kernel
theorem dX2_many_7 : decode cX2_many 7 = .ok (.bipush (-2), 2) := by decide +kernel
theorem dX2_many_9 : decode cX2_many 9 = .ok (.ireturn, 1) := by decide +kernel
theorem dX2_many_10 : decode cX2_many 10 = .ok (.iconst 0, 1) := by decide +kernel
theorem dX2_many_11 : decode cX2_many 11 = .ok (.istore_n 2, 1) := by decide +kernel
theorem dX2_many_12 : decode cX2_many 12 = .ok (.iconst 0, 1) := by decide +kernel
theorem dX2_many_13 : decode cX2_many 13 = .ok (.istore_n 3, 1) := by decide +kernel
theorem dX2_many_14 : decode cX2_many 14 = .ok (.iload_n 3, 1) := by decide +kernel
theorem dX2_many_15 : decode cX2_many 15 = .ok (.aload_n 0, 1) := by decide +kernel
theorem dX2_many_16 : decode cX2_many 16 = .ok (.getfield 44, 3) := by decide +kernel
theorem dX2_many_19 : decode cX2_many 19 = .ok (.if_icmp .ge 23, 3) := by decide +kernel
theorem dX2_many_22 : decode cX2_many 22 = .ok (.iload_n 2, 1) := by decide +kernel
theorem dX2_many_23 : decode cX2_many 23 = .ok (.aload_n 0, 1) := by decide +kernel
theorem dX2_many_24 : decode cX2_many 24 = .ok (.getfield 13, 3) := by decide +kernel
theorem dX2_many_27 : decode cX2_many 27 = .ok (.iload_n 1, 1) := by decide +kernel
theorem dX2_many_28 : decode cX2_many 28 = .ok (.aaload, 1) := by decide +kernel
theorem dX2_many_29 : decode cX2_many 29 = .ok (.iload_n 3, 1) := by decide +kernel
theorem dX2_many_30 : decode cX2_many 30 = .ok (.laload, 1) := by decide +kernel
theorem dX2_many_31 : decode cX2_many 31 = .ok (.invokestatic 154, 3) := by decide +kernel
theorem dX2_many_34 : decode cX2_many 34 = .ok (.iadd, 1) := by decide +kernel
theorem dX2_many_35 : decode cX2_many 35 = .ok (.istore_n 2, 1) := by decide +kernel
theorem dX2_many_36 : decode cX2_many 36 = .ok (.iinc 3 1, 3) := by decide +kernel
theorem dX2_many_39 : decode cX2_many 39 = .ok (.goto (-25), 3) := by decide +kernel
theorem dX2_many_42 : decode cX2_many 42 = .ok (.iload_n 2, 1) := by decide +kernel
theorem dX2_many_43 : decode cX2_many 43 = .ok (.ireturn, 1) := by decide +kernel
theorem dX2_pick_0 : decode cX2_pick 0 = .ok (.iload_n 1, 1) := by decide +kernel
theorem dX2_pick_1 : decode cX2_pick 1 = .ok (.invokestatic 40, 3) := by decide +kernel
theorem dX2_pick_4 : decode cX2_pick 4 = .ok (.ifCond .ne 6, 3) := by decide +kernel
theorem dX2_pick_7 : decode cX2_pick 7 = .ok (.bipush (-2), 2) := by decide +kernel
theorem dX2_pick_9 : decode cX2_pick 9 = .ok (.ireturn, 1) := by decide +kernel
theorem dX2_pick_10 : decode cX2_pick 10 = .ok (.iload_n 2, 1) := by decide +kernel
theorem dX2_pick_11 : decode cX2_pick 11 = .ok (.ifCond .ge 5, 3) := by decide +kernel
theorem dX2_pick_14 : decode cX2_pick 14 = .ok (.iconst (-1), 1) := by decide +kernel
theorem dX2_pick_15 : decode cX2_pick 15 = .ok (.ireturn, 1) := by decide +kernel
theorem dX2_pick_16 : decode cX2_pick 16 = .ok (.aload_n 0, 1) := by decide +kernel
theorem dX2_pick_17 : decode cX2_pick 17 = .ok (.aload_n 0, 1) := by decide +kernel
theorem dX2_pick_18 : decode cX2_pick 18 = .ok (.getfield 23, 3) := by decide +kernel
theorem dX2_pick_21 : decode cX2_pick 21 = .ok (.invokevirtual 160, 3) := by decide +kernel
theorem dX2_pick_24 : decode cX2_pick 24 = .ok (.iconst 0, 1) := by decide +kernel
theorem dX2_pick_25 : decode cX2_pick 25 = .ok (.istore_n 3, 1) := by decide +kernel
theorem dX2_pick_26 : decode cX2_pick 26 = .ok (.iconst 0, 1) := by decide +kernel
theorem dX2_pick_27 : decode cX2_pick 27 = .ok (.istore 4, 2) := by decide +kernel
theorem dX2_pick_29 : decode cX2_pick 29 = .ok (.iload 4, 2) := by decide +kernel
theorem dX2_pick_31 : decode cX2_pick 31 = .ok (.iconst 1, 1) := by decide +kernel
theorem dX2_pick_32 : decode cX2_pick 32 = .ok (.aload_n 0, 1) := by decide +kernel
theorem dX2_pick_33 : decode cX2_pick 33 = .ok (.getfield 94, 3) := by decide +kernel
theorem dX2_pick_36 : decode cX2_pick 36 = .ok (.ishl, 1) := by decide +kernel
theorem dX2_pick_37 : decode cX2_pick 37 = .ok (.if_icmp .ge 39, 3) := by decide +kernel
theorem dX2_pick_40 : decode cX2_pick 40 = .ok (.aload_n 0, 1) := by decide +kernel
theorem dX2_pick_41 : decode cX2_pick 41 = .ok (.getfield 13, 3) := by decide +kernel
theorem dX2_pick_44 : decode cX2_pick 44 = .ok (.iload_n 1, 1) := by decide +kernel
theorem dX2_pick_45 : decode cX2_pick 45 = .ok (.aaload, 1) := by decide +kernel
theorem dX2_pick_46 : decode cX2_pick 46 = .ok (.aload_n 0, 1) := by decide +kernel
theorem dX2_pick_47 : decode cX2_pick 47 = .ok (.getfield 23, 3) := by decide +kernel
theorem dX2_pick_50 : decode cX2_pick 50 = .ok (.iload 4, 2) := by decide +kernel
theorem dX2_pick_52 : decode cX2_pick 52 = .ok (.iaload, 1) := by decide +kernel
theorem dX2_pick_53 : decode cX2_pick 53 = .ok (.invokestatic 113, 3) := by decide +kernel
theorem dX2_pick_56 : decode cX2_pick 56 = .ok (.ifCond .eq 14, 3) := by decide +kernel
theorem dX2_pick_59 : decode cX2_pick 59 = .ok (.iload_n 3, 1) := by decide +kernel
theorem dX2_pick_60 : decode cX2_pick 60 = .ok (.iload_n 2, 1) := by decide +kernel
theorem dX2_pick_61 : decode cX2_pick 61 = .ok (.if_icmp .ne 6, 3) := by decide +kernel
theorem dX2_pick_64 : decode cX2_pick 64 = .ok (.iload 4, 2) := by decide +kernel
theorem dX2_pick_66 : decode cX2_pick 66 = .ok (.ireturn, 1) := by decide +kernel
theorem dX2_pick_67 : decode cX2_pick 67 = .ok (.iinc 3 1, 3) := by decide +kernel
theorem dX2_pick_70 : decode cX2_pick 70 = .ok (.iinc 4 1, 3) := by decide +kernel
theorem dX2_pick_73 : decode cX2_pick 73 = .ok (.goto (-44), 3) := by decide +kernel
theorem dX2_pick_76 : decode cX2_pick 76 = .ok (.iconst (-1), 1) := by decide +kernel
theorem dX2_pick_77 : decode cX2_pick 77 = .ok (.ireturn, 1) := by decide +kernel
theorem dX2_cheapest_0 : decode cX2_cheapest 0 = .ok (.iload_n 1, 1) := by decide +kernel
theorem dX2_cheapest_1 : decode cX2_cheapest 1 = .ok (.invokestatic 40, 3) := by decide +kernel
theorem dX2_cheapest_4 : decode cX2_cheapest 4 = .ok (.ifCond .ne 6, 3) := by decide +kernel
theorem dX2_cheapest_7 : decode cX2_cheapest 7 = .ok (.bipush (-2), 2) := by decide +kernel
theorem dX2_cheapest_9 : decode cX2_cheapest 9 = .ok (.ireturn, 1) := by decide +kernel
theorem dX2_cheapest_10 : decode cX2_cheapest 10 = .ok (.aload_n 0, 1) := by decide +kernel
theorem dX2_cheapest_11 : decode cX2_cheapest 11 = .ok (.aload_n 0, 1) := by decide +kernel
theorem dX2_cheapest_12 : decode cX2_cheapest 12 = .ok (.getfield 23, 3) := by decide +kernel
theorem dX2_cheapest_15 : decode cX2_cheapest 15 = .ok (.invokevirtual 160, 3) := by decide +kernel
theorem dX2_cheapest_18 : decode cX2_cheapest 18 = .ok (.aload_n 0, 1) := by decide +kernel
theorem dX2_cheapest_19 : decode cX2_cheapest 19 = .ok (.aload_n 0, 1) := by decide +kernel
theorem dX2_cheapest_20 : decode cX2_cheapest 20 = .ok (.getfield 26, 3) := by decide +kernel
theorem dX2_cheapest_23 : decode cX2_cheapest 23 = .ok (.invokevirtual 164, 3) := by decide +kernel
theorem dX2_cheapest_26 : decode cX2_cheapest 26 = .ok (.iconst (-1), 1) := by decide +kernel
theorem dX2_cheapest_27 : decode cX2_cheapest 27 = .ok (.istore_n 2, 1) := by decide +kernel
theorem dX2_cheapest_28 : decode cX2_cheapest 28 = .ok (.iconst 0, 1) := by decide +kernel
theorem dX2_cheapest_29 : decode cX2_cheapest 29 = .ok (.istore_n 3, 1) := by decide +kernel
theorem dX2_cheapest_30 : decode cX2_cheapest 30 = .ok (.iload_n 3, 1) := by decide +kernel
theorem dX2_cheapest_31 : decode cX2_cheapest 31 = .ok (.iconst 1, 1) := by decide +kernel
theorem dX2_cheapest_32 : decode cX2_cheapest 32 = .ok (.aload_n 0, 1) := by decide +kernel
theorem dX2_cheapest_33 : decode cX2_cheapest 33 = .ok (.getfield 94, 3) := by decide +kernel
theorem dX2_cheapest_36 : decode cX2_cheapest 36 = .ok (.ishl, 1) := by decide +kernel
theorem dX2_cheapest_37 : decode cX2_cheapest 37 = .ok (.if_icmp .ge 49, 3) := by decide +kernel
theorem dX2_cheapest_40 : decode cX2_cheapest 40 = .ok (.aload_n 0, 1) := by decide +kernel
theorem dX2_cheapest_41 : decode cX2_cheapest 41 = .ok (.getfield 13, 3) := by decide +kernel
theorem dX2_cheapest_44 : decode cX2_cheapest 44 = .ok (.iload_n 1, 1) := by decide +kernel
theorem dX2_cheapest_45 : decode cX2_cheapest 45 = .ok (.aaload, 1) := by decide +kernel
theorem dX2_cheapest_46 : decode cX2_cheapest 46 = .ok (.aload_n 0, 1) := by decide +kernel
theorem dX2_cheapest_47 : decode cX2_cheapest 47 = .ok (.getfield 23, 3) := by decide +kernel
theorem dX2_cheapest_50 : decode cX2_cheapest 50 = .ok (.iload_n 3, 1) := by decide +kernel
theorem dX2_cheapest_51 : decode cX2_cheapest 51 = .ok (.iaload, 1) := by decide +kernel
theorem dX2_cheapest_52 : decode cX2_cheapest 52 = .ok (.invokestatic 113, 3) := by decide +kernel
theorem dX2_cheapest_55 : decode cX2_cheapest 55 = .ok (.ifCond .eq 25, 3) := by decide +kernel
theorem dX2_cheapest_58 : decode cX2_cheapest 58 = .ok (.iload_n 2, 1) := by decide +kernel
theorem dX2_cheapest_59 : decode cX2_cheapest 59 = .ok (.iconst (-1), 1) := by decide +kernel
theorem dX2_cheapest_60 : decode cX2_cheapest 60 = .ok (.if_icmp .eq 18, 3) := by decide +kernel
theorem dX2_cheapest_63 : decode cX2_cheapest 63 = .ok (.aload_n 0, 1) := by decide +kernel
theorem dX2_cheapest_64 : decode cX2_cheapest 64 = .ok (.getfield 26, 3) := by decide +kernel
theorem dX2_cheapest_67 : decode cX2_cheapest 67 = .ok (.iload_n 3, 1) := by decide +kernel
theorem dX2_cheapest_68 : decode cX2_cheapest 68 = .ok (.iaload, 1) := by decide +kernel
theorem dX2_cheapest_69 : decode cX2_cheapest 69 = .ok (.aload_n 0, 1) := by decide +kernel
theorem dX2_cheapest_70 : decode cX2_cheapest 70 = .ok (.getfield 26, 3) := by decide +kernel
theorem dX2_cheapest_73 : decode cX2_cheapest 73 = .ok (.iload_n 2, 1) := by decide +kernel
theorem dX2_cheapest_74 : decode cX2_cheapest 74 = .ok (.iaload, 1) := by decide +kernel
theorem dX2_cheapest_75 : decode cX2_cheapest 75 = .ok (.if_icmp .ge 5, 3) := by decide +kernel
theorem dX2_cheapest_78 : decode cX2_cheapest 78 = .ok (.iload_n 3, 1) := by decide +kernel
theorem dX2_cheapest_79 : decode cX2_cheapest 79 = .ok (.istore_n 2, 1) := by decide +kernel
theorem dX2_cheapest_80 : decode cX2_cheapest 80 = .ok (.iinc 3 1, 3) := by decide +kernel
theorem dX2_cheapest_83 : decode cX2_cheapest 83 = .ok (.goto (-53), 3) := by decide +kernel
theorem dX2_cheapest_86 : decode cX2_cheapest 86 = .ok (.iload_n 2, 1) := by decide +kernel
theorem dX2_cheapest_87 : decode cX2_cheapest 87 = .ok (.ireturn, 1) := by decide +kernel
theorem dX2_dearest_0 : decode cX2_dearest 0 = .ok (.iload_n 1, 1) := by decide +kernel
theorem dX2_dearest_1 : decode cX2_dearest 1 = .ok (.invokestatic 40, 3) := by decide +kernel
theorem dX2_dearest_4 : decode cX2_dearest 4 = .ok (.ifCond .ne 6, 3) := by decide +kernel
theorem dX2_dearest_7 : decode cX2_dearest 7 = .ok (.bipush (-2), 2) := by decide +kernel
theorem dX2_dearest_9 : decode cX2_dearest 9 = .ok (.ireturn, 1) := by decide +kernel
theorem dX2_dearest_10 : decode cX2_dearest 10 = .ok (.aload_n 0, 1) := by decide +kernel
theorem dX2_dearest_11 : decode cX2_dearest 11 = .ok (.aload_n 0, 1) := by decide +kernel
theorem dX2_dearest_12 : decode cX2_dearest 12 = .ok (.getfield 23, 3) := by decide +kernel
theorem dX2_dearest_15 : decode cX2_dearest 15 = .ok (.invokevirtual 160, 3) := by decide +kernel
theorem dX2_dearest_18 : decode cX2_dearest 18 = .ok (.aload_n 0, 1) := by decide +kernel
theorem dX2_dearest_19 : decode cX2_dearest 19 = .ok (.aload_n 0, 1) := by decide +kernel
theorem dX2_dearest_20 : decode cX2_dearest 20 = .ok (.getfield 26, 3) := by decide +kernel
theorem dX2_dearest_23 : decode cX2_dearest 23 = .ok (.invokevirtual 164, 3) := by decide +kernel
theorem dX2_dearest_26 : decode cX2_dearest 26 = .ok (.iconst (-1), 1) := by decide +kernel
theorem dX2_dearest_27 : decode cX2_dearest 27 = .ok (.istore_n 2, 1) := by decide +kernel
theorem dX2_dearest_28 : decode cX2_dearest 28 = .ok (.iconst 0, 1) := by decide +kernel
theorem dX2_dearest_29 : decode cX2_dearest 29 = .ok (.istore_n 3, 1) := by decide +kernel
theorem dX2_dearest_30 : decode cX2_dearest 30 = .ok (.iload_n 3, 1) := by decide +kernel
theorem dX2_dearest_31 : decode cX2_dearest 31 = .ok (.iconst 1, 1) := by decide +kernel
theorem dX2_dearest_32 : decode cX2_dearest 32 = .ok (.aload_n 0, 1) := by decide +kernel
theorem dX2_dearest_33 : decode cX2_dearest 33 = .ok (.getfield 94, 3) := by decide +kernel
theorem dX2_dearest_36 : decode cX2_dearest 36 = .ok (.ishl, 1) := by decide +kernel
theorem dX2_dearest_37 : decode cX2_dearest 37 = .ok (.if_icmp .ge 38, 3) := by decide +kernel
theorem dX2_dearest_40 : decode cX2_dearest 40 = .ok (.aload_n 0, 1) := by decide +kernel
theorem dX2_dearest_41 : decode cX2_dearest 41 = .ok (.getfield 13, 3) := by decide +kernel
theorem dX2_dearest_44 : decode cX2_dearest 44 = .ok (.iload_n 1, 1) := by decide +kernel
theorem dX2_dearest_45 : decode cX2_dearest 45 = .ok (.aaload, 1) := by decide +kernel
theorem dX2_dearest_46 : decode cX2_dearest 46 = .ok (.aload_n 0, 1) := by decide +kernel
theorem dX2_dearest_47 : decode cX2_dearest 47 = .ok (.getfield 23, 3) := by decide +kernel
theorem dX2_dearest_50 : decode cX2_dearest 50 = .ok (.iload_n 3, 1) := by decide +kernel
theorem dX2_dearest_51 : decode cX2_dearest 51 = .ok (.iaload, 1) := by decide +kernel
theorem dX2_dearest_52 : decode cX2_dearest 52 = .ok (.invokestatic 113, 3) := by decide +kernel
theorem dX2_dearest_55 : decode cX2_dearest 55 = .ok (.ifCond .eq 14, 3) := by decide +kernel
theorem dX2_dearest_58 : decode cX2_dearest 58 = .ok (.iload_n 2, 1) := by decide +kernel
theorem dX2_dearest_59 : decode cX2_dearest 59 = .ok (.aload_n 0, 1) := by decide +kernel
theorem dX2_dearest_60 : decode cX2_dearest 60 = .ok (.getfield 26, 3) := by decide +kernel
theorem dX2_dearest_63 : decode cX2_dearest 63 = .ok (.iload_n 3, 1) := by decide +kernel
theorem dX2_dearest_64 : decode cX2_dearest 64 = .ok (.iaload, 1) := by decide +kernel
theorem dX2_dearest_65 : decode cX2_dearest 65 = .ok (.invokestatic 167, 3) := by decide +kernel
theorem dX2_dearest_68 : decode cX2_dearest 68 = .ok (.istore_n 2, 1) := by decide +kernel
theorem dX2_dearest_69 : decode cX2_dearest 69 = .ok (.iinc 3 1, 3) := by decide +kernel
theorem dX2_dearest_72 : decode cX2_dearest 72 = .ok (.goto (-42), 3) := by decide +kernel
theorem dX2_dearest_75 : decode cX2_dearest 75 = .ok (.iload_n 2, 1) := by decide +kernel
theorem dX2_dearest_76 : decode cX2_dearest 76 = .ok (.ireturn, 1) := by decide +kernel
theorem dX2_letters_0 : decode cX2_letters 0 = .ok (.iload_n 1, 1) := by decide +kernel
theorem dX2_letters_1 : decode cX2_letters 1 = .ok (.invokestatic 40, 3) := by decide +kernel
theorem dX2_letters_4 : decode cX2_letters 4 = .ok (.ifCond .ne 6, 3) := by decide +kernel
theorem dX2_letters_7 : decode cX2_letters 7 = .ok (.bipush (-2), 2) := by decide +kernel
theorem dX2_letters_9 : decode cX2_letters 9 = .ok (.ireturn, 1) := by decide +kernel
theorem dX2_letters_10 : decode cX2_letters 10 = .ok (.iconst 0, 1) := by decide +kernel
theorem dX2_letters_11 : decode cX2_letters 11 = .ok (.istore_n 2, 1) := by decide +kernel
theorem dX2_letters_12 : decode cX2_letters 12 = .ok (.iconst 0, 1) := by decide +kernel
theorem dX2_letters_13 : decode cX2_letters 13 = .ok (.istore_n 3, 1) := by decide +kernel
theorem dX2_letters_14 : decode cX2_letters 14 = .ok (.iload_n 3, 1) := by decide +kernel
theorem dX2_letters_15 : decode cX2_letters 15 = .ok (.aload_n 0, 1) := by decide +kernel
theorem dX2_letters_16 : decode cX2_letters 16 = .ok (.getfield 94, 3) := by decide +kernel
theorem dX2_letters_19 : decode cX2_letters 19 = .ok (.if_icmp .ge 33, 3) := by decide +kernel
theorem dX2_letters_22 : decode cX2_letters 22 = .ok (.aload_n 0, 1) := by decide +kernel
theorem dX2_letters_23 : decode cX2_letters 23 = .ok (.aload_n 0, 1) := by decide +kernel
theorem dX2_letters_24 : decode cX2_letters 24 = .ok (.getfield 13, 3) := by decide +kernel
theorem dX2_letters_27 : decode cX2_letters 27 = .ok (.iload_n 1, 1) := by decide +kernel
theorem dX2_letters_28 : decode cX2_letters 28 = .ok (.aaload, 1) := by decide +kernel
theorem dX2_letters_29 : decode cX2_letters 29 = .ok (.aload_n 0, 1) := by decide +kernel
theorem dX2_letters_30 : decode cX2_letters 30 = .ok (.iload_n 3, 1) := by decide +kernel
theorem dX2_letters_31 : decode cX2_letters 31 = .ok (.invokevirtual 64, 3) := by decide +kernel
theorem dX2_letters_34 : decode cX2_letters 34 = .ok (.invokevirtual 173, 3) := by decide +kernel
theorem dX2_letters_37 : decode cX2_letters 37 = .ok (.ifCond .eq 9, 3) := by decide +kernel
theorem dX2_letters_40 : decode cX2_letters 40 = .ok (.iload_n 2, 1) := by decide +kernel
theorem dX2_letters_41 : decode cX2_letters 41 = .ok (.iconst 1, 1) := by decide +kernel
theorem dX2_letters_42 : decode cX2_letters 42 = .ok (.iload_n 3, 1) := by decide +kernel
theorem dX2_letters_43 : decode cX2_letters 43 = .ok (.ishl, 1) := by decide +kernel
theorem dX2_letters_44 : decode cX2_letters 44 = .ok (.ior, 1) := by decide +kernel
theorem dX2_letters_45 : decode cX2_letters 45 = .ok (.istore_n 2, 1) := by decide +kernel
theorem dX2_letters_46 : decode cX2_letters 46 = .ok (.iinc 3 1, 3) := by decide +kernel
theorem dX2_letters_49 : decode cX2_letters 49 = .ok (.goto (-35), 3) := by decide +kernel
theorem dX2_letters_52 : decode cX2_letters 52 = .ok (.iload_n 2, 1) := by decide +kernel
theorem dX2_letters_53 : decode cX2_letters 53 = .ok (.ireturn, 1) := by decide +kernel
theorem dX2_size_0 : decode cX2_size 0 = .ok (.iload_n 1, 1) := by decide +kernel
theorem dX2_size_1 : decode cX2_size 1 = .ok (.invokestatic 40, 3) := by decide +kernel
theorem dX2_size_4 : decode cX2_size 4 = .ok (.ifCond .ne 6, 3) := by decide +kernel
theorem dX2_size_7 : decode cX2_size 7 = .ok (.bipush (-2), 2) := by decide +kernel
theorem dX2_size_9 : decode cX2_size 9 = .ok (.ireturn, 1) := by decide +kernel
theorem dX2_size_10 : decode cX2_size 10 = .ok (.aload_n 0, 1) := by decide +kernel
theorem dX2_size_11 : decode cX2_size 11 = .ok (.iload_n 1, 1) := by decide +kernel
theorem dX2_size_12 : decode cX2_size 12 = .ok (.invokevirtual 176, 3) := by decide +kernel
theorem dX2_size_15 : decode cX2_size 15 = .ok (.ireturn, 1) := by decide +kernel
theorem dX2_width_0 : decode cX2_width 0 = .ok (.iload_n 1, 1) := by decide +kernel
theorem dX2_width_1 : decode cX2_width 1 = .ok (.invokestatic 40, 3) := by decide +kernel
theorem dX2_width_4 : decode cX2_width 4 = .ok (.ifCond .eq 11, 3) := by decide +kernel
theorem dX2_width_7 : decode cX2_width 7 = .ok (.aload_n 0, 1) := by decide +kernel
theorem dX2_width_8 : decode cX2_width 8 = .ok (.iload_n 2, 1) := by decide +kernel
theorem dX2_width_9 : decode cX2_width 9 = .ok (.invokevirtual 127, 3) := by decide +kernel
theorem dX2_width_12 : decode cX2_width 12 = .ok (.ifCond .ne 6, 3) := by decide +kernel
theorem dX2_width_15 : decode cX2_width 15 = .ok (.bipush (-2), 2) := by decide +kernel
theorem dX2_width_17 : decode cX2_width 17 = .ok (.ireturn, 1) := by decide +kernel
theorem dX2_width_18 : decode cX2_width 18 = .ok (.aload_n 0, 1) := by decide +kernel
theorem dX2_width_19 : decode cX2_width 19 = .ok (.iload_n 1, 1) := by decide +kernel
theorem dX2_width_20 : decode cX2_width 20 = .ok (.invokevirtual 176, 3) := by decide +kernel
theorem dX2_width_23 : decode cX2_width 23 = .ok (.pop, 1) := by decide +kernel
theorem dX2_width_24 : decode cX2_width 24 = .ok (.aload_n 0, 1) := by decide +kernel
theorem dX2_width_25 : decode cX2_width 25 = .ok (.getfield 32, 3) := by decide +kernel
theorem dX2_width_28 : decode cX2_width 28 = .ok (.getfield 179, 3) := by decide +kernel
theorem dX2_width_31 : decode cX2_width 31 = .ok (.iload_n 2, 1) := by decide +kernel
theorem dX2_width_32 : decode cX2_width 32 = .ok (.iaload, 1) := by decide +kernel
theorem dX2_width_33 : decode cX2_width 33 = .ok (.ireturn, 1) := by decide +kernel
theorem dX2_point_0 : decode cX2_point 0 = .ok (.iload_n 1, 1) := by decide +kernel
theorem dX2_point_1 : decode cX2_point 1 = .ok (.invokestatic 40, 3) := by decide +kernel
theorem dX2_point_4 : decode cX2_point 4 = .ok (.ifCond .ne 6, 3) := by decide +kernel
theorem dX2_point_7 : decode cX2_point 7 = .ok (.bipush (-2), 2) := by decide +kernel
theorem dX2_point_9 : decode cX2_point 9 = .ok (.ireturn, 1) := by decide +kernel
theorem dX2_point_10 : decode cX2_point 10 = .ok (.aload_n 0, 1) := by decide +kernel
theorem dX2_point_11 : decode cX2_point 11 = .ok (.iload_n 1, 1) := by decide +kernel
theorem dX2_point_12 : decode cX2_point 12 = .ok (.invokevirtual 182, 3) := by decide +kernel
theorem dX2_point_15 : decode cX2_point 15 = .ok (.iconst 0, 1) := by decide +kernel
theorem dX2_point_16 : decode cX2_point 16 = .ok (.ireturn, 1) := by decide +kernel
theorem dX2_go_0 : decode cX2_go 0 = .ok (.aload_n 0, 1) := by decide +kernel
theorem dX2_go_1 : decode cX2_go 1 = .ok (.invokevirtual 185, 3) := by decide +kernel
theorem dX2_go_4 : decode cX2_go 4 = .ok (.istore_n 2, 1) := by decide +kernel
theorem dX2_go_5 : decode cX2_go 5 = .ok (.iload_n 2, 1) := by decide +kernel
theorem dX2_go_6 : decode cX2_go 6 = .ok (.aload_n 0, 1) := by decide +kernel
theorem dX2_go_7 : decode cX2_go 7 = .ok (.getfield 94, 3) := by decide +kernel
theorem dX2_go_10 : decode cX2_go 10 = .ok (.if_icmp .ne 5, 3) := by decide +kernel
theorem dX2_go_13 : decode cX2_go 13 = .ok (.iconst 0, 1) := by decide +kernel
theorem dX2_go_14 : decode cX2_go 14 = .ok (.ireturn, 1) := by decide +kernel
theorem dX2_go_15 : decode cX2_go 15 = .ok (.iload_n 1, 1) := by decide +kernel
theorem dX2_go_16 : decode cX2_go 16 = .ok (.ifCond .eq 19, 3) := by decide +kernel
theorem dX2_go_19 : decode cX2_go 19 = .ok (.aload_n 0, 1) := by decide +kernel
theorem dX2_go_20 : decode cX2_go 20 = .ok (.dup, 1) := by decide +kernel
theorem dX2_go_21 : decode cX2_go 21 = .ok (.getfield 188, 3) := by decide +kernel
theorem dX2_go_24 : decode cX2_go 24 = .ok (.iconst 1, 1) := by decide +kernel
theorem dX2_go_25 : decode cX2_go 25 = .ok (.aload_n 0, 1) := by decide +kernel
theorem dX2_go_26 : decode cX2_go 26 = .ok (.iload_n 2, 1) := by decide +kernel
theorem dX2_go_27 : decode cX2_go 27 = .ok (.invokevirtual 191, 3) := by decide +kernel
theorem dX2_go_30 : decode cX2_go 30 = .ok (.ishl, 1) := by decide +kernel
theorem dX2_go_31 : decode cX2_go 31 = .ok (.iadd, 1) := by decide +kernel
theorem dX2_go_32 : decode cX2_go 32 = .ok (.putfield 188, 3) := by decide +kernel
theorem dX2_go_35 : decode cX2_go 35 = .ok (.aload_n 0, 1) := by decide +kernel
theorem dX2_go_36 : decode cX2_go 36 = .ok (.iload_n 2, 1) := by decide +kernel
theorem dX2_go_37 : decode cX2_go 37 = .ok (.iconst 1, 1) := by decide +kernel
theorem dX2_go_38 : decode cX2_go 38 = .ok (.iadd, 1) := by decide +kernel
theorem dX2_go_39 : decode cX2_go 39 = .ok (.putfield 194, 3) := by decide +kernel
theorem dX2_go_42 : decode cX2_go 42 = .ok (.iconst 1, 1) := by decide +kernel
theorem dX2_go_43 : decode cX2_go 43 = .ok (.ireturn, 1) := by decide +kernel
theorem dX2_at_0 : decode cX2_at 0 = .ok (.aload_n 0, 1) := by decide +kernel
theorem dX2_at_1 : decode cX2_at 1 = .ok (.invokevirtual 185, 3) := by decide +kernel
theorem dX2_at_4 : decode cX2_at 4 = .ok (.istore_n 1, 1) := by decide +kernel
theorem dX2_at_5 : decode cX2_at 5 = .ok (.iload_n 1, 1) := by decide +kernel
theorem dX2_at_6 : decode cX2_at 6 = .ok (.aload_n 0, 1) := by decide +kernel
theorem dX2_at_7 : decode cX2_at 7 = .ok (.getfield 94, 3) := by decide +kernel
theorem dX2_at_10 : decode cX2_at 10 = .ok (.if_icmp .ge 10, 3) := by decide +kernel
theorem dX2_at_13 : decode cX2_at 13 = .ok (.aload_n 0, 1) := by decide +kernel
theorem dX2_at_14 : decode cX2_at 14 = .ok (.getfield 16, 3) := by decide +kernel
theorem dX2_at_17 : decode cX2_at 17 = .ok (.iload_n 1, 1) := by decide +kernel
theorem dX2_at_18 : decode cX2_at 18 = .ok (.iaload, 1) := by decide +kernel
theorem dX2_at_19 : decode cX2_at 19 = .ok (.ireturn, 1) := by decide +kernel
theorem dX2_at_20 : decode cX2_at 20 = .ok (.aload_n 0, 1) := by decide +kernel
theorem dX2_at_21 : decode cX2_at 21 = .ok (.getfield 13, 3) := by decide +kernel
theorem dX2_at_24 : decode cX2_at 24 = .ok (.aload_n 0, 1) := by decide +kernel
theorem dX2_at_25 : decode cX2_at 25 = .ok (.getfield 197, 3) := by decide +kernel
theorem dX2_at_28 : decode cX2_at 28 = .ok (.aaload, 1) := by decide +kernel
theorem dX2_at_29 : decode cX2_at 29 = .ok (.aload_n 0, 1) := by decide +kernel
theorem dX2_at_30 : decode cX2_at 30 = .ok (.getfield 188, 3) := by decide +kernel
theorem dX2_at_33 : decode cX2_at 33 = .ok (.invokestatic 113, 3) := by decide +kernel
theorem dX2_at_36 : decode cX2_at 36 = .ok (.ifCond .eq 8, 3) := by decide +kernel
theorem dX2_at_39 : decode cX2_at 39 = .ok (.bipush (-3), 2) := by decide +kernel
theorem dX2_at_41 : decode cX2_at 41 = .ok (.goto 5, 3) := by decide +kernel
theorem dX2_at_44 : decode cX2_at 44 = .ok (.bipush (-2), 2) := by decide +kernel
theorem dX2_at_46 : decode cX2_at 46 = .ok (.ireturn, 1) := by decide +kernel
theorem dX2_level_0 : decode cX2_level 0 = .ok (.aload_n 0, 1) := by decide +kernel
theorem dX2_level_1 : decode cX2_level 1 = .ok (.iload_n 1, 1) := by decide +kernel
theorem dX2_level_2 : decode cX2_level 2 = .ok (.invokevirtual 127, 3) := by decide +kernel
theorem dX2_level_5 : decode cX2_level 5 = .ok (.ifCond .ne 5, 3) := by decide +kernel
theorem dX2_level_8 : decode cX2_level 8 = .ok (.iconst (-1), 1) := by decide +kernel
theorem dX2_level_9 : decode cX2_level 9 = .ok (.ireturn, 1) := by decide +kernel
theorem dX2_level_10 : decode cX2_level 10 = .ok (.iload_n 2, 1) := by decide +kernel
theorem dX2_level_11 : decode cX2_level 11 = .ok (.ifCond .ne 10, 3) := by decide +kernel
theorem dX2_level_14 : decode cX2_level 14 = .ok (.aload_n 0, 1) := by decide +kernel
theorem dX2_level_15 : decode cX2_level 15 = .ok (.getfield 16, 3) := by decide +kernel
theorem dX2_level_18 : decode cX2_level 18 = .ok (.iload_n 1, 1) := by decide +kernel
theorem dX2_level_19 : decode cX2_level 19 = .ok (.iaload, 1) := by decide +kernel
theorem dX2_level_20 : decode cX2_level 20 = .ok (.ireturn, 1) := by decide +kernel
theorem dX2_level_21 : decode cX2_level 21 = .ok (.iload_n 2, 1) := by decide +kernel
theorem dX2_level_22 : decode cX2_level 22 = .ok (.iconst 1, 1) := by decide +kernel
theorem dX2_level_23 : decode cX2_level 23 = .ok (.if_icmp .ne 18, 3) := by decide +kernel
theorem dX2_level_26 : decode cX2_level 26 = .ok (.aload_n 0, 1) := by decide +kernel
theorem dX2_level_27 : decode cX2_level 27 = .ok (.invokevirtual 133, 3) := by decide +kernel
theorem dX2_level_30 : decode cX2_level 30 = .ok (.pop, 1) := by decide +kernel
theorem dX2_level_31 : decode cX2_level 31 = .ok (.aload_n 0, 1) := by decide +kernel
theorem dX2_level_32 : decode cX2_level 32 = .ok (.getfield 32, 3) := by decide +kernel
theorem dX2_level_35 : decode cX2_level 35 = .ok (.getfield 179, 3) := by decide +kernel
theorem dX2_level_38 : decode cX2_level 38 = .ok (.iload_n 1, 1) := by decide +kernel
theorem dX2_level_39 : decode cX2_level 39 = .ok (.iaload, 1) := by decide +kernel
theorem dX2_level_40 : decode cX2_level 40 = .ok (.ireturn, 1) := by decide +kernel
theorem dX2_level_41 : decode cX2_level 41 = .ok (.iconst (-1), 1) := by decide +kernel
theorem dX2_level_42 : decode cX2_level 42 = .ok (.ireturn, 1) := by decide +kernel
theorem dX2_count_0 : decode cX2_count 0 = .ok (.iload_n 1, 1) := by decide +kernel
theorem dX2_count_1 : decode cX2_count 1 = .ok (.tableswitch 51 0 3 #[31, 36, 41, 46], 31) := by decide +kernel
theorem dX2_count_32 : decode cX2_count 32 = .ok (.aload_n 0, 1) := by decide +kernel
theorem dX2_count_33 : decode cX2_count 33 = .ok (.getfield 94, 3) := by decide +kernel
theorem dX2_count_36 : decode cX2_count 36 = .ok (.ireturn, 1) := by decide +kernel
theorem dX2_count_37 : decode cX2_count 37 = .ok (.aload_n 0, 1) := by decide +kernel
theorem dX2_count_38 : decode cX2_count 38 = .ok (.getfield 137, 3) := by decide +kernel
theorem dX2_count_41 : decode cX2_count 41 = .ok (.ireturn, 1) := by decide +kernel
theorem dX2_count_42 : decode cX2_count 42 = .ok (.aload_n 0, 1) := by decide +kernel
theorem dX2_count_43 : decode cX2_count 43 = .ok (.invokevirtual 133, 3) := by decide +kernel
theorem dX2_count_46 : decode cX2_count 46 = .ok (.ireturn, 1) := by decide +kernel
theorem dX2_count_47 : decode cX2_count 47 = .ok (.aload_n 0, 1) := by decide +kernel
theorem dX2_count_48 : decode cX2_count 48 = .ok (.invokevirtual 200, 3) := by decide +kernel
theorem dX2_count_51 : decode cX2_count 51 = .ok (.ireturn, 1) := by decide +kernel
theorem dX2_count_52 : decode cX2_count 52 = .ok (.iconst (-1), 1) := by decide +kernel
theorem dX2_count_53 : decode cX2_count 53 = .ok (.ireturn, 1) := by decide +kernel
theorem dX2_begin_0 : decode cX2_begin 0 = .ok (.aload_n 0, 1) := by decide +kernel
theorem dX2_begin_1 : decode cX2_begin 1 = .ok (.iload_n 1, 1) := by decide +kernel
theorem dX2_begin_2 : decode cX2_begin 2 = .ok (.putfield 94, 3) := by decide +kernel
theorem dX2_begin_5 : decode cX2_begin 5 = .ok (.aload_n 0, 1) := by decide +kernel
theorem dX2_begin_6 : decode cX2_begin 6 = .ok (.iload_n 2, 1) := by decide +kernel
theorem dX2_begin_7 : decode cX2_begin 7 = .ok (.putfield 137, 3) := by decide +kernel
theorem dX2_begin_10 : decode cX2_begin 10 = .ok (.iconst 1, 1) := by decide +kernel
theorem dX2_begin_11 : decode cX2_begin 11 = .ok (.iload_n 1, 1) := by decide +kernel
theorem dX2_begin_12 : decode cX2_begin 12 = .ok (.ishl, 1) := by decide +kernel
theorem dX2_begin_13 : decode cX2_begin 13 = .ok (.istore_n 3, 1) := by decide +kernel
theorem dX2_begin_14 : decode cX2_begin 14 = .ok (.aload_n 0, 1) := by decide +kernel
theorem dX2_begin_15 : decode cX2_begin 15 = .ok (.iconst 1, 1) := by decide +kernel
theorem dX2_begin_16 : decode cX2_begin 16 = .ok (.iload_n 3, 1) := by decide +kernel
theorem dX2_begin_17 : decode cX2_begin 17 = .ok (.bipush 6, 2) := by decide +kernel
theorem dX2_begin_19 : decode cX2_begin 19 = .ok (.ishr, 1) := by decide +kernel
theorem dX2_begin_20 : decode cX2_begin 20 = .ok (.invokestatic 167, 3) := by decide +kernel
theorem dX2_begin_23 : decode cX2_begin 23 = .ok (.putfield 44, 3) := by decide +kernel
theorem dX2_begin_26 : decode cX2_begin 26 = .ok (.aload_n 0, 1) := by decide +kernel
theorem dX2_begin_27 : decode cX2_begin 27 = .ok (.iload_n 3, 1) := by decide +kernel
theorem dX2_begin_28 : decode cX2_begin 28 = .ok (.invokestatic 203, 3) := by decide +kernel
theorem dX2_begin_31 : decode cX2_begin 31 = .ok (.putfield 48, 3) := by decide +kernel
theorem dX2_begin_34 : decode cX2_begin 34 = .ok (.iconst 0, 1) := by decide +kernel
theorem dX2_begin_35 : decode cX2_begin 35 = .ok (.istore 4, 2) := by decide +kernel
theorem dX2_begin_37 : decode cX2_begin 37 = .ok (.iload 4, 2) := by decide +kernel
theorem dX2_begin_39 : decode cX2_begin 39 = .ok (.bipush 34, 2) := by decide +kernel
theorem dX2_begin_41 : decode cX2_begin 41 = .ok (.if_icmp .ge 20, 3) := by decide +kernel
theorem dX2_begin_44 : decode cX2_begin 44 = .ok (.aload_n 0, 1) := by decide +kernel
theorem dX2_begin_45 : decode cX2_begin 45 = .ok (.getfield 13, 3) := by decide +kernel
theorem dX2_begin_48 : decode cX2_begin 48 = .ok (.iload 4, 2) := by decide +kernel
theorem dX2_begin_50 : decode cX2_begin 50 = .ok (.aaload, 1) := by decide +kernel
theorem dX2_begin_51 : decode cX2_begin 51 = .ok (.lconst 0, 1) := by decide +kernel
theorem dX2_begin_52 : decode cX2_begin 52 = .ok (.invokestatic 207, 3) := by decide +kernel
theorem dX2_begin_55 : decode cX2_begin 55 = .ok (.iinc 4 1, 3) := by decide +kernel
theorem dX2_begin_58 : decode cX2_begin 58 = .ok (.goto (-21), 3) := by decide +kernel
theorem dX2_begin_61 : decode cX2_begin 61 = .ok (.iconst 0, 1) := by decide +kernel
theorem dX2_begin_62 : decode cX2_begin 62 = .ok (.istore 4, 2) := by decide +kernel
theorem dX2_begin_64 : decode cX2_begin 64 = .ok (.iload 4, 2) := by decide +kernel
theorem dX2_begin_66 : decode cX2_begin 66 = .ok (.bipush 12, 2) := by decide +kernel
theorem dX2_begin_68 : decode cX2_begin 68 = .ok (.if_icmp .ge 26, 3) := by decide +kernel
theorem dX2_begin_71 : decode cX2_begin 71 = .ok (.aload_n 0, 1) := by decide +kernel
theorem dX2_begin_72 : decode cX2_begin 72 = .ok (.getfield 16, 3) := by decide +kernel
theorem dX2_begin_75 : decode cX2_begin 75 = .ok (.iload 4, 2) := by decide +kernel
theorem dX2_begin_77 : decode cX2_begin 77 = .ok (.iload 4, 2) := by decide +kernel
theorem dX2_begin_79 : decode cX2_begin 79 = .ok (.iastore, 1) := by decide +kernel
theorem dX2_begin_80 : decode cX2_begin 80 = .ok (.aload_n 0, 1) := by decide +kernel
theorem dX2_begin_81 : decode cX2_begin 81 = .ok (.getfield 20, 3) := by decide +kernel
theorem dX2_begin_84 : decode cX2_begin 84 = .ok (.iload 4, 2) := by decide +kernel
theorem dX2_begin_86 : decode cX2_begin 86 = .ok (.iconst 0, 1) := by decide +kernel
theorem dX2_begin_87 : decode cX2_begin 87 = .ok (.iastore, 1) := by decide +kernel
theorem dX2_begin_88 : decode cX2_begin 88 = .ok (.iinc 4 1, 3) := by decide +kernel
theorem dX2_begin_91 : decode cX2_begin 91 = .ok (.goto (-27), 3) := by decide +kernel
theorem dX2_begin_94 : decode cX2_begin 94 = .ok (.aload_n 0, 1) := by decide +kernel
theorem dX2_begin_95 : decode cX2_begin 95 = .ok (.invokevirtual 58, 3) := by decide +kernel
theorem dX2_begin_98 : decode cX2_begin 98 = .ok (.return_, 1) := by decide +kernel
theorem dX2_isRegister_0 : decode cX2_isRegister 0 = .ok (.iload_n 0, 1) := by decide +kernel
theorem dX2_isRegister_1 : decode cX2_isRegister 1 = .ok (.ifCond .lt 13, 3) := by decide +kernel
theorem dX2_isRegister_4 : decode cX2_isRegister 4 = .ok (.iload_n 0, 1) := by decide +kernel
theorem dX2_isRegister_5 : decode cX2_isRegister 5 = .ok (.bipush 32, 2) := by decide +kernel
theorem dX2_isRegister_7 : decode cX2_isRegister 7 = .ok (.if_icmp .ge 7, 3) := by decide +kernel
theorem dX2_isRegister_10 : decode cX2_isRegister 10 = .ok (.iconst 1, 1) := by decide +kernel
theorem dX2_isRegister_11 : decode cX2_isRegister 11 = .ok (.goto 4, 3) := by decide +kernel
theorem dX2_isRegister_14 : decode cX2_isRegister 14 = .ok (.iconst 0, 1) := by decide +kernel
theorem dX2_isRegister_15 : decode cX2_isRegister 15 = .ok (.ireturn, 1) := by decide +kernel
theorem dX2_isLetter_0 : decode cX2_isLetter 0 = .ok (.iload_n 1, 1) := by decide +kernel
theorem dX2_isLetter_1 : decode cX2_isLetter 1 = .ok (.ifCond .lt 15, 3) := by decide +kernel
theorem dX2_isLetter_4 : decode cX2_isLetter 4 = .ok (.iload_n 1, 1) := by decide +kernel
theorem dX2_isLetter_5 : decode cX2_isLetter 5 = .ok (.aload_n 0, 1) := by decide +kernel
theorem dX2_isLetter_6 : decode cX2_isLetter 6 = .ok (.getfield 94, 3) := by decide +kernel
theorem dX2_isLetter_9 : decode cX2_isLetter 9 = .ok (.if_icmp .ge 7, 3) := by decide +kernel
theorem dX2_isLetter_12 : decode cX2_isLetter 12 = .ok (.iconst 1, 1) := by decide +kernel
theorem dX2_isLetter_13 : decode cX2_isLetter 13 = .ok (.goto 4, 3) := by decide +kernel
theorem dX2_isLetter_16 : decode cX2_isLetter 16 = .ok (.iconst 0, 1) := by decide +kernel
theorem dX2_isLetter_17 : decode cX2_isLetter 17 = .ok (.ireturn, 1) := by decide +kernel
theorem dX2_isLevel_0 : decode cX2_isLevel 0 = .ok (.iload_n 1, 1) := by decide +kernel
theorem dX2_isLevel_1 : decode cX2_isLevel 1 = .ok (.ifCond .lt 15, 3) := by decide +kernel
theorem dX2_isLevel_4 : decode cX2_isLevel 4 = .ok (.iload_n 1, 1) := by decide +kernel
theorem dX2_isLevel_5 : decode cX2_isLevel 5 = .ok (.aload_n 0, 1) := by decide +kernel
theorem dX2_isLevel_6 : decode cX2_isLevel 6 = .ok (.getfield 94, 3) := by decide +kernel
theorem dX2_isLevel_9 : decode cX2_isLevel 9 = .ok (.if_icmp .ge 7, 3) := by decide +kernel
theorem dX2_isLevel_12 : decode cX2_isLevel 12 = .ok (.iconst 1, 1) := by decide +kernel
theorem dX2_isLevel_13 : decode cX2_isLevel 13 = .ok (.goto 4, 3) := by decide +kernel
theorem dX2_isLevel_16 : decode cX2_isLevel 16 = .ok (.iconst 0, 1) := by decide +kernel
theorem dX2_isLevel_17 : decode cX2_isLevel 17 = .ok (.ireturn, 1) := by decide +kernel
theorem dX2_isAssignment_0 : decode cX2_isAssignment 0 = .ok (.iload_n 1, 1) := by decide +kernel
theorem dX2_isAssignment_1 : decode cX2_isAssignment 1 = .ok (.ifCond .lt 17, 3) := by decide +kernel
theorem dX2_isAssignment_4 : decode cX2_isAssignment 4 = .ok (.iload_n 1, 1) := by decide +kernel
theorem dX2_isAssignment_5 : decode cX2_isAssignment 5 = .ok (.iconst 1, 1) := by decide +kernel
theorem dX2_isAssignment_6 : decode cX2_isAssignment 6 = .ok (.aload_n 0, 1) := by decide +kernel
theorem dX2_isAssignment_7 : decode cX2_isAssignment 7 = .ok (.getfield 94, 3) := by decide +kernel
theorem dX2_isAssignment_10 : decode cX2_isAssignment 10 = .ok (.ishl, 1) := by decide +kernel
theorem dX2_isAssignment_11 : decode cX2_isAssignment 11 = .ok (.if_icmp .ge 7, 3) := by decide +kernel
theorem dX2_isAssignment_14 : decode cX2_isAssignment 14 = .ok (.iconst 1, 1) := by decide +kernel
theorem dX2_isAssignment_15 : decode cX2_isAssignment 15 = .ok (.goto 4, 3) := by decide +kernel
theorem dX2_isAssignment_18 : decode cX2_isAssignment 18 = .ok (.iconst 0, 1) := by decide +kernel
theorem dX2_isAssignment_19 : decode cX2_isAssignment 19 = .ok (.ireturn, 1) := by decide +kernel
theorem dX2_levelOf_0 : decode cX2_levelOf 0 = .ok (.iconst 0, 1) := by decide +kernel
theorem dX2_levelOf_1 : decode cX2_levelOf 1 = .ok (.istore_n 2, 1) := by decide +kernel
theorem dX2_levelOf_2 : decode cX2_levelOf 2 = .ok (.iconst 0, 1) := by decide +kernel
theorem dX2_levelOf_3 : decode cX2_levelOf 3 = .ok (.istore_n 3, 1) := by decide +kernel
theorem dX2_levelOf_4 : decode cX2_levelOf 4 = .ok (.iload_n 3, 1) := by decide +kernel
theorem dX2_levelOf_5 : decode cX2_levelOf 5 = .ok (.aload_n 0, 1) := by decide +kernel
theorem dX2_levelOf_6 : decode cX2_levelOf 6 = .ok (.getfield 94, 3) := by decide +kernel
theorem dX2_levelOf_9 : decode cX2_levelOf 9 = .ok (.if_icmp .ge 21, 3) := by decide +kernel
theorem dX2_levelOf_12 : decode cX2_levelOf 12 = .ok (.aload_n 0, 1) := by decide +kernel
theorem dX2_levelOf_13 : decode cX2_levelOf 13 = .ok (.getfield 16, 3) := by decide +kernel
theorem dX2_levelOf_16 : decode cX2_levelOf 16 = .ok (.iload_n 3, 1) := by decide +kernel
theorem dX2_levelOf_17 : decode cX2_levelOf 17 = .ok (.iaload, 1) := by decide +kernel
theorem dX2_levelOf_18 : decode cX2_levelOf 18 = .ok (.iload_n 1, 1) := by decide +kernel
theorem dX2_levelOf_19 : decode cX2_levelOf 19 = .ok (.if_icmp .ne 5, 3) := by decide +kernel
theorem dX2_levelOf_22 : decode cX2_levelOf 22 = .ok (.iload_n 3, 1) := by decide +kernel
theorem dX2_levelOf_23 : decode cX2_levelOf 23 = .ok (.istore_n 2, 1) := by decide +kernel
theorem dX2_levelOf_24 : decode cX2_levelOf 24 = .ok (.iinc 3 1, 3) := by decide +kernel
theorem dX2_levelOf_27 : decode cX2_levelOf 27 = .ok (.goto (-23), 3) := by decide +kernel
theorem dX2_levelOf_30 : decode cX2_levelOf 30 = .ok (.iload_n 2, 1) := by decide +kernel
theorem dX2_levelOf_31 : decode cX2_levelOf 31 = .ok (.ireturn, 1) := by decide +kernel
theorem dX2_placeAt_0 : decode cX2_placeAt 0 = .ok (.aload_n 0, 1) := by decide +kernel
theorem dX2_placeAt_1 : decode cX2_placeAt 1 = .ok (.getfield 94, 3) := by decide +kernel
theorem dX2_placeAt_4 : decode cX2_placeAt 4 = .ok (.iconst 1, 1) := by decide +kernel
theorem dX2_placeAt_5 : decode cX2_placeAt 5 = .ok (.isub, 1) := by decide +kernel
theorem dX2_placeAt_6 : decode cX2_placeAt 6 = .ok (.iload_n 1, 1) := by decide +kernel
theorem dX2_placeAt_7 : decode cX2_placeAt 7 = .ok (.isub, 1) := by decide +kernel
theorem dX2_placeAt_8 : decode cX2_placeAt 8 = .ok (.ireturn, 1) := by decide +kernel
theorem dX2_placeOf_0 : decode cX2_placeOf 0 = .ok (.aload_n 0, 1) := by decide +kernel
theorem dX2_placeOf_1 : decode cX2_placeOf 1 = .ok (.aload_n 0, 1) := by decide +kernel
theorem dX2_placeOf_2 : decode cX2_placeOf 2 = .ok (.iload_n 1, 1) := by decide +kernel
theorem dX2_placeOf_3 : decode cX2_placeOf 3 = .ok (.invokevirtual 140, 3) := by decide +kernel
theorem dX2_placeOf_6 : decode cX2_placeOf 6 = .ok (.invokevirtual 191, 3) := by decide +kernel
theorem dX2_placeOf_9 : decode cX2_placeOf 9 = .ok (.ireturn, 1) := by decide +kernel
theorem dX2_bitOf_0 : decode cX2_bitOf 0 = .ok (.iconst 0, 1) := by decide +kernel
theorem dX2_bitOf_1 : decode cX2_bitOf 1 = .ok (.istore_n 2, 1) := by decide +kernel
theorem dX2_bitOf_2 : decode cX2_bitOf 2 = .ok (.iconst 0, 1) := by decide +kernel
theorem dX2_bitOf_3 : decode cX2_bitOf 3 = .ok (.istore_n 3, 1) := by decide +kernel
theorem dX2_bitOf_4 : decode cX2_bitOf 4 = .ok (.iload_n 3, 1) := by decide +kernel
theorem dX2_bitOf_5 : decode cX2_bitOf 5 = .ok (.aload_n 0, 1) := by decide +kernel
theorem dX2_bitOf_6 : decode cX2_bitOf 6 = .ok (.getfield 94, 3) := by decide +kernel
theorem dX2_bitOf_9 : decode cX2_bitOf 9 = .ok (.if_icmp .ge 24, 3) := by decide +kernel
theorem dX2_bitOf_12 : decode cX2_bitOf 12 = .ok (.iconst 2, 1) := by decide +kernel
theorem dX2_bitOf_13 : decode cX2_bitOf 13 = .ok (.iload_n 2, 1) := by decide +kernel
theorem dX2_bitOf_14 : decode cX2_bitOf 14 = .ok (.imul, 1) := by decide +kernel
theorem dX2_bitOf_15 : decode cX2_bitOf 15 = .ok (.iload_n 1, 1) := by decide +kernel
theorem dX2_bitOf_16 : decode cX2_bitOf 16 = .ok (.aload_n 0, 1) := by decide +kernel
theorem dX2_bitOf_17 : decode cX2_bitOf 17 = .ok (.getfield 16, 3) := by decide +kernel
theorem dX2_bitOf_20 : decode cX2_bitOf 20 = .ok (.iload_n 3, 1) := by decide +kernel
theorem dX2_bitOf_21 : decode cX2_bitOf 21 = .ok (.iaload, 1) := by decide +kernel
theorem dX2_bitOf_22 : decode cX2_bitOf 22 = .ok (.ishr, 1) := by decide +kernel
theorem dX2_bitOf_23 : decode cX2_bitOf 23 = .ok (.iconst 1, 1) := by decide +kernel
theorem dX2_bitOf_24 : decode cX2_bitOf 24 = .ok (.iand, 1) := by decide +kernel
theorem dX2_bitOf_25 : decode cX2_bitOf 25 = .ok (.iadd, 1) := by decide +kernel
theorem dX2_bitOf_26 : decode cX2_bitOf 26 = .ok (.istore_n 2, 1) := by decide +kernel
theorem dX2_bitOf_27 : decode cX2_bitOf 27 = .ok (.iinc 3 1, 3) := by decide +kernel
theorem dX2_bitOf_30 : decode cX2_bitOf 30 = .ok (.goto (-26), 3) := by decide +kernel
theorem dX2_bitOf_33 : decode cX2_bitOf 33 = .ok (.iload_n 2, 1) := by decide +kernel
theorem dX2_bitOf_34 : decode cX2_bitOf 34 = .ok (.ireturn, 1) := by decide +kernel
theorem dX2_listBits_0 : decode cX2_listBits 0 = .ok (.aload_n 1, 1) := by decide +kernel
theorem dX2_listBits_1 : decode cX2_listBits 1 = .ok (.iconst 0, 1) := by decide +kernel
theorem dX2_listBits_2 : decode cX2_listBits 2 = .ok (.iconst 0, 1) := by decide +kernel
theorem dX2_listBits_3 : decode cX2_listBits 3 = .ok (.iastore, 1) := by decide +kernel
theorem dX2_listBits_4 : decode cX2_listBits 4 = .ok (.iconst 0, 1) := by decide +kernel
theorem dX2_listBits_5 : decode cX2_listBits 5 = .ok (.istore_n 2, 1) := by decide +kernel
theorem dX2_listBits_6 : decode cX2_listBits 6 = .ok (.iload_n 2, 1) := by decide +kernel
theorem dX2_listBits_7 : decode cX2_listBits 7 = .ok (.aload_n 0, 1) := by decide +kernel
theorem dX2_listBits_8 : decode cX2_listBits 8 = .ok (.getfield 94, 3) := by decide +kernel
theorem dX2_listBits_11 : decode cX2_listBits 11 = .ok (.if_icmp .ge 21, 3) := by decide +kernel
theorem dX2_listBits_14 : decode cX2_listBits 14 = .ok (.aload_n 1, 1) := by decide +kernel
theorem dX2_listBits_15 : decode cX2_listBits 15 = .ok (.iload_n 2, 1) := by decide +kernel
theorem dX2_listBits_16 : decode cX2_listBits 16 = .ok (.iconst 1, 1) := by decide +kernel
theorem dX2_listBits_17 : decode cX2_listBits 17 = .ok (.aload_n 0, 1) := by decide +kernel
theorem dX2_listBits_18 : decode cX2_listBits 18 = .ok (.iload_n 2, 1) := by decide +kernel
theorem dX2_listBits_19 : decode cX2_listBits 19 = .ok (.invokevirtual 64, 3) := by decide +kernel
theorem dX2_listBits_22 : decode cX2_listBits 22 = .ok (.ishl, 1) := by decide +kernel
theorem dX2_listBits_23 : decode cX2_listBits 23 = .ok (.invokestatic 210, 3) := by decide +kernel
theorem dX2_listBits_26 : decode cX2_listBits 26 = .ok (.iinc 2 1, 3) := by decide +kernel
theorem dX2_listBits_29 : decode cX2_listBits 29 = .ok (.goto (-23), 3) := by decide +kernel
theorem dX2_listBits_32 : decode cX2_listBits 32 = .ok (.return_, 1) := by decide +kernel
theorem dX2_listCosts_0 : decode cX2_listCosts 0 = .ok (.aload_n 1, 1) := by decide +kernel
theorem dX2_listCosts_1 : decode cX2_listCosts 1 = .ok (.iconst 0, 1) := by decide +kernel
theorem dX2_listCosts_2 : decode cX2_listCosts 2 = .ok (.iconst 0, 1) := by decide +kernel
theorem dX2_listCosts_3 : decode cX2_listCosts 3 = .ok (.iastore, 1) := by decide +kernel
theorem dX2_listCosts_4 : decode cX2_listCosts 4 = .ok (.iconst 0, 1) := by decide +kernel
theorem dX2_listCosts_5 : decode cX2_listCosts 5 = .ok (.istore_n 2, 1) := by decide +kernel
theorem dX2_listCosts_6 : decode cX2_listCosts 6 = .ok (.iload_n 2, 1) := by decide +kernel
theorem dX2_listCosts_7 : decode cX2_listCosts 7 = .ok (.aload_n 0, 1) := by decide +kernel
theorem dX2_listCosts_8 : decode cX2_listCosts 8 = .ok (.getfield 94, 3) := by decide +kernel
theorem dX2_listCosts_11 : decode cX2_listCosts 11 = .ok (.if_icmp .ge 20, 3) := by decide +kernel
theorem dX2_listCosts_14 : decode cX2_listCosts 14 = .ok (.aload_n 1, 1) := by decide +kernel
theorem dX2_listCosts_15 : decode cX2_listCosts 15 = .ok (.iload_n 2, 1) := by decide +kernel
theorem dX2_listCosts_16 : decode cX2_listCosts 16 = .ok (.aload_n 0, 1) := by decide +kernel
theorem dX2_listCosts_17 : decode cX2_listCosts 17 = .ok (.getfield 20, 3) := by decide +kernel
theorem dX2_listCosts_20 : decode cX2_listCosts 20 = .ok (.iload_n 2, 1) := by decide +kernel
theorem dX2_listCosts_21 : decode cX2_listCosts 21 = .ok (.iaload, 1) := by decide +kernel
theorem dX2_listCosts_22 : decode cX2_listCosts 22 = .ok (.invokestatic 210, 3) := by decide +kernel
theorem dX2_listCosts_25 : decode cX2_listCosts 25 = .ok (.iinc 2 1, 3) := by decide +kernel
theorem dX2_listCosts_28 : decode cX2_listCosts 28 = .ok (.goto (-22), 3) := by decide +kernel
theorem dX2_listCosts_31 : decode cX2_listCosts 31 = .ok (.return_, 1) := by decide +kernel
theorem dX2_extend_0 : decode cX2_extend 0 = .ok (.iconst 1, 1) := by decide +kernel
theorem dX2_extend_1 : decode cX2_extend 1 = .ok (.iload_n 1, 1) := by decide +kernel
theorem dX2_extend_2 : decode cX2_extend 2 = .ok (.ishl, 1) := by decide +kernel
theorem dX2_extend_3 : decode cX2_extend 3 = .ok (.istore_n 3, 1) := by decide +kernel
theorem dX2_extend_4 : decode cX2_extend 4 = .ok (.iconst 0, 1) := by decide +kernel
theorem dX2_extend_5 : decode cX2_extend 5 = .ok (.istore 4, 2) := by decide +kernel
theorem dX2_extend_7 : decode cX2_extend 7 = .ok (.iload 4, 2) := by decide +kernel
theorem dX2_extend_9 : decode cX2_extend 9 = .ok (.iload_n 3, 1) := by decide +kernel
theorem dX2_extend_10 : decode cX2_extend 10 = .ok (.if_icmp .ge 21, 3) := by decide +kernel
theorem dX2_extend_13 : decode cX2_extend 13 = .ok (.aload_n 0, 1) := by decide +kernel
theorem dX2_extend_14 : decode cX2_extend 14 = .ok (.iload_n 3, 1) := by decide +kernel
theorem dX2_extend_15 : decode cX2_extend 15 = .ok (.iload 4, 2) := by decide +kernel
theorem dX2_extend_17 : decode cX2_extend 17 = .ok (.iadd, 1) := by decide +kernel
theorem dX2_extend_18 : decode cX2_extend 18 = .ok (.aload_n 0, 1) := by decide +kernel
theorem dX2_extend_19 : decode cX2_extend 19 = .ok (.iload 4, 2) := by decide +kernel
theorem dX2_extend_21 : decode cX2_extend 21 = .ok (.iaload, 1) := by decide +kernel
theorem dX2_extend_22 : decode cX2_extend 22 = .ok (.iload_n 2, 1) := by decide +kernel
theorem dX2_extend_23 : decode cX2_extend 23 = .ok (.iadd, 1) := by decide +kernel
theorem dX2_extend_24 : decode cX2_extend 24 = .ok (.iastore, 1) := by decide +kernel
theorem dX2_extend_25 : decode cX2_extend 25 = .ok (.iinc 4 1, 3) := by decide +kernel
theorem dX2_extend_28 : decode cX2_extend 28 = .ok (.goto (-21), 3) := by decide +kernel
theorem dX2_extend_31 : decode cX2_extend 31 = .ok (.return_, 1) := by decide +kernel
theorem dX2_copyToSpare_0 : decode cX2_copyToSpare 0 = .ok (.aload_n 0, 1) := by decide +kernel
theorem dX2_copyToSpare_1 : decode cX2_copyToSpare 1 = .ok (.getfield 13, 3) := by decide +kernel
theorem dX2_copyToSpare_4 : decode cX2_copyToSpare 4 = .ok (.iload_n 1, 1) := by decide +kernel
theorem dX2_copyToSpare_5 : decode cX2_copyToSpare 5 = .ok (.aaload, 1) := by decide +kernel
theorem dX2_copyToSpare_6 : decode cX2_copyToSpare 6 = .ok (.iconst 0, 1) := by decide +kernel
theorem dX2_copyToSpare_7 : decode cX2_copyToSpare 7 = .ok (.aload_n 0, 1) := by decide +kernel
theorem dX2_copyToSpare_8 : decode cX2_copyToSpare 8 = .ok (.getfield 13, 3) := by decide +kernel
theorem dX2_copyToSpare_11 : decode cX2_copyToSpare 11 = .ok (.bipush 32, 2) := by decide +kernel
theorem dX2_copyToSpare_13 : decode cX2_copyToSpare 13 = .ok (.aaload, 1) := by decide +kernel
theorem dX2_copyToSpare_14 : decode cX2_copyToSpare 14 = .ok (.iconst 0, 1) := by decide +kernel
theorem dX2_copyToSpare_15 : decode cX2_copyToSpare 15 = .ok (.aload_n 0, 1) := by decide +kernel
theorem dX2_copyToSpare_16 : decode cX2_copyToSpare 16 = .ok (.getfield 44, 3) := by decide +kernel
theorem dX2_copyToSpare_19 : decode cX2_copyToSpare 19 = .ok (.invokestatic 121, 3) := by decide +kernel
theorem dX2_copyToSpare_22 : decode cX2_copyToSpare 22 = .ok (.return_, 1) := by decide +kernel
theorem dX2_sumSpare_0 : decode cX2_sumSpare 0 = .ok (.aload_n 0, 1) := by decide +kernel
theorem dX2_sumSpare_1 : decode cX2_sumSpare 1 = .ok (.getfield 13, 3) := by decide +kernel
theorem dX2_sumSpare_4 : decode cX2_sumSpare 4 = .ok (.bipush 32, 2) := by decide +kernel
theorem dX2_sumSpare_6 : decode cX2_sumSpare 6 = .ok (.aaload, 1) := by decide +kernel
theorem dX2_sumSpare_7 : decode cX2_sumSpare 7 = .ok (.astore_n 3, 1) := by decide +kernel
theorem dX2_sumSpare_8 : decode cX2_sumSpare 8 = .ok (.iconst 0, 1) := by decide +kernel
theorem dX2_sumSpare_9 : decode cX2_sumSpare 9 = .ok (.istore 4, 2) := by decide +kernel
theorem dX2_sumSpare_11 : decode cX2_sumSpare 11 = .ok (.iload 4, 2) := by decide +kernel
theorem dX2_sumSpare_13 : decode cX2_sumSpare 13 = .ok (.aload_n 0, 1) := by decide +kernel
theorem dX2_sumSpare_14 : decode cX2_sumSpare 14 = .ok (.getfield 44, 3) := by decide +kernel
theorem dX2_sumSpare_17 : decode cX2_sumSpare 17 = .ok (.if_icmp .ge 50, 3) := by decide +kernel
theorem dX2_sumSpare_20 : decode cX2_sumSpare 20 = .ok (.aload_n 3, 1) := by decide +kernel
theorem dX2_sumSpare_21 : decode cX2_sumSpare 21 = .ok (.iload 4, 2) := by decide +kernel
theorem dX2_sumSpare_23 : decode cX2_sumSpare 23 = .ok (.iload_n 1, 1) := by decide +kernel
theorem dX2_sumSpare_24 : decode cX2_sumSpare 24 = .ok (.iconst 1, 1) := by decide +kernel
theorem dX2_sumSpare_25 : decode cX2_sumSpare 25 = .ok (.invokestatic 83, 3) := by decide +kernel
theorem dX2_sumSpare_28 : decode cX2_sumSpare 28 = .ok (.lstore 5, 2) := by decide +kernel
theorem dX2_sumSpare_30 : decode cX2_sumSpare 30 = .ok (.aload_n 3, 1) := by decide +kernel
theorem dX2_sumSpare_31 : decode cX2_sumSpare 31 = .ok (.iload 4, 2) := by decide +kernel
theorem dX2_sumSpare_33 : decode cX2_sumSpare 33 = .ok (.iload_n 1, 1) := by decide +kernel
theorem dX2_sumSpare_34 : decode cX2_sumSpare 34 = .ok (.iconst 0, 1) := by decide +kernel
theorem dX2_sumSpare_35 : decode cX2_sumSpare 35 = .ok (.invokestatic 83, 3) := by decide +kernel
theorem dX2_sumSpare_38 : decode cX2_sumSpare 38 = .ok (.lstore 7, 2) := by decide +kernel
theorem dX2_sumSpare_40 : decode cX2_sumSpare 40 = .ok (.aload_n 3, 1) := by decide +kernel
theorem dX2_sumSpare_41 : decode cX2_sumSpare 41 = .ok (.iload 4, 2) := by decide +kernel
theorem dX2_sumSpare_43 : decode cX2_sumSpare 43 = .ok (.iload_n 2, 1) := by decide +kernel
theorem dX2_sumSpare_44 : decode cX2_sumSpare 44 = .ok (.ifCond .eq 11, 3) := by decide +kernel
theorem dX2_sumSpare_47 : decode cX2_sumSpare 47 = .ok (.lload 5, 2) := by decide +kernel
theorem dX2_sumSpare_49 : decode cX2_sumSpare 49 = .ok (.lload 7, 2) := by decide +kernel
theorem dX2_sumSpare_51 : decode cX2_sumSpare 51 = .ok (.land, 1) := by decide +kernel
theorem dX2_sumSpare_52 : decode cX2_sumSpare 52 = .ok (.goto 8, 3) := by decide +kernel
theorem dX2_sumSpare_55 : decode cX2_sumSpare 55 = .ok (.lload 5, 2) := by decide +kernel
theorem dX2_sumSpare_57 : decode cX2_sumSpare 57 = .ok (.lload 7, 2) := by decide +kernel
theorem dX2_sumSpare_59 : decode cX2_sumSpare 59 = .ok (.lor, 1) := by decide +kernel
theorem dX2_sumSpare_60 : decode cX2_sumSpare 60 = .ok (.lastore, 1) := by decide +kernel
theorem dX2_sumSpare_61 : decode cX2_sumSpare 61 = .ok (.iinc 4 1, 3) := by decide +kernel
theorem dX2_sumSpare_64 : decode cX2_sumSpare 64 = .ok (.goto (-53), 3) := by decide +kernel
theorem dX2_sumSpare_67 : decode cX2_sumSpare 67 = .ok (.return_, 1) := by decide +kernel
theorem dX2_findNearest_0 : decode cX2_findNearest 0 = .ok (.iconst 1, 1) := by decide +kernel
theorem dX2_findNearest_1 : decode cX2_findNearest 1 = .ok (.aload_n 0, 1) := by decide +kernel
theorem dX2_findNearest_2 : decode cX2_findNearest 2 = .ok (.getfield 94, 3) := by decide +kernel
theorem dX2_findNearest_5 : decode cX2_findNearest 5 = .ok (.ishl, 1) := by decide +kernel
theorem dX2_findNearest_6 : decode cX2_findNearest 6 = .ok (.istore 4, 2) := by decide +kernel
theorem dX2_findNearest_8 : decode cX2_findNearest 8 = .ok (.iconst 0, 1) := by decide +kernel
theorem dX2_findNearest_9 : decode cX2_findNearest 9 = .ok (.istore 5, 2) := by decide +kernel
theorem dX2_findNearest_11 : decode cX2_findNearest 11 = .ok (.iload 5, 2) := by decide +kernel
theorem dX2_findNearest_13 : decode cX2_findNearest 13 = .ok (.iload 4, 2) := by decide +kernel
theorem dX2_findNearest_15 : decode cX2_findNearest 15 = .ok (.if_icmp .ge 30, 3) := by decide +kernel
theorem dX2_findNearest_18 : decode cX2_findNearest 18 = .ok (.aload_n 2, 1) := by decide +kernel
theorem dX2_findNearest_19 : decode cX2_findNearest 19 = .ok (.iload 4, 2) := by decide +kernel
theorem dX2_findNearest_21 : decode cX2_findNearest 21 = .ok (.iload 5, 2) := by decide +kernel
theorem dX2_findNearest_23 : decode cX2_findNearest 23 = .ok (.iadd, 1) := by decide +kernel
theorem dX2_findNearest_24 : decode cX2_findNearest 24 = .ok (.aload_n 1, 1) := by decide +kernel
theorem dX2_findNearest_25 : decode cX2_findNearest 25 = .ok (.iload 5, 2) := by decide +kernel
theorem dX2_findNearest_27 : decode cX2_findNearest 27 = .ok (.invokestatic 113, 3) := by decide +kernel
theorem dX2_findNearest_30 : decode cX2_findNearest 30 = .ok (.ifCond .eq 7, 3) := by decide +kernel
theorem dX2_findNearest_33 : decode cX2_findNearest 33 = .ok (.iconst 1, 1) := by decide +kernel
theorem dX2_findNearest_34 : decode cX2_findNearest 34 = .ok (.goto 4, 3) := by decide +kernel
theorem dX2_findNearest_37 : decode cX2_findNearest 37 = .ok (.iconst 0, 1) := by decide +kernel
theorem dX2_findNearest_38 : decode cX2_findNearest 38 = .ok (.iastore, 1) := by decide +kernel
theorem dX2_findNearest_39 : decode cX2_findNearest 39 = .ok (.iinc 5 1, 3) := by decide +kernel
theorem dX2_findNearest_42 : decode cX2_findNearest 42 = .ok (.goto (-31), 3) := by decide +kernel
theorem dX2_findNearest_45 : decode cX2_findNearest 45 = .ok (.iload 4, 2) := by decide +kernel
theorem dX2_findNearest_47 : decode cX2_findNearest 47 = .ok (.iconst 1, 1) := by decide +kernel
theorem dX2_findNearest_48 : decode cX2_findNearest 48 = .ok (.isub, 1) := by decide +kernel
theorem dX2_findNearest_49 : decode cX2_findNearest 49 = .ok (.istore 5, 2) := by decide +kernel
theorem dX2_findNearest_51 : decode cX2_findNearest 51 = .ok (.iload 5, 2) := by decide +kernel
theorem dX2_findNearest_53 : decode cX2_findNearest 53 = .ok (.iconst 1, 1) := by decide +kernel
theorem dX2_findNearest_54 : decode cX2_findNearest 54 = .ok (.if_icmp .lt 28, 3) := by decide +kernel
theorem dX2_findNearest_57 : decode cX2_findNearest 57 = .ok (.aload_n 2, 1) := by decide +kernel
theorem dX2_findNearest_58 : decode cX2_findNearest 58 = .ok (.iload 5, 2) := by decide +kernel
theorem dX2_findNearest_60 : decode cX2_findNearest 60 = .ok (.aload_n 2, 1) := by decide +kernel
theorem dX2_findNearest_61 : decode cX2_findNearest 61 = .ok (.iconst 2, 1) := by decide +kernel
theorem dX2_findNearest_62 : decode cX2_findNearest 62 = .ok (.iload 5, 2) := by decide +kernel
theorem dX2_findNearest_64 : decode cX2_findNearest 64 = .ok (.imul, 1) := by decide +kernel
theorem dX2_findNearest_65 : decode cX2_findNearest 65 = .ok (.iaload, 1) := by decide +kernel
theorem dX2_findNearest_66 : decode cX2_findNearest 66 = .ok (.aload_n 2, 1) := by decide +kernel
theorem dX2_findNearest_67 : decode cX2_findNearest 67 = .ok (.iconst 2, 1) := by decide +kernel
theorem dX2_findNearest_68 : decode cX2_findNearest 68 = .ok (.iload 5, 2) := by decide +kernel
theorem dX2_findNearest_70 : decode cX2_findNearest 70 = .ok (.imul, 1) := by decide +kernel
theorem dX2_findNearest_71 : decode cX2_findNearest 71 = .ok (.iconst 1, 1) := by decide +kernel
theorem dX2_findNearest_72 : decode cX2_findNearest 72 = .ok (.iadd, 1) := by decide +kernel
theorem dX2_findNearest_73 : decode cX2_findNearest 73 = .ok (.iaload, 1) := by decide +kernel
theorem dX2_findNearest_74 : decode cX2_findNearest 74 = .ok (.ior, 1) := by decide +kernel
theorem dX2_findNearest_75 : decode cX2_findNearest 75 = .ok (.iastore, 1) := by decide +kernel
theorem dX2_findNearest_76 : decode cX2_findNearest 76 = .ok (.iinc 5 (-1), 3) := by decide +kernel
theorem dX2_findNearest_79 : decode cX2_findNearest 79 = .ok (.goto (-28), 3) := by decide +kernel
theorem dX2_findNearest_82 : decode cX2_findNearest 82 = .ok (.aload_n 3, 1) := by decide +kernel
theorem dX2_findNearest_83 : decode cX2_findNearest 83 = .ok (.iconst 1, 1) := by decide +kernel
theorem dX2_findNearest_84 : decode cX2_findNearest 84 = .ok (.iconst 1, 1) := by decide +kernel
theorem dX2_findNearest_85 : decode cX2_findNearest 85 = .ok (.iastore, 1) := by decide +kernel
theorem dX2_findNearest_86 : decode cX2_findNearest 86 = .ok (.iconst 2, 1) := by decide +kernel
theorem dX2_findNearest_87 : decode cX2_findNearest 87 = .ok (.istore 5, 2) := by decide +kernel
theorem dX2_findNearest_89 : decode cX2_findNearest 89 = .ok (.iload 5, 2) := by decide +kernel
theorem dX2_findNearest_91 : decode cX2_findNearest 91 = .ok (.iconst 2, 1) := by decide +kernel
theorem dX2_findNearest_92 : decode cX2_findNearest 92 = .ok (.iload 4, 2) := by decide +kernel
theorem dX2_findNearest_94 : decode cX2_findNearest 94 = .ok (.imul, 1) := by decide +kernel
theorem dX2_findNearest_95 : decode cX2_findNearest 95 = .ok (.if_icmp .ge 44, 3) := by decide +kernel
theorem dX2_findNearest_98 : decode cX2_findNearest 98 = .ok (.iconst 2, 1) := by decide +kernel
theorem dX2_findNearest_99 : decode cX2_findNearest 99 = .ok (.aload_n 3, 1) := by decide +kernel
theorem dX2_findNearest_100 : decode cX2_findNearest 100 = .ok (.iload 5, 2) := by decide +kernel
theorem dX2_findNearest_102 : decode cX2_findNearest 102 = .ok (.iconst 1, 1) := by decide +kernel
theorem dX2_findNearest_103 : decode cX2_findNearest 103 = .ok (.ishr, 1) := by decide +kernel
theorem dX2_findNearest_104 : decode cX2_findNearest 104 = .ok (.iaload, 1) := by decide +kernel
theorem dX2_findNearest_105 : decode cX2_findNearest 105 = .ok (.imul, 1) := by decide +kernel
theorem dX2_findNearest_106 : decode cX2_findNearest 106 = .ok (.iload 5, 2) := by decide +kernel
theorem dX2_findNearest_108 : decode cX2_findNearest 108 = .ok (.iconst 1, 1) := by decide +kernel
theorem dX2_findNearest_109 : decode cX2_findNearest 109 = .ok (.iand, 1) := by decide +kernel
theorem dX2_findNearest_110 : decode cX2_findNearest 110 = .ok (.iadd, 1) := by decide +kernel
theorem dX2_findNearest_111 : decode cX2_findNearest 111 = .ok (.istore 6, 2) := by decide +kernel
theorem dX2_findNearest_113 : decode cX2_findNearest 113 = .ok (.aload_n 3, 1) := by decide +kernel
theorem dX2_findNearest_114 : decode cX2_findNearest 114 = .ok (.iload 5, 2) := by decide +kernel
theorem dX2_findNearest_116 : decode cX2_findNearest 116 = .ok (.aload_n 2, 1) := by decide +kernel
theorem dX2_findNearest_117 : decode cX2_findNearest 117 = .ok (.iload 6, 2) := by decide +kernel
theorem dX2_findNearest_119 : decode cX2_findNearest 119 = .ok (.iaload, 1) := by decide +kernel
theorem dX2_findNearest_120 : decode cX2_findNearest 120 = .ok (.ifCond .eq 8, 3) := by decide +kernel
theorem dX2_findNearest_123 : decode cX2_findNearest 123 = .ok (.iload 6, 2) := by decide +kernel
theorem dX2_findNearest_125 : decode cX2_findNearest 125 = .ok (.goto 7, 3) := by decide +kernel
theorem dX2_findNearest_128 : decode cX2_findNearest 128 = .ok (.iload 6, 2) := by decide +kernel
theorem dX2_findNearest_130 : decode cX2_findNearest 130 = .ok (.iconst 1, 1) := by decide +kernel
theorem dX2_findNearest_131 : decode cX2_findNearest 131 = .ok (.ixor, 1) := by decide +kernel
theorem dX2_findNearest_132 : decode cX2_findNearest 132 = .ok (.iastore, 1) := by decide +kernel
theorem dX2_findNearest_133 : decode cX2_findNearest 133 = .ok (.iinc 5 1, 3) := by decide +kernel
theorem dX2_findNearest_136 : decode cX2_findNearest 136 = .ok (.goto (-47), 3) := by decide +kernel
theorem dX2_findNearest_139 : decode cX2_findNearest 139 = .ok (.return_, 1) := by decide +kernel
theorem dX2_keep_0 : decode cX2_keep 0 = .ok (.aload_n 0, 1) := by decide +kernel
theorem dX2_keep_1 : decode cX2_keep 1 = .ok (.getfield 137, 3) := by decide +kernel
theorem dX2_keep_4 : decode cX2_keep 4 = .ok (.getstatic 214, 3) := by decide +kernel
theorem dX2_keep_7 : decode cX2_keep 7 = .ok (.aload_n 0, 1) := by decide +kernel
theorem dX2_keep_8 : decode cX2_keep 8 = .ok (.getfield 94, 3) := by decide +kernel
theorem dX2_keep_11 : decode cX2_keep 11 = .ok (.iaload, 1) := by decide +kernel
theorem dX2_keep_12 : decode cX2_keep 12 = .ok (.if_icmp .ge 32, 3) := by decide +kernel
theorem dX2_keep_15 : decode cX2_keep 15 = .ok (.aload_n 0, 1) := by decide +kernel
theorem dX2_keep_16 : decode cX2_keep 16 = .ok (.getfield 32, 3) := by decide +kernel
theorem dX2_keep_19 : decode cX2_keep 19 = .ok (.aload_n 0, 1) := by decide +kernel
theorem dX2_keep_20 : decode cX2_keep 20 = .ok (.getfield 13, 3) := by decide +kernel
theorem dX2_keep_23 : decode cX2_keep 23 = .ok (.iconst 0, 1) := by decide +kernel
theorem dX2_keep_24 : decode cX2_keep 24 = .ok (.bipush 31, 2) := by decide +kernel
theorem dX2_keep_26 : decode cX2_keep 26 = .ok (.iload_n 1, 1) := by decide +kernel
theorem dX2_keep_27 : decode cX2_keep 27 = .ok (.aload_n 0, 1) := by decide +kernel
theorem dX2_keep_28 : decode cX2_keep 28 = .ok (.getfield 94, 3) := by decide +kernel
theorem dX2_keep_31 : decode cX2_keep 31 = .ok (.invokevirtual 217, 3) := by decide +kernel
theorem dX2_keep_34 : decode cX2_keep 34 = .ok (.aload_n 0, 1) := by decide +kernel
theorem dX2_keep_35 : decode cX2_keep 35 = .ok (.getfield 137, 3) := by decide +kernel
theorem dX2_keep_38 : decode cX2_keep 38 = .ok (.if_icmp .le 6, 3) := by decide +kernel
theorem dX2_keep_41 : decode cX2_keep 41 = .ok (.bipush (-8), 2) := by decide +kernel
theorem dX2_keep_43 : decode cX2_keep 43 = .ok (.ireturn, 1) := by decide +kernel
theorem dX2_keep_44 : decode cX2_keep 44 = .ok (.aload_n 0, 1) := by decide +kernel
theorem dX2_keep_45 : decode cX2_keep 45 = .ok (.getfield 13, 3) := by decide +kernel
theorem dX2_keep_48 : decode cX2_keep 48 = .ok (.bipush 32, 2) := by decide +kernel
theorem dX2_keep_50 : decode cX2_keep 50 = .ok (.aaload, 1) := by decide +kernel
theorem dX2_keep_51 : decode cX2_keep 51 = .ok (.iconst 0, 1) := by decide +kernel
theorem dX2_keep_52 : decode cX2_keep 52 = .ok (.aload_n 0, 1) := by decide +kernel
theorem dX2_keep_53 : decode cX2_keep 53 = .ok (.getfield 13, 3) := by decide +kernel
theorem dX2_keep_56 : decode cX2_keep 56 = .ok (.iload_n 1, 1) := by decide +kernel
theorem dX2_keep_57 : decode cX2_keep 57 = .ok (.aaload, 1) := by decide +kernel
theorem dX2_keep_58 : decode cX2_keep 58 = .ok (.iconst 0, 1) := by decide +kernel
theorem dX2_keep_59 : decode cX2_keep 59 = .ok (.aload_n 0, 1) := by decide +kernel
theorem dX2_keep_60 : decode cX2_keep 60 = .ok (.getfield 44, 3) := by decide +kernel
theorem dX2_keep_63 : decode cX2_keep 63 = .ok (.invokestatic 121, 3) := by decide +kernel
theorem dX2_keep_66 : decode cX2_keep 66 = .ok (.aload_n 0, 1) := by decide +kernel
theorem dX2_keep_67 : decode cX2_keep 67 = .ok (.invokevirtual 58, 3) := by decide +kernel
theorem dX2_keep_70 : decode cX2_keep 70 = .ok (.iconst 0, 1) := by decide +kernel
theorem dX2_keep_71 : decode cX2_keep 71 = .ok (.ireturn, 1) := by decide +kernel
theorem dX2_forksOfAll_0 : decode cX2_forksOfAll 0 = .ok (.aload_n 0, 1) := by decide +kernel
theorem dX2_forksOfAll_1 : decode cX2_forksOfAll 1 = .ok (.getfield 32, 3) := by decide +kernel
theorem dX2_forksOfAll_4 : decode cX2_forksOfAll 4 = .ok (.aload_n 0, 1) := by decide +kernel
theorem dX2_forksOfAll_5 : decode cX2_forksOfAll 5 = .ok (.getfield 13, 3) := by decide +kernel
theorem dX2_forksOfAll_8 : decode cX2_forksOfAll 8 = .ok (.iconst 0, 1) := by decide +kernel
theorem dX2_forksOfAll_9 : decode cX2_forksOfAll 9 = .ok (.bipush 31, 2) := by decide +kernel
theorem dX2_forksOfAll_11 : decode cX2_forksOfAll 11 = .ok (.iconst (-1), 1) := by decide +kernel
theorem dX2_forksOfAll_12 : decode cX2_forksOfAll 12 = .ok (.aload_n 0, 1) := by decide +kernel
theorem dX2_forksOfAll_13 : decode cX2_forksOfAll 13 = .ok (.getfield 94, 3) := by decide +kernel
theorem dX2_forksOfAll_16 : decode cX2_forksOfAll 16 = .ok (.invokevirtual 217, 3) := by decide +kernel
theorem dX2_forksOfAll_19 : decode cX2_forksOfAll 19 = .ok (.ireturn, 1) := by decide +kernel
theorem dX2_forksOfOne_0 : decode cX2_forksOfOne 0 = .ok (.aload_n 0, 1) := by decide +kernel
theorem dX2_forksOfOne_1 : decode cX2_forksOfOne 1 = .ok (.getfield 32, 3) := by decide +kernel
theorem dX2_forksOfOne_4 : decode cX2_forksOfOne 4 = .ok (.aload_n 0, 1) := by decide +kernel
theorem dX2_forksOfOne_5 : decode cX2_forksOfOne 5 = .ok (.getfield 13, 3) := by decide +kernel
theorem dX2_forksOfOne_8 : decode cX2_forksOfOne 8 = .ok (.iload_n 1, 1) := by decide +kernel
theorem dX2_forksOfOne_9 : decode cX2_forksOfOne 9 = .ok (.iload_n 1, 1) := by decide +kernel
theorem dX2_forksOfOne_10 : decode cX2_forksOfOne 10 = .ok (.iconst (-1), 1) := by decide +kernel
theorem dX2_forksOfOne_11 : decode cX2_forksOfOne 11 = .ok (.aload_n 0, 1) := by decide +kernel
theorem dX2_forksOfOne_12 : decode cX2_forksOfOne 12 = .ok (.getfield 94, 3) := by decide +kernel
theorem dX2_forksOfOne_15 : decode cX2_forksOfOne 15 = .ok (.invokevirtual 217, 3) := by decide +kernel
theorem dX2_forksOfOne_18 : decode cX2_forksOfOne 18 = .ok (.ireturn, 1) := by decide +kernel
theorem dX2_bestLevelGoingDown_0 : decode cX2_bestLevelGoingDown 0 = .ok (.aload_n 0, 1) := by decide +kernel
theorem dX2_bestLevelGoingDown_1 : decode cX2_bestLevelGoingDown 1 = .ok (.invokevirtual 133, 3) := by decide +kernel
theorem dX2_bestLevelGoingDown_4 : decode cX2_bestLevelGoingDown 4 = .ok (.istore_n 1, 1) := by decide +kernel
theorem dX2_bestLevelGoingDown_5 : decode cX2_bestLevelGoingDown 5 = .ok (.iload_n 1, 1) := by decide +kernel
theorem dX2_bestLevelGoingDown_6 : decode cX2_bestLevelGoingDown 6 = .ok (.istore_n 2, 1) := by decide +kernel
theorem dX2_bestLevelGoingDown_7 : decode cX2_bestLevelGoingDown 7 = .ok (.iconst 0, 1) := by decide +kernel
theorem dX2_bestLevelGoingDown_8 : decode cX2_bestLevelGoingDown 8 = .ok (.istore_n 3, 1) := by decide +kernel
theorem dX2_bestLevelGoingDown_9 : decode cX2_bestLevelGoingDown 9 = .ok (.aload_n 0, 1) := by decide +kernel
theorem dX2_bestLevelGoingDown_10 : decode cX2_bestLevelGoingDown 10 = .ok (.getfield 32, 3) := by decide +kernel
theorem dX2_bestLevelGoingDown_13 : decode cX2_bestLevelGoingDown 13 = .ok (.getfield 179, 3) := by decide +kernel
theorem dX2_bestLevelGoingDown_16 : decode cX2_bestLevelGoingDown 16 = .ok (.iconst 0, 1) := by decide +kernel
theorem dX2_bestLevelGoingDown_17 : decode cX2_bestLevelGoingDown 17 = .ok (.iaload, 1) := by decide +kernel
theorem dX2_bestLevelGoingDown_18 : decode cX2_bestLevelGoingDown 18 = .ok (.istore 4, 2) := by decide +kernel
theorem dX2_bestLevelGoingDown_20 : decode cX2_bestLevelGoingDown 20 = .ok (.aload_n 0, 1) := by decide +kernel
theorem dX2_bestLevelGoingDown_21 : decode cX2_bestLevelGoingDown 21 = .ok (.getfield 32, 3) := by decide +kernel
theorem dX2_bestLevelGoingDown_24 : decode cX2_bestLevelGoingDown 24 = .ok (.aload_n 0, 1) := by decide +kernel
theorem dX2_bestLevelGoingDown_25 : decode cX2_bestLevelGoingDown 25 = .ok (.getfield 13, 3) := by decide +kernel
theorem dX2_bestLevelGoingDown_28 : decode cX2_bestLevelGoingDown 28 = .ok (.iconst 0, 1) := by decide +kernel
theorem dX2_bestLevelGoingDown_29 : decode cX2_bestLevelGoingDown 29 = .ok (.bipush 31, 2) := by decide +kernel
theorem dX2_bestLevelGoingDown_31 : decode cX2_bestLevelGoingDown 31 = .ok (.iconst (-1), 1) := by decide +kernel
theorem dX2_bestLevelGoingDown_32 : decode cX2_bestLevelGoingDown 32 = .ok (.aload_n 0, 1) := by decide +kernel
theorem dX2_bestLevelGoingDown_33 : decode cX2_bestLevelGoingDown 33 = .ok (.getfield 94, 3) := by decide +kernel
theorem dX2_bestLevelGoingDown_36 : decode cX2_bestLevelGoingDown 36 = .ok (.invokevirtual 221, 3) := by decide +kernel
theorem dX2_bestLevelGoingDown_39 : decode cX2_bestLevelGoingDown 39 = .ok (.iconst 1, 1) := by decide +kernel
theorem dX2_bestLevelGoingDown_40 : decode cX2_bestLevelGoingDown 40 = .ok (.istore 5, 2) := by decide +kernel
theorem dX2_bestLevelGoingDown_42 : decode cX2_bestLevelGoingDown 42 = .ok (.iload 5, 2) := by decide +kernel
theorem dX2_bestLevelGoingDown_44 : decode cX2_bestLevelGoingDown 44 = .ok (.aload_n 0, 1) := by decide +kernel
theorem dX2_bestLevelGoingDown_45 : decode cX2_bestLevelGoingDown 45 = .ok (.getfield 94, 3) := by decide +kernel
theorem dX2_bestLevelGoingDown_48 : decode cX2_bestLevelGoingDown 48 = .ok (.if_icmp .ge 97, 3) := by decide +kernel
theorem dX2_bestLevelGoingDown_51 : decode cX2_bestLevelGoingDown 51 = .ok (.iload 4, 2) := by decide +kernel
theorem dX2_bestLevelGoingDown_53 : decode cX2_bestLevelGoingDown 53 = .ok (.aload_n 0, 1) := by decide +kernel
theorem dX2_bestLevelGoingDown_54 : decode cX2_bestLevelGoingDown 54 = .ok (.getfield 32, 3) := by decide +kernel
theorem dX2_bestLevelGoingDown_57 : decode cX2_bestLevelGoingDown 57 = .ok (.getfield 179, 3) := by decide +kernel
theorem dX2_bestLevelGoingDown_60 : decode cX2_bestLevelGoingDown 60 = .ok (.iload 5, 2) := by decide +kernel
theorem dX2_bestLevelGoingDown_62 : decode cX2_bestLevelGoingDown 62 = .ok (.iaload, 1) := by decide +kernel
theorem dX2_bestLevelGoingDown_63 : decode cX2_bestLevelGoingDown 63 = .ok (.iadd, 1) := by decide +kernel
theorem dX2_bestLevelGoingDown_64 : decode cX2_bestLevelGoingDown 64 = .ok (.istore 6, 2) := by decide +kernel
theorem dX2_bestLevelGoingDown_66 : decode cX2_bestLevelGoingDown 66 = .ok (.aload_n 0, 1) := by decide +kernel
theorem dX2_bestLevelGoingDown_67 : decode cX2_bestLevelGoingDown 67 = .ok (.iload 5, 2) := by decide +kernel
theorem dX2_bestLevelGoingDown_69 : decode cX2_bestLevelGoingDown 69 = .ok (.iconst 1, 1) := by decide +kernel
theorem dX2_bestLevelGoingDown_70 : decode cX2_bestLevelGoingDown 70 = .ok (.isub, 1) := by decide +kernel
theorem dX2_bestLevelGoingDown_71 : decode cX2_bestLevelGoingDown 71 = .ok (.invokevirtual 130, 3) := by decide +kernel
theorem dX2_bestLevelGoingDown_74 : decode cX2_bestLevelGoingDown 74 = .ok (.aload_n 0, 1) := by decide +kernel
theorem dX2_bestLevelGoingDown_75 : decode cX2_bestLevelGoingDown 75 = .ok (.getfield 32, 3) := by decide +kernel
theorem dX2_bestLevelGoingDown_78 : decode cX2_bestLevelGoingDown 78 = .ok (.aload_n 0, 1) := by decide +kernel
theorem dX2_bestLevelGoingDown_79 : decode cX2_bestLevelGoingDown 79 = .ok (.getfield 13, 3) := by decide +kernel
theorem dX2_bestLevelGoingDown_82 : decode cX2_bestLevelGoingDown 82 = .ok (.iconst 1, 1) := by decide +kernel
theorem dX2_bestLevelGoingDown_83 : decode cX2_bestLevelGoingDown 83 = .ok (.aload_n 0, 1) := by decide +kernel
theorem dX2_bestLevelGoingDown_84 : decode cX2_bestLevelGoingDown 84 = .ok (.iload 5, 2) := by decide +kernel
theorem dX2_bestLevelGoingDown_86 : decode cX2_bestLevelGoingDown 86 = .ok (.iconst 1, 1) := by decide +kernel
theorem dX2_bestLevelGoingDown_87 : decode cX2_bestLevelGoingDown 87 = .ok (.isub, 1) := by decide +kernel
theorem dX2_bestLevelGoingDown_88 : decode cX2_bestLevelGoingDown 88 = .ok (.invokevirtual 191, 3) := by decide +kernel
theorem dX2_bestLevelGoingDown_91 : decode cX2_bestLevelGoingDown 91 = .ok (.ishl, 1) := by decide +kernel
theorem dX2_bestLevelGoingDown_92 : decode cX2_bestLevelGoingDown 92 = .ok (.invokevirtual 225, 3) := by decide +kernel
theorem dX2_bestLevelGoingDown_95 : decode cX2_bestLevelGoingDown 95 = .ok (.istore 7, 2) := by decide +kernel
theorem dX2_bestLevelGoingDown_97 : decode cX2_bestLevelGoingDown 97 = .ok (.aload_n 0, 1) := by decide +kernel
theorem dX2_bestLevelGoingDown_98 : decode cX2_bestLevelGoingDown 98 = .ok (.getfield 32, 3) := by decide +kernel
theorem dX2_bestLevelGoingDown_101 : decode cX2_bestLevelGoingDown 101 = .ok (.aload_n 0, 1) := by decide +kernel
theorem dX2_bestLevelGoingDown_102 : decode cX2_bestLevelGoingDown 102 = .ok (.getfield 13, 3) := by decide +kernel
theorem dX2_bestLevelGoingDown_105 : decode cX2_bestLevelGoingDown 105 = .ok (.iconst 1, 1) := by decide +kernel
theorem dX2_bestLevelGoingDown_106 : decode cX2_bestLevelGoingDown 106 = .ok (.aload_n 0, 1) := by decide +kernel
theorem dX2_bestLevelGoingDown_107 : decode cX2_bestLevelGoingDown 107 = .ok (.iload 5, 2) := by decide +kernel
theorem dX2_bestLevelGoingDown_109 : decode cX2_bestLevelGoingDown 109 = .ok (.invokevirtual 191, 3) := by decide +kernel
theorem dX2_bestLevelGoingDown_112 : decode cX2_bestLevelGoingDown 112 = .ok (.ishl, 1) := by decide +kernel
theorem dX2_bestLevelGoingDown_113 : decode cX2_bestLevelGoingDown 113 = .ok (.invokevirtual 229, 3) := by decide +kernel
theorem dX2_bestLevelGoingDown_116 : decode cX2_bestLevelGoingDown 116 = .ok (.istore 4, 2) := by decide +kernel
theorem dX2_bestLevelGoingDown_118 : decode cX2_bestLevelGoingDown 118 = .ok (.iload_n 1, 1) := by decide +kernel
theorem dX2_bestLevelGoingDown_119 : decode cX2_bestLevelGoingDown 119 = .ok (.iload 7, 2) := by decide +kernel
theorem dX2_bestLevelGoingDown_121 : decode cX2_bestLevelGoingDown 121 = .ok (.iload 4, 2) := by decide +kernel
theorem dX2_bestLevelGoingDown_123 : decode cX2_bestLevelGoingDown 123 = .ok (.iadd, 1) := by decide +kernel
theorem dX2_bestLevelGoingDown_124 : decode cX2_bestLevelGoingDown 124 = .ok (.iload 6, 2) := by decide +kernel
theorem dX2_bestLevelGoingDown_126 : decode cX2_bestLevelGoingDown 126 = .ok (.isub, 1) := by decide +kernel
theorem dX2_bestLevelGoingDown_127 : decode cX2_bestLevelGoingDown 127 = .ok (.iadd, 1) := by decide +kernel
theorem dX2_bestLevelGoingDown_128 : decode cX2_bestLevelGoingDown 128 = .ok (.istore_n 1, 1) := by decide +kernel
theorem dX2_bestLevelGoingDown_129 : decode cX2_bestLevelGoingDown 129 = .ok (.iload_n 1, 1) := by decide +kernel
theorem dX2_bestLevelGoingDown_130 : decode cX2_bestLevelGoingDown 130 = .ok (.iload_n 2, 1) := by decide +kernel
theorem dX2_bestLevelGoingDown_131 : decode cX2_bestLevelGoingDown 131 = .ok (.if_icmp .ge 8, 3) := by decide +kernel
theorem dX2_bestLevelGoingDown_134 : decode cX2_bestLevelGoingDown 134 = .ok (.iload_n 1, 1) := by decide +kernel
theorem dX2_bestLevelGoingDown_135 : decode cX2_bestLevelGoingDown 135 = .ok (.istore_n 2, 1) := by decide +kernel
theorem dX2_bestLevelGoingDown_136 : decode cX2_bestLevelGoingDown 136 = .ok (.iload 5, 2) := by decide +kernel
theorem dX2_bestLevelGoingDown_138 : decode cX2_bestLevelGoingDown 138 = .ok (.istore_n 3, 1) := by decide +kernel
theorem dX2_bestLevelGoingDown_139 : decode cX2_bestLevelGoingDown 139 = .ok (.iinc 5 1, 3) := by decide +kernel
theorem dX2_bestLevelGoingDown_142 : decode cX2_bestLevelGoingDown 142 = .ok (.goto (-100), 3) := by decide +kernel
theorem dX2_bestLevelGoingDown_145 : decode cX2_bestLevelGoingDown 145 = .ok (.iload_n 3, 1) := by decide +kernel
theorem dX2_bestLevelGoingDown_146 : decode cX2_bestLevelGoingDown 146 = .ok (.ireturn, 1) := by decide +kernel
theorem dX2_turn_0 : decode cX2_turn 0 = .ok (.aload_n 0, 1) := by decide +kernel
theorem dX2_turn_1 : decode cX2_turn 1 = .ok (.getfield 16, 3) := by decide +kernel
theorem dX2_turn_4 : decode cX2_turn 4 = .ok (.iload_n 1, 1) := by decide +kernel
theorem dX2_turn_5 : decode cX2_turn 5 = .ok (.iaload, 1) := by decide +kernel
theorem dX2_turn_6 : decode cX2_turn 6 = .ok (.istore_n 2, 1) := by decide +kernel
theorem dX2_turn_7 : decode cX2_turn 7 = .ok (.aload_n 0, 1) := by decide +kernel
theorem dX2_turn_8 : decode cX2_turn 8 = .ok (.getfield 16, 3) := by decide +kernel
theorem dX2_turn_11 : decode cX2_turn 11 = .ok (.iload_n 1, 1) := by decide +kernel
theorem dX2_turn_12 : decode cX2_turn 12 = .ok (.aload_n 0, 1) := by decide +kernel
theorem dX2_turn_13 : decode cX2_turn 13 = .ok (.getfield 16, 3) := by decide +kernel
theorem dX2_turn_16 : decode cX2_turn 16 = .ok (.iload_n 1, 1) := by decide +kernel
theorem dX2_turn_17 : decode cX2_turn 17 = .ok (.iconst 1, 1) := by decide +kernel
theorem dX2_turn_18 : decode cX2_turn 18 = .ok (.iadd, 1) := by decide +kernel
theorem dX2_turn_19 : decode cX2_turn 19 = .ok (.iaload, 1) := by decide +kernel
theorem dX2_turn_20 : decode cX2_turn 20 = .ok (.iastore, 1) := by decide +kernel
theorem dX2_turn_21 : decode cX2_turn 21 = .ok (.aload_n 0, 1) := by decide +kernel
theorem dX2_turn_22 : decode cX2_turn 22 = .ok (.getfield 16, 3) := by decide +kernel
theorem dX2_turn_25 : decode cX2_turn 25 = .ok (.iload_n 1, 1) := by decide +kernel
theorem dX2_turn_26 : decode cX2_turn 26 = .ok (.iconst 1, 1) := by decide +kernel
theorem dX2_turn_27 : decode cX2_turn 27 = .ok (.iadd, 1) := by decide +kernel
theorem dX2_turn_28 : decode cX2_turn 28 = .ok (.iload_n 2, 1) := by decide +kernel
theorem dX2_turn_29 : decode cX2_turn 29 = .ok (.iastore, 1) := by decide +kernel
theorem dX2_turn_30 : decode cX2_turn 30 = .ok (.iconst 0, 1) := by decide +kernel
theorem dX2_turn_31 : decode cX2_turn 31 = .ok (.istore_n 3, 1) := by decide +kernel
theorem dX2_turn_32 : decode cX2_turn 32 = .ok (.iload_n 3, 1) := by decide +kernel
theorem dX2_turn_33 : decode cX2_turn 33 = .ok (.bipush 32, 2) := by decide +kernel
theorem dX2_turn_35 : decode cX2_turn 35 = .ok (.if_icmp .ge 34, 3) := by decide +kernel
theorem dX2_turn_38 : decode cX2_turn 38 = .ok (.aload_n 0, 1) := by decide +kernel
theorem dX2_turn_39 : decode cX2_turn 39 = .ok (.getfield 13, 3) := by decide +kernel
theorem dX2_turn_42 : decode cX2_turn 42 = .ok (.iload_n 3, 1) := by decide +kernel
theorem dX2_turn_43 : decode cX2_turn 43 = .ok (.aaload, 1) := by decide +kernel
theorem dX2_turn_44 : decode cX2_turn 44 = .ok (.aload_n 0, 1) := by decide +kernel
theorem dX2_turn_45 : decode cX2_turn 45 = .ok (.getfield 44, 3) := by decide +kernel
theorem dX2_turn_48 : decode cX2_turn 48 = .ok (.aload_n 0, 1) := by decide +kernel
theorem dX2_turn_49 : decode cX2_turn 49 = .ok (.iload_n 1, 1) := by decide +kernel
theorem dX2_turn_50 : decode cX2_turn 50 = .ok (.invokevirtual 191, 3) := by decide +kernel
theorem dX2_turn_53 : decode cX2_turn 53 = .ok (.aload_n 0, 1) := by decide +kernel
theorem dX2_turn_54 : decode cX2_turn 54 = .ok (.iload_n 1, 1) := by decide +kernel
theorem dX2_turn_55 : decode cX2_turn 55 = .ok (.iconst 1, 1) := by decide +kernel
theorem dX2_turn_56 : decode cX2_turn 56 = .ok (.iadd, 1) := by decide +kernel
theorem dX2_turn_57 : decode cX2_turn 57 = .ok (.invokevirtual 191, 3) := by decide +kernel
theorem dX2_turn_60 : decode cX2_turn 60 = .ok (.invokestatic 101, 3) := by decide +kernel
theorem dX2_turn_63 : decode cX2_turn 63 = .ok (.iinc 3 1, 3) := by decide +kernel
theorem dX2_turn_66 : decode cX2_turn 66 = .ok (.goto (-34), 3) := by decide +kernel
theorem dX2_turn_69 : decode cX2_turn 69 = .ok (.return_, 1) := by decide +kernel
theorem dX2_differsBy_0 : decode cX2_differsBy 0 = .ok (.iconst 0, 1) := by decide +kernel
theorem dX2_differsBy_1 : decode cX2_differsBy 1 = .ok (.istore_n 3, 1) := by decide +kernel
theorem dX2_differsBy_2 : decode cX2_differsBy 2 = .ok (.iload_n 3, 1) := by decide +kernel
theorem dX2_differsBy_3 : decode cX2_differsBy 3 = .ok (.aload_n 0, 1) := by decide +kernel
theorem dX2_differsBy_4 : decode cX2_differsBy 4 = .ok (.getfield 44, 3) := by decide +kernel
theorem dX2_differsBy_7 : decode cX2_differsBy 7 = .ok (.if_icmp .ge 29, 3) := by decide +kernel
theorem dX2_differsBy_10 : decode cX2_differsBy 10 = .ok (.aload_n 1, 1) := by decide +kernel
theorem dX2_differsBy_11 : decode cX2_differsBy 11 = .ok (.iload_n 3, 1) := by decide +kernel
theorem dX2_differsBy_12 : decode cX2_differsBy 12 = .ok (.iload_n 2, 1) := by decide +kernel
theorem dX2_differsBy_13 : decode cX2_differsBy 13 = .ok (.iconst 1, 1) := by decide +kernel
theorem dX2_differsBy_14 : decode cX2_differsBy 14 = .ok (.invokestatic 83, 3) := by decide +kernel
theorem dX2_differsBy_17 : decode cX2_differsBy 17 = .ok (.aload_n 1, 1) := by decide +kernel
theorem dX2_differsBy_18 : decode cX2_differsBy 18 = .ok (.iload_n 3, 1) := by decide +kernel
theorem dX2_differsBy_19 : decode cX2_differsBy 19 = .ok (.iload_n 2, 1) := by decide +kernel
theorem dX2_differsBy_20 : decode cX2_differsBy 20 = .ok (.iconst 0, 1) := by decide +kernel
theorem dX2_differsBy_21 : decode cX2_differsBy 21 = .ok (.invokestatic 83, 3) := by decide +kernel
theorem dX2_differsBy_24 : decode cX2_differsBy 24 = .ok (.lcmp, 1) := by decide +kernel
theorem dX2_differsBy_25 : decode cX2_differsBy 25 = .ok (.ifCond .eq 5, 3) := by decide +kernel
theorem dX2_differsBy_28 : decode cX2_differsBy 28 = .ok (.iconst 1, 1) := by decide +kernel
theorem dX2_differsBy_29 : decode cX2_differsBy 29 = .ok (.ireturn, 1) := by decide +kernel
theorem dX2_differsBy_30 : decode cX2_differsBy 30 = .ok (.iinc 3 1, 3) := by decide +kernel
theorem dX2_differsBy_33 : decode cX2_differsBy 33 = .ok (.goto (-31), 3) := by decide +kernel
theorem dX2_differsBy_36 : decode cX2_differsBy 36 = .ok (.iconst 0, 1) := by decide +kernel
theorem dX2_differsBy_37 : decode cX2_differsBy 37 = .ok (.ireturn, 1) := by decide +kernel
theorem dX2_isAll_0 : decode cX2_isAll 0 = .ok (.iconst 0, 1) := by decide +kernel
theorem dX2_isAll_1 : decode cX2_isAll 1 = .ok (.istore 4, 2) := by decide +kernel
theorem dX2_isAll_3 : decode cX2_isAll 3 = .ok (.iload 4, 2) := by decide +kernel
theorem dX2_isAll_5 : decode cX2_isAll 5 = .ok (.aload_n 0, 1) := by decide +kernel
theorem dX2_isAll_6 : decode cX2_isAll 6 = .ok (.getfield 44, 3) := by decide +kernel
theorem dX2_isAll_9 : decode cX2_isAll 9 = .ok (.if_icmp .ge 25, 3) := by decide +kernel
theorem dX2_isAll_12 : decode cX2_isAll 12 = .ok (.aload_n 0, 1) := by decide +kernel
theorem dX2_isAll_13 : decode cX2_isAll 13 = .ok (.getfield 13, 3) := by decide +kernel
theorem dX2_isAll_16 : decode cX2_isAll 16 = .ok (.iload_n 1, 1) := by decide +kernel
theorem dX2_isAll_17 : decode cX2_isAll 17 = .ok (.aaload, 1) := by decide +kernel
theorem dX2_isAll_18 : decode cX2_isAll 18 = .ok (.iload 4, 2) := by decide +kernel
theorem dX2_isAll_20 : decode cX2_isAll 20 = .ok (.laload, 1) := by decide +kernel
theorem dX2_isAll_21 : decode cX2_isAll 21 = .ok (.lload_n 2, 1) := by decide +kernel
theorem dX2_isAll_22 : decode cX2_isAll 22 = .ok (.lcmp, 1) := by decide +kernel
theorem dX2_isAll_23 : decode cX2_isAll 23 = .ok (.ifCond .eq 5, 3) := by decide +kernel
theorem dX2_isAll_26 : decode cX2_isAll 26 = .ok (.iconst 0, 1) := by decide +kernel
theorem dX2_isAll_27 : decode cX2_isAll 27 = .ok (.ireturn, 1) := by decide +kernel
theorem dX2_isAll_28 : decode cX2_isAll 28 = .ok (.iinc 4 1, 3) := by decide +kernel
theorem dX2_isAll_31 : decode cX2_isAll 31 = .ok (.goto (-28), 3) := by decide +kernel
theorem dX2_isAll_34 : decode cX2_isAll 34 = .ok (.iconst 1, 1) := by decide +kernel
theorem dX2_isAll_35 : decode cX2_isAll 35 = .ok (.ireturn, 1) := by decide +kernel
theorem dX2_unsettledRegisters_0 : decode cX2_unsettledRegisters 0 = .ok (.iconst 0, 1) := by decide +kernel
theorem dX2_unsettledRegisters_1 : decode cX2_unsettledRegisters 1 = .ok (.istore_n 1, 1) := by decide +kernel
theorem dX2_unsettledRegisters_2 : decode cX2_unsettledRegisters 2 = .ok (.iconst 0, 1) := by decide +kernel
theorem dX2_unsettledRegisters_3 : decode cX2_unsettledRegisters 3 = .ok (.istore_n 2, 1) := by decide +kernel
theorem dX2_unsettledRegisters_4 : decode cX2_unsettledRegisters 4 = .ok (.iload_n 2, 1) := by decide +kernel
theorem dX2_unsettledRegisters_5 : decode cX2_unsettledRegisters 5 = .ok (.bipush 32, 2) := by decide +kernel
theorem dX2_unsettledRegisters_7 : decode cX2_unsettledRegisters 7 = .ok (.if_icmp .ge 33, 3) := by decide +kernel
theorem dX2_unsettledRegisters_10 : decode cX2_unsettledRegisters 10 = .ok (.aload_n 0, 1) := by decide +kernel
theorem dX2_unsettledRegisters_11 : decode cX2_unsettledRegisters 11 = .ok (.iload_n 2, 1) := by decide +kernel
theorem dX2_unsettledRegisters_12 : decode cX2_unsettledRegisters 12 = .ok (.lconst 0, 1) := by decide +kernel
theorem dX2_unsettledRegisters_13 : decode cX2_unsettledRegisters 13 = .ok (.invokevirtual 105, 3) := by decide +kernel
theorem dX2_unsettledRegisters_16 : decode cX2_unsettledRegisters 16 = .ok (.ifCond .ne 18, 3) := by decide +kernel
theorem dX2_unsettledRegisters_19 : decode cX2_unsettledRegisters 19 = .ok (.aload_n 0, 1) := by decide +kernel
theorem dX2_unsettledRegisters_20 : decode cX2_unsettledRegisters 20 = .ok (.iload_n 2, 1) := by decide +kernel
theorem dX2_unsettledRegisters_21 : decode cX2_unsettledRegisters 21 = .ok (.aload_n 0, 1) := by decide +kernel
theorem dX2_unsettledRegisters_22 : decode cX2_unsettledRegisters 22 = .ok (.getfield 48, 3) := by decide +kernel
theorem dX2_unsettledRegisters_25 : decode cX2_unsettledRegisters 25 = .ok (.invokevirtual 105, 3) := by decide +kernel
theorem dX2_unsettledRegisters_28 : decode cX2_unsettledRegisters 28 = .ok (.ifCond .ne 6, 3) := by decide +kernel
theorem dX2_unsettledRegisters_31 : decode cX2_unsettledRegisters 31 = .ok (.iinc 1 1, 3) := by decide +kernel
theorem dX2_unsettledRegisters_34 : decode cX2_unsettledRegisters 34 = .ok (.iinc 2 1, 3) := by decide +kernel
theorem dX2_unsettledRegisters_37 : decode cX2_unsettledRegisters 37 = .ok (.goto (-33), 3) := by decide +kernel
theorem dX2_unsettledRegisters_40 : decode cX2_unsettledRegisters 40 = .ok (.iload_n 1, 1) := by decide +kernel
theorem dX2_unsettledRegisters_41 : decode cX2_unsettledRegisters 41 = .ok (.ireturn, 1) := by decide +kernel
theorem dX2_restPointer_0 : decode cX2_restPointer 0 = .ok (.aload_n 0, 1) := by decide +kernel
theorem dX2_restPointer_1 : decode cX2_restPointer 1 = .ok (.bipush 33, 2) := by decide +kernel
theorem dX2_restPointer_3 : decode cX2_restPointer 3 = .ok (.invokevirtual 182, 3) := by decide +kernel
theorem dX2_restPointer_6 : decode cX2_restPointer 6 = .ok (.return_, 1) := by decide +kernel
theorem dX2_pointAt_0 : decode cX2_pointAt 0 = .ok (.aload_n 0, 1) := by decide +kernel
theorem dX2_pointAt_1 : decode cX2_pointAt 1 = .ok (.iload_n 1, 1) := by decide +kernel
theorem dX2_pointAt_2 : decode cX2_pointAt 2 = .ok (.putfield 197, 3) := by decide +kernel
theorem dX2_pointAt_5 : decode cX2_pointAt 5 = .ok (.aload_n 0, 1) := by decide +kernel
theorem dX2_pointAt_6 : decode cX2_pointAt 6 = .ok (.iconst 0, 1) := by decide +kernel
theorem dX2_pointAt_7 : decode cX2_pointAt 7 = .ok (.putfield 188, 3) := by decide +kernel
theorem dX2_pointAt_10 : decode cX2_pointAt 10 = .ok (.aload_n 0, 1) := by decide +kernel
theorem dX2_pointAt_11 : decode cX2_pointAt 11 = .ok (.iconst 0, 1) := by decide +kernel
theorem dX2_pointAt_12 : decode cX2_pointAt 12 = .ok (.putfield 194, 3) := by decide +kernel
theorem dX2_pointAt_15 : decode cX2_pointAt 15 = .ok (.return_, 1) := by decide +kernel
theorem dX2_pointerFork_0 : decode cX2_pointerFork 0 = .ok (.aload_n 0, 1) := by decide +kernel
theorem dX2_pointerFork_1 : decode cX2_pointerFork 1 = .ok (.getfield 13, 3) := by decide +kernel
theorem dX2_pointerFork_4 : decode cX2_pointerFork 4 = .ok (.aload_n 0, 1) := by decide +kernel
theorem dX2_pointerFork_5 : decode cX2_pointerFork 5 = .ok (.getfield 197, 3) := by decide +kernel
theorem dX2_pointerFork_8 : decode cX2_pointerFork 8 = .ok (.aaload, 1) := by decide +kernel
theorem dX2_pointerFork_9 : decode cX2_pointerFork 9 = .ok (.astore_n 1, 1) := by decide +kernel
theorem dX2_pointerFork_10 : decode cX2_pointerFork 10 = .ok (.aload_n 0, 1) := by decide +kernel
theorem dX2_pointerFork_11 : decode cX2_pointerFork 11 = .ok (.getfield 194, 3) := by decide +kernel
theorem dX2_pointerFork_14 : decode cX2_pointerFork 14 = .ok (.istore_n 2, 1) := by decide +kernel
theorem dX2_pointerFork_15 : decode cX2_pointerFork 15 = .ok (.iload_n 2, 1) := by decide +kernel
theorem dX2_pointerFork_16 : decode cX2_pointerFork 16 = .ok (.aload_n 0, 1) := by decide +kernel
theorem dX2_pointerFork_17 : decode cX2_pointerFork 17 = .ok (.getfield 94, 3) := by decide +kernel
theorem dX2_pointerFork_20 : decode cX2_pointerFork 20 = .ok (.if_icmp .ge 38, 3) := by decide +kernel
theorem dX2_pointerFork_23 : decode cX2_pointerFork 23 = .ok (.iconst 1, 1) := by decide +kernel
theorem dX2_pointerFork_24 : decode cX2_pointerFork 24 = .ok (.aload_n 0, 1) := by decide +kernel
theorem dX2_pointerFork_25 : decode cX2_pointerFork 25 = .ok (.iload_n 2, 1) := by decide +kernel
theorem dX2_pointerFork_26 : decode cX2_pointerFork 26 = .ok (.invokevirtual 191, 3) := by decide +kernel
theorem dX2_pointerFork_29 : decode cX2_pointerFork 29 = .ok (.ishl, 1) := by decide +kernel
theorem dX2_pointerFork_30 : decode cX2_pointerFork 30 = .ok (.istore_n 3, 1) := by decide +kernel
theorem dX2_pointerFork_31 : decode cX2_pointerFork 31 = .ok (.aload_n 1, 1) := by decide +kernel
theorem dX2_pointerFork_32 : decode cX2_pointerFork 32 = .ok (.aload_n 0, 1) := by decide +kernel
theorem dX2_pointerFork_33 : decode cX2_pointerFork 33 = .ok (.getfield 188, 3) := by decide +kernel
theorem dX2_pointerFork_36 : decode cX2_pointerFork 36 = .ok (.aload_n 1, 1) := by decide +kernel
theorem dX2_pointerFork_37 : decode cX2_pointerFork 37 = .ok (.aload_n 0, 1) := by decide +kernel
theorem dX2_pointerFork_38 : decode cX2_pointerFork 38 = .ok (.getfield 188, 3) := by decide +kernel
theorem dX2_pointerFork_41 : decode cX2_pointerFork 41 = .ok (.iload_n 3, 1) := by decide +kernel
theorem dX2_pointerFork_42 : decode cX2_pointerFork 42 = .ok (.iadd, 1) := by decide +kernel
theorem dX2_pointerFork_43 : decode cX2_pointerFork 43 = .ok (.iload_n 3, 1) := by decide +kernel
theorem dX2_pointerFork_44 : decode cX2_pointerFork 44 = .ok (.invokestatic 147, 3) := by decide +kernel
theorem dX2_pointerFork_47 : decode cX2_pointerFork 47 = .ok (.ifCond .ne 5, 3) := by decide +kernel
theorem dX2_pointerFork_50 : decode cX2_pointerFork 50 = .ok (.iload_n 2, 1) := by decide +kernel
theorem dX2_pointerFork_51 : decode cX2_pointerFork 51 = .ok (.ireturn, 1) := by decide +kernel
theorem dX2_pointerFork_52 : decode cX2_pointerFork 52 = .ok (.iinc 2 1, 3) := by decide +kernel
theorem dX2_pointerFork_55 : decode cX2_pointerFork 55 = .ok (.goto (-40), 3) := by decide +kernel
theorem dX2_pointerFork_58 : decode cX2_pointerFork 58 = .ok (.aload_n 0, 1) := by decide +kernel
theorem dX2_pointerFork_59 : decode cX2_pointerFork 59 = .ok (.getfield 94, 3) := by decide +kernel
theorem dX2_pointerFork_62 : decode cX2_pointerFork 62 = .ok (.ireturn, 1) := by decide +kernel
end
section
theorem dX3_init_0 : decode cX3_init 0 = .ok (.aload_n 0, 1) := by decide +kernel
theorem dX3_init_1 : decode cX3_init 1 = .ok (.invokespecial 3, 3) := by decide +kernel
theorem dX3_init_4 : decode cX3_init 4 = .ok (.aload_n 0, 1) := by decide +kernel
theorem dX3_init_5 : decode cX3_init 5 = .ok (.ldc 9, 2) := by decide +kernel
theorem dX3_init_7 : decode cX3_init 7 = .ok (.newarray .boolean, 2) := by decide +kernel
theorem dX3_init_9 : decode cX3_init 9 = .ok (.putfield 10, 3) := by decide +kernel
theorem dX3_init_12 : decode cX3_init 12 = .ok (.aload_n 0, 1) := by decide +kernel
theorem dX3_init_13 : decode cX3_init 13 = .ok (.sipush 4096, 3) := by decide +kernel
theorem dX3_init_16 : decode cX3_init 16 = .ok (.newarray .boolean, 2) := by decide +kernel
theorem dX3_init_18 : decode cX3_init 18 = .ok (.putfield 14, 3) := by decide +kernel
theorem dX3_init_21 : decode cX3_init 21 = .ok (.aload_n 0, 1) := by decide +kernel
theorem dX3_init_22 : decode cX3_init 22 = .ok (.sipush 4096, 3) := by decide +kernel
theorem dX3_init_25 : decode cX3_init 25 = .ok (.newarray .boolean, 2) := by decide +kernel
theorem dX3_init_27 : decode cX3_init 27 = .ok (.putfield 17, 3) := by decide +kernel
theorem dX3_init_30 : decode cX3_init 30 = .ok (.aload_n 0, 1) := by decide +kernel
theorem dX3_init_31 : decode cX3_init 31 = .ok (.bipush 12, 2) := by decide +kernel
theorem dX3_init_33 : decode cX3_init 33 = .ok (.newarray .int, 2) := by decide +kernel
theorem dX3_init_35 : decode cX3_init 35 = .ok (.putfield 20, 3) := by decide +kernel
theorem dX3_init_38 : decode cX3_init 38 = .ok (.aload_n 0, 1) := by decide +kernel
theorem dX3_init_39 : decode cX3_init 39 = .ok (.bipush 12, 2) := by decide +kernel
theorem dX3_init_41 : decode cX3_init 41 = .ok (.newarray .int, 2) := by decide +kernel
theorem dX3_init_43 : decode cX3_init 43 = .ok (.putfield 24, 3) := by decide +kernel
theorem dX3_init_46 : decode cX3_init 46 = .ok (.aload_n 0, 1) := by decide +kernel
theorem dX3_init_47 : decode cX3_init 47 = .ok (.bipush 12, 2) := by decide +kernel
theorem dX3_init_49 : decode cX3_init 49 = .ok (.newarray .int, 2) := by decide +kernel
theorem dX3_init_51 : decode cX3_init 51 = .ok (.putfield 27, 3) := by decide +kernel
theorem dX3_init_54 : decode cX3_init 54 = .ok (.aload_n 0, 1) := by decide +kernel
theorem dX3_init_55 : decode cX3_init 55 = .ok (.ldc 9, 2) := by decide +kernel
theorem dX3_init_57 : decode cX3_init 57 = .ok (.newarray .int, 2) := by decide +kernel
theorem dX3_init_59 : decode cX3_init 59 = .ok (.putfield 30, 3) := by decide +kernel
theorem dX3_init_62 : decode cX3_init 62 = .ok (.aload_n 0, 1) := by decide +kernel
theorem dX3_init_63 : decode cX3_init 63 = .ok (.ldc 9, 2) := by decide +kernel
theorem dX3_init_65 : decode cX3_init 65 = .ok (.newarray .int, 2) := by decide +kernel
theorem dX3_init_67 : decode cX3_init 67 = .ok (.putfield 33, 3) := by decide +kernel
theorem dX3_init_70 : decode cX3_init 70 = .ok (.aload_n 0, 1) := by decide +kernel
theorem dX3_init_71 : decode cX3_init 71 = .ok (.bipush 12, 2) := by decide +kernel
theorem dX3_init_73 : decode cX3_init 73 = .ok (.newarray .int, 2) := by decide +kernel
theorem dX3_init_75 : decode cX3_init 75 = .ok (.putfield 36, 3) := by decide +kernel
theorem dX3_init_78 : decode cX3_init 78 = .ok (.aload_n 0, 1) := by decide +kernel
theorem dX3_init_79 : decode cX3_init 79 = .ok (.ldc 9, 2) := by decide +kernel
theorem dX3_init_81 : decode cX3_init 81 = .ok (.newarray .int, 2) := by decide +kernel
theorem dX3_init_83 : decode cX3_init 83 = .ok (.putfield 39, 3) := by decide +kernel
theorem dX3_init_86 : decode cX3_init 86 = .ok (.aload_n 0, 1) := by decide +kernel
theorem dX3_init_87 : decode cX3_init 87 = .ok (.ldc 9, 2) := by decide +kernel
theorem dX3_init_89 : decode cX3_init 89 = .ok (.newarray .int, 2) := by decide +kernel
theorem dX3_init_91 : decode cX3_init 91 = .ok (.putfield 42, 3) := by decide +kernel
theorem dX3_init_94 : decode cX3_init 94 = .ok (.aload_n 0, 1) := by decide +kernel
theorem dX3_init_95 : decode cX3_init 95 = .ok (.ldc 9, 2) := by decide +kernel
theorem dX3_init_97 : decode cX3_init 97 = .ok (.newarray .int, 2) := by decide +kernel
theorem dX3_init_99 : decode cX3_init 99 = .ok (.putfield 45, 3) := by decide +kernel
theorem dX3_init_102 : decode cX3_init 102 = .ok (.aload_n 0, 1) := by decide +kernel
theorem dX3_init_103 : decode cX3_init 103 = .ok (.ldc 9, 2) := by decide +kernel
theorem dX3_init_105 : decode cX3_init 105 = .ok (.newarray .int, 2) := by decide +kernel
theorem dX3_init_107 : decode cX3_init 107 = .ok (.putfield 48, 3) := by decide +kernel
theorem dX3_init_110 : decode cX3_init 110 = .ok (.aload_n 0, 1) := by decide +kernel
theorem dX3_init_111 : decode cX3_init 111 = .ok (.bipush 6, 2) := by decide +kernel
theorem dX3_init_113 : decode cX3_init 113 = .ok (.sipush 2000, 3) := by decide +kernel
theorem dX3_init_116 : decode cX3_init 116 = .ok (.invokevirtual 51, 3) := by decide +kernel
theorem dX3_init_119 : decode cX3_init 119 = .ok (.pop, 1) := by decide +kernel
theorem dX3_init_120 : decode cX3_init 120 = .ok (.return_, 1) := by decide +kernel
theorem dX3_isRegister_0 : decode cX3_isRegister 0 = .ok (.iload_n 1, 1) := by decide +kernel
theorem dX3_isRegister_1 : decode cX3_isRegister 1 = .ok (.ifCond .lt 13, 3) := by decide +kernel
theorem dX3_isRegister_4 : decode cX3_isRegister 4 = .ok (.iload_n 1, 1) := by decide +kernel
theorem dX3_isRegister_5 : decode cX3_isRegister 5 = .ok (.bipush 32, 2) := by decide +kernel
theorem dX3_isRegister_7 : decode cX3_isRegister 7 = .ok (.if_icmp .ge 7, 3) := by decide +kernel
theorem dX3_isRegister_10 : decode cX3_isRegister 10 = .ok (.iconst 1, 1) := by decide +kernel
theorem dX3_isRegister_11 : decode cX3_isRegister 11 = .ok (.goto 4, 3) := by decide +kernel
theorem dX3_isRegister_14 : decode cX3_isRegister 14 = .ok (.iconst 0, 1) := by decide +kernel
theorem dX3_isRegister_15 : decode cX3_isRegister 15 = .ok (.ireturn, 1) := by decide +kernel
theorem dX3_isLetter_0 : decode cX3_isLetter 0 = .ok (.iload_n 1, 1) := by decide +kernel
theorem dX3_isLetter_1 : decode cX3_isLetter 1 = .ok (.ifCond .lt 15, 3) := by decide +kernel
theorem dX3_isLetter_4 : decode cX3_isLetter 4 = .ok (.iload_n 1, 1) := by decide +kernel
theorem dX3_isLetter_5 : decode cX3_isLetter 5 = .ok (.aload_n 0, 1) := by decide +kernel
theorem dX3_isLetter_6 : decode cX3_isLetter 6 = .ok (.getfield 55, 3) := by decide +kernel
theorem dX3_isLetter_9 : decode cX3_isLetter 9 = .ok (.if_icmp .ge 7, 3) := by decide +kernel
theorem dX3_isLetter_12 : decode cX3_isLetter 12 = .ok (.iconst 1, 1) := by decide +kernel
theorem dX3_isLetter_13 : decode cX3_isLetter 13 = .ok (.goto 4, 3) := by decide +kernel
theorem dX3_isLetter_16 : decode cX3_isLetter 16 = .ok (.iconst 0, 1) := by decide +kernel
theorem dX3_isLetter_17 : decode cX3_isLetter 17 = .ok (.ireturn, 1) := by decide +kernel
theorem dX3_get_0 : decode cX3_get 0 = .ok (.aload_n 0, 1) := by decide +kernel
theorem dX3_get_1 : decode cX3_get 1 = .ok (.getfield 10, 3) := by decide +kernel
theorem dX3_get_4 : decode cX3_get 4 = .ok (.sipush 4096, 3) := by decide +kernel
theorem dX3_get_7 : decode cX3_get 7 = .ok (.iload_n 1, 1) := by decide +kernel
theorem dX3_get_8 : decode cX3_get 8 = .ok (.imul, 1) := by decide +kernel
theorem dX3_get_9 : decode cX3_get 9 = .ok (.iload_n 2, 1) := by decide +kernel
theorem dX3_get_10 : decode cX3_get 10 = .ok (.iadd, 1) := by decide +kernel
theorem dX3_get_11 : decode cX3_get 11 = .ok (.baload, 1) := by decide +kernel
theorem dX3_get_12 : decode cX3_get 12 = .ok (.ireturn, 1) := by decide +kernel
theorem dX3_done_0 : decode cX3_done 0 = .ok (.iconst 0, 1) := by decide +kernel
theorem dX3_done_1 : decode cX3_done 1 = .ok (.istore_n 1, 1) := by decide +kernel
theorem dX3_done_2 : decode cX3_done 2 = .ok (.iload_n 1, 1) := by decide +kernel
theorem dX3_done_3 : decode cX3_done 3 = .ok (.sipush 4096, 3) := by decide +kernel
theorem dX3_done_6 : decode cX3_done 6 = .ok (.if_icmp .ge 16, 3) := by decide +kernel
theorem dX3_done_9 : decode cX3_done 9 = .ok (.aload_n 0, 1) := by decide +kernel
theorem dX3_done_10 : decode cX3_done 10 = .ok (.getfield 17, 3) := by decide +kernel
theorem dX3_done_13 : decode cX3_done 13 = .ok (.iload_n 1, 1) := by decide +kernel
theorem dX3_done_14 : decode cX3_done 14 = .ok (.iconst 0, 1) := by decide +kernel
theorem dX3_done_15 : decode cX3_done 15 = .ok (.bastore, 1) := by decide +kernel
theorem dX3_done_16 : decode cX3_done 16 = .ok (.iinc 1 1, 3) := by decide +kernel
theorem dX3_done_19 : decode cX3_done 19 = .ok (.goto (-17), 3) := by decide +kernel
theorem dX3_done_22 : decode cX3_done 22 = .ok (.iconst 0, 1) := by decide +kernel
theorem dX3_done_23 : decode cX3_done 23 = .ok (.ireturn, 1) := by decide +kernel
theorem dX3_fresh_0 : decode cX3_fresh 0 = .ok (.iload_n 1, 1) := by decide +kernel
theorem dX3_fresh_1 : decode cX3_fresh 1 = .ok (.iconst 1, 1) := by decide +kernel
theorem dX3_fresh_2 : decode cX3_fresh 2 = .ok (.if_icmp .lt 20, 3) := by decide +kernel
theorem dX3_fresh_5 : decode cX3_fresh 5 = .ok (.iload_n 1, 1) := by decide +kernel
theorem dX3_fresh_6 : decode cX3_fresh 6 = .ok (.bipush 12, 2) := by decide +kernel
theorem dX3_fresh_8 : decode cX3_fresh 8 = .ok (.if_icmp .gt 14, 3) := by decide +kernel
theorem dX3_fresh_11 : decode cX3_fresh 11 = .ok (.iload_n 2, 1) := by decide +kernel
theorem dX3_fresh_12 : decode cX3_fresh 12 = .ok (.ifCond .lt 10, 3) := by decide +kernel
theorem dX3_fresh_15 : decode cX3_fresh 15 = .ok (.iload_n 2, 1) := by decide +kernel
theorem dX3_fresh_16 : decode cX3_fresh 16 = .ok (.sipush 20000, 3) := by decide +kernel
theorem dX3_fresh_19 : decode cX3_fresh 19 = .ok (.if_icmp .le 5, 3) := by decide +kernel
theorem dX3_fresh_22 : decode cX3_fresh 22 = .ok (.iconst 0, 1) := by decide +kernel
theorem dX3_fresh_23 : decode cX3_fresh 23 = .ok (.ireturn, 1) := by decide +kernel
theorem dX3_fresh_24 : decode cX3_fresh 24 = .ok (.aload_n 0, 1) := by decide +kernel
theorem dX3_fresh_25 : decode cX3_fresh 25 = .ok (.iload_n 1, 1) := by decide +kernel
theorem dX3_fresh_26 : decode cX3_fresh 26 = .ok (.putfield 55, 3) := by decide +kernel
theorem dX3_fresh_29 : decode cX3_fresh 29 = .ok (.aload_n 0, 1) := by decide +kernel
theorem dX3_fresh_30 : decode cX3_fresh 30 = .ok (.iconst 1, 1) := by decide +kernel
theorem dX3_fresh_31 : decode cX3_fresh 31 = .ok (.aload_n 0, 1) := by decide +kernel
theorem dX3_fresh_32 : decode cX3_fresh 32 = .ok (.getfield 55, 3) := by decide +kernel
theorem dX3_fresh_35 : decode cX3_fresh 35 = .ok (.ishl, 1) := by decide +kernel
theorem dX3_fresh_36 : decode cX3_fresh 36 = .ok (.putfield 59, 3) := by decide +kernel
theorem dX3_fresh_39 : decode cX3_fresh 39 = .ok (.aload_n 0, 1) := by decide +kernel
theorem dX3_fresh_40 : decode cX3_fresh 40 = .ok (.iload_n 2, 1) := by decide +kernel
theorem dX3_fresh_41 : decode cX3_fresh 41 = .ok (.putfield 62, 3) := by decide +kernel
theorem dX3_fresh_44 : decode cX3_fresh 44 = .ok (.iconst 0, 1) := by decide +kernel
theorem dX3_fresh_45 : decode cX3_fresh 45 = .ok (.istore_n 3, 1) := by decide +kernel
theorem dX3_fresh_46 : decode cX3_fresh 46 = .ok (.iload_n 3, 1) := by decide +kernel
theorem dX3_fresh_47 : decode cX3_fresh 47 = .ok (.ldc 9, 2) := by decide +kernel
theorem dX3_fresh_49 : decode cX3_fresh 49 = .ok (.if_icmp .ge 16, 3) := by decide +kernel
theorem dX3_fresh_52 : decode cX3_fresh 52 = .ok (.aload_n 0, 1) := by decide +kernel
theorem dX3_fresh_53 : decode cX3_fresh 53 = .ok (.getfield 10, 3) := by decide +kernel
theorem dX3_fresh_56 : decode cX3_fresh 56 = .ok (.iload_n 3, 1) := by decide +kernel
theorem dX3_fresh_57 : decode cX3_fresh 57 = .ok (.iconst 0, 1) := by decide +kernel
theorem dX3_fresh_58 : decode cX3_fresh 58 = .ok (.bastore, 1) := by decide +kernel
theorem dX3_fresh_59 : decode cX3_fresh 59 = .ok (.iinc 3 1, 3) := by decide +kernel
theorem dX3_fresh_62 : decode cX3_fresh 62 = .ok (.goto (-16), 3) := by decide +kernel
theorem dX3_fresh_65 : decode cX3_fresh 65 = .ok (.iconst 0, 1) := by decide +kernel
theorem dX3_fresh_66 : decode cX3_fresh 66 = .ok (.istore_n 3, 1) := by decide +kernel
theorem dX3_fresh_67 : decode cX3_fresh 67 = .ok (.iload_n 3, 1) := by decide +kernel
theorem dX3_fresh_68 : decode cX3_fresh 68 = .ok (.bipush 12, 2) := by decide +kernel
theorem dX3_fresh_70 : decode cX3_fresh 70 = .ok (.if_icmp .ge 23, 3) := by decide +kernel
theorem dX3_fresh_73 : decode cX3_fresh 73 = .ok (.aload_n 0, 1) := by decide +kernel
theorem dX3_fresh_74 : decode cX3_fresh 74 = .ok (.getfield 20, 3) := by decide +kernel
theorem dX3_fresh_77 : decode cX3_fresh 77 = .ok (.iload_n 3, 1) := by decide +kernel
theorem dX3_fresh_78 : decode cX3_fresh 78 = .ok (.iconst 0, 1) := by decide +kernel
theorem dX3_fresh_79 : decode cX3_fresh 79 = .ok (.iastore, 1) := by decide +kernel
theorem dX3_fresh_80 : decode cX3_fresh 80 = .ok (.aload_n 0, 1) := by decide +kernel
theorem dX3_fresh_81 : decode cX3_fresh 81 = .ok (.getfield 24, 3) := by decide +kernel
theorem dX3_fresh_84 : decode cX3_fresh 84 = .ok (.iload_n 3, 1) := by decide +kernel
theorem dX3_fresh_85 : decode cX3_fresh 85 = .ok (.iload_n 3, 1) := by decide +kernel
theorem dX3_fresh_86 : decode cX3_fresh 86 = .ok (.iastore, 1) := by decide +kernel
theorem dX3_fresh_87 : decode cX3_fresh 87 = .ok (.iinc 3 1, 3) := by decide +kernel
theorem dX3_fresh_90 : decode cX3_fresh 90 = .ok (.goto (-23), 3) := by decide +kernel
theorem dX3_fresh_93 : decode cX3_fresh 93 = .ok (.aload_n 0, 1) := by decide +kernel
theorem dX3_fresh_94 : decode cX3_fresh 94 = .ok (.invokevirtual 65, 3) := by decide +kernel
theorem dX3_fresh_97 : decode cX3_fresh 97 = .ok (.pop, 1) := by decide +kernel
theorem dX3_fresh_98 : decode cX3_fresh 98 = .ok (.iconst 1, 1) := by decide +kernel
theorem dX3_fresh_99 : decode cX3_fresh 99 = .ok (.ireturn, 1) := by decide +kernel
theorem dX3_pair_0 : decode cX3_pair 0 = .ok (.iload_n 1, 1) := by decide +kernel
theorem dX3_pair_1 : decode cX3_pair 1 = .ok (.iload_n 2, 1) := by decide +kernel
theorem dX3_pair_2 : decode cX3_pair 2 = .ok (.if_icmp .ne 5, 3) := by decide +kernel
theorem dX3_pair_5 : decode cX3_pair 5 = .ok (.iload_n 1, 1) := by decide +kernel
theorem dX3_pair_6 : decode cX3_pair 6 = .ok (.ireturn, 1) := by decide +kernel
theorem dX3_pair_7 : decode cX3_pair 7 = .ok (.iload_n 1, 1) := by decide +kernel
theorem dX3_pair_8 : decode cX3_pair 8 = .ok (.bipush 31, 2) := by decide +kernel
theorem dX3_pair_10 : decode cX3_pair 10 = .ok (.imul, 1) := by decide +kernel
theorem dX3_pair_11 : decode cX3_pair 11 = .ok (.iload_n 2, 1) := by decide +kernel
theorem dX3_pair_12 : decode cX3_pair 12 = .ok (.ldc 69, 2) := by decide +kernel
theorem dX3_pair_14 : decode cX3_pair 14 = .ok (.imul, 1) := by decide +kernel
theorem dX3_pair_15 : decode cX3_pair 15 = .ok (.iadd, 1) := by decide +kernel
theorem dX3_pair_16 : decode cX3_pair 16 = .ok (.bipush 7, 2) := by decide +kernel
theorem dX3_pair_18 : decode cX3_pair 18 = .ok (.iadd, 1) := by decide +kernel
theorem dX3_pair_19 : decode cX3_pair 19 = .ok (.ldc 70, 2) := by decide +kernel
theorem dX3_pair_21 : decode cX3_pair 21 = .ok (.iand, 1) := by decide +kernel
theorem dX3_pair_22 : decode cX3_pair 22 = .ok (.istore 4, 2) := by decide +kernel
theorem dX3_pair_24 : decode cX3_pair 24 = .ok (.aload_n 0, 1) := by decide +kernel
theorem dX3_pair_25 : decode cX3_pair 25 = .ok (.getfield 39, 3) := by decide +kernel
theorem dX3_pair_28 : decode cX3_pair 28 = .ok (.iload 4, 2) := by decide +kernel
theorem dX3_pair_30 : decode cX3_pair 30 = .ok (.iaload, 1) := by decide +kernel
theorem dX3_pair_31 : decode cX3_pair 31 = .ok (.aload_n 0, 1) := by decide +kernel
theorem dX3_pair_32 : decode cX3_pair 32 = .ok (.getfield 71, 3) := by decide +kernel
theorem dX3_pair_35 : decode cX3_pair 35 = .ok (.if_icmp .ne 45, 3) := by decide +kernel
theorem dX3_pair_38 : decode cX3_pair 38 = .ok (.aload_n 0, 1) := by decide +kernel
theorem dX3_pair_39 : decode cX3_pair 39 = .ok (.getfield 42, 3) := by decide +kernel
theorem dX3_pair_42 : decode cX3_pair 42 = .ok (.iload 4, 2) := by decide +kernel
theorem dX3_pair_44 : decode cX3_pair 44 = .ok (.iaload, 1) := by decide +kernel
theorem dX3_pair_45 : decode cX3_pair 45 = .ok (.iload_n 1, 1) := by decide +kernel
theorem dX3_pair_46 : decode cX3_pair 46 = .ok (.if_icmp .ne 22, 3) := by decide +kernel
theorem dX3_pair_49 : decode cX3_pair 49 = .ok (.aload_n 0, 1) := by decide +kernel
theorem dX3_pair_50 : decode cX3_pair 50 = .ok (.getfield 45, 3) := by decide +kernel
theorem dX3_pair_53 : decode cX3_pair 53 = .ok (.iload 4, 2) := by decide +kernel
theorem dX3_pair_55 : decode cX3_pair 55 = .ok (.iaload, 1) := by decide +kernel
theorem dX3_pair_56 : decode cX3_pair 56 = .ok (.iload_n 2, 1) := by decide +kernel
theorem dX3_pair_57 : decode cX3_pair 57 = .ok (.if_icmp .ne 11, 3) := by decide +kernel
theorem dX3_pair_60 : decode cX3_pair 60 = .ok (.aload_n 0, 1) := by decide +kernel
theorem dX3_pair_61 : decode cX3_pair 61 = .ok (.getfield 48, 3) := by decide +kernel
theorem dX3_pair_64 : decode cX3_pair 64 = .ok (.iload 4, 2) := by decide +kernel
theorem dX3_pair_66 : decode cX3_pair 66 = .ok (.iaload, 1) := by decide +kernel
theorem dX3_pair_67 : decode cX3_pair 67 = .ok (.ireturn, 1) := by decide +kernel
theorem dX3_pair_68 : decode cX3_pair 68 = .ok (.iload 4, 2) := by decide +kernel
theorem dX3_pair_70 : decode cX3_pair 70 = .ok (.iconst 1, 1) := by decide +kernel
theorem dX3_pair_71 : decode cX3_pair 71 = .ok (.iadd, 1) := by decide +kernel
theorem dX3_pair_72 : decode cX3_pair 72 = .ok (.ldc 70, 2) := by decide +kernel
theorem dX3_pair_74 : decode cX3_pair 74 = .ok (.iand, 1) := by decide +kernel
theorem dX3_pair_75 : decode cX3_pair 75 = .ok (.istore 4, 2) := by decide +kernel
theorem dX3_pair_77 : decode cX3_pair 77 = .ok (.goto (-53), 3) := by decide +kernel
theorem dX3_pair_80 : decode cX3_pair 80 = .ok (.aload_n 0, 1) := by decide +kernel
theorem dX3_pair_81 : decode cX3_pair 81 = .ok (.getfield 39, 3) := by decide +kernel
theorem dX3_pair_84 : decode cX3_pair 84 = .ok (.iload 4, 2) := by decide +kernel
theorem dX3_pair_86 : decode cX3_pair 86 = .ok (.aload_n 0, 1) := by decide +kernel
theorem dX3_pair_87 : decode cX3_pair 87 = .ok (.getfield 71, 3) := by decide +kernel
theorem dX3_pair_90 : decode cX3_pair 90 = .ok (.iastore, 1) := by decide +kernel
theorem dX3_pair_91 : decode cX3_pair 91 = .ok (.aload_n 0, 1) := by decide +kernel
theorem dX3_pair_92 : decode cX3_pair 92 = .ok (.getfield 42, 3) := by decide +kernel
theorem dX3_pair_95 : decode cX3_pair 95 = .ok (.iload 4, 2) := by decide +kernel
theorem dX3_pair_97 : decode cX3_pair 97 = .ok (.iload_n 1, 1) := by decide +kernel
theorem dX3_pair_98 : decode cX3_pair 98 = .ok (.iastore, 1) := by decide +kernel
theorem dX3_pair_99 : decode cX3_pair 99 = .ok (.aload_n 0, 1) := by decide +kernel
theorem dX3_pair_100 : decode cX3_pair 100 = .ok (.getfield 45, 3) := by decide +kernel
theorem dX3_pair_103 : decode cX3_pair 103 = .ok (.iload 4, 2) := by decide +kernel
theorem dX3_pair_105 : decode cX3_pair 105 = .ok (.iload_n 2, 1) := by decide +kernel
theorem dX3_pair_106 : decode cX3_pair 106 = .ok (.iastore, 1) := by decide +kernel
theorem dX3_pair_107 : decode cX3_pair 107 = .ok (.aload_n 0, 1) := by decide +kernel
theorem dX3_pair_108 : decode cX3_pair 108 = .ok (.getfield 48, 3) := by decide +kernel
theorem dX3_pair_111 : decode cX3_pair 111 = .ok (.iload 4, 2) := by decide +kernel
theorem dX3_pair_113 : decode cX3_pair 113 = .ok (.aload_n 0, 1) := by decide +kernel
theorem dX3_pair_114 : decode cX3_pair 114 = .ok (.getfield 74, 3) := by decide +kernel
theorem dX3_pair_117 : decode cX3_pair 117 = .ok (.iastore, 1) := by decide +kernel
theorem dX3_pair_118 : decode cX3_pair 118 = .ok (.aload_n 0, 1) := by decide +kernel
theorem dX3_pair_119 : decode cX3_pair 119 = .ok (.dup, 1) := by decide +kernel
theorem dX3_pair_120 : decode cX3_pair 120 = .ok (.getfield 74, 3) := by decide +kernel
theorem dX3_pair_123 : decode cX3_pair 123 = .ok (.iconst 1, 1) := by decide +kernel
theorem dX3_pair_124 : decode cX3_pair 124 = .ok (.iadd, 1) := by decide +kernel
theorem dX3_pair_125 : decode cX3_pair 125 = .ok (.putfield 74, 3) := by decide +kernel
theorem dX3_pair_128 : decode cX3_pair 128 = .ok (.aload_n 0, 1) := by decide +kernel
theorem dX3_pair_129 : decode cX3_pair 129 = .ok (.getfield 36, 3) := by decide +kernel
theorem dX3_pair_132 : decode cX3_pair 132 = .ok (.iload_n 3, 1) := by decide +kernel
theorem dX3_pair_133 : decode cX3_pair 133 = .ok (.dup2, 1) := by decide +kernel
theorem dX3_pair_134 : decode cX3_pair 134 = .ok (.iaload, 1) := by decide +kernel
theorem dX3_pair_135 : decode cX3_pair 135 = .ok (.iconst 1, 1) := by decide +kernel
theorem dX3_pair_136 : decode cX3_pair 136 = .ok (.iadd, 1) := by decide +kernel
theorem dX3_pair_137 : decode cX3_pair 137 = .ok (.iastore, 1) := by decide +kernel
theorem dX3_pair_138 : decode cX3_pair 138 = .ok (.aload_n 0, 1) := by decide +kernel
theorem dX3_pair_139 : decode cX3_pair 139 = .ok (.getfield 48, 3) := by decide +kernel
theorem dX3_pair_142 : decode cX3_pair 142 = .ok (.iload 4, 2) := by decide +kernel
theorem dX3_pair_144 : decode cX3_pair 144 = .ok (.iaload, 1) := by decide +kernel
theorem dX3_pair_145 : decode cX3_pair 145 = .ok (.ireturn, 1) := by decide +kernel
theorem dX3_spread_0 : decode cX3_spread 0 = .ok (.iconst 0, 1) := by decide +kernel
theorem dX3_spread_1 : decode cX3_spread 1 = .ok (.istore_n 3, 1) := by decide +kernel
theorem dX3_spread_2 : decode cX3_spread 2 = .ok (.iconst 0, 1) := by decide +kernel
theorem dX3_spread_3 : decode cX3_spread 3 = .ok (.istore 4, 2) := by decide +kernel
theorem dX3_spread_5 : decode cX3_spread 5 = .ok (.iload 4, 2) := by decide +kernel
theorem dX3_spread_7 : decode cX3_spread 7 = .ok (.aload_n 0, 1) := by decide +kernel
theorem dX3_spread_8 : decode cX3_spread 8 = .ok (.getfield 55, 3) := by decide +kernel
theorem dX3_spread_11 : decode cX3_spread 11 = .ok (.if_icmp .ge 35, 3) := by decide +kernel
theorem dX3_spread_14 : decode cX3_spread 14 = .ok (.iload_n 1, 1) := by decide +kernel
theorem dX3_spread_15 : decode cX3_spread 15 = .ok (.aload_n 0, 1) := by decide +kernel
theorem dX3_spread_16 : decode cX3_spread 16 = .ok (.getfield 55, 3) := by decide +kernel
theorem dX3_spread_19 : decode cX3_spread 19 = .ok (.iconst 1, 1) := by decide +kernel
theorem dX3_spread_20 : decode cX3_spread 20 = .ok (.isub, 1) := by decide +kernel
theorem dX3_spread_21 : decode cX3_spread 21 = .ok (.iload 4, 2) := by decide +kernel
theorem dX3_spread_23 : decode cX3_spread 23 = .ok (.isub, 1) := by decide +kernel
theorem dX3_spread_24 : decode cX3_spread 24 = .ok (.ishr, 1) := by decide +kernel
theorem dX3_spread_25 : decode cX3_spread 25 = .ok (.iconst 1, 1) := by decide +kernel
theorem dX3_spread_26 : decode cX3_spread 26 = .ok (.iand, 1) := by decide +kernel
theorem dX3_spread_27 : decode cX3_spread 27 = .ok (.iconst 1, 1) := by decide +kernel
theorem dX3_spread_28 : decode cX3_spread 28 = .ok (.if_icmp .ne 12, 3) := by decide +kernel
theorem dX3_spread_31 : decode cX3_spread 31 = .ok (.iload_n 3, 1) := by decide +kernel
theorem dX3_spread_32 : decode cX3_spread 32 = .ok (.iconst 1, 1) := by decide +kernel
theorem dX3_spread_33 : decode cX3_spread 33 = .ok (.aload_n 2, 1) := by decide +kernel
theorem dX3_spread_34 : decode cX3_spread 34 = .ok (.iload 4, 2) := by decide +kernel
theorem dX3_spread_36 : decode cX3_spread 36 = .ok (.iaload, 1) := by decide +kernel
theorem dX3_spread_37 : decode cX3_spread 37 = .ok (.ishl, 1) := by decide +kernel
theorem dX3_spread_38 : decode cX3_spread 38 = .ok (.ior, 1) := by decide +kernel
theorem dX3_spread_39 : decode cX3_spread 39 = .ok (.istore_n 3, 1) := by decide +kernel
theorem dX3_spread_40 : decode cX3_spread 40 = .ok (.iinc 4 1, 3) := by decide +kernel
theorem dX3_spread_43 : decode cX3_spread 43 = .ok (.goto (-38), 3) := by decide +kernel
theorem dX3_spread_46 : decode cX3_spread 46 = .ok (.iload_n 3, 1) := by decide +kernel
theorem dX3_spread_47 : decode cX3_spread 47 = .ok (.ireturn, 1) := by decide +kernel
theorem dX3_forks_0 : decode cX3_forks 0 = .ok (.aload_n 0, 1) := by decide +kernel
theorem dX3_forks_1 : decode cX3_forks 1 = .ok (.iconst 2, 1) := by decide +kernel
theorem dX3_forks_2 : decode cX3_forks 2 = .ok (.putfield 74, 3) := by decide +kernel
theorem dX3_forks_5 : decode cX3_forks 5 = .ok (.iconst 0, 1) := by decide +kernel
theorem dX3_forks_6 : decode cX3_forks 6 = .ok (.istore 5, 2) := by decide +kernel
theorem dX3_forks_8 : decode cX3_forks 8 = .ok (.iload 5, 2) := by decide +kernel
theorem dX3_forks_10 : decode cX3_forks 10 = .ok (.aload_n 0, 1) := by decide +kernel
theorem dX3_forks_11 : decode cX3_forks 11 = .ok (.getfield 55, 3) := by decide +kernel
theorem dX3_forks_14 : decode cX3_forks 14 = .ok (.if_icmp .ge 17, 3) := by decide +kernel
theorem dX3_forks_17 : decode cX3_forks 17 = .ok (.aload_n 0, 1) := by decide +kernel
theorem dX3_forks_18 : decode cX3_forks 18 = .ok (.getfield 36, 3) := by decide +kernel
theorem dX3_forks_21 : decode cX3_forks 21 = .ok (.iload 5, 2) := by decide +kernel
theorem dX3_forks_23 : decode cX3_forks 23 = .ok (.iconst 0, 1) := by decide +kernel
theorem dX3_forks_24 : decode cX3_forks 24 = .ok (.iastore, 1) := by decide +kernel
theorem dX3_forks_25 : decode cX3_forks 25 = .ok (.iinc 5 1, 3) := by decide +kernel
theorem dX3_forks_28 : decode cX3_forks 28 = .ok (.goto (-20), 3) := by decide +kernel
theorem dX3_forks_31 : decode cX3_forks 31 = .ok (.iconst 0, 1) := by decide +kernel
theorem dX3_forks_32 : decode cX3_forks 32 = .ok (.istore 5, 2) := by decide +kernel
theorem dX3_forks_34 : decode cX3_forks 34 = .ok (.iload 5, 2) := by decide +kernel
theorem dX3_forks_36 : decode cX3_forks 36 = .ok (.aload_n 0, 1) := by decide +kernel
theorem dX3_forks_37 : decode cX3_forks 37 = .ok (.getfield 59, 3) := by decide +kernel
theorem dX3_forks_40 : decode cX3_forks 40 = .ok (.if_icmp .ge 83, 3) := by decide +kernel
theorem dX3_forks_43 : decode cX3_forks 43 = .ok (.aload_n 0, 1) := by decide +kernel
theorem dX3_forks_44 : decode cX3_forks 44 = .ok (.iload 5, 2) := by decide +kernel
theorem dX3_forks_46 : decode cX3_forks 46 = .ok (.aload 4, 2) := by decide +kernel
theorem dX3_forks_48 : decode cX3_forks 48 = .ok (.invokevirtual 77, 3) := by decide +kernel
theorem dX3_forks_51 : decode cX3_forks 51 = .ok (.istore 6, 2) := by decide +kernel
theorem dX3_forks_53 : decode cX3_forks 53 = .ok (.iload_n 1, 1) := by decide +kernel
theorem dX3_forks_54 : decode cX3_forks 54 = .ok (.istore 7, 2) := by decide +kernel
theorem dX3_forks_56 : decode cX3_forks 56 = .ok (.iload 7, 2) := by decide +kernel
theorem dX3_forks_58 : decode cX3_forks 58 = .ok (.iload_n 2, 1) := by decide +kernel
theorem dX3_forks_59 : decode cX3_forks 59 = .ok (.if_icmp .ge 58, 3) := by decide +kernel
theorem dX3_forks_62 : decode cX3_forks 62 = .ok (.aload_n 0, 1) := by decide +kernel
theorem dX3_forks_63 : decode cX3_forks 63 = .ok (.getfield 30, 3) := by decide +kernel
theorem dX3_forks_66 : decode cX3_forks 66 = .ok (.sipush 4096, 3) := by decide +kernel
theorem dX3_forks_69 : decode cX3_forks 69 = .ok (.iload 7, 2) := by decide +kernel
theorem dX3_forks_71 : decode cX3_forks 71 = .ok (.imul, 1) := by decide +kernel
theorem dX3_forks_72 : decode cX3_forks 72 = .ok (.iload 5, 2) := by decide +kernel
theorem dX3_forks_74 : decode cX3_forks 74 = .ok (.iadd, 1) := by decide +kernel
theorem dX3_forks_75 : decode cX3_forks 75 = .ok (.iload 7, 2) := by decide +kernel
theorem dX3_forks_77 : decode cX3_forks 77 = .ok (.iload_n 3, 1) := by decide +kernel
theorem dX3_forks_78 : decode cX3_forks 78 = .ok (.if_icmp .ne 16, 3) := by decide +kernel
theorem dX3_forks_81 : decode cX3_forks 81 = .ok (.aload_n 0, 1) := by decide +kernel
theorem dX3_forks_82 : decode cX3_forks 82 = .ok (.getfield 14, 3) := by decide +kernel
theorem dX3_forks_85 : decode cX3_forks 85 = .ok (.iload 6, 2) := by decide +kernel
theorem dX3_forks_87 : decode cX3_forks 87 = .ok (.baload, 1) := by decide +kernel
theorem dX3_forks_88 : decode cX3_forks 88 = .ok (.ifCond .eq 21, 3) := by decide +kernel
theorem dX3_forks_91 : decode cX3_forks 91 = .ok (.goto 14, 3) := by decide +kernel
theorem dX3_forks_94 : decode cX3_forks 94 = .ok (.aload_n 0, 1) := by decide +kernel
theorem dX3_forks_95 : decode cX3_forks 95 = .ok (.iload 7, 2) := by decide +kernel
theorem dX3_forks_97 : decode cX3_forks 97 = .ok (.iload 6, 2) := by decide +kernel
theorem dX3_forks_99 : decode cX3_forks 99 = .ok (.invokevirtual 81, 3) := by decide +kernel
theorem dX3_forks_102 : decode cX3_forks 102 = .ok (.ifCond .eq 7, 3) := by decide +kernel
theorem dX3_forks_105 : decode cX3_forks 105 = .ok (.iconst 1, 1) := by decide +kernel
theorem dX3_forks_106 : decode cX3_forks 106 = .ok (.goto 4, 3) := by decide +kernel
theorem dX3_forks_109 : decode cX3_forks 109 = .ok (.iconst 0, 1) := by decide +kernel
theorem dX3_forks_110 : decode cX3_forks 110 = .ok (.iastore, 1) := by decide +kernel
theorem dX3_forks_111 : decode cX3_forks 111 = .ok (.iinc 7 1, 3) := by decide +kernel
theorem dX3_forks_114 : decode cX3_forks 114 = .ok (.goto (-58), 3) := by decide +kernel
theorem dX3_forks_117 : decode cX3_forks 117 = .ok (.iinc 5 1, 3) := by decide +kernel
theorem dX3_forks_120 : decode cX3_forks 120 = .ok (.goto (-86), 3) := by decide +kernel
theorem dX3_forks_123 : decode cX3_forks 123 = .ok (.aload_n 0, 1) := by decide +kernel
theorem dX3_forks_124 : decode cX3_forks 124 = .ok (.getfield 55, 3) := by decide +kernel
theorem dX3_forks_127 : decode cX3_forks 127 = .ok (.iconst 1, 1) := by decide +kernel
theorem dX3_forks_128 : decode cX3_forks 128 = .ok (.isub, 1) := by decide +kernel
theorem dX3_forks_129 : decode cX3_forks 129 = .ok (.istore 5, 2) := by decide +kernel
theorem dX3_forks_131 : decode cX3_forks 131 = .ok (.iload 5, 2) := by decide +kernel
theorem dX3_forks_133 : decode cX3_forks 133 = .ok (.ifCond .lt 152, 3) := by decide +kernel
theorem dX3_forks_136 : decode cX3_forks 136 = .ok (.aload_n 0, 1) := by decide +kernel
theorem dX3_forks_137 : decode cX3_forks 137 = .ok (.dup, 1) := by decide +kernel
theorem dX3_forks_138 : decode cX3_forks 138 = .ok (.getfield 71, 3) := by decide +kernel
theorem dX3_forks_141 : decode cX3_forks 141 = .ok (.iconst 1, 1) := by decide +kernel
theorem dX3_forks_142 : decode cX3_forks 142 = .ok (.iadd, 1) := by decide +kernel
theorem dX3_forks_143 : decode cX3_forks 143 = .ok (.putfield 71, 3) := by decide +kernel
theorem dX3_forks_146 : decode cX3_forks 146 = .ok (.iload_n 1, 1) := by decide +kernel
theorem dX3_forks_147 : decode cX3_forks 147 = .ok (.istore 6, 2) := by decide +kernel
theorem dX3_forks_149 : decode cX3_forks 149 = .ok (.iload 6, 2) := by decide +kernel
theorem dX3_forks_151 : decode cX3_forks 151 = .ok (.iload_n 2, 1) := by decide +kernel
theorem dX3_forks_152 : decode cX3_forks 152 = .ok (.if_icmp .ge 127, 3) := by decide +kernel
theorem dX3_forks_155 : decode cX3_forks 155 = .ok (.iconst 0, 1) := by decide +kernel
theorem dX3_forks_156 : decode cX3_forks 156 = .ok (.istore 7, 2) := by decide +kernel
theorem dX3_forks_158 : decode cX3_forks 158 = .ok (.iload 7, 2) := by decide +kernel
theorem dX3_forks_160 : decode cX3_forks 160 = .ok (.iconst 1, 1) := by decide +kernel
theorem dX3_forks_161 : decode cX3_forks 161 = .ok (.iload 5, 2) := by decide +kernel
theorem dX3_forks_163 : decode cX3_forks 163 = .ok (.ishl, 1) := by decide +kernel
theorem dX3_forks_164 : decode cX3_forks 164 = .ok (.if_icmp .ge 63, 3) := by decide +kernel
theorem dX3_forks_167 : decode cX3_forks 167 = .ok (.aload_n 0, 1) := by decide +kernel
theorem dX3_forks_168 : decode cX3_forks 168 = .ok (.getfield 33, 3) := by decide +kernel
theorem dX3_forks_171 : decode cX3_forks 171 = .ok (.sipush 4096, 3) := by decide +kernel
theorem dX3_forks_174 : decode cX3_forks 174 = .ok (.iload 6, 2) := by decide +kernel
theorem dX3_forks_176 : decode cX3_forks 176 = .ok (.imul, 1) := by decide +kernel
theorem dX3_forks_177 : decode cX3_forks 177 = .ok (.iload 7, 2) := by decide +kernel
theorem dX3_forks_179 : decode cX3_forks 179 = .ok (.iadd, 1) := by decide +kernel
theorem dX3_forks_180 : decode cX3_forks 180 = .ok (.aload_n 0, 1) := by decide +kernel
theorem dX3_forks_181 : decode cX3_forks 181 = .ok (.aload_n 0, 1) := by decide +kernel
theorem dX3_forks_182 : decode cX3_forks 182 = .ok (.getfield 30, 3) := by decide +kernel
theorem dX3_forks_185 : decode cX3_forks 185 = .ok (.sipush 4096, 3) := by decide +kernel
theorem dX3_forks_188 : decode cX3_forks 188 = .ok (.iload 6, 2) := by decide +kernel
theorem dX3_forks_190 : decode cX3_forks 190 = .ok (.imul, 1) := by decide +kernel
theorem dX3_forks_191 : decode cX3_forks 191 = .ok (.iconst 2, 1) := by decide +kernel
theorem dX3_forks_192 : decode cX3_forks 192 = .ok (.iload 7, 2) := by decide +kernel
theorem dX3_forks_194 : decode cX3_forks 194 = .ok (.imul, 1) := by decide +kernel
theorem dX3_forks_195 : decode cX3_forks 195 = .ok (.iadd, 1) := by decide +kernel
theorem dX3_forks_196 : decode cX3_forks 196 = .ok (.iaload, 1) := by decide +kernel
theorem dX3_forks_197 : decode cX3_forks 197 = .ok (.aload_n 0, 1) := by decide +kernel
theorem dX3_forks_198 : decode cX3_forks 198 = .ok (.getfield 30, 3) := by decide +kernel
theorem dX3_forks_201 : decode cX3_forks 201 = .ok (.sipush 4096, 3) := by decide +kernel
theorem dX3_forks_204 : decode cX3_forks 204 = .ok (.iload 6, 2) := by decide +kernel
theorem dX3_forks_206 : decode cX3_forks 206 = .ok (.imul, 1) := by decide +kernel
theorem dX3_forks_207 : decode cX3_forks 207 = .ok (.iconst 2, 1) := by decide +kernel
theorem dX3_forks_208 : decode cX3_forks 208 = .ok (.iload 7, 2) := by decide +kernel
theorem dX3_forks_210 : decode cX3_forks 210 = .ok (.imul, 1) := by decide +kernel
theorem dX3_forks_211 : decode cX3_forks 211 = .ok (.iadd, 1) := by decide +kernel
theorem dX3_forks_212 : decode cX3_forks 212 = .ok (.iconst 1, 1) := by decide +kernel
theorem dX3_forks_213 : decode cX3_forks 213 = .ok (.iadd, 1) := by decide +kernel
theorem dX3_forks_214 : decode cX3_forks 214 = .ok (.iaload, 1) := by decide +kernel
theorem dX3_forks_215 : decode cX3_forks 215 = .ok (.iload 5, 2) := by decide +kernel
theorem dX3_forks_217 : decode cX3_forks 217 = .ok (.invokevirtual 84, 3) := by decide +kernel
theorem dX3_forks_220 : decode cX3_forks 220 = .ok (.iastore, 1) := by decide +kernel
theorem dX3_forks_221 : decode cX3_forks 221 = .ok (.iinc 7 1, 3) := by decide +kernel
theorem dX3_forks_224 : decode cX3_forks 224 = .ok (.goto (-66), 3) := by decide +kernel
theorem dX3_forks_227 : decode cX3_forks 227 = .ok (.iconst 0, 1) := by decide +kernel
theorem dX3_forks_228 : decode cX3_forks 228 = .ok (.istore 7, 2) := by decide +kernel
theorem dX3_forks_230 : decode cX3_forks 230 = .ok (.iload 7, 2) := by decide +kernel
theorem dX3_forks_232 : decode cX3_forks 232 = .ok (.iconst 1, 1) := by decide +kernel
theorem dX3_forks_233 : decode cX3_forks 233 = .ok (.iload 5, 2) := by decide +kernel
theorem dX3_forks_235 : decode cX3_forks 235 = .ok (.ishl, 1) := by decide +kernel
theorem dX3_forks_236 : decode cX3_forks 236 = .ok (.if_icmp .ge 37, 3) := by decide +kernel
theorem dX3_forks_239 : decode cX3_forks 239 = .ok (.aload_n 0, 1) := by decide +kernel
theorem dX3_forks_240 : decode cX3_forks 240 = .ok (.getfield 30, 3) := by decide +kernel
theorem dX3_forks_243 : decode cX3_forks 243 = .ok (.sipush 4096, 3) := by decide +kernel
theorem dX3_forks_246 : decode cX3_forks 246 = .ok (.iload 6, 2) := by decide +kernel
theorem dX3_forks_248 : decode cX3_forks 248 = .ok (.imul, 1) := by decide +kernel
theorem dX3_forks_249 : decode cX3_forks 249 = .ok (.iload 7, 2) := by decide +kernel
theorem dX3_forks_251 : decode cX3_forks 251 = .ok (.iadd, 1) := by decide +kernel
theorem dX3_forks_252 : decode cX3_forks 252 = .ok (.aload_n 0, 1) := by decide +kernel
theorem dX3_forks_253 : decode cX3_forks 253 = .ok (.getfield 33, 3) := by decide +kernel
theorem dX3_forks_256 : decode cX3_forks 256 = .ok (.sipush 4096, 3) := by decide +kernel
theorem dX3_forks_259 : decode cX3_forks 259 = .ok (.iload 6, 2) := by decide +kernel
theorem dX3_forks_261 : decode cX3_forks 261 = .ok (.imul, 1) := by decide +kernel
theorem dX3_forks_262 : decode cX3_forks 262 = .ok (.iload 7, 2) := by decide +kernel
theorem dX3_forks_264 : decode cX3_forks 264 = .ok (.iadd, 1) := by decide +kernel
theorem dX3_forks_265 : decode cX3_forks 265 = .ok (.iaload, 1) := by decide +kernel
theorem dX3_forks_266 : decode cX3_forks 266 = .ok (.iastore, 1) := by decide +kernel
theorem dX3_forks_267 : decode cX3_forks 267 = .ok (.iinc 7 1, 3) := by decide +kernel
theorem dX3_forks_270 : decode cX3_forks 270 = .ok (.goto (-40), 3) := by decide +kernel
theorem dX3_forks_273 : decode cX3_forks 273 = .ok (.iinc 6 1, 3) := by decide +kernel
theorem dX3_forks_276 : decode cX3_forks 276 = .ok (.goto (-127), 3) := by decide +kernel
theorem dX3_forks_279 : decode cX3_forks 279 = .ok (.iinc 5 (-1), 3) := by decide +kernel
theorem dX3_forks_282 : decode cX3_forks 282 = .ok (.goto (-151), 3) := by decide +kernel
theorem dX3_forks_285 : decode cX3_forks 285 = .ok (.aload_n 0, 1) := by decide +kernel
theorem dX3_forks_286 : decode cX3_forks 286 = .ok (.getfield 74, 3) := by decide +kernel
theorem dX3_forks_289 : decode cX3_forks 289 = .ok (.iconst 2, 1) := by decide +kernel
theorem dX3_forks_290 : decode cX3_forks 290 = .ok (.isub, 1) := by decide +kernel
theorem dX3_forks_291 : decode cX3_forks 291 = .ok (.ireturn, 1) := by decide +kernel
theorem dX3_puts_0 : decode cX3_puts 0 = .ok (.aload_n 0, 1) := by decide +kernel
theorem dX3_puts_1 : decode cX3_puts 1 = .ok (.iconst 0, 1) := by decide +kernel
theorem dX3_puts_2 : decode cX3_puts 2 = .ok (.bipush 32, 2) := by decide +kernel
theorem dX3_puts_4 : decode cX3_puts 4 = .ok (.iload_n 1, 1) := by decide +kernel
theorem dX3_puts_5 : decode cX3_puts 5 = .ok (.aload_n 0, 1) := by decide +kernel
theorem dX3_puts_6 : decode cX3_puts 6 = .ok (.getfield 24, 3) := by decide +kernel
theorem dX3_puts_9 : decode cX3_puts 9 = .ok (.invokevirtual 88, 3) := by decide +kernel
theorem dX3_puts_12 : decode cX3_puts 12 = .ok (.aload_n 0, 1) := by decide +kernel
theorem dX3_puts_13 : decode cX3_puts 13 = .ok (.getfield 62, 3) := by decide +kernel
theorem dX3_puts_16 : decode cX3_puts 16 = .ok (.if_icmp .le 6, 3) := by decide +kernel
theorem dX3_puts_19 : decode cX3_puts 19 = .ok (.bipush (-8), 2) := by decide +kernel
theorem dX3_puts_21 : decode cX3_puts 21 = .ok (.ireturn, 1) := by decide +kernel
theorem dX3_puts_22 : decode cX3_puts 22 = .ok (.iconst 0, 1) := by decide +kernel
theorem dX3_puts_23 : decode cX3_puts 23 = .ok (.istore_n 2, 1) := by decide +kernel
theorem dX3_puts_24 : decode cX3_puts 24 = .ok (.iload_n 2, 1) := by decide +kernel
theorem dX3_puts_25 : decode cX3_puts 25 = .ok (.aload_n 0, 1) := by decide +kernel
theorem dX3_puts_26 : decode cX3_puts 26 = .ok (.getfield 59, 3) := by decide +kernel
theorem dX3_puts_29 : decode cX3_puts 29 = .ok (.if_icmp .ge 27, 3) := by decide +kernel
theorem dX3_puts_32 : decode cX3_puts 32 = .ok (.aload_n 0, 1) := by decide +kernel
theorem dX3_puts_33 : decode cX3_puts 33 = .ok (.getfield 10, 3) := by decide +kernel
theorem dX3_puts_36 : decode cX3_puts 36 = .ok (.sipush 4096, 3) := by decide +kernel
theorem dX3_puts_39 : decode cX3_puts 39 = .ok (.iload_n 1, 1) := by decide +kernel
theorem dX3_puts_40 : decode cX3_puts 40 = .ok (.imul, 1) := by decide +kernel
theorem dX3_puts_41 : decode cX3_puts 41 = .ok (.iload_n 2, 1) := by decide +kernel
theorem dX3_puts_42 : decode cX3_puts 42 = .ok (.iadd, 1) := by decide +kernel
theorem dX3_puts_43 : decode cX3_puts 43 = .ok (.aload_n 0, 1) := by decide +kernel
theorem dX3_puts_44 : decode cX3_puts 44 = .ok (.getfield 14, 3) := by decide +kernel
theorem dX3_puts_47 : decode cX3_puts 47 = .ok (.iload_n 2, 1) := by decide +kernel
theorem dX3_puts_48 : decode cX3_puts 48 = .ok (.baload, 1) := by decide +kernel
theorem dX3_puts_49 : decode cX3_puts 49 = .ok (.bastore, 1) := by decide +kernel
theorem dX3_puts_50 : decode cX3_puts 50 = .ok (.iinc 2 1, 3) := by decide +kernel
theorem dX3_puts_53 : decode cX3_puts 53 = .ok (.goto (-29), 3) := by decide +kernel
theorem dX3_puts_56 : decode cX3_puts 56 = .ok (.aload_n 0, 1) := by decide +kernel
theorem dX3_puts_57 : decode cX3_puts 57 = .ok (.invokevirtual 65, 3) := by decide +kernel
theorem dX3_puts_60 : decode cX3_puts 60 = .ok (.ireturn, 1) := by decide +kernel
theorem dX3_constant_0 : decode cX3_constant 0 = .ok (.aload_n 0, 1) := by decide +kernel
theorem dX3_constant_1 : decode cX3_constant 1 = .ok (.iload_n 1, 1) := by decide +kernel
theorem dX3_constant_2 : decode cX3_constant 2 = .ok (.invokevirtual 92, 3) := by decide +kernel
theorem dX3_constant_5 : decode cX3_constant 5 = .ok (.ifCond .ne 6, 3) := by decide +kernel
theorem dX3_constant_8 : decode cX3_constant 8 = .ok (.bipush (-2), 2) := by decide +kernel
theorem dX3_constant_10 : decode cX3_constant 10 = .ok (.ireturn, 1) := by decide +kernel
theorem dX3_constant_11 : decode cX3_constant 11 = .ok (.iconst 0, 1) := by decide +kernel
theorem dX3_constant_12 : decode cX3_constant 12 = .ok (.istore_n 3, 1) := by decide +kernel
theorem dX3_constant_13 : decode cX3_constant 13 = .ok (.iload_n 3, 1) := by decide +kernel
theorem dX3_constant_14 : decode cX3_constant 14 = .ok (.aload_n 0, 1) := by decide +kernel
theorem dX3_constant_15 : decode cX3_constant 15 = .ok (.getfield 59, 3) := by decide +kernel
theorem dX3_constant_18 : decode cX3_constant 18 = .ok (.if_icmp .ge 22, 3) := by decide +kernel
theorem dX3_constant_21 : decode cX3_constant 21 = .ok (.aload_n 0, 1) := by decide +kernel
theorem dX3_constant_22 : decode cX3_constant 22 = .ok (.getfield 10, 3) := by decide +kernel
theorem dX3_constant_25 : decode cX3_constant 25 = .ok (.sipush 4096, 3) := by decide +kernel
theorem dX3_constant_28 : decode cX3_constant 28 = .ok (.iload_n 1, 1) := by decide +kernel
theorem dX3_constant_29 : decode cX3_constant 29 = .ok (.imul, 1) := by decide +kernel
theorem dX3_constant_30 : decode cX3_constant 30 = .ok (.iload_n 3, 1) := by decide +kernel
theorem dX3_constant_31 : decode cX3_constant 31 = .ok (.iadd, 1) := by decide +kernel
theorem dX3_constant_32 : decode cX3_constant 32 = .ok (.iload_n 2, 1) := by decide +kernel
theorem dX3_constant_33 : decode cX3_constant 33 = .ok (.bastore, 1) := by decide +kernel
theorem dX3_constant_34 : decode cX3_constant 34 = .ok (.iinc 3 1, 3) := by decide +kernel
theorem dX3_constant_37 : decode cX3_constant 37 = .ok (.goto (-24), 3) := by decide +kernel
theorem dX3_constant_40 : decode cX3_constant 40 = .ok (.aload_n 0, 1) := by decide +kernel
theorem dX3_constant_41 : decode cX3_constant 41 = .ok (.invokevirtual 65, 3) := by decide +kernel
theorem dX3_constant_44 : decode cX3_constant 44 = .ok (.ireturn, 1) := by decide +kernel
theorem dX3_letter_0 : decode cX3_letter 0 = .ok (.aload_n 0, 1) := by decide +kernel
theorem dX3_letter_1 : decode cX3_letter 1 = .ok (.iload_n 1, 1) := by decide +kernel
theorem dX3_letter_2 : decode cX3_letter 2 = .ok (.invokevirtual 92, 3) := by decide +kernel
theorem dX3_letter_5 : decode cX3_letter 5 = .ok (.ifCond .eq 11, 3) := by decide +kernel
theorem dX3_letter_8 : decode cX3_letter 8 = .ok (.aload_n 0, 1) := by decide +kernel
theorem dX3_letter_9 : decode cX3_letter 9 = .ok (.iload_n 2, 1) := by decide +kernel
theorem dX3_letter_10 : decode cX3_letter 10 = .ok (.invokevirtual 96, 3) := by decide +kernel
theorem dX3_letter_13 : decode cX3_letter 13 = .ok (.ifCond .ne 6, 3) := by decide +kernel
theorem dX3_letter_16 : decode cX3_letter 16 = .ok (.bipush (-2), 2) := by decide +kernel
theorem dX3_letter_18 : decode cX3_letter 18 = .ok (.ireturn, 1) := by decide +kernel
theorem dX3_letter_19 : decode cX3_letter 19 = .ok (.iconst 0, 1) := by decide +kernel
theorem dX3_letter_20 : decode cX3_letter 20 = .ok (.istore_n 3, 1) := by decide +kernel
theorem dX3_letter_21 : decode cX3_letter 21 = .ok (.iload_n 3, 1) := by decide +kernel
theorem dX3_letter_22 : decode cX3_letter 22 = .ok (.aload_n 0, 1) := by decide +kernel
theorem dX3_letter_23 : decode cX3_letter 23 = .ok (.getfield 59, 3) := by decide +kernel
theorem dX3_letter_26 : decode cX3_letter 26 = .ok (.if_icmp .ge 29, 3) := by decide +kernel
theorem dX3_letter_29 : decode cX3_letter 29 = .ok (.aload_n 0, 1) := by decide +kernel
theorem dX3_letter_30 : decode cX3_letter 30 = .ok (.getfield 14, 3) := by decide +kernel
theorem dX3_letter_33 : decode cX3_letter 33 = .ok (.iload_n 3, 1) := by decide +kernel
theorem dX3_letter_34 : decode cX3_letter 34 = .ok (.iload_n 3, 1) := by decide +kernel
theorem dX3_letter_35 : decode cX3_letter 35 = .ok (.iload_n 2, 1) := by decide +kernel
theorem dX3_letter_36 : decode cX3_letter 36 = .ok (.ishr, 1) := by decide +kernel
theorem dX3_letter_37 : decode cX3_letter 37 = .ok (.iconst 1, 1) := by decide +kernel
theorem dX3_letter_38 : decode cX3_letter 38 = .ok (.iand, 1) := by decide +kernel
theorem dX3_letter_39 : decode cX3_letter 39 = .ok (.iconst 1, 1) := by decide +kernel
theorem dX3_letter_40 : decode cX3_letter 40 = .ok (.if_icmp .ne 7, 3) := by decide +kernel
theorem dX3_letter_43 : decode cX3_letter 43 = .ok (.iconst 1, 1) := by decide +kernel
theorem dX3_letter_44 : decode cX3_letter 44 = .ok (.goto 4, 3) := by decide +kernel
theorem dX3_letter_47 : decode cX3_letter 47 = .ok (.iconst 0, 1) := by decide +kernel
theorem dX3_letter_48 : decode cX3_letter 48 = .ok (.bastore, 1) := by decide +kernel
theorem dX3_letter_49 : decode cX3_letter 49 = .ok (.iinc 3 1, 3) := by decide +kernel
theorem dX3_letter_52 : decode cX3_letter 52 = .ok (.goto (-31), 3) := by decide +kernel
theorem dX3_letter_55 : decode cX3_letter 55 = .ok (.aload_n 0, 1) := by decide +kernel
theorem dX3_letter_56 : decode cX3_letter 56 = .ok (.iload_n 1, 1) := by decide +kernel
theorem dX3_letter_57 : decode cX3_letter 57 = .ok (.invokevirtual 99, 3) := by decide +kernel
theorem dX3_letter_60 : decode cX3_letter 60 = .ok (.ireturn, 1) := by decide +kernel
theorem dX3_join_0 : decode cX3_join 0 = .ok (.aload_n 0, 1) := by decide +kernel
theorem dX3_join_1 : decode cX3_join 1 = .ok (.iload_n 1, 1) := by decide +kernel
theorem dX3_join_2 : decode cX3_join 2 = .ok (.invokevirtual 92, 3) := by decide +kernel
theorem dX3_join_5 : decode cX3_join 5 = .ok (.ifCond .eq 31, 3) := by decide +kernel
theorem dX3_join_8 : decode cX3_join 8 = .ok (.aload_n 0, 1) := by decide +kernel
theorem dX3_join_9 : decode cX3_join 9 = .ok (.iload_n 2, 1) := by decide +kernel
theorem dX3_join_10 : decode cX3_join 10 = .ok (.invokevirtual 92, 3) := by decide +kernel
theorem dX3_join_13 : decode cX3_join 13 = .ok (.ifCond .eq 23, 3) := by decide +kernel
theorem dX3_join_16 : decode cX3_join 16 = .ok (.aload_n 0, 1) := by decide +kernel
theorem dX3_join_17 : decode cX3_join 17 = .ok (.iload_n 3, 1) := by decide +kernel
theorem dX3_join_18 : decode cX3_join 18 = .ok (.invokevirtual 92, 3) := by decide +kernel
theorem dX3_join_21 : decode cX3_join 21 = .ok (.ifCond .eq 15, 3) := by decide +kernel
theorem dX3_join_24 : decode cX3_join 24 = .ok (.iload 4, 2) := by decide +kernel
theorem dX3_join_26 : decode cX3_join 26 = .ok (.ifCond .lt 10, 3) := by decide +kernel
theorem dX3_join_29 : decode cX3_join 29 = .ok (.iload 4, 2) := by decide +kernel
theorem dX3_join_31 : decode cX3_join 31 = .ok (.bipush 15, 2) := by decide +kernel
theorem dX3_join_33 : decode cX3_join 33 = .ok (.if_icmp .le 6, 3) := by decide +kernel
theorem dX3_join_36 : decode cX3_join 36 = .ok (.bipush (-2), 2) := by decide +kernel
theorem dX3_join_38 : decode cX3_join 38 = .ok (.ireturn, 1) := by decide +kernel
theorem dX3_join_39 : decode cX3_join 39 = .ok (.iconst 0, 1) := by decide +kernel
theorem dX3_join_40 : decode cX3_join 40 = .ok (.istore 5, 2) := by decide +kernel
theorem dX3_join_42 : decode cX3_join 42 = .ok (.iload 5, 2) := by decide +kernel
theorem dX3_join_44 : decode cX3_join 44 = .ok (.aload_n 0, 1) := by decide +kernel
theorem dX3_join_45 : decode cX3_join 45 = .ok (.getfield 59, 3) := by decide +kernel
theorem dX3_join_48 : decode cX3_join 48 = .ok (.if_icmp .ge 61, 3) := by decide +kernel
theorem dX3_join_51 : decode cX3_join 51 = .ok (.aload_n 0, 1) := by decide +kernel
theorem dX3_join_52 : decode cX3_join 52 = .ok (.getfield 14, 3) := by decide +kernel
theorem dX3_join_55 : decode cX3_join 55 = .ok (.iload 5, 2) := by decide +kernel
theorem dX3_join_57 : decode cX3_join 57 = .ok (.iload 4, 2) := by decide +kernel
theorem dX3_join_59 : decode cX3_join 59 = .ok (.aload_n 0, 1) := by decide +kernel
theorem dX3_join_60 : decode cX3_join 60 = .ok (.iload_n 2, 1) := by decide +kernel
theorem dX3_join_61 : decode cX3_join 61 = .ok (.iload 5, 2) := by decide +kernel
theorem dX3_join_63 : decode cX3_join 63 = .ok (.invokevirtual 81, 3) := by decide +kernel
theorem dX3_join_66 : decode cX3_join 66 = .ok (.ifCond .eq 7, 3) := by decide +kernel
theorem dX3_join_69 : decode cX3_join 69 = .ok (.iconst 1, 1) := by decide +kernel
theorem dX3_join_70 : decode cX3_join 70 = .ok (.goto 4, 3) := by decide +kernel
theorem dX3_join_73 : decode cX3_join 73 = .ok (.iconst 0, 1) := by decide +kernel
theorem dX3_join_74 : decode cX3_join 74 = .ok (.aload_n 0, 1) := by decide +kernel
theorem dX3_join_75 : decode cX3_join 75 = .ok (.iload_n 3, 1) := by decide +kernel
theorem dX3_join_76 : decode cX3_join 76 = .ok (.iload 5, 2) := by decide +kernel
theorem dX3_join_78 : decode cX3_join 78 = .ok (.invokevirtual 81, 3) := by decide +kernel
theorem dX3_join_81 : decode cX3_join 81 = .ok (.ifCond .eq 7, 3) := by decide +kernel
theorem dX3_join_84 : decode cX3_join 84 = .ok (.iconst 2, 1) := by decide +kernel
theorem dX3_join_85 : decode cX3_join 85 = .ok (.goto 4, 3) := by decide +kernel
theorem dX3_join_88 : decode cX3_join 88 = .ok (.iconst 0, 1) := by decide +kernel
theorem dX3_join_89 : decode cX3_join 89 = .ok (.iadd, 1) := by decide +kernel
theorem dX3_join_90 : decode cX3_join 90 = .ok (.ishr, 1) := by decide +kernel
theorem dX3_join_91 : decode cX3_join 91 = .ok (.iconst 1, 1) := by decide +kernel
theorem dX3_join_92 : decode cX3_join 92 = .ok (.iand, 1) := by decide +kernel
theorem dX3_join_93 : decode cX3_join 93 = .ok (.iconst 1, 1) := by decide +kernel
theorem dX3_join_94 : decode cX3_join 94 = .ok (.if_icmp .ne 7, 3) := by decide +kernel
theorem dX3_join_97 : decode cX3_join 97 = .ok (.iconst 1, 1) := by decide +kernel
theorem dX3_join_98 : decode cX3_join 98 = .ok (.goto 4, 3) := by decide +kernel
theorem dX3_join_101 : decode cX3_join 101 = .ok (.iconst 0, 1) := by decide +kernel
theorem dX3_join_102 : decode cX3_join 102 = .ok (.bastore, 1) := by decide +kernel
theorem dX3_join_103 : decode cX3_join 103 = .ok (.iinc 5 1, 3) := by decide +kernel
theorem dX3_join_106 : decode cX3_join 106 = .ok (.goto (-64), 3) := by decide +kernel
theorem dX3_join_109 : decode cX3_join 109 = .ok (.aload_n 0, 1) := by decide +kernel
theorem dX3_join_110 : decode cX3_join 110 = .ok (.iload_n 1, 1) := by decide +kernel
theorem dX3_join_111 : decode cX3_join 111 = .ok (.invokevirtual 99, 3) := by decide +kernel
theorem dX3_join_114 : decode cX3_join 114 = .ok (.ireturn, 1) := by decide +kernel
theorem dX3_fork_0 : decode cX3_fork 0 = .ok (.aload_n 0, 1) := by decide +kernel
theorem dX3_fork_1 : decode cX3_fork 1 = .ok (.iload_n 1, 1) := by decide +kernel
theorem dX3_fork_2 : decode cX3_fork 2 = .ok (.invokevirtual 92, 3) := by decide +kernel
theorem dX3_fork_5 : decode cX3_fork 5 = .ok (.ifCond .eq 28, 3) := by decide +kernel
theorem dX3_fork_8 : decode cX3_fork 8 = .ok (.aload_n 0, 1) := by decide +kernel
theorem dX3_fork_9 : decode cX3_fork 9 = .ok (.iload_n 2, 1) := by decide +kernel
theorem dX3_fork_10 : decode cX3_fork 10 = .ok (.invokevirtual 92, 3) := by decide +kernel
theorem dX3_fork_13 : decode cX3_fork 13 = .ok (.ifCond .eq 20, 3) := by decide +kernel
theorem dX3_fork_16 : decode cX3_fork 16 = .ok (.aload_n 0, 1) := by decide +kernel
theorem dX3_fork_17 : decode cX3_fork 17 = .ok (.iload_n 3, 1) := by decide +kernel
theorem dX3_fork_18 : decode cX3_fork 18 = .ok (.invokevirtual 92, 3) := by decide +kernel
theorem dX3_fork_21 : decode cX3_fork 21 = .ok (.ifCond .eq 12, 3) := by decide +kernel
theorem dX3_fork_24 : decode cX3_fork 24 = .ok (.aload_n 0, 1) := by decide +kernel
theorem dX3_fork_25 : decode cX3_fork 25 = .ok (.iload 4, 2) := by decide +kernel
theorem dX3_fork_27 : decode cX3_fork 27 = .ok (.invokevirtual 92, 3) := by decide +kernel
theorem dX3_fork_30 : decode cX3_fork 30 = .ok (.ifCond .ne 6, 3) := by decide +kernel
theorem dX3_fork_33 : decode cX3_fork 33 = .ok (.bipush (-2), 2) := by decide +kernel
theorem dX3_fork_35 : decode cX3_fork 35 = .ok (.ireturn, 1) := by decide +kernel
theorem dX3_fork_36 : decode cX3_fork 36 = .ok (.iconst 0, 1) := by decide +kernel
theorem dX3_fork_37 : decode cX3_fork 37 = .ok (.istore 5, 2) := by decide +kernel
theorem dX3_fork_39 : decode cX3_fork 39 = .ok (.iload 5, 2) := by decide +kernel
theorem dX3_fork_41 : decode cX3_fork 41 = .ok (.aload_n 0, 1) := by decide +kernel
theorem dX3_fork_42 : decode cX3_fork 42 = .ok (.getfield 59, 3) := by decide +kernel
theorem dX3_fork_45 : decode cX3_fork 45 = .ok (.if_icmp .ge 44, 3) := by decide +kernel
theorem dX3_fork_48 : decode cX3_fork 48 = .ok (.aload_n 0, 1) := by decide +kernel
theorem dX3_fork_49 : decode cX3_fork 49 = .ok (.getfield 14, 3) := by decide +kernel
theorem dX3_fork_52 : decode cX3_fork 52 = .ok (.iload 5, 2) := by decide +kernel
theorem dX3_fork_54 : decode cX3_fork 54 = .ok (.aload_n 0, 1) := by decide +kernel
theorem dX3_fork_55 : decode cX3_fork 55 = .ok (.iload_n 2, 1) := by decide +kernel
theorem dX3_fork_56 : decode cX3_fork 56 = .ok (.iload 5, 2) := by decide +kernel
theorem dX3_fork_58 : decode cX3_fork 58 = .ok (.invokevirtual 81, 3) := by decide +kernel
theorem dX3_fork_61 : decode cX3_fork 61 = .ok (.ifCond .eq 13, 3) := by decide +kernel
theorem dX3_fork_64 : decode cX3_fork 64 = .ok (.aload_n 0, 1) := by decide +kernel
theorem dX3_fork_65 : decode cX3_fork 65 = .ok (.iload_n 3, 1) := by decide +kernel
theorem dX3_fork_66 : decode cX3_fork 66 = .ok (.iload 5, 2) := by decide +kernel
theorem dX3_fork_68 : decode cX3_fork 68 = .ok (.invokevirtual 81, 3) := by decide +kernel
theorem dX3_fork_71 : decode cX3_fork 71 = .ok (.goto 11, 3) := by decide +kernel
theorem dX3_fork_74 : decode cX3_fork 74 = .ok (.aload_n 0, 1) := by decide +kernel
theorem dX3_fork_75 : decode cX3_fork 75 = .ok (.iload 4, 2) := by decide +kernel
theorem dX3_fork_77 : decode cX3_fork 77 = .ok (.iload 5, 2) := by decide +kernel
theorem dX3_fork_79 : decode cX3_fork 79 = .ok (.invokevirtual 81, 3) := by decide +kernel
theorem dX3_fork_82 : decode cX3_fork 82 = .ok (.bastore, 1) := by decide +kernel
theorem dX3_fork_83 : decode cX3_fork 83 = .ok (.iinc 5 1, 3) := by decide +kernel
theorem dX3_fork_86 : decode cX3_fork 86 = .ok (.goto (-47), 3) := by decide +kernel
theorem dX3_fork_89 : decode cX3_fork 89 = .ok (.aload_n 0, 1) := by decide +kernel
theorem dX3_fork_90 : decode cX3_fork 90 = .ok (.iload_n 1, 1) := by decide +kernel
theorem dX3_fork_91 : decode cX3_fork 91 = .ok (.invokevirtual 99, 3) := by decide +kernel
theorem dX3_fork_94 : decode cX3_fork 94 = .ok (.ireturn, 1) := by decide +kernel
theorem dX3_with_0 : decode cX3_with 0 = .ok (.iload_n 2, 1) := by decide +kernel
theorem dX3_with_1 : decode cX3_with 1 = .ok (.ifCond .eq 11, 3) := by decide +kernel
theorem dX3_with_4 : decode cX3_with 4 = .ok (.iload_n 0, 1) := by decide +kernel
theorem dX3_with_5 : decode cX3_with 5 = .ok (.iconst 1, 1) := by decide +kernel
theorem dX3_with_6 : decode cX3_with 6 = .ok (.iload_n 1, 1) := by decide +kernel
theorem dX3_with_7 : decode cX3_with 7 = .ok (.ishl, 1) := by decide +kernel
theorem dX3_with_8 : decode cX3_with 8 = .ok (.ior, 1) := by decide +kernel
theorem dX3_with_9 : decode cX3_with 9 = .ok (.goto 10, 3) := by decide +kernel
theorem dX3_with_12 : decode cX3_with 12 = .ok (.iload_n 0, 1) := by decide +kernel
theorem dX3_with_13 : decode cX3_with 13 = .ok (.iconst 1, 1) := by decide +kernel
theorem dX3_with_14 : decode cX3_with 14 = .ok (.iload_n 1, 1) := by decide +kernel
theorem dX3_with_15 : decode cX3_with 15 = .ok (.ishl, 1) := by decide +kernel
theorem dX3_with_16 : decode cX3_with 16 = .ok (.iconst (-1), 1) := by decide +kernel
theorem dX3_with_17 : decode cX3_with 17 = .ok (.ixor, 1) := by decide +kernel
theorem dX3_with_18 : decode cX3_with 18 = .ok (.iand, 1) := by decide +kernel
theorem dX3_with_19 : decode cX3_with 19 = .ok (.ireturn, 1) := by decide +kernel
theorem dX3_fix_0 : decode cX3_fix 0 = .ok (.aload_n 0, 1) := by decide +kernel
theorem dX3_fix_1 : decode cX3_fix 1 = .ok (.iload_n 1, 1) := by decide +kernel
theorem dX3_fix_2 : decode cX3_fix 2 = .ok (.invokevirtual 92, 3) := by decide +kernel
theorem dX3_fix_5 : decode cX3_fix 5 = .ok (.ifCond .eq 19, 3) := by decide +kernel
theorem dX3_fix_8 : decode cX3_fix 8 = .ok (.aload_n 0, 1) := by decide +kernel
theorem dX3_fix_9 : decode cX3_fix 9 = .ok (.iload_n 2, 1) := by decide +kernel
theorem dX3_fix_10 : decode cX3_fix 10 = .ok (.invokevirtual 92, 3) := by decide +kernel
theorem dX3_fix_13 : decode cX3_fix 13 = .ok (.ifCond .eq 11, 3) := by decide +kernel
theorem dX3_fix_16 : decode cX3_fix 16 = .ok (.aload_n 0, 1) := by decide +kernel
theorem dX3_fix_17 : decode cX3_fix 17 = .ok (.iload_n 3, 1) := by decide +kernel
theorem dX3_fix_18 : decode cX3_fix 18 = .ok (.invokevirtual 96, 3) := by decide +kernel
theorem dX3_fix_21 : decode cX3_fix 21 = .ok (.ifCond .ne 6, 3) := by decide +kernel
theorem dX3_fix_24 : decode cX3_fix 24 = .ok (.bipush (-2), 2) := by decide +kernel
theorem dX3_fix_26 : decode cX3_fix 26 = .ok (.ireturn, 1) := by decide +kernel
theorem dX3_fix_27 : decode cX3_fix 27 = .ok (.iconst 0, 1) := by decide +kernel
theorem dX3_fix_28 : decode cX3_fix 28 = .ok (.istore 5, 2) := by decide +kernel
theorem dX3_fix_30 : decode cX3_fix 30 = .ok (.iload 5, 2) := by decide +kernel
theorem dX3_fix_32 : decode cX3_fix 32 = .ok (.aload_n 0, 1) := by decide +kernel
theorem dX3_fix_33 : decode cX3_fix 33 = .ok (.getfield 59, 3) := by decide +kernel
theorem dX3_fix_36 : decode cX3_fix 36 = .ok (.if_icmp .ge 29, 3) := by decide +kernel
theorem dX3_fix_39 : decode cX3_fix 39 = .ok (.aload_n 0, 1) := by decide +kernel
theorem dX3_fix_40 : decode cX3_fix 40 = .ok (.getfield 14, 3) := by decide +kernel
theorem dX3_fix_43 : decode cX3_fix 43 = .ok (.iload 5, 2) := by decide +kernel
theorem dX3_fix_45 : decode cX3_fix 45 = .ok (.aload_n 0, 1) := by decide +kernel
theorem dX3_fix_46 : decode cX3_fix 46 = .ok (.iload_n 2, 1) := by decide +kernel
theorem dX3_fix_47 : decode cX3_fix 47 = .ok (.iload 5, 2) := by decide +kernel
theorem dX3_fix_49 : decode cX3_fix 49 = .ok (.iload_n 3, 1) := by decide +kernel
theorem dX3_fix_50 : decode cX3_fix 50 = .ok (.iload 4, 2) := by decide +kernel
theorem dX3_fix_52 : decode cX3_fix 52 = .ok (.invokestatic 103, 3) := by decide +kernel
theorem dX3_fix_55 : decode cX3_fix 55 = .ok (.invokevirtual 81, 3) := by decide +kernel
theorem dX3_fix_58 : decode cX3_fix 58 = .ok (.bastore, 1) := by decide +kernel
theorem dX3_fix_59 : decode cX3_fix 59 = .ok (.iinc 5 1, 3) := by decide +kernel
theorem dX3_fix_62 : decode cX3_fix 62 = .ok (.goto (-32), 3) := by decide +kernel
theorem dX3_fix_65 : decode cX3_fix 65 = .ok (.aload_n 0, 1) := by decide +kernel
theorem dX3_fix_66 : decode cX3_fix 66 = .ok (.iload_n 1, 1) := by decide +kernel
theorem dX3_fix_67 : decode cX3_fix 67 = .ok (.invokevirtual 99, 3) := by decide +kernel
theorem dX3_fix_70 : decode cX3_fix 70 = .ok (.ireturn, 1) := by decide +kernel
theorem dX3_put_0 : decode cX3_put 0 = .ok (.aload_n 0, 1) := by decide +kernel
theorem dX3_put_1 : decode cX3_put 1 = .ok (.iload_n 1, 1) := by decide +kernel
theorem dX3_put_2 : decode cX3_put 2 = .ok (.invokevirtual 92, 3) := by decide +kernel
theorem dX3_put_5 : decode cX3_put 5 = .ok (.ifCond .eq 28, 3) := by decide +kernel
theorem dX3_put_8 : decode cX3_put 8 = .ok (.aload_n 0, 1) := by decide +kernel
theorem dX3_put_9 : decode cX3_put 9 = .ok (.iload_n 2, 1) := by decide +kernel
theorem dX3_put_10 : decode cX3_put 10 = .ok (.invokevirtual 92, 3) := by decide +kernel
theorem dX3_put_13 : decode cX3_put 13 = .ok (.ifCond .eq 20, 3) := by decide +kernel
theorem dX3_put_16 : decode cX3_put 16 = .ok (.aload_n 0, 1) := by decide +kernel
theorem dX3_put_17 : decode cX3_put 17 = .ok (.iload_n 3, 1) := by decide +kernel
theorem dX3_put_18 : decode cX3_put 18 = .ok (.invokevirtual 96, 3) := by decide +kernel
theorem dX3_put_21 : decode cX3_put 21 = .ok (.ifCond .eq 12, 3) := by decide +kernel
theorem dX3_put_24 : decode cX3_put 24 = .ok (.aload_n 0, 1) := by decide +kernel
theorem dX3_put_25 : decode cX3_put 25 = .ok (.iload 4, 2) := by decide +kernel
theorem dX3_put_27 : decode cX3_put 27 = .ok (.invokevirtual 92, 3) := by decide +kernel
theorem dX3_put_30 : decode cX3_put 30 = .ok (.ifCond .ne 6, 3) := by decide +kernel
theorem dX3_put_33 : decode cX3_put 33 = .ok (.bipush (-2), 2) := by decide +kernel
theorem dX3_put_35 : decode cX3_put 35 = .ok (.ireturn, 1) := by decide +kernel
theorem dX3_put_36 : decode cX3_put 36 = .ok (.iconst 0, 1) := by decide +kernel
theorem dX3_put_37 : decode cX3_put 37 = .ok (.istore 5, 2) := by decide +kernel
theorem dX3_put_39 : decode cX3_put 39 = .ok (.iload 5, 2) := by decide +kernel
theorem dX3_put_41 : decode cX3_put 41 = .ok (.aload_n 0, 1) := by decide +kernel
theorem dX3_put_42 : decode cX3_put 42 = .ok (.getfield 59, 3) := by decide +kernel
theorem dX3_put_45 : decode cX3_put 45 = .ok (.if_icmp .ge 35, 3) := by decide +kernel
theorem dX3_put_48 : decode cX3_put 48 = .ok (.aload_n 0, 1) := by decide +kernel
theorem dX3_put_49 : decode cX3_put 49 = .ok (.getfield 14, 3) := by decide +kernel
theorem dX3_put_52 : decode cX3_put 52 = .ok (.iload 5, 2) := by decide +kernel
theorem dX3_put_54 : decode cX3_put 54 = .ok (.aload_n 0, 1) := by decide +kernel
theorem dX3_put_55 : decode cX3_put 55 = .ok (.iload_n 2, 1) := by decide +kernel
theorem dX3_put_56 : decode cX3_put 56 = .ok (.iload 5, 2) := by decide +kernel
theorem dX3_put_58 : decode cX3_put 58 = .ok (.iload_n 3, 1) := by decide +kernel
theorem dX3_put_59 : decode cX3_put 59 = .ok (.aload_n 0, 1) := by decide +kernel
theorem dX3_put_60 : decode cX3_put 60 = .ok (.iload 4, 2) := by decide +kernel
theorem dX3_put_62 : decode cX3_put 62 = .ok (.iload 5, 2) := by decide +kernel
theorem dX3_put_64 : decode cX3_put 64 = .ok (.invokevirtual 81, 3) := by decide +kernel
theorem dX3_put_67 : decode cX3_put 67 = .ok (.invokestatic 103, 3) := by decide +kernel
theorem dX3_put_70 : decode cX3_put 70 = .ok (.invokevirtual 81, 3) := by decide +kernel
theorem dX3_put_73 : decode cX3_put 73 = .ok (.bastore, 1) := by decide +kernel
theorem dX3_put_74 : decode cX3_put 74 = .ok (.iinc 5 1, 3) := by decide +kernel
theorem dX3_put_77 : decode cX3_put 77 = .ok (.goto (-38), 3) := by decide +kernel
theorem dX3_put_80 : decode cX3_put 80 = .ok (.aload_n 0, 1) := by decide +kernel
theorem dX3_put_81 : decode cX3_put 81 = .ok (.iload_n 1, 1) := by decide +kernel
theorem dX3_put_82 : decode cX3_put 82 = .ok (.invokevirtual 99, 3) := by decide +kernel
theorem dX3_put_85 : decode cX3_put 85 = .ok (.ireturn, 1) := by decide +kernel
theorem dX3_sum_0 : decode cX3_sum 0 = .ok (.aload_n 0, 1) := by decide +kernel
theorem dX3_sum_1 : decode cX3_sum 1 = .ok (.iload_n 1, 1) := by decide +kernel
theorem dX3_sum_2 : decode cX3_sum 2 = .ok (.invokevirtual 92, 3) := by decide +kernel
theorem dX3_sum_5 : decode cX3_sum 5 = .ok (.ifCond .eq 23, 3) := by decide +kernel
theorem dX3_sum_8 : decode cX3_sum 8 = .ok (.aload_n 0, 1) := by decide +kernel
theorem dX3_sum_9 : decode cX3_sum 9 = .ok (.iload_n 2, 1) := by decide +kernel
theorem dX3_sum_10 : decode cX3_sum 10 = .ok (.invokevirtual 92, 3) := by decide +kernel
theorem dX3_sum_13 : decode cX3_sum 13 = .ok (.ifCond .eq 15, 3) := by decide +kernel
theorem dX3_sum_16 : decode cX3_sum 16 = .ok (.iload_n 3, 1) := by decide +kernel
theorem dX3_sum_17 : decode cX3_sum 17 = .ok (.ifCond .lt 11, 3) := by decide +kernel
theorem dX3_sum_20 : decode cX3_sum 20 = .ok (.iload_n 3, 1) := by decide +kernel
theorem dX3_sum_21 : decode cX3_sum 21 = .ok (.aload_n 0, 1) := by decide +kernel
theorem dX3_sum_22 : decode cX3_sum 22 = .ok (.getfield 59, 3) := by decide +kernel
theorem dX3_sum_25 : decode cX3_sum 25 = .ok (.if_icmp .lt 6, 3) := by decide +kernel
theorem dX3_sum_28 : decode cX3_sum 28 = .ok (.bipush (-2), 2) := by decide +kernel
theorem dX3_sum_30 : decode cX3_sum 30 = .ok (.ireturn, 1) := by decide +kernel
theorem dX3_sum_31 : decode cX3_sum 31 = .ok (.iconst 0, 1) := by decide +kernel
theorem dX3_sum_32 : decode cX3_sum 32 = .ok (.istore 5, 2) := by decide +kernel
theorem dX3_sum_34 : decode cX3_sum 34 = .ok (.iload 5, 2) := by decide +kernel
theorem dX3_sum_36 : decode cX3_sum 36 = .ok (.aload_n 0, 1) := by decide +kernel
theorem dX3_sum_37 : decode cX3_sum 37 = .ok (.getfield 59, 3) := by decide +kernel
theorem dX3_sum_40 : decode cX3_sum 40 = .ok (.if_icmp .ge 23, 3) := by decide +kernel
theorem dX3_sum_43 : decode cX3_sum 43 = .ok (.aload_n 0, 1) := by decide +kernel
theorem dX3_sum_44 : decode cX3_sum 44 = .ok (.getfield 14, 3) := by decide +kernel
theorem dX3_sum_47 : decode cX3_sum 47 = .ok (.iload 5, 2) := by decide +kernel
theorem dX3_sum_49 : decode cX3_sum 49 = .ok (.aload_n 0, 1) := by decide +kernel
theorem dX3_sum_50 : decode cX3_sum 50 = .ok (.iload_n 2, 1) := by decide +kernel
theorem dX3_sum_51 : decode cX3_sum 51 = .ok (.iload 5, 2) := by decide +kernel
theorem dX3_sum_53 : decode cX3_sum 53 = .ok (.invokevirtual 81, 3) := by decide +kernel
theorem dX3_sum_56 : decode cX3_sum 56 = .ok (.bastore, 1) := by decide +kernel
theorem dX3_sum_57 : decode cX3_sum 57 = .ok (.iinc 5 1, 3) := by decide +kernel
theorem dX3_sum_60 : decode cX3_sum 60 = .ok (.goto (-26), 3) := by decide +kernel
theorem dX3_sum_63 : decode cX3_sum 63 = .ok (.iconst 0, 1) := by decide +kernel
theorem dX3_sum_64 : decode cX3_sum 64 = .ok (.istore 5, 2) := by decide +kernel
theorem dX3_sum_66 : decode cX3_sum 66 = .ok (.iload 5, 2) := by decide +kernel
theorem dX3_sum_68 : decode cX3_sum 68 = .ok (.aload_n 0, 1) := by decide +kernel
theorem dX3_sum_69 : decode cX3_sum 69 = .ok (.getfield 55, 3) := by decide +kernel
theorem dX3_sum_72 : decode cX3_sum 72 = .ok (.if_icmp .ge 140, 3) := by decide +kernel
theorem dX3_sum_75 : decode cX3_sum 75 = .ok (.iload_n 3, 1) := by decide +kernel
theorem dX3_sum_76 : decode cX3_sum 76 = .ok (.iload 5, 2) := by decide +kernel
theorem dX3_sum_78 : decode cX3_sum 78 = .ok (.ishr, 1) := by decide +kernel
theorem dX3_sum_79 : decode cX3_sum 79 = .ok (.iconst 1, 1) := by decide +kernel
theorem dX3_sum_80 : decode cX3_sum 80 = .ok (.iand, 1) := by decide +kernel
theorem dX3_sum_81 : decode cX3_sum 81 = .ok (.ifCond .ne 6, 3) := by decide +kernel
theorem dX3_sum_84 : decode cX3_sum 84 = .ok (.goto 122, 3) := by decide +kernel
theorem dX3_sum_87 : decode cX3_sum 87 = .ok (.iconst 0, 1) := by decide +kernel
theorem dX3_sum_88 : decode cX3_sum 88 = .ok (.istore 6, 2) := by decide +kernel
theorem dX3_sum_90 : decode cX3_sum 90 = .ok (.iload 6, 2) := by decide +kernel
theorem dX3_sum_92 : decode cX3_sum 92 = .ok (.aload_n 0, 1) := by decide +kernel
theorem dX3_sum_93 : decode cX3_sum 93 = .ok (.getfield 59, 3) := by decide +kernel
theorem dX3_sum_96 : decode cX3_sum 96 = .ok (.if_icmp .ge 110, 3) := by decide +kernel
theorem dX3_sum_99 : decode cX3_sum 99 = .ok (.iload 6, 2) := by decide +kernel
theorem dX3_sum_101 : decode cX3_sum 101 = .ok (.iload 5, 2) := by decide +kernel
theorem dX3_sum_103 : decode cX3_sum 103 = .ok (.ishr, 1) := by decide +kernel
theorem dX3_sum_104 : decode cX3_sum 104 = .ok (.iconst 1, 1) := by decide +kernel
theorem dX3_sum_105 : decode cX3_sum 105 = .ok (.iand, 1) := by decide +kernel
theorem dX3_sum_106 : decode cX3_sum 106 = .ok (.iconst 1, 1) := by decide +kernel
theorem dX3_sum_107 : decode cX3_sum 107 = .ok (.if_icmp .ne 6, 3) := by decide +kernel
theorem dX3_sum_110 : decode cX3_sum 110 = .ok (.goto 90, 3) := by decide +kernel
theorem dX3_sum_113 : decode cX3_sum 113 = .ok (.iload 6, 2) := by decide +kernel
theorem dX3_sum_115 : decode cX3_sum 115 = .ok (.iconst 1, 1) := by decide +kernel
theorem dX3_sum_116 : decode cX3_sum 116 = .ok (.iload 5, 2) := by decide +kernel
theorem dX3_sum_118 : decode cX3_sum 118 = .ok (.ishl, 1) := by decide +kernel
theorem dX3_sum_119 : decode cX3_sum 119 = .ok (.ior, 1) := by decide +kernel
theorem dX3_sum_120 : decode cX3_sum 120 = .ok (.istore 7, 2) := by decide +kernel
theorem dX3_sum_122 : decode cX3_sum 122 = .ok (.iload 4, 2) := by decide +kernel
theorem dX3_sum_124 : decode cX3_sum 124 = .ok (.ifCond .eq 31, 3) := by decide +kernel
theorem dX3_sum_127 : decode cX3_sum 127 = .ok (.aload_n 0, 1) := by decide +kernel
theorem dX3_sum_128 : decode cX3_sum 128 = .ok (.getfield 14, 3) := by decide +kernel
theorem dX3_sum_131 : decode cX3_sum 131 = .ok (.iload 6, 2) := by decide +kernel
theorem dX3_sum_133 : decode cX3_sum 133 = .ok (.baload, 1) := by decide +kernel
theorem dX3_sum_134 : decode cX3_sum 134 = .ok (.ifCond .eq 17, 3) := by decide +kernel
theorem dX3_sum_137 : decode cX3_sum 137 = .ok (.aload_n 0, 1) := by decide +kernel
theorem dX3_sum_138 : decode cX3_sum 138 = .ok (.getfield 14, 3) := by decide +kernel
theorem dX3_sum_141 : decode cX3_sum 141 = .ok (.iload 7, 2) := by decide +kernel
theorem dX3_sum_143 : decode cX3_sum 143 = .ok (.baload, 1) := by decide +kernel
theorem dX3_sum_144 : decode cX3_sum 144 = .ok (.ifCond .eq 7, 3) := by decide +kernel
theorem dX3_sum_147 : decode cX3_sum 147 = .ok (.iconst 1, 1) := by decide +kernel
theorem dX3_sum_148 : decode cX3_sum 148 = .ok (.goto 32, 3) := by decide +kernel
theorem dX3_sum_151 : decode cX3_sum 151 = .ok (.iconst 0, 1) := by decide +kernel
theorem dX3_sum_152 : decode cX3_sum 152 = .ok (.goto 28, 3) := by decide +kernel
theorem dX3_sum_155 : decode cX3_sum 155 = .ok (.aload_n 0, 1) := by decide +kernel
theorem dX3_sum_156 : decode cX3_sum 156 = .ok (.getfield 14, 3) := by decide +kernel
theorem dX3_sum_159 : decode cX3_sum 159 = .ok (.iload 6, 2) := by decide +kernel
theorem dX3_sum_161 : decode cX3_sum 161 = .ok (.baload, 1) := by decide +kernel
theorem dX3_sum_162 : decode cX3_sum 162 = .ok (.ifCond .ne 13, 3) := by decide +kernel
theorem dX3_sum_165 : decode cX3_sum 165 = .ok (.aload_n 0, 1) := by decide +kernel
theorem dX3_sum_166 : decode cX3_sum 166 = .ok (.getfield 14, 3) := by decide +kernel
theorem dX3_sum_169 : decode cX3_sum 169 = .ok (.iload 7, 2) := by decide +kernel
theorem dX3_sum_171 : decode cX3_sum 171 = .ok (.baload, 1) := by decide +kernel
theorem dX3_sum_172 : decode cX3_sum 172 = .ok (.ifCond .eq 7, 3) := by decide +kernel
theorem dX3_sum_175 : decode cX3_sum 175 = .ok (.iconst 1, 1) := by decide +kernel
theorem dX3_sum_176 : decode cX3_sum 176 = .ok (.goto 4, 3) := by decide +kernel
theorem dX3_sum_179 : decode cX3_sum 179 = .ok (.iconst 0, 1) := by decide +kernel
theorem dX3_sum_180 : decode cX3_sum 180 = .ok (.istore 8, 2) := by decide +kernel
theorem dX3_sum_182 : decode cX3_sum 182 = .ok (.aload_n 0, 1) := by decide +kernel
theorem dX3_sum_183 : decode cX3_sum 183 = .ok (.getfield 14, 3) := by decide +kernel
theorem dX3_sum_186 : decode cX3_sum 186 = .ok (.iload 6, 2) := by decide +kernel
theorem dX3_sum_188 : decode cX3_sum 188 = .ok (.iload 8, 2) := by decide +kernel
theorem dX3_sum_190 : decode cX3_sum 190 = .ok (.bastore, 1) := by decide +kernel
theorem dX3_sum_191 : decode cX3_sum 191 = .ok (.aload_n 0, 1) := by decide +kernel
theorem dX3_sum_192 : decode cX3_sum 192 = .ok (.getfield 14, 3) := by decide +kernel
theorem dX3_sum_195 : decode cX3_sum 195 = .ok (.iload 7, 2) := by decide +kernel
theorem dX3_sum_197 : decode cX3_sum 197 = .ok (.iload 8, 2) := by decide +kernel
theorem dX3_sum_199 : decode cX3_sum 199 = .ok (.bastore, 1) := by decide +kernel
theorem dX3_sum_200 : decode cX3_sum 200 = .ok (.iinc 6 1, 3) := by decide +kernel
theorem dX3_sum_203 : decode cX3_sum 203 = .ok (.goto (-113), 3) := by decide +kernel
theorem dX3_sum_206 : decode cX3_sum 206 = .ok (.iinc 5 1, 3) := by decide +kernel
theorem dX3_sum_209 : decode cX3_sum 209 = .ok (.goto (-143), 3) := by decide +kernel
theorem dX3_sum_212 : decode cX3_sum 212 = .ok (.aload_n 0, 1) := by decide +kernel
theorem dX3_sum_213 : decode cX3_sum 213 = .ok (.iload_n 1, 1) := by decide +kernel
theorem dX3_sum_214 : decode cX3_sum 214 = .ok (.invokevirtual 99, 3) := by decide +kernel
theorem dX3_sum_217 : decode cX3_sum 217 = .ok (.ireturn, 1) := by decide +kernel
theorem dX3_trade_0 : decode cX3_trade 0 = .ok (.aload_n 0, 1) := by decide +kernel
theorem dX3_trade_1 : decode cX3_trade 1 = .ok (.iload_n 1, 1) := by decide +kernel
theorem dX3_trade_2 : decode cX3_trade 2 = .ok (.invokevirtual 92, 3) := by decide +kernel
theorem dX3_trade_5 : decode cX3_trade 5 = .ok (.ifCond .eq 28, 3) := by decide +kernel
theorem dX3_trade_8 : decode cX3_trade 8 = .ok (.aload_n 0, 1) := by decide +kernel
theorem dX3_trade_9 : decode cX3_trade 9 = .ok (.iload_n 2, 1) := by decide +kernel
theorem dX3_trade_10 : decode cX3_trade 10 = .ok (.invokevirtual 92, 3) := by decide +kernel
theorem dX3_trade_13 : decode cX3_trade 13 = .ok (.ifCond .eq 20, 3) := by decide +kernel
theorem dX3_trade_16 : decode cX3_trade 16 = .ok (.aload_n 0, 1) := by decide +kernel
theorem dX3_trade_17 : decode cX3_trade 17 = .ok (.iload_n 3, 1) := by decide +kernel
theorem dX3_trade_18 : decode cX3_trade 18 = .ok (.invokevirtual 96, 3) := by decide +kernel
theorem dX3_trade_21 : decode cX3_trade 21 = .ok (.ifCond .eq 12, 3) := by decide +kernel
theorem dX3_trade_24 : decode cX3_trade 24 = .ok (.aload_n 0, 1) := by decide +kernel
theorem dX3_trade_25 : decode cX3_trade 25 = .ok (.iload 4, 2) := by decide +kernel
theorem dX3_trade_27 : decode cX3_trade 27 = .ok (.invokevirtual 96, 3) := by decide +kernel
theorem dX3_trade_30 : decode cX3_trade 30 = .ok (.ifCond .ne 6, 3) := by decide +kernel
theorem dX3_trade_33 : decode cX3_trade 33 = .ok (.bipush (-2), 2) := by decide +kernel
theorem dX3_trade_35 : decode cX3_trade 35 = .ok (.ireturn, 1) := by decide +kernel
theorem dX3_trade_36 : decode cX3_trade 36 = .ok (.iconst 0, 1) := by decide +kernel
theorem dX3_trade_37 : decode cX3_trade 37 = .ok (.istore 5, 2) := by decide +kernel
theorem dX3_trade_39 : decode cX3_trade 39 = .ok (.iload 5, 2) := by decide +kernel
theorem dX3_trade_41 : decode cX3_trade 41 = .ok (.aload_n 0, 1) := by decide +kernel
theorem dX3_trade_42 : decode cX3_trade 42 = .ok (.getfield 59, 3) := by decide +kernel
theorem dX3_trade_45 : decode cX3_trade 45 = .ok (.if_icmp .ge 63, 3) := by decide +kernel
theorem dX3_trade_48 : decode cX3_trade 48 = .ok (.aload_n 0, 1) := by decide +kernel
theorem dX3_trade_49 : decode cX3_trade 49 = .ok (.getfield 14, 3) := by decide +kernel
theorem dX3_trade_52 : decode cX3_trade 52 = .ok (.iload 5, 2) := by decide +kernel
theorem dX3_trade_54 : decode cX3_trade 54 = .ok (.aload_n 0, 1) := by decide +kernel
theorem dX3_trade_55 : decode cX3_trade 55 = .ok (.iload_n 2, 1) := by decide +kernel
theorem dX3_trade_56 : decode cX3_trade 56 = .ok (.iload 5, 2) := by decide +kernel
theorem dX3_trade_58 : decode cX3_trade 58 = .ok (.iload_n 3, 1) := by decide +kernel
theorem dX3_trade_59 : decode cX3_trade 59 = .ok (.iload 5, 2) := by decide +kernel
theorem dX3_trade_61 : decode cX3_trade 61 = .ok (.iload 4, 2) := by decide +kernel
theorem dX3_trade_63 : decode cX3_trade 63 = .ok (.ishr, 1) := by decide +kernel
theorem dX3_trade_64 : decode cX3_trade 64 = .ok (.iconst 1, 1) := by decide +kernel
theorem dX3_trade_65 : decode cX3_trade 65 = .ok (.iand, 1) := by decide +kernel
theorem dX3_trade_66 : decode cX3_trade 66 = .ok (.iconst 1, 1) := by decide +kernel
theorem dX3_trade_67 : decode cX3_trade 67 = .ok (.if_icmp .ne 7, 3) := by decide +kernel
theorem dX3_trade_70 : decode cX3_trade 70 = .ok (.iconst 1, 1) := by decide +kernel
theorem dX3_trade_71 : decode cX3_trade 71 = .ok (.goto 4, 3) := by decide +kernel
theorem dX3_trade_74 : decode cX3_trade 74 = .ok (.iconst 0, 1) := by decide +kernel
theorem dX3_trade_75 : decode cX3_trade 75 = .ok (.invokestatic 103, 3) := by decide +kernel
theorem dX3_trade_78 : decode cX3_trade 78 = .ok (.iload 4, 2) := by decide +kernel
theorem dX3_trade_80 : decode cX3_trade 80 = .ok (.iload 5, 2) := by decide +kernel
theorem dX3_trade_82 : decode cX3_trade 82 = .ok (.iload_n 3, 1) := by decide +kernel
theorem dX3_trade_83 : decode cX3_trade 83 = .ok (.ishr, 1) := by decide +kernel
theorem dX3_trade_84 : decode cX3_trade 84 = .ok (.iconst 1, 1) := by decide +kernel
theorem dX3_trade_85 : decode cX3_trade 85 = .ok (.iand, 1) := by decide +kernel
theorem dX3_trade_86 : decode cX3_trade 86 = .ok (.iconst 1, 1) := by decide +kernel
theorem dX3_trade_87 : decode cX3_trade 87 = .ok (.if_icmp .ne 7, 3) := by decide +kernel
theorem dX3_trade_90 : decode cX3_trade 90 = .ok (.iconst 1, 1) := by decide +kernel
theorem dX3_trade_91 : decode cX3_trade 91 = .ok (.goto 4, 3) := by decide +kernel
theorem dX3_trade_94 : decode cX3_trade 94 = .ok (.iconst 0, 1) := by decide +kernel
theorem dX3_trade_95 : decode cX3_trade 95 = .ok (.invokestatic 103, 3) := by decide +kernel
theorem dX3_trade_98 : decode cX3_trade 98 = .ok (.invokevirtual 81, 3) := by decide +kernel
theorem dX3_trade_101 : decode cX3_trade 101 = .ok (.bastore, 1) := by decide +kernel
theorem dX3_trade_102 : decode cX3_trade 102 = .ok (.iinc 5 1, 3) := by decide +kernel
theorem dX3_trade_105 : decode cX3_trade 105 = .ok (.goto (-66), 3) := by decide +kernel
theorem dX3_trade_108 : decode cX3_trade 108 = .ok (.aload_n 0, 1) := by decide +kernel
theorem dX3_trade_109 : decode cX3_trade 109 = .ok (.iload_n 1, 1) := by decide +kernel
theorem dX3_trade_110 : decode cX3_trade 110 = .ok (.invokevirtual 99, 3) := by decide +kernel
theorem dX3_trade_113 : decode cX3_trade 113 = .ok (.ireturn, 1) := by decide +kernel
theorem dX3_manyOf_0 : decode cX3_manyOf 0 = .ok (.iconst 0, 1) := by decide +kernel
theorem dX3_manyOf_1 : decode cX3_manyOf 1 = .ok (.istore_n 2, 1) := by decide +kernel
theorem dX3_manyOf_2 : decode cX3_manyOf 2 = .ok (.iconst 0, 1) := by decide +kernel
theorem dX3_manyOf_3 : decode cX3_manyOf 3 = .ok (.istore_n 3, 1) := by decide +kernel
theorem dX3_manyOf_4 : decode cX3_manyOf 4 = .ok (.iload_n 3, 1) := by decide +kernel
theorem dX3_manyOf_5 : decode cX3_manyOf 5 = .ok (.aload_n 0, 1) := by decide +kernel
theorem dX3_manyOf_6 : decode cX3_manyOf 6 = .ok (.getfield 59, 3) := by decide +kernel
theorem dX3_manyOf_9 : decode cX3_manyOf 9 = .ok (.if_icmp .ge 26, 3) := by decide +kernel
theorem dX3_manyOf_12 : decode cX3_manyOf 12 = .ok (.iload_n 2, 1) := by decide +kernel
theorem dX3_manyOf_13 : decode cX3_manyOf 13 = .ok (.aload_n 0, 1) := by decide +kernel
theorem dX3_manyOf_14 : decode cX3_manyOf 14 = .ok (.iload_n 1, 1) := by decide +kernel
theorem dX3_manyOf_15 : decode cX3_manyOf 15 = .ok (.iload_n 3, 1) := by decide +kernel
theorem dX3_manyOf_16 : decode cX3_manyOf 16 = .ok (.invokevirtual 81, 3) := by decide +kernel
theorem dX3_manyOf_19 : decode cX3_manyOf 19 = .ok (.ifCond .eq 7, 3) := by decide +kernel
theorem dX3_manyOf_22 : decode cX3_manyOf 22 = .ok (.iconst 1, 1) := by decide +kernel
theorem dX3_manyOf_23 : decode cX3_manyOf 23 = .ok (.goto 4, 3) := by decide +kernel
theorem dX3_manyOf_26 : decode cX3_manyOf 26 = .ok (.iconst 0, 1) := by decide +kernel
theorem dX3_manyOf_27 : decode cX3_manyOf 27 = .ok (.iadd, 1) := by decide +kernel
theorem dX3_manyOf_28 : decode cX3_manyOf 28 = .ok (.istore_n 2, 1) := by decide +kernel
theorem dX3_manyOf_29 : decode cX3_manyOf 29 = .ok (.iinc 3 1, 3) := by decide +kernel
theorem dX3_manyOf_32 : decode cX3_manyOf 32 = .ok (.goto (-28), 3) := by decide +kernel
theorem dX3_manyOf_35 : decode cX3_manyOf 35 = .ok (.iload_n 2, 1) := by decide +kernel
theorem dX3_manyOf_36 : decode cX3_manyOf 36 = .ok (.ireturn, 1) := by decide +kernel
theorem dX3_isSome_0 : decode cX3_isSome 0 = .ok (.aload_n 0, 1) := by decide +kernel
theorem dX3_isSome_1 : decode cX3_isSome 1 = .ok (.getfield 59, 3) := by decide +kernel
theorem dX3_isSome_4 : decode cX3_isSome 4 = .ok (.iconst 1, 1) := by decide +kernel
theorem dX3_isSome_5 : decode cX3_isSome 5 = .ok (.isub, 1) := by decide +kernel
theorem dX3_isSome_6 : decode cX3_isSome 6 = .ok (.iload_n 2, 1) := by decide +kernel
theorem dX3_isSome_7 : decode cX3_isSome 7 = .ok (.iconst (-1), 1) := by decide +kernel
theorem dX3_isSome_8 : decode cX3_isSome 8 = .ok (.ixor, 1) := by decide +kernel
theorem dX3_isSome_9 : decode cX3_isSome 9 = .ok (.iand, 1) := by decide +kernel
theorem dX3_isSome_10 : decode cX3_isSome 10 = .ok (.istore 4, 2) := by decide +kernel
theorem dX3_isSome_12 : decode cX3_isSome 12 = .ok (.iconst 0, 1) := by decide +kernel
theorem dX3_isSome_13 : decode cX3_isSome 13 = .ok (.istore 5, 2) := by decide +kernel
theorem dX3_isSome_15 : decode cX3_isSome 15 = .ok (.aload_n 0, 1) := by decide +kernel
theorem dX3_isSome_16 : decode cX3_isSome 16 = .ok (.iload_n 1, 1) := by decide +kernel
theorem dX3_isSome_17 : decode cX3_isSome 17 = .ok (.iload_n 3, 1) := by decide +kernel
theorem dX3_isSome_18 : decode cX3_isSome 18 = .ok (.iload 5, 2) := by decide +kernel
theorem dX3_isSome_20 : decode cX3_isSome 20 = .ok (.ior, 1) := by decide +kernel
theorem dX3_isSome_21 : decode cX3_isSome 21 = .ok (.invokevirtual 81, 3) := by decide +kernel
theorem dX3_isSome_24 : decode cX3_isSome 24 = .ok (.ifCond .eq 5, 3) := by decide +kernel
theorem dX3_isSome_27 : decode cX3_isSome 27 = .ok (.iconst 1, 1) := by decide +kernel
theorem dX3_isSome_28 : decode cX3_isSome 28 = .ok (.ireturn, 1) := by decide +kernel
theorem dX3_isSome_29 : decode cX3_isSome 29 = .ok (.iload 5, 2) := by decide +kernel
theorem dX3_isSome_31 : decode cX3_isSome 31 = .ok (.iload 4, 2) := by decide +kernel
theorem dX3_isSome_33 : decode cX3_isSome 33 = .ok (.if_icmp .ne 5, 3) := by decide +kernel
theorem dX3_isSome_36 : decode cX3_isSome 36 = .ok (.iconst 0, 1) := by decide +kernel
theorem dX3_isSome_37 : decode cX3_isSome 37 = .ok (.ireturn, 1) := by decide +kernel
theorem dX3_isSome_38 : decode cX3_isSome 38 = .ok (.iload 5, 2) := by decide +kernel
theorem dX3_isSome_40 : decode cX3_isSome 40 = .ok (.iload 4, 2) := by decide +kernel
theorem dX3_isSome_42 : decode cX3_isSome 42 = .ok (.isub, 1) := by decide +kernel
theorem dX3_isSome_43 : decode cX3_isSome 43 = .ok (.iload 4, 2) := by decide +kernel
theorem dX3_isSome_45 : decode cX3_isSome 45 = .ok (.iand, 1) := by decide +kernel
theorem dX3_isSome_46 : decode cX3_isSome 46 = .ok (.istore 5, 2) := by decide +kernel
theorem dX3_isSome_48 : decode cX3_isSome 48 = .ok (.goto (-33), 3) := by decide +kernel
theorem dX3_nearest_0 : decode cX3_nearest 0 = .ok (.iconst 0, 1) := by decide +kernel
theorem dX3_nearest_1 : decode cX3_nearest 1 = .ok (.istore_n 3, 1) := by decide +kernel
theorem dX3_nearest_2 : decode cX3_nearest 2 = .ok (.iconst 0, 1) := by decide +kernel
theorem dX3_nearest_3 : decode cX3_nearest 3 = .ok (.istore 4, 2) := by decide +kernel
theorem dX3_nearest_5 : decode cX3_nearest 5 = .ok (.iconst 0, 1) := by decide +kernel
theorem dX3_nearest_6 : decode cX3_nearest 6 = .ok (.istore 5, 2) := by decide +kernel
theorem dX3_nearest_8 : decode cX3_nearest 8 = .ok (.iload 5, 2) := by decide +kernel
theorem dX3_nearest_10 : decode cX3_nearest 10 = .ok (.aload_n 0, 1) := by decide +kernel
theorem dX3_nearest_11 : decode cX3_nearest 11 = .ok (.getfield 55, 3) := by decide +kernel
theorem dX3_nearest_14 : decode cX3_nearest 14 = .ok (.if_icmp .ge 66, 3) := by decide +kernel
theorem dX3_nearest_17 : decode cX3_nearest 17 = .ok (.iconst 1, 1) := by decide +kernel
theorem dX3_nearest_18 : decode cX3_nearest 18 = .ok (.aload_n 0, 1) := by decide +kernel
theorem dX3_nearest_19 : decode cX3_nearest 19 = .ok (.getfield 24, 3) := by decide +kernel
theorem dX3_nearest_22 : decode cX3_nearest 22 = .ok (.iload 5, 2) := by decide +kernel
theorem dX3_nearest_24 : decode cX3_nearest 24 = .ok (.iaload, 1) := by decide +kernel
theorem dX3_nearest_25 : decode cX3_nearest 25 = .ok (.ishl, 1) := by decide +kernel
theorem dX3_nearest_26 : decode cX3_nearest 26 = .ok (.istore 6, 2) := by decide +kernel
theorem dX3_nearest_28 : decode cX3_nearest 28 = .ok (.aload_n 0, 1) := by decide +kernel
theorem dX3_nearest_29 : decode cX3_nearest 29 = .ok (.iload_n 1, 1) := by decide +kernel
theorem dX3_nearest_30 : decode cX3_nearest 30 = .ok (.iload_n 3, 1) := by decide +kernel
theorem dX3_nearest_31 : decode cX3_nearest 31 = .ok (.iload 6, 2) := by decide +kernel
theorem dX3_nearest_33 : decode cX3_nearest 33 = .ok (.ior, 1) := by decide +kernel
theorem dX3_nearest_34 : decode cX3_nearest 34 = .ok (.iload 4, 2) := by decide +kernel
theorem dX3_nearest_36 : decode cX3_nearest 36 = .ok (.iload_n 2, 1) := by decide +kernel
theorem dX3_nearest_37 : decode cX3_nearest 37 = .ok (.iload 6, 2) := by decide +kernel
theorem dX3_nearest_39 : decode cX3_nearest 39 = .ok (.iand, 1) := by decide +kernel
theorem dX3_nearest_40 : decode cX3_nearest 40 = .ok (.ior, 1) := by decide +kernel
theorem dX3_nearest_41 : decode cX3_nearest 41 = .ok (.invokevirtual 107, 3) := by decide +kernel
theorem dX3_nearest_44 : decode cX3_nearest 44 = .ok (.istore 7, 2) := by decide +kernel
theorem dX3_nearest_46 : decode cX3_nearest 46 = .ok (.iload 4, 2) := by decide +kernel
theorem dX3_nearest_48 : decode cX3_nearest 48 = .ok (.iload 7, 2) := by decide +kernel
theorem dX3_nearest_50 : decode cX3_nearest 50 = .ok (.ifCond .eq 10, 3) := by decide +kernel
theorem dX3_nearest_53 : decode cX3_nearest 53 = .ok (.iload_n 2, 1) := by decide +kernel
theorem dX3_nearest_54 : decode cX3_nearest 54 = .ok (.iload 6, 2) := by decide +kernel
theorem dX3_nearest_56 : decode cX3_nearest 56 = .ok (.iand, 1) := by decide +kernel
theorem dX3_nearest_57 : decode cX3_nearest 57 = .ok (.goto 9, 3) := by decide +kernel
theorem dX3_nearest_60 : decode cX3_nearest 60 = .ok (.iload_n 2, 1) := by decide +kernel
theorem dX3_nearest_61 : decode cX3_nearest 61 = .ok (.iconst (-1), 1) := by decide +kernel
theorem dX3_nearest_62 : decode cX3_nearest 62 = .ok (.ixor, 1) := by decide +kernel
theorem dX3_nearest_63 : decode cX3_nearest 63 = .ok (.iload 6, 2) := by decide +kernel
theorem dX3_nearest_65 : decode cX3_nearest 65 = .ok (.iand, 1) := by decide +kernel
theorem dX3_nearest_66 : decode cX3_nearest 66 = .ok (.ior, 1) := by decide +kernel
theorem dX3_nearest_67 : decode cX3_nearest 67 = .ok (.istore 4, 2) := by decide +kernel
theorem dX3_nearest_69 : decode cX3_nearest 69 = .ok (.iload_n 3, 1) := by decide +kernel
theorem dX3_nearest_70 : decode cX3_nearest 70 = .ok (.iload 6, 2) := by decide +kernel
theorem dX3_nearest_72 : decode cX3_nearest 72 = .ok (.ior, 1) := by decide +kernel
theorem dX3_nearest_73 : decode cX3_nearest 73 = .ok (.istore_n 3, 1) := by decide +kernel
theorem dX3_nearest_74 : decode cX3_nearest 74 = .ok (.iinc 5 1, 3) := by decide +kernel
theorem dX3_nearest_77 : decode cX3_nearest 77 = .ok (.goto (-69), 3) := by decide +kernel
theorem dX3_nearest_80 : decode cX3_nearest 80 = .ok (.iload 4, 2) := by decide +kernel
theorem dX3_nearest_82 : decode cX3_nearest 82 = .ok (.ireturn, 1) := by decide +kernel
theorem dX3_near_0 : decode cX3_near 0 = .ok (.aload_n 0, 1) := by decide +kernel
theorem dX3_near_1 : decode cX3_near 1 = .ok (.iload_n 1, 1) := by decide +kernel
theorem dX3_near_2 : decode cX3_near 2 = .ok (.invokevirtual 92, 3) := by decide +kernel
theorem dX3_near_5 : decode cX3_near 5 = .ok (.ifCond .eq 19, 3) := by decide +kernel
theorem dX3_near_8 : decode cX3_near 8 = .ok (.aload_n 0, 1) := by decide +kernel
theorem dX3_near_9 : decode cX3_near 9 = .ok (.iload_n 2, 1) := by decide +kernel
theorem dX3_near_10 : decode cX3_near 10 = .ok (.invokevirtual 92, 3) := by decide +kernel
theorem dX3_near_13 : decode cX3_near 13 = .ok (.ifCond .eq 11, 3) := by decide +kernel
theorem dX3_near_16 : decode cX3_near 16 = .ok (.aload_n 0, 1) := by decide +kernel
theorem dX3_near_17 : decode cX3_near 17 = .ok (.iload_n 3, 1) := by decide +kernel
theorem dX3_near_18 : decode cX3_near 18 = .ok (.invokevirtual 92, 3) := by decide +kernel
theorem dX3_near_21 : decode cX3_near 21 = .ok (.ifCond .ne 6, 3) := by decide +kernel
theorem dX3_near_24 : decode cX3_near 24 = .ok (.bipush (-2), 2) := by decide +kernel
theorem dX3_near_26 : decode cX3_near 26 = .ok (.ireturn, 1) := by decide +kernel
theorem dX3_near_27 : decode cX3_near 27 = .ok (.aload_n 0, 1) := by decide +kernel
theorem dX3_near_28 : decode cX3_near 28 = .ok (.iload_n 3, 1) := by decide +kernel
theorem dX3_near_29 : decode cX3_near 29 = .ok (.invokevirtual 111, 3) := by decide +kernel
theorem dX3_near_32 : decode cX3_near 32 = .ok (.ifCond .ne 6, 3) := by decide +kernel
theorem dX3_near_35 : decode cX3_near 35 = .ok (.bipush (-3), 2) := by decide +kernel
theorem dX3_near_37 : decode cX3_near 37 = .ok (.ireturn, 1) := by decide +kernel
theorem dX3_near_38 : decode cX3_near 38 = .ok (.iconst 0, 1) := by decide +kernel
theorem dX3_near_39 : decode cX3_near 39 = .ok (.istore 4, 2) := by decide +kernel
theorem dX3_near_41 : decode cX3_near 41 = .ok (.iload 4, 2) := by decide +kernel
theorem dX3_near_43 : decode cX3_near 43 = .ok (.aload_n 0, 1) := by decide +kernel
theorem dX3_near_44 : decode cX3_near 44 = .ok (.getfield 59, 3) := by decide +kernel
theorem dX3_near_47 : decode cX3_near 47 = .ok (.if_icmp .ge 28, 3) := by decide +kernel
theorem dX3_near_50 : decode cX3_near 50 = .ok (.aload_n 0, 1) := by decide +kernel
theorem dX3_near_51 : decode cX3_near 51 = .ok (.getfield 14, 3) := by decide +kernel
theorem dX3_near_54 : decode cX3_near 54 = .ok (.iload 4, 2) := by decide +kernel
theorem dX3_near_56 : decode cX3_near 56 = .ok (.aload_n 0, 1) := by decide +kernel
theorem dX3_near_57 : decode cX3_near 57 = .ok (.iload_n 2, 1) := by decide +kernel
theorem dX3_near_58 : decode cX3_near 58 = .ok (.aload_n 0, 1) := by decide +kernel
theorem dX3_near_59 : decode cX3_near 59 = .ok (.iload_n 3, 1) := by decide +kernel
theorem dX3_near_60 : decode cX3_near 60 = .ok (.iload 4, 2) := by decide +kernel
theorem dX3_near_62 : decode cX3_near 62 = .ok (.invokevirtual 114, 3) := by decide +kernel
theorem dX3_near_65 : decode cX3_near 65 = .ok (.invokevirtual 81, 3) := by decide +kernel
theorem dX3_near_68 : decode cX3_near 68 = .ok (.bastore, 1) := by decide +kernel
theorem dX3_near_69 : decode cX3_near 69 = .ok (.iinc 4 1, 3) := by decide +kernel
theorem dX3_near_72 : decode cX3_near 72 = .ok (.goto (-31), 3) := by decide +kernel
theorem dX3_near_75 : decode cX3_near 75 = .ok (.aload_n 0, 1) := by decide +kernel
theorem dX3_near_76 : decode cX3_near 76 = .ok (.iload_n 1, 1) := by decide +kernel
theorem dX3_near_77 : decode cX3_near 77 = .ok (.invokevirtual 99, 3) := by decide +kernel
theorem dX3_near_80 : decode cX3_near 80 = .ok (.ireturn, 1) := by decide +kernel
theorem dX3_copy_0 : decode cX3_copy 0 = .ok (.aload_n 0, 1) := by decide +kernel
theorem dX3_copy_1 : decode cX3_copy 1 = .ok (.iload_n 1, 1) := by decide +kernel
theorem dX3_copy_2 : decode cX3_copy 2 = .ok (.invokevirtual 92, 3) := by decide +kernel
theorem dX3_copy_5 : decode cX3_copy 5 = .ok (.ifCond .eq 11, 3) := by decide +kernel
theorem dX3_copy_8 : decode cX3_copy 8 = .ok (.aload_n 0, 1) := by decide +kernel
theorem dX3_copy_9 : decode cX3_copy 9 = .ok (.iload_n 2, 1) := by decide +kernel
theorem dX3_copy_10 : decode cX3_copy 10 = .ok (.invokevirtual 92, 3) := by decide +kernel
theorem dX3_copy_13 : decode cX3_copy 13 = .ok (.ifCond .ne 6, 3) := by decide +kernel
theorem dX3_copy_16 : decode cX3_copy 16 = .ok (.bipush (-2), 2) := by decide +kernel
theorem dX3_copy_18 : decode cX3_copy 18 = .ok (.ireturn, 1) := by decide +kernel
theorem dX3_copy_19 : decode cX3_copy 19 = .ok (.iconst 0, 1) := by decide +kernel
theorem dX3_copy_20 : decode cX3_copy 20 = .ok (.istore_n 3, 1) := by decide +kernel
theorem dX3_copy_21 : decode cX3_copy 21 = .ok (.iload_n 3, 1) := by decide +kernel
theorem dX3_copy_22 : decode cX3_copy 22 = .ok (.aload_n 0, 1) := by decide +kernel
theorem dX3_copy_23 : decode cX3_copy 23 = .ok (.getfield 59, 3) := by decide +kernel
theorem dX3_copy_26 : decode cX3_copy 26 = .ok (.if_icmp .ge 27, 3) := by decide +kernel
theorem dX3_copy_29 : decode cX3_copy 29 = .ok (.aload_n 0, 1) := by decide +kernel
theorem dX3_copy_30 : decode cX3_copy 30 = .ok (.getfield 10, 3) := by decide +kernel
theorem dX3_copy_33 : decode cX3_copy 33 = .ok (.sipush 4096, 3) := by decide +kernel
theorem dX3_copy_36 : decode cX3_copy 36 = .ok (.iload_n 1, 1) := by decide +kernel
theorem dX3_copy_37 : decode cX3_copy 37 = .ok (.imul, 1) := by decide +kernel
theorem dX3_copy_38 : decode cX3_copy 38 = .ok (.iload_n 3, 1) := by decide +kernel
theorem dX3_copy_39 : decode cX3_copy 39 = .ok (.iadd, 1) := by decide +kernel
theorem dX3_copy_40 : decode cX3_copy 40 = .ok (.aload_n 0, 1) := by decide +kernel
theorem dX3_copy_41 : decode cX3_copy 41 = .ok (.iload_n 2, 1) := by decide +kernel
theorem dX3_copy_42 : decode cX3_copy 42 = .ok (.iload_n 3, 1) := by decide +kernel
theorem dX3_copy_43 : decode cX3_copy 43 = .ok (.invokevirtual 81, 3) := by decide +kernel
theorem dX3_copy_46 : decode cX3_copy 46 = .ok (.bastore, 1) := by decide +kernel
theorem dX3_copy_47 : decode cX3_copy 47 = .ok (.iinc 3 1, 3) := by decide +kernel
theorem dX3_copy_50 : decode cX3_copy 50 = .ok (.goto (-29), 3) := by decide +kernel
theorem dX3_copy_53 : decode cX3_copy 53 = .ok (.aload_n 0, 1) := by decide +kernel
theorem dX3_copy_54 : decode cX3_copy 54 = .ok (.invokevirtual 65, 3) := by decide +kernel
theorem dX3_copy_57 : decode cX3_copy 57 = .ok (.ireturn, 1) := by decide +kernel
theorem dX3_swap_0 : decode cX3_swap 0 = .ok (.iload_n 1, 1) := by decide +kernel
theorem dX3_swap_1 : decode cX3_swap 1 = .ok (.ifCond .lt 13, 3) := by decide +kernel
theorem dX3_swap_4 : decode cX3_swap 4 = .ok (.iload_n 1, 1) := by decide +kernel
theorem dX3_swap_5 : decode cX3_swap 5 = .ok (.aload_n 0, 1) := by decide +kernel
theorem dX3_swap_6 : decode cX3_swap 6 = .ok (.getfield 55, 3) := by decide +kernel
theorem dX3_swap_9 : decode cX3_swap 9 = .ok (.iconst 1, 1) := by decide +kernel
theorem dX3_swap_10 : decode cX3_swap 10 = .ok (.isub, 1) := by decide +kernel
theorem dX3_swap_11 : decode cX3_swap 11 = .ok (.if_icmp .lt 6, 3) := by decide +kernel
theorem dX3_swap_14 : decode cX3_swap 14 = .ok (.bipush (-2), 2) := by decide +kernel
theorem dX3_swap_16 : decode cX3_swap 16 = .ok (.ireturn, 1) := by decide +kernel
theorem dX3_swap_17 : decode cX3_swap 17 = .ok (.iconst 0, 1) := by decide +kernel
theorem dX3_swap_18 : decode cX3_swap 18 = .ok (.istore_n 2, 1) := by decide +kernel
theorem dX3_swap_19 : decode cX3_swap 19 = .ok (.iload_n 2, 1) := by decide +kernel
theorem dX3_swap_20 : decode cX3_swap 20 = .ok (.aload_n 0, 1) := by decide +kernel
theorem dX3_swap_21 : decode cX3_swap 21 = .ok (.getfield 55, 3) := by decide +kernel
theorem dX3_swap_24 : decode cX3_swap 24 = .ok (.if_icmp .ge 43, 3) := by decide +kernel
theorem dX3_swap_27 : decode cX3_swap 27 = .ok (.aload_n 0, 1) := by decide +kernel
theorem dX3_swap_28 : decode cX3_swap 28 = .ok (.getfield 27, 3) := by decide +kernel
theorem dX3_swap_31 : decode cX3_swap 31 = .ok (.iload_n 2, 1) := by decide +kernel
theorem dX3_swap_32 : decode cX3_swap 32 = .ok (.aload_n 0, 1) := by decide +kernel
theorem dX3_swap_33 : decode cX3_swap 33 = .ok (.getfield 24, 3) := by decide +kernel
theorem dX3_swap_36 : decode cX3_swap 36 = .ok (.iload_n 2, 1) := by decide +kernel
theorem dX3_swap_37 : decode cX3_swap 37 = .ok (.iload_n 1, 1) := by decide +kernel
theorem dX3_swap_38 : decode cX3_swap 38 = .ok (.if_icmp .ne 9, 3) := by decide +kernel
theorem dX3_swap_41 : decode cX3_swap 41 = .ok (.iload_n 1, 1) := by decide +kernel
theorem dX3_swap_42 : decode cX3_swap 42 = .ok (.iconst 1, 1) := by decide +kernel
theorem dX3_swap_43 : decode cX3_swap 43 = .ok (.iadd, 1) := by decide +kernel
theorem dX3_swap_44 : decode cX3_swap 44 = .ok (.goto 15, 3) := by decide +kernel
theorem dX3_swap_47 : decode cX3_swap 47 = .ok (.iload_n 2, 1) := by decide +kernel
theorem dX3_swap_48 : decode cX3_swap 48 = .ok (.iload_n 1, 1) := by decide +kernel
theorem dX3_swap_49 : decode cX3_swap 49 = .ok (.iconst 1, 1) := by decide +kernel
theorem dX3_swap_50 : decode cX3_swap 50 = .ok (.iadd, 1) := by decide +kernel
theorem dX3_swap_51 : decode cX3_swap 51 = .ok (.if_icmp .ne 7, 3) := by decide +kernel
theorem dX3_swap_54 : decode cX3_swap 54 = .ok (.iload_n 1, 1) := by decide +kernel
theorem dX3_swap_55 : decode cX3_swap 55 = .ok (.goto 4, 3) := by decide +kernel
theorem dX3_swap_58 : decode cX3_swap 58 = .ok (.iload_n 2, 1) := by decide +kernel
theorem dX3_swap_59 : decode cX3_swap 59 = .ok (.iaload, 1) := by decide +kernel
theorem dX3_swap_60 : decode cX3_swap 60 = .ok (.iastore, 1) := by decide +kernel
theorem dX3_swap_61 : decode cX3_swap 61 = .ok (.iinc 2 1, 3) := by decide +kernel
theorem dX3_swap_64 : decode cX3_swap 64 = .ok (.goto (-45), 3) := by decide +kernel
theorem dX3_swap_67 : decode cX3_swap 67 = .ok (.aload_n 0, 1) := by decide +kernel
theorem dX3_swap_68 : decode cX3_swap 68 = .ok (.iconst 0, 1) := by decide +kernel
theorem dX3_swap_69 : decode cX3_swap 69 = .ok (.bipush 32, 2) := by decide +kernel
theorem dX3_swap_71 : decode cX3_swap 71 = .ok (.iconst (-1), 1) := by decide +kernel
theorem dX3_swap_72 : decode cX3_swap 72 = .ok (.aload_n 0, 1) := by decide +kernel
theorem dX3_swap_73 : decode cX3_swap 73 = .ok (.getfield 27, 3) := by decide +kernel
theorem dX3_swap_76 : decode cX3_swap 76 = .ok (.invokevirtual 88, 3) := by decide +kernel
theorem dX3_swap_79 : decode cX3_swap 79 = .ok (.aload_n 0, 1) := by decide +kernel
theorem dX3_swap_80 : decode cX3_swap 80 = .ok (.getfield 62, 3) := by decide +kernel
theorem dX3_swap_83 : decode cX3_swap 83 = .ok (.if_icmp .le 6, 3) := by decide +kernel
theorem dX3_swap_86 : decode cX3_swap 86 = .ok (.bipush (-8), 2) := by decide +kernel
theorem dX3_swap_88 : decode cX3_swap 88 = .ok (.ireturn, 1) := by decide +kernel
theorem dX3_swap_89 : decode cX3_swap 89 = .ok (.iconst 0, 1) := by decide +kernel
theorem dX3_swap_90 : decode cX3_swap 90 = .ok (.istore_n 2, 1) := by decide +kernel
theorem dX3_swap_91 : decode cX3_swap 91 = .ok (.iload_n 2, 1) := by decide +kernel
theorem dX3_swap_92 : decode cX3_swap 92 = .ok (.aload_n 0, 1) := by decide +kernel
theorem dX3_swap_93 : decode cX3_swap 93 = .ok (.getfield 55, 3) := by decide +kernel
theorem dX3_swap_96 : decode cX3_swap 96 = .ok (.if_icmp .ge 21, 3) := by decide +kernel
theorem dX3_swap_99 : decode cX3_swap 99 = .ok (.aload_n 0, 1) := by decide +kernel
theorem dX3_swap_100 : decode cX3_swap 100 = .ok (.getfield 24, 3) := by decide +kernel
theorem dX3_swap_103 : decode cX3_swap 103 = .ok (.iload_n 2, 1) := by decide +kernel
theorem dX3_swap_104 : decode cX3_swap 104 = .ok (.aload_n 0, 1) := by decide +kernel
theorem dX3_swap_105 : decode cX3_swap 105 = .ok (.getfield 27, 3) := by decide +kernel
theorem dX3_swap_108 : decode cX3_swap 108 = .ok (.iload_n 2, 1) := by decide +kernel
theorem dX3_swap_109 : decode cX3_swap 109 = .ok (.iaload, 1) := by decide +kernel
theorem dX3_swap_110 : decode cX3_swap 110 = .ok (.iastore, 1) := by decide +kernel
theorem dX3_swap_111 : decode cX3_swap 111 = .ok (.iinc 2 1, 3) := by decide +kernel
theorem dX3_swap_114 : decode cX3_swap 114 = .ok (.goto (-23), 3) := by decide +kernel
theorem dX3_swap_117 : decode cX3_swap 117 = .ok (.aload_n 0, 1) := by decide +kernel
theorem dX3_swap_118 : decode cX3_swap 118 = .ok (.invokevirtual 65, 3) := by decide +kernel
theorem dX3_swap_121 : decode cX3_swap 121 = .ok (.ireturn, 1) := by decide +kernel
theorem dX3_tries_0 : decode cX3_tries 0 = .ok (.iconst 0, 1) := by decide +kernel
theorem dX3_tries_1 : decode cX3_tries 1 = .ok (.istore_n 3, 1) := by decide +kernel
theorem dX3_tries_2 : decode cX3_tries 2 = .ok (.iconst 0, 1) := by decide +kernel
theorem dX3_tries_3 : decode cX3_tries 3 = .ok (.istore 4, 2) := by decide +kernel
theorem dX3_tries_5 : decode cX3_tries 5 = .ok (.iload 4, 2) := by decide +kernel
theorem dX3_tries_7 : decode cX3_tries 7 = .ok (.aload_n 0, 1) := by decide +kernel
theorem dX3_tries_8 : decode cX3_tries 8 = .ok (.getfield 55, 3) := by decide +kernel
theorem dX3_tries_11 : decode cX3_tries 11 = .ok (.if_icmp .ge 50, 3) := by decide +kernel
theorem dX3_tries_14 : decode cX3_tries 14 = .ok (.aload_n 0, 1) := by decide +kernel
theorem dX3_tries_15 : decode cX3_tries 15 = .ok (.getfield 24, 3) := by decide +kernel
theorem dX3_tries_18 : decode cX3_tries 18 = .ok (.iload 4, 2) := by decide +kernel
theorem dX3_tries_20 : decode cX3_tries 20 = .ok (.iaload, 1) := by decide +kernel
theorem dX3_tries_21 : decode cX3_tries 21 = .ok (.iload_n 1, 1) := by decide +kernel
theorem dX3_tries_22 : decode cX3_tries 22 = .ok (.if_icmp .ne 6, 3) := by decide +kernel
theorem dX3_tries_25 : decode cX3_tries 25 = .ok (.goto 30, 3) := by decide +kernel
theorem dX3_tries_28 : decode cX3_tries 28 = .ok (.aload_n 0, 1) := by decide +kernel
theorem dX3_tries_29 : decode cX3_tries 29 = .ok (.getfield 27, 3) := by decide +kernel
theorem dX3_tries_32 : decode cX3_tries 32 = .ok (.iload_n 3, 1) := by decide +kernel
theorem dX3_tries_33 : decode cX3_tries 33 = .ok (.iload_n 2, 1) := by decide +kernel
theorem dX3_tries_34 : decode cX3_tries 34 = .ok (.if_icmp .ge 7, 3) := by decide +kernel
theorem dX3_tries_37 : decode cX3_tries 37 = .ok (.iload_n 3, 1) := by decide +kernel
theorem dX3_tries_38 : decode cX3_tries 38 = .ok (.goto 6, 3) := by decide +kernel
theorem dX3_tries_41 : decode cX3_tries 41 = .ok (.iload_n 3, 1) := by decide +kernel
theorem dX3_tries_42 : decode cX3_tries 42 = .ok (.iconst 1, 1) := by decide +kernel
theorem dX3_tries_43 : decode cX3_tries 43 = .ok (.iadd, 1) := by decide +kernel
theorem dX3_tries_44 : decode cX3_tries 44 = .ok (.aload_n 0, 1) := by decide +kernel
theorem dX3_tries_45 : decode cX3_tries 45 = .ok (.getfield 24, 3) := by decide +kernel
theorem dX3_tries_48 : decode cX3_tries 48 = .ok (.iload 4, 2) := by decide +kernel
theorem dX3_tries_50 : decode cX3_tries 50 = .ok (.iaload, 1) := by decide +kernel
theorem dX3_tries_51 : decode cX3_tries 51 = .ok (.iastore, 1) := by decide +kernel
theorem dX3_tries_52 : decode cX3_tries 52 = .ok (.iinc 3 1, 3) := by decide +kernel
theorem dX3_tries_55 : decode cX3_tries 55 = .ok (.iinc 4 1, 3) := by decide +kernel
theorem dX3_tries_58 : decode cX3_tries 58 = .ok (.goto (-53), 3) := by decide +kernel
theorem dX3_tries_61 : decode cX3_tries 61 = .ok (.aload_n 0, 1) := by decide +kernel
theorem dX3_tries_62 : decode cX3_tries 62 = .ok (.getfield 27, 3) := by decide +kernel
theorem dX3_tries_65 : decode cX3_tries 65 = .ok (.iload_n 2, 1) := by decide +kernel
theorem dX3_tries_66 : decode cX3_tries 66 = .ok (.iload_n 1, 1) := by decide +kernel
theorem dX3_tries_67 : decode cX3_tries 67 = .ok (.iastore, 1) := by decide +kernel
theorem dX3_tries_68 : decode cX3_tries 68 = .ok (.return_, 1) := by decide +kernel
theorem dX3_sift_0 : decode cX3_sift 0 = .ok (.aload_n 0, 1) := by decide +kernel
theorem dX3_sift_1 : decode cX3_sift 1 = .ok (.iload_n 1, 1) := by decide +kernel
theorem dX3_sift_2 : decode cX3_sift 2 = .ok (.invokevirtual 96, 3) := by decide +kernel
theorem dX3_sift_5 : decode cX3_sift 5 = .ok (.ifCond .ne 6, 3) := by decide +kernel
theorem dX3_sift_8 : decode cX3_sift 8 = .ok (.bipush (-2), 2) := by decide +kernel
theorem dX3_sift_10 : decode cX3_sift 10 = .ok (.ireturn, 1) := by decide +kernel
theorem dX3_sift_11 : decode cX3_sift 11 = .ok (.iconst 0, 1) := by decide +kernel
theorem dX3_sift_12 : decode cX3_sift 12 = .ok (.istore_n 2, 1) := by decide +kernel
theorem dX3_sift_13 : decode cX3_sift 13 = .ok (.ldc 120, 2) := by decide +kernel
theorem dX3_sift_15 : decode cX3_sift 15 = .ok (.istore_n 3, 1) := by decide +kernel
theorem dX3_sift_16 : decode cX3_sift 16 = .ok (.iconst 0, 1) := by decide +kernel
theorem dX3_sift_17 : decode cX3_sift 17 = .ok (.istore 4, 2) := by decide +kernel
theorem dX3_sift_19 : decode cX3_sift 19 = .ok (.iload 4, 2) := by decide +kernel
theorem dX3_sift_21 : decode cX3_sift 21 = .ok (.aload_n 0, 1) := by decide +kernel
theorem dX3_sift_22 : decode cX3_sift 22 = .ok (.getfield 55, 3) := by decide +kernel
theorem dX3_sift_25 : decode cX3_sift 25 = .ok (.if_icmp .ge 42, 3) := by decide +kernel
theorem dX3_sift_28 : decode cX3_sift 28 = .ok (.aload_n 0, 1) := by decide +kernel
theorem dX3_sift_29 : decode cX3_sift 29 = .ok (.iload_n 1, 1) := by decide +kernel
theorem dX3_sift_30 : decode cX3_sift 30 = .ok (.iload 4, 2) := by decide +kernel
theorem dX3_sift_32 : decode cX3_sift 32 = .ok (.invokevirtual 121, 3) := by decide +kernel
theorem dX3_sift_35 : decode cX3_sift 35 = .ok (.aload_n 0, 1) := by decide +kernel
theorem dX3_sift_36 : decode cX3_sift 36 = .ok (.iconst 0, 1) := by decide +kernel
theorem dX3_sift_37 : decode cX3_sift 37 = .ok (.bipush 32, 2) := by decide +kernel
theorem dX3_sift_39 : decode cX3_sift 39 = .ok (.iconst (-1), 1) := by decide +kernel
theorem dX3_sift_40 : decode cX3_sift 40 = .ok (.aload_n 0, 1) := by decide +kernel
theorem dX3_sift_41 : decode cX3_sift 41 = .ok (.getfield 27, 3) := by decide +kernel
theorem dX3_sift_44 : decode cX3_sift 44 = .ok (.invokevirtual 88, 3) := by decide +kernel
theorem dX3_sift_47 : decode cX3_sift 47 = .ok (.istore 5, 2) := by decide +kernel
theorem dX3_sift_49 : decode cX3_sift 49 = .ok (.iload 5, 2) := by decide +kernel
theorem dX3_sift_51 : decode cX3_sift 51 = .ok (.iload_n 3, 1) := by decide +kernel
theorem dX3_sift_52 : decode cX3_sift 52 = .ok (.if_icmp .ge 9, 3) := by decide +kernel
theorem dX3_sift_55 : decode cX3_sift 55 = .ok (.iload 5, 2) := by decide +kernel
theorem dX3_sift_57 : decode cX3_sift 57 = .ok (.istore_n 3, 1) := by decide +kernel
theorem dX3_sift_58 : decode cX3_sift 58 = .ok (.iload 4, 2) := by decide +kernel
theorem dX3_sift_60 : decode cX3_sift 60 = .ok (.istore_n 2, 1) := by decide +kernel
theorem dX3_sift_61 : decode cX3_sift 61 = .ok (.iinc 4 1, 3) := by decide +kernel
theorem dX3_sift_64 : decode cX3_sift 64 = .ok (.goto (-45), 3) := by decide +kernel
theorem dX3_sift_67 : decode cX3_sift 67 = .ok (.aload_n 0, 1) := by decide +kernel
theorem dX3_sift_68 : decode cX3_sift 68 = .ok (.iload_n 1, 1) := by decide +kernel
theorem dX3_sift_69 : decode cX3_sift 69 = .ok (.iload_n 2, 1) := by decide +kernel
theorem dX3_sift_70 : decode cX3_sift 70 = .ok (.invokevirtual 121, 3) := by decide +kernel
theorem dX3_sift_73 : decode cX3_sift 73 = .ok (.iconst 0, 1) := by decide +kernel
theorem dX3_sift_74 : decode cX3_sift 74 = .ok (.istore 4, 2) := by decide +kernel
theorem dX3_sift_76 : decode cX3_sift 76 = .ok (.iload 4, 2) := by decide +kernel
theorem dX3_sift_78 : decode cX3_sift 78 = .ok (.aload_n 0, 1) := by decide +kernel
theorem dX3_sift_79 : decode cX3_sift 79 = .ok (.getfield 55, 3) := by decide +kernel
theorem dX3_sift_82 : decode cX3_sift 82 = .ok (.if_icmp .ge 23, 3) := by decide +kernel
theorem dX3_sift_85 : decode cX3_sift 85 = .ok (.aload_n 0, 1) := by decide +kernel
theorem dX3_sift_86 : decode cX3_sift 86 = .ok (.getfield 24, 3) := by decide +kernel
theorem dX3_sift_89 : decode cX3_sift 89 = .ok (.iload 4, 2) := by decide +kernel
theorem dX3_sift_91 : decode cX3_sift 91 = .ok (.aload_n 0, 1) := by decide +kernel
theorem dX3_sift_92 : decode cX3_sift 92 = .ok (.getfield 27, 3) := by decide +kernel
theorem dX3_sift_95 : decode cX3_sift 95 = .ok (.iload 4, 2) := by decide +kernel
theorem dX3_sift_97 : decode cX3_sift 97 = .ok (.iaload, 1) := by decide +kernel
theorem dX3_sift_98 : decode cX3_sift 98 = .ok (.iastore, 1) := by decide +kernel
theorem dX3_sift_99 : decode cX3_sift 99 = .ok (.iinc 4 1, 3) := by decide +kernel
theorem dX3_sift_102 : decode cX3_sift 102 = .ok (.goto (-26), 3) := by decide +kernel
theorem dX3_sift_105 : decode cX3_sift 105 = .ok (.aload_n 0, 1) := by decide +kernel
theorem dX3_sift_106 : decode cX3_sift 106 = .ok (.invokevirtual 65, 3) := by decide +kernel
theorem dX3_sift_109 : decode cX3_sift 109 = .ok (.pop, 1) := by decide +kernel
theorem dX3_sift_110 : decode cX3_sift 110 = .ok (.iload_n 2, 1) := by decide +kernel
theorem dX3_sift_111 : decode cX3_sift 111 = .ok (.ireturn, 1) := by decide +kernel
theorem dX3_cost_0 : decode cX3_cost 0 = .ok (.aload_n 0, 1) := by decide +kernel
theorem dX3_cost_1 : decode cX3_cost 1 = .ok (.iload_n 1, 1) := by decide +kernel
theorem dX3_cost_2 : decode cX3_cost 2 = .ok (.invokevirtual 96, 3) := by decide +kernel
theorem dX3_cost_5 : decode cX3_cost 5 = .ok (.ifCond .eq 13, 3) := by decide +kernel
theorem dX3_cost_8 : decode cX3_cost 8 = .ok (.iload_n 2, 1) := by decide +kernel
theorem dX3_cost_9 : decode cX3_cost 9 = .ok (.ifCond .lt 9, 3) := by decide +kernel
theorem dX3_cost_12 : decode cX3_cost 12 = .ok (.iload_n 2, 1) := by decide +kernel
theorem dX3_cost_13 : decode cX3_cost 13 = .ok (.ldc 125, 2) := by decide +kernel
theorem dX3_cost_15 : decode cX3_cost 15 = .ok (.if_icmp .le 6, 3) := by decide +kernel
theorem dX3_cost_18 : decode cX3_cost 18 = .ok (.bipush (-2), 2) := by decide +kernel
theorem dX3_cost_20 : decode cX3_cost 20 = .ok (.ireturn, 1) := by decide +kernel
theorem dX3_cost_21 : decode cX3_cost 21 = .ok (.aload_n 0, 1) := by decide +kernel
theorem dX3_cost_22 : decode cX3_cost 22 = .ok (.getfield 20, 3) := by decide +kernel
theorem dX3_cost_25 : decode cX3_cost 25 = .ok (.iload_n 1, 1) := by decide +kernel
theorem dX3_cost_26 : decode cX3_cost 26 = .ok (.iaload, 1) := by decide +kernel
theorem dX3_cost_27 : decode cX3_cost 27 = .ok (.istore_n 3, 1) := by decide +kernel
theorem dX3_cost_28 : decode cX3_cost 28 = .ok (.aload_n 0, 1) := by decide +kernel
theorem dX3_cost_29 : decode cX3_cost 29 = .ok (.getfield 20, 3) := by decide +kernel
theorem dX3_cost_32 : decode cX3_cost 32 = .ok (.iload_n 1, 1) := by decide +kernel
theorem dX3_cost_33 : decode cX3_cost 33 = .ok (.iload_n 2, 1) := by decide +kernel
theorem dX3_cost_34 : decode cX3_cost 34 = .ok (.iastore, 1) := by decide +kernel
theorem dX3_cost_35 : decode cX3_cost 35 = .ok (.iload_n 3, 1) := by decide +kernel
theorem dX3_cost_36 : decode cX3_cost 36 = .ok (.ireturn, 1) := by decide +kernel
theorem dX3_same_0 : decode cX3_same 0 = .ok (.aload_n 0, 1) := by decide +kernel
theorem dX3_same_1 : decode cX3_same 1 = .ok (.iload_n 1, 1) := by decide +kernel
theorem dX3_same_2 : decode cX3_same 2 = .ok (.invokevirtual 92, 3) := by decide +kernel
theorem dX3_same_5 : decode cX3_same 5 = .ok (.ifCond .eq 11, 3) := by decide +kernel
theorem dX3_same_8 : decode cX3_same 8 = .ok (.aload_n 0, 1) := by decide +kernel
theorem dX3_same_9 : decode cX3_same 9 = .ok (.iload_n 2, 1) := by decide +kernel
theorem dX3_same_10 : decode cX3_same 10 = .ok (.invokevirtual 92, 3) := by decide +kernel
theorem dX3_same_13 : decode cX3_same 13 = .ok (.ifCond .ne 6, 3) := by decide +kernel
theorem dX3_same_16 : decode cX3_same 16 = .ok (.bipush (-2), 2) := by decide +kernel
theorem dX3_same_18 : decode cX3_same 18 = .ok (.ireturn, 1) := by decide +kernel
theorem dX3_same_19 : decode cX3_same 19 = .ok (.iconst 0, 1) := by decide +kernel
theorem dX3_same_20 : decode cX3_same 20 = .ok (.istore_n 3, 1) := by decide +kernel
theorem dX3_same_21 : decode cX3_same 21 = .ok (.iload_n 3, 1) := by decide +kernel
theorem dX3_same_22 : decode cX3_same 22 = .ok (.aload_n 0, 1) := by decide +kernel
theorem dX3_same_23 : decode cX3_same 23 = .ok (.getfield 59, 3) := by decide +kernel
theorem dX3_same_26 : decode cX3_same 26 = .ok (.if_icmp .ge 26, 3) := by decide +kernel
theorem dX3_same_29 : decode cX3_same 29 = .ok (.aload_n 0, 1) := by decide +kernel
theorem dX3_same_30 : decode cX3_same 30 = .ok (.iload_n 1, 1) := by decide +kernel
theorem dX3_same_31 : decode cX3_same 31 = .ok (.iload_n 3, 1) := by decide +kernel
theorem dX3_same_32 : decode cX3_same 32 = .ok (.invokevirtual 81, 3) := by decide +kernel
theorem dX3_same_35 : decode cX3_same 35 = .ok (.aload_n 0, 1) := by decide +kernel
theorem dX3_same_36 : decode cX3_same 36 = .ok (.iload_n 2, 1) := by decide +kernel
theorem dX3_same_37 : decode cX3_same 37 = .ok (.iload_n 3, 1) := by decide +kernel
theorem dX3_same_38 : decode cX3_same 38 = .ok (.invokevirtual 81, 3) := by decide +kernel
theorem dX3_same_41 : decode cX3_same 41 = .ok (.if_icmp .eq 5, 3) := by decide +kernel
theorem dX3_same_44 : decode cX3_same 44 = .ok (.iconst 0, 1) := by decide +kernel
theorem dX3_same_45 : decode cX3_same 45 = .ok (.ireturn, 1) := by decide +kernel
theorem dX3_same_46 : decode cX3_same 46 = .ok (.iinc 3 1, 3) := by decide +kernel
theorem dX3_same_49 : decode cX3_same 49 = .ok (.goto (-28), 3) := by decide +kernel
theorem dX3_same_52 : decode cX3_same 52 = .ok (.iconst 1, 1) := by decide +kernel
theorem dX3_same_53 : decode cX3_same 53 = .ok (.ireturn, 1) := by decide +kernel
theorem dX3_tells_0 : decode cX3_tells 0 = .ok (.aload_n 0, 1) := by decide +kernel
theorem dX3_tells_1 : decode cX3_tells 1 = .ok (.iload_n 1, 1) := by decide +kernel
theorem dX3_tells_2 : decode cX3_tells 2 = .ok (.invokevirtual 92, 3) := by decide +kernel
theorem dX3_tells_5 : decode cX3_tells 5 = .ok (.ifCond .eq 15, 3) := by decide +kernel
theorem dX3_tells_8 : decode cX3_tells 8 = .ok (.iload_n 2, 1) := by decide +kernel
theorem dX3_tells_9 : decode cX3_tells 9 = .ok (.ifCond .lt 11, 3) := by decide +kernel
theorem dX3_tells_12 : decode cX3_tells 12 = .ok (.iload_n 2, 1) := by decide +kernel
theorem dX3_tells_13 : decode cX3_tells 13 = .ok (.aload_n 0, 1) := by decide +kernel
theorem dX3_tells_14 : decode cX3_tells 14 = .ok (.getfield 59, 3) := by decide +kernel
theorem dX3_tells_17 : decode cX3_tells 17 = .ok (.if_icmp .lt 8, 3) := by decide +kernel
theorem dX3_tells_20 : decode cX3_tells 20 = .ok (.bipush (-2), 2) := by decide +kernel
theorem dX3_tells_22 : decode cX3_tells 22 = .ok (.goto 17, 3) := by decide +kernel
theorem dX3_tells_25 : decode cX3_tells 25 = .ok (.aload_n 0, 1) := by decide +kernel
theorem dX3_tells_26 : decode cX3_tells 26 = .ok (.iload_n 1, 1) := by decide +kernel
theorem dX3_tells_27 : decode cX3_tells 27 = .ok (.iload_n 2, 1) := by decide +kernel
theorem dX3_tells_28 : decode cX3_tells 28 = .ok (.invokevirtual 81, 3) := by decide +kernel
theorem dX3_tells_31 : decode cX3_tells 31 = .ok (.ifCond .eq 7, 3) := by decide +kernel
theorem dX3_tells_34 : decode cX3_tells 34 = .ok (.iconst 1, 1) := by decide +kernel
theorem dX3_tells_35 : decode cX3_tells 35 = .ok (.goto 4, 3) := by decide +kernel
theorem dX3_tells_38 : decode cX3_tells 38 = .ok (.iconst 0, 1) := by decide +kernel
theorem dX3_tells_39 : decode cX3_tells 39 = .ok (.ireturn, 1) := by decide +kernel
theorem dX3_many_0 : decode cX3_many 0 = .ok (.aload_n 0, 1) := by decide +kernel
theorem dX3_many_1 : decode cX3_many 1 = .ok (.iload_n 1, 1) := by decide +kernel
theorem dX3_many_2 : decode cX3_many 2 = .ok (.invokevirtual 92, 3) := by decide +kernel
theorem dX3_many_5 : decode cX3_many 5 = .ok (.ifCond .eq 11, 3) := by decide +kernel
theorem dX3_many_8 : decode cX3_many 8 = .ok (.aload_n 0, 1) := by decide +kernel
theorem dX3_many_9 : decode cX3_many 9 = .ok (.iload_n 1, 1) := by decide +kernel
theorem dX3_many_10 : decode cX3_many 10 = .ok (.invokevirtual 111, 3) := by decide +kernel
theorem dX3_many_13 : decode cX3_many 13 = .ok (.goto 5, 3) := by decide +kernel
theorem dX3_many_16 : decode cX3_many 16 = .ok (.bipush (-2), 2) := by decide +kernel
theorem dX3_many_18 : decode cX3_many 18 = .ok (.ireturn, 1) := by decide +kernel
theorem dX3_pick_0 : decode cX3_pick 0 = .ok (.aload_n 0, 1) := by decide +kernel
theorem dX3_pick_1 : decode cX3_pick 1 = .ok (.iload_n 1, 1) := by decide +kernel
theorem dX3_pick_2 : decode cX3_pick 2 = .ok (.invokevirtual 92, 3) := by decide +kernel
theorem dX3_pick_5 : decode cX3_pick 5 = .ok (.ifCond .ne 6, 3) := by decide +kernel
theorem dX3_pick_8 : decode cX3_pick 8 = .ok (.bipush (-2), 2) := by decide +kernel
theorem dX3_pick_10 : decode cX3_pick 10 = .ok (.ireturn, 1) := by decide +kernel
theorem dX3_pick_11 : decode cX3_pick 11 = .ok (.iconst 0, 1) := by decide +kernel
theorem dX3_pick_12 : decode cX3_pick 12 = .ok (.istore_n 3, 1) := by decide +kernel
theorem dX3_pick_13 : decode cX3_pick 13 = .ok (.iconst 0, 1) := by decide +kernel
theorem dX3_pick_14 : decode cX3_pick 14 = .ok (.istore 4, 2) := by decide +kernel
theorem dX3_pick_16 : decode cX3_pick 16 = .ok (.iload 4, 2) := by decide +kernel
theorem dX3_pick_18 : decode cX3_pick 18 = .ok (.aload_n 0, 1) := by decide +kernel
theorem dX3_pick_19 : decode cX3_pick 19 = .ok (.getfield 59, 3) := by decide +kernel
theorem dX3_pick_22 : decode cX3_pick 22 = .ok (.if_icmp .ge 33, 3) := by decide +kernel
theorem dX3_pick_25 : decode cX3_pick 25 = .ok (.aload_n 0, 1) := by decide +kernel
theorem dX3_pick_26 : decode cX3_pick 26 = .ok (.iload_n 1, 1) := by decide +kernel
theorem dX3_pick_27 : decode cX3_pick 27 = .ok (.iload 4, 2) := by decide +kernel
theorem dX3_pick_29 : decode cX3_pick 29 = .ok (.invokevirtual 81, 3) := by decide +kernel
theorem dX3_pick_32 : decode cX3_pick 32 = .ok (.ifCond .ne 6, 3) := by decide +kernel
theorem dX3_pick_35 : decode cX3_pick 35 = .ok (.goto 14, 3) := by decide +kernel
theorem dX3_pick_38 : decode cX3_pick 38 = .ok (.iload_n 3, 1) := by decide +kernel
theorem dX3_pick_39 : decode cX3_pick 39 = .ok (.iload_n 2, 1) := by decide +kernel
theorem dX3_pick_40 : decode cX3_pick 40 = .ok (.if_icmp .ne 6, 3) := by decide +kernel
theorem dX3_pick_43 : decode cX3_pick 43 = .ok (.iload 4, 2) := by decide +kernel
theorem dX3_pick_45 : decode cX3_pick 45 = .ok (.ireturn, 1) := by decide +kernel
theorem dX3_pick_46 : decode cX3_pick 46 = .ok (.iinc 3 1, 3) := by decide +kernel
theorem dX3_pick_49 : decode cX3_pick 49 = .ok (.iinc 4 1, 3) := by decide +kernel
theorem dX3_pick_52 : decode cX3_pick 52 = .ok (.goto (-36), 3) := by decide +kernel
theorem dX3_pick_55 : decode cX3_pick 55 = .ok (.iconst (-1), 1) := by decide +kernel
theorem dX3_pick_56 : decode cX3_pick 56 = .ok (.ireturn, 1) := by decide +kernel
theorem dX3_costOf_0 : decode cX3_costOf 0 = .ok (.iconst 0, 1) := by decide +kernel
theorem dX3_costOf_1 : decode cX3_costOf 1 = .ok (.istore_n 2, 1) := by decide +kernel
theorem dX3_costOf_2 : decode cX3_costOf 2 = .ok (.iconst 0, 1) := by decide +kernel
theorem dX3_costOf_3 : decode cX3_costOf 3 = .ok (.istore_n 3, 1) := by decide +kernel
theorem dX3_costOf_4 : decode cX3_costOf 4 = .ok (.iload_n 3, 1) := by decide +kernel
theorem dX3_costOf_5 : decode cX3_costOf 5 = .ok (.aload_n 0, 1) := by decide +kernel
theorem dX3_costOf_6 : decode cX3_costOf 6 = .ok (.getfield 55, 3) := by decide +kernel
theorem dX3_costOf_9 : decode cX3_costOf 9 = .ok (.if_icmp .ge 31, 3) := by decide +kernel
theorem dX3_costOf_12 : decode cX3_costOf 12 = .ok (.iload_n 2, 1) := by decide +kernel
theorem dX3_costOf_13 : decode cX3_costOf 13 = .ok (.iload_n 1, 1) := by decide +kernel
theorem dX3_costOf_14 : decode cX3_costOf 14 = .ok (.iload_n 3, 1) := by decide +kernel
theorem dX3_costOf_15 : decode cX3_costOf 15 = .ok (.ishr, 1) := by decide +kernel
theorem dX3_costOf_16 : decode cX3_costOf 16 = .ok (.iconst 1, 1) := by decide +kernel
theorem dX3_costOf_17 : decode cX3_costOf 17 = .ok (.iand, 1) := by decide +kernel
theorem dX3_costOf_18 : decode cX3_costOf 18 = .ok (.iconst 1, 1) := by decide +kernel
theorem dX3_costOf_19 : decode cX3_costOf 19 = .ok (.if_icmp .ne 12, 3) := by decide +kernel
theorem dX3_costOf_22 : decode cX3_costOf 22 = .ok (.aload_n 0, 1) := by decide +kernel
theorem dX3_costOf_23 : decode cX3_costOf 23 = .ok (.getfield 20, 3) := by decide +kernel
theorem dX3_costOf_26 : decode cX3_costOf 26 = .ok (.iload_n 3, 1) := by decide +kernel
theorem dX3_costOf_27 : decode cX3_costOf 27 = .ok (.iaload, 1) := by decide +kernel
theorem dX3_costOf_28 : decode cX3_costOf 28 = .ok (.goto 4, 3) := by decide +kernel
theorem dX3_costOf_31 : decode cX3_costOf 31 = .ok (.iconst 0, 1) := by decide +kernel
theorem dX3_costOf_32 : decode cX3_costOf 32 = .ok (.iadd, 1) := by decide +kernel
theorem dX3_costOf_33 : decode cX3_costOf 33 = .ok (.istore_n 2, 1) := by decide +kernel
theorem dX3_costOf_34 : decode cX3_costOf 34 = .ok (.iinc 3 1, 3) := by decide +kernel
theorem dX3_costOf_37 : decode cX3_costOf 37 = .ok (.goto (-33), 3) := by decide +kernel
theorem dX3_costOf_40 : decode cX3_costOf 40 = .ok (.iload_n 2, 1) := by decide +kernel
theorem dX3_costOf_41 : decode cX3_costOf 41 = .ok (.ireturn, 1) := by decide +kernel
theorem dX3_cheapest_0 : decode cX3_cheapest 0 = .ok (.aload_n 0, 1) := by decide +kernel
theorem dX3_cheapest_1 : decode cX3_cheapest 1 = .ok (.iload_n 1, 1) := by decide +kernel
theorem dX3_cheapest_2 : decode cX3_cheapest 2 = .ok (.invokevirtual 92, 3) := by decide +kernel
theorem dX3_cheapest_5 : decode cX3_cheapest 5 = .ok (.ifCond .ne 6, 3) := by decide +kernel
theorem dX3_cheapest_8 : decode cX3_cheapest 8 = .ok (.bipush (-2), 2) := by decide +kernel
theorem dX3_cheapest_10 : decode cX3_cheapest 10 = .ok (.ireturn, 1) := by decide +kernel
theorem dX3_cheapest_11 : decode cX3_cheapest 11 = .ok (.iconst (-1), 1) := by decide +kernel
theorem dX3_cheapest_12 : decode cX3_cheapest 12 = .ok (.istore_n 2, 1) := by decide +kernel
theorem dX3_cheapest_13 : decode cX3_cheapest 13 = .ok (.iconst 0, 1) := by decide +kernel
theorem dX3_cheapest_14 : decode cX3_cheapest 14 = .ok (.istore_n 3, 1) := by decide +kernel
theorem dX3_cheapest_15 : decode cX3_cheapest 15 = .ok (.iload_n 3, 1) := by decide +kernel
theorem dX3_cheapest_16 : decode cX3_cheapest 16 = .ok (.aload_n 0, 1) := by decide +kernel
theorem dX3_cheapest_17 : decode cX3_cheapest 17 = .ok (.getfield 59, 3) := by decide +kernel
theorem dX3_cheapest_20 : decode cX3_cheapest 20 = .ok (.if_icmp .ge 38, 3) := by decide +kernel
theorem dX3_cheapest_23 : decode cX3_cheapest 23 = .ok (.aload_n 0, 1) := by decide +kernel
theorem dX3_cheapest_24 : decode cX3_cheapest 24 = .ok (.iload_n 1, 1) := by decide +kernel
theorem dX3_cheapest_25 : decode cX3_cheapest 25 = .ok (.iload_n 3, 1) := by decide +kernel
theorem dX3_cheapest_26 : decode cX3_cheapest 26 = .ok (.invokevirtual 81, 3) := by decide +kernel
theorem dX3_cheapest_29 : decode cX3_cheapest 29 = .ok (.ifCond .eq 23, 3) := by decide +kernel
theorem dX3_cheapest_32 : decode cX3_cheapest 32 = .ok (.iload_n 2, 1) := by decide +kernel
theorem dX3_cheapest_33 : decode cX3_cheapest 33 = .ok (.iconst (-1), 1) := by decide +kernel
theorem dX3_cheapest_34 : decode cX3_cheapest 34 = .ok (.if_icmp .eq 16, 3) := by decide +kernel
theorem dX3_cheapest_37 : decode cX3_cheapest 37 = .ok (.aload_n 0, 1) := by decide +kernel
theorem dX3_cheapest_38 : decode cX3_cheapest 38 = .ok (.iload_n 3, 1) := by decide +kernel
theorem dX3_cheapest_39 : decode cX3_cheapest 39 = .ok (.invokevirtual 126, 3) := by decide +kernel
theorem dX3_cheapest_42 : decode cX3_cheapest 42 = .ok (.aload_n 0, 1) := by decide +kernel
theorem dX3_cheapest_43 : decode cX3_cheapest 43 = .ok (.iload_n 2, 1) := by decide +kernel
theorem dX3_cheapest_44 : decode cX3_cheapest 44 = .ok (.invokevirtual 126, 3) := by decide +kernel
theorem dX3_cheapest_47 : decode cX3_cheapest 47 = .ok (.if_icmp .ge 5, 3) := by decide +kernel
theorem dX3_cheapest_50 : decode cX3_cheapest 50 = .ok (.iload_n 3, 1) := by decide +kernel
theorem dX3_cheapest_51 : decode cX3_cheapest 51 = .ok (.istore_n 2, 1) := by decide +kernel
theorem dX3_cheapest_52 : decode cX3_cheapest 52 = .ok (.iinc 3 1, 3) := by decide +kernel
theorem dX3_cheapest_55 : decode cX3_cheapest 55 = .ok (.goto (-40), 3) := by decide +kernel
theorem dX3_cheapest_58 : decode cX3_cheapest 58 = .ok (.iload_n 2, 1) := by decide +kernel
theorem dX3_cheapest_59 : decode cX3_cheapest 59 = .ok (.ireturn, 1) := by decide +kernel
theorem dX3_dearest_0 : decode cX3_dearest 0 = .ok (.aload_n 0, 1) := by decide +kernel
theorem dX3_dearest_1 : decode cX3_dearest 1 = .ok (.iload_n 1, 1) := by decide +kernel
theorem dX3_dearest_2 : decode cX3_dearest 2 = .ok (.invokevirtual 92, 3) := by decide +kernel
theorem dX3_dearest_5 : decode cX3_dearest 5 = .ok (.ifCond .ne 6, 3) := by decide +kernel
theorem dX3_dearest_8 : decode cX3_dearest 8 = .ok (.bipush (-2), 2) := by decide +kernel
theorem dX3_dearest_10 : decode cX3_dearest 10 = .ok (.ireturn, 1) := by decide +kernel
theorem dX3_dearest_11 : decode cX3_dearest 11 = .ok (.iconst (-1), 1) := by decide +kernel
theorem dX3_dearest_12 : decode cX3_dearest 12 = .ok (.istore_n 2, 1) := by decide +kernel
theorem dX3_dearest_13 : decode cX3_dearest 13 = .ok (.iconst 0, 1) := by decide +kernel
theorem dX3_dearest_14 : decode cX3_dearest 14 = .ok (.istore_n 3, 1) := by decide +kernel
theorem dX3_dearest_15 : decode cX3_dearest 15 = .ok (.iload_n 3, 1) := by decide +kernel
theorem dX3_dearest_16 : decode cX3_dearest 16 = .ok (.aload_n 0, 1) := by decide +kernel
theorem dX3_dearest_17 : decode cX3_dearest 17 = .ok (.getfield 59, 3) := by decide +kernel
theorem dX3_dearest_20 : decode cX3_dearest 20 = .ok (.if_icmp .ge 28, 3) := by decide +kernel
theorem dX3_dearest_23 : decode cX3_dearest 23 = .ok (.aload_n 0, 1) := by decide +kernel
theorem dX3_dearest_24 : decode cX3_dearest 24 = .ok (.iload_n 1, 1) := by decide +kernel
theorem dX3_dearest_25 : decode cX3_dearest 25 = .ok (.iload_n 3, 1) := by decide +kernel
theorem dX3_dearest_26 : decode cX3_dearest 26 = .ok (.invokevirtual 81, 3) := by decide +kernel
theorem dX3_dearest_29 : decode cX3_dearest 29 = .ok (.ifCond .eq 13, 3) := by decide +kernel
theorem dX3_dearest_32 : decode cX3_dearest 32 = .ok (.iload_n 2, 1) := by decide +kernel
theorem dX3_dearest_33 : decode cX3_dearest 33 = .ok (.aload_n 0, 1) := by decide +kernel
theorem dX3_dearest_34 : decode cX3_dearest 34 = .ok (.iload_n 3, 1) := by decide +kernel
theorem dX3_dearest_35 : decode cX3_dearest 35 = .ok (.invokevirtual 126, 3) := by decide +kernel
theorem dX3_dearest_38 : decode cX3_dearest 38 = .ok (.invokestatic 129, 3) := by decide +kernel
theorem dX3_dearest_41 : decode cX3_dearest 41 = .ok (.istore_n 2, 1) := by decide +kernel
theorem dX3_dearest_42 : decode cX3_dearest 42 = .ok (.iinc 3 1, 3) := by decide +kernel
theorem dX3_dearest_45 : decode cX3_dearest 45 = .ok (.goto (-30), 3) := by decide +kernel
theorem dX3_dearest_48 : decode cX3_dearest 48 = .ok (.iload_n 2, 1) := by decide +kernel
theorem dX3_dearest_49 : decode cX3_dearest 49 = .ok (.ireturn, 1) := by decide +kernel
theorem dX3_differs_0 : decode cX3_differs 0 = .ok (.iconst 0, 1) := by decide +kernel
theorem dX3_differs_1 : decode cX3_differs 1 = .ok (.istore_n 3, 1) := by decide +kernel
theorem dX3_differs_2 : decode cX3_differs 2 = .ok (.iload_n 3, 1) := by decide +kernel
theorem dX3_differs_3 : decode cX3_differs 3 = .ok (.aload_n 0, 1) := by decide +kernel
theorem dX3_differs_4 : decode cX3_differs 4 = .ok (.getfield 59, 3) := by decide +kernel
theorem dX3_differs_7 : decode cX3_differs 7 = .ok (.if_icmp .ge 30, 3) := by decide +kernel
theorem dX3_differs_10 : decode cX3_differs 10 = .ok (.aload_n 0, 1) := by decide +kernel
theorem dX3_differs_11 : decode cX3_differs 11 = .ok (.iload_n 1, 1) := by decide +kernel
theorem dX3_differs_12 : decode cX3_differs 12 = .ok (.iload_n 3, 1) := by decide +kernel
theorem dX3_differs_13 : decode cX3_differs 13 = .ok (.invokevirtual 81, 3) := by decide +kernel
theorem dX3_differs_16 : decode cX3_differs 16 = .ok (.aload_n 0, 1) := by decide +kernel
theorem dX3_differs_17 : decode cX3_differs 17 = .ok (.iload_n 1, 1) := by decide +kernel
theorem dX3_differs_18 : decode cX3_differs 18 = .ok (.iload_n 3, 1) := by decide +kernel
theorem dX3_differs_19 : decode cX3_differs 19 = .ok (.iconst 1, 1) := by decide +kernel
theorem dX3_differs_20 : decode cX3_differs 20 = .ok (.iload_n 2, 1) := by decide +kernel
theorem dX3_differs_21 : decode cX3_differs 21 = .ok (.ishl, 1) := by decide +kernel
theorem dX3_differs_22 : decode cX3_differs 22 = .ok (.ixor, 1) := by decide +kernel
theorem dX3_differs_23 : decode cX3_differs 23 = .ok (.invokevirtual 81, 3) := by decide +kernel
theorem dX3_differs_26 : decode cX3_differs 26 = .ok (.if_icmp .eq 5, 3) := by decide +kernel
theorem dX3_differs_29 : decode cX3_differs 29 = .ok (.iconst 1, 1) := by decide +kernel
theorem dX3_differs_30 : decode cX3_differs 30 = .ok (.ireturn, 1) := by decide +kernel
theorem dX3_differs_31 : decode cX3_differs 31 = .ok (.iinc 3 1, 3) := by decide +kernel
theorem dX3_differs_34 : decode cX3_differs 34 = .ok (.goto (-32), 3) := by decide +kernel
theorem dX3_differs_37 : decode cX3_differs 37 = .ok (.iconst 0, 1) := by decide +kernel
theorem dX3_differs_38 : decode cX3_differs 38 = .ok (.ireturn, 1) := by decide +kernel
theorem dX3_letters_0 : decode cX3_letters 0 = .ok (.aload_n 0, 1) := by decide +kernel
theorem dX3_letters_1 : decode cX3_letters 1 = .ok (.iload_n 1, 1) := by decide +kernel
theorem dX3_letters_2 : decode cX3_letters 2 = .ok (.invokevirtual 92, 3) := by decide +kernel
theorem dX3_letters_5 : decode cX3_letters 5 = .ok (.ifCond .ne 6, 3) := by decide +kernel
theorem dX3_letters_8 : decode cX3_letters 8 = .ok (.bipush (-2), 2) := by decide +kernel
theorem dX3_letters_10 : decode cX3_letters 10 = .ok (.ireturn, 1) := by decide +kernel
theorem dX3_letters_11 : decode cX3_letters 11 = .ok (.iconst 0, 1) := by decide +kernel
theorem dX3_letters_12 : decode cX3_letters 12 = .ok (.istore_n 2, 1) := by decide +kernel
theorem dX3_letters_13 : decode cX3_letters 13 = .ok (.iconst 0, 1) := by decide +kernel
theorem dX3_letters_14 : decode cX3_letters 14 = .ok (.istore_n 3, 1) := by decide +kernel
theorem dX3_letters_15 : decode cX3_letters 15 = .ok (.iload_n 3, 1) := by decide +kernel
theorem dX3_letters_16 : decode cX3_letters 16 = .ok (.aload_n 0, 1) := by decide +kernel
theorem dX3_letters_17 : decode cX3_letters 17 = .ok (.getfield 55, 3) := by decide +kernel
theorem dX3_letters_20 : decode cX3_letters 20 = .ok (.if_icmp .ge 28, 3) := by decide +kernel
theorem dX3_letters_23 : decode cX3_letters 23 = .ok (.iload_n 2, 1) := by decide +kernel
theorem dX3_letters_24 : decode cX3_letters 24 = .ok (.aload_n 0, 1) := by decide +kernel
theorem dX3_letters_25 : decode cX3_letters 25 = .ok (.iload_n 1, 1) := by decide +kernel
theorem dX3_letters_26 : decode cX3_letters 26 = .ok (.iload_n 3, 1) := by decide +kernel
theorem dX3_letters_27 : decode cX3_letters 27 = .ok (.invokevirtual 134, 3) := by decide +kernel
theorem dX3_letters_30 : decode cX3_letters 30 = .ok (.ifCond .eq 9, 3) := by decide +kernel
theorem dX3_letters_33 : decode cX3_letters 33 = .ok (.iconst 1, 1) := by decide +kernel
theorem dX3_letters_34 : decode cX3_letters 34 = .ok (.iload_n 3, 1) := by decide +kernel
theorem dX3_letters_35 : decode cX3_letters 35 = .ok (.ishl, 1) := by decide +kernel
theorem dX3_letters_36 : decode cX3_letters 36 = .ok (.goto 4, 3) := by decide +kernel
theorem dX3_letters_39 : decode cX3_letters 39 = .ok (.iconst 0, 1) := by decide +kernel
theorem dX3_letters_40 : decode cX3_letters 40 = .ok (.ior, 1) := by decide +kernel
theorem dX3_letters_41 : decode cX3_letters 41 = .ok (.istore_n 2, 1) := by decide +kernel
theorem dX3_letters_42 : decode cX3_letters 42 = .ok (.iinc 3 1, 3) := by decide +kernel
theorem dX3_letters_45 : decode cX3_letters 45 = .ok (.goto (-30), 3) := by decide +kernel
theorem dX3_letters_48 : decode cX3_letters 48 = .ok (.iload_n 2, 1) := by decide +kernel
theorem dX3_letters_49 : decode cX3_letters 49 = .ok (.ireturn, 1) := by decide +kernel
theorem dX3_size_0 : decode cX3_size 0 = .ok (.aload_n 0, 1) := by decide +kernel
theorem dX3_size_1 : decode cX3_size 1 = .ok (.iload_n 1, 1) := by decide +kernel
theorem dX3_size_2 : decode cX3_size 2 = .ok (.invokevirtual 92, 3) := by decide +kernel
theorem dX3_size_5 : decode cX3_size 5 = .ok (.ifCond .eq 19, 3) := by decide +kernel
theorem dX3_size_8 : decode cX3_size 8 = .ok (.aload_n 0, 1) := by decide +kernel
theorem dX3_size_9 : decode cX3_size 9 = .ok (.iload_n 1, 1) := by decide +kernel
theorem dX3_size_10 : decode cX3_size 10 = .ok (.iload_n 1, 1) := by decide +kernel
theorem dX3_size_11 : decode cX3_size 11 = .ok (.iconst 1, 1) := by decide +kernel
theorem dX3_size_12 : decode cX3_size 12 = .ok (.iadd, 1) := by decide +kernel
theorem dX3_size_13 : decode cX3_size 13 = .ok (.iconst (-1), 1) := by decide +kernel
theorem dX3_size_14 : decode cX3_size 14 = .ok (.aload_n 0, 1) := by decide +kernel
theorem dX3_size_15 : decode cX3_size 15 = .ok (.getfield 24, 3) := by decide +kernel
theorem dX3_size_18 : decode cX3_size 18 = .ok (.invokevirtual 88, 3) := by decide +kernel
theorem dX3_size_21 : decode cX3_size 21 = .ok (.goto 5, 3) := by decide +kernel
theorem dX3_size_24 : decode cX3_size 24 = .ok (.bipush (-2), 2) := by decide +kernel
theorem dX3_size_26 : decode cX3_size 26 = .ok (.ireturn, 1) := by decide +kernel
theorem dX3_width_0 : decode cX3_width 0 = .ok (.aload_n 0, 1) := by decide +kernel
theorem dX3_width_1 : decode cX3_width 1 = .ok (.iload_n 1, 1) := by decide +kernel
theorem dX3_width_2 : decode cX3_width 2 = .ok (.invokevirtual 92, 3) := by decide +kernel
theorem dX3_width_5 : decode cX3_width 5 = .ok (.ifCond .eq 15, 3) := by decide +kernel
theorem dX3_width_8 : decode cX3_width 8 = .ok (.iload_n 2, 1) := by decide +kernel
theorem dX3_width_9 : decode cX3_width 9 = .ok (.ifCond .lt 11, 3) := by decide +kernel
theorem dX3_width_12 : decode cX3_width 12 = .ok (.iload_n 2, 1) := by decide +kernel
theorem dX3_width_13 : decode cX3_width 13 = .ok (.aload_n 0, 1) := by decide +kernel
theorem dX3_width_14 : decode cX3_width 14 = .ok (.getfield 55, 3) := by decide +kernel
theorem dX3_width_17 : decode cX3_width 17 = .ok (.if_icmp .lt 6, 3) := by decide +kernel
theorem dX3_width_20 : decode cX3_width 20 = .ok (.bipush (-2), 2) := by decide +kernel
theorem dX3_width_22 : decode cX3_width 22 = .ok (.ireturn, 1) := by decide +kernel
theorem dX3_width_23 : decode cX3_width 23 = .ok (.aload_n 0, 1) := by decide +kernel
theorem dX3_width_24 : decode cX3_width 24 = .ok (.iload_n 1, 1) := by decide +kernel
theorem dX3_width_25 : decode cX3_width 25 = .ok (.iload_n 1, 1) := by decide +kernel
theorem dX3_width_26 : decode cX3_width 26 = .ok (.iconst 1, 1) := by decide +kernel
theorem dX3_width_27 : decode cX3_width 27 = .ok (.iadd, 1) := by decide +kernel
theorem dX3_width_28 : decode cX3_width 28 = .ok (.iconst (-1), 1) := by decide +kernel
theorem dX3_width_29 : decode cX3_width 29 = .ok (.aload_n 0, 1) := by decide +kernel
theorem dX3_width_30 : decode cX3_width 30 = .ok (.getfield 24, 3) := by decide +kernel
theorem dX3_width_33 : decode cX3_width 33 = .ok (.invokevirtual 88, 3) := by decide +kernel
theorem dX3_width_36 : decode cX3_width 36 = .ok (.pop, 1) := by decide +kernel
theorem dX3_width_37 : decode cX3_width 37 = .ok (.aload_n 0, 1) := by decide +kernel
theorem dX3_width_38 : decode cX3_width 38 = .ok (.getfield 36, 3) := by decide +kernel
theorem dX3_width_41 : decode cX3_width 41 = .ok (.iload_n 2, 1) := by decide +kernel
theorem dX3_width_42 : decode cX3_width 42 = .ok (.iaload, 1) := by decide +kernel
theorem dX3_width_43 : decode cX3_width 43 = .ok (.ireturn, 1) := by decide +kernel
theorem dX3_point_0 : decode cX3_point 0 = .ok (.aload_n 0, 1) := by decide +kernel
theorem dX3_point_1 : decode cX3_point 1 = .ok (.iload_n 1, 1) := by decide +kernel
theorem dX3_point_2 : decode cX3_point 2 = .ok (.invokevirtual 92, 3) := by decide +kernel
theorem dX3_point_5 : decode cX3_point 5 = .ok (.ifCond .ne 6, 3) := by decide +kernel
theorem dX3_point_8 : decode cX3_point 8 = .ok (.bipush (-2), 2) := by decide +kernel
theorem dX3_point_10 : decode cX3_point 10 = .ok (.ireturn, 1) := by decide +kernel
theorem dX3_point_11 : decode cX3_point 11 = .ok (.iconst 0, 1) := by decide +kernel
theorem dX3_point_12 : decode cX3_point 12 = .ok (.istore_n 2, 1) := by decide +kernel
theorem dX3_point_13 : decode cX3_point 13 = .ok (.iload_n 2, 1) := by decide +kernel
theorem dX3_point_14 : decode cX3_point 14 = .ok (.aload_n 0, 1) := by decide +kernel
theorem dX3_point_15 : decode cX3_point 15 = .ok (.getfield 59, 3) := by decide +kernel
theorem dX3_point_18 : decode cX3_point 18 = .ok (.if_icmp .ge 21, 3) := by decide +kernel
theorem dX3_point_21 : decode cX3_point 21 = .ok (.aload_n 0, 1) := by decide +kernel
theorem dX3_point_22 : decode cX3_point 22 = .ok (.getfield 17, 3) := by decide +kernel
theorem dX3_point_25 : decode cX3_point 25 = .ok (.iload_n 2, 1) := by decide +kernel
theorem dX3_point_26 : decode cX3_point 26 = .ok (.aload_n 0, 1) := by decide +kernel
theorem dX3_point_27 : decode cX3_point 27 = .ok (.iload_n 1, 1) := by decide +kernel
theorem dX3_point_28 : decode cX3_point 28 = .ok (.iload_n 2, 1) := by decide +kernel
theorem dX3_point_29 : decode cX3_point 29 = .ok (.invokevirtual 81, 3) := by decide +kernel
theorem dX3_point_32 : decode cX3_point 32 = .ok (.bastore, 1) := by decide +kernel
theorem dX3_point_33 : decode cX3_point 33 = .ok (.iinc 2 1, 3) := by decide +kernel
theorem dX3_point_36 : decode cX3_point 36 = .ok (.goto (-23), 3) := by decide +kernel
theorem dX3_point_39 : decode cX3_point 39 = .ok (.iconst 0, 1) := by decide +kernel
theorem dX3_point_40 : decode cX3_point 40 = .ok (.ireturn, 1) := by decide +kernel
theorem dX3_firstLetter_0 : decode cX3_firstLetter 0 = .ok (.iconst 0, 1) := by decide +kernel
theorem dX3_firstLetter_1 : decode cX3_firstLetter 1 = .ok (.istore_n 1, 1) := by decide +kernel
theorem dX3_firstLetter_2 : decode cX3_firstLetter 2 = .ok (.iload_n 1, 1) := by decide +kernel
theorem dX3_firstLetter_3 : decode cX3_firstLetter 3 = .ok (.aload_n 0, 1) := by decide +kernel
theorem dX3_firstLetter_4 : decode cX3_firstLetter 4 = .ok (.getfield 55, 3) := by decide +kernel
theorem dX3_firstLetter_7 : decode cX3_firstLetter 7 = .ok (.if_icmp .ge 56, 3) := by decide +kernel
theorem dX3_firstLetter_10 : decode cX3_firstLetter 10 = .ok (.iconst 0, 1) := by decide +kernel
theorem dX3_firstLetter_11 : decode cX3_firstLetter 11 = .ok (.istore_n 2, 1) := by decide +kernel
theorem dX3_firstLetter_12 : decode cX3_firstLetter 12 = .ok (.iload_n 2, 1) := by decide +kernel
theorem dX3_firstLetter_13 : decode cX3_firstLetter 13 = .ok (.aload_n 0, 1) := by decide +kernel
theorem dX3_firstLetter_14 : decode cX3_firstLetter 14 = .ok (.getfield 59, 3) := by decide +kernel
theorem dX3_firstLetter_17 : decode cX3_firstLetter 17 = .ok (.if_icmp .ge 40, 3) := by decide +kernel
theorem dX3_firstLetter_20 : decode cX3_firstLetter 20 = .ok (.aload_n 0, 1) := by decide +kernel
theorem dX3_firstLetter_21 : decode cX3_firstLetter 21 = .ok (.getfield 17, 3) := by decide +kernel
theorem dX3_firstLetter_24 : decode cX3_firstLetter 24 = .ok (.iload_n 2, 1) := by decide +kernel
theorem dX3_firstLetter_25 : decode cX3_firstLetter 25 = .ok (.baload, 1) := by decide +kernel
theorem dX3_firstLetter_26 : decode cX3_firstLetter 26 = .ok (.aload_n 0, 1) := by decide +kernel
theorem dX3_firstLetter_27 : decode cX3_firstLetter 27 = .ok (.getfield 17, 3) := by decide +kernel
theorem dX3_firstLetter_30 : decode cX3_firstLetter 30 = .ok (.iload_n 2, 1) := by decide +kernel
theorem dX3_firstLetter_31 : decode cX3_firstLetter 31 = .ok (.iconst 1, 1) := by decide +kernel
theorem dX3_firstLetter_32 : decode cX3_firstLetter 32 = .ok (.aload_n 0, 1) := by decide +kernel
theorem dX3_firstLetter_33 : decode cX3_firstLetter 33 = .ok (.getfield 24, 3) := by decide +kernel
theorem dX3_firstLetter_36 : decode cX3_firstLetter 36 = .ok (.iload_n 1, 1) := by decide +kernel
theorem dX3_firstLetter_37 : decode cX3_firstLetter 37 = .ok (.iaload, 1) := by decide +kernel
theorem dX3_firstLetter_38 : decode cX3_firstLetter 38 = .ok (.ishl, 1) := by decide +kernel
theorem dX3_firstLetter_39 : decode cX3_firstLetter 39 = .ok (.ixor, 1) := by decide +kernel
theorem dX3_firstLetter_40 : decode cX3_firstLetter 40 = .ok (.baload, 1) := by decide +kernel
theorem dX3_firstLetter_41 : decode cX3_firstLetter 41 = .ok (.if_icmp .eq 10, 3) := by decide +kernel
theorem dX3_firstLetter_44 : decode cX3_firstLetter 44 = .ok (.aload_n 0, 1) := by decide +kernel
theorem dX3_firstLetter_45 : decode cX3_firstLetter 45 = .ok (.getfield 24, 3) := by decide +kernel
theorem dX3_firstLetter_48 : decode cX3_firstLetter 48 = .ok (.iload_n 1, 1) := by decide +kernel
theorem dX3_firstLetter_49 : decode cX3_firstLetter 49 = .ok (.iaload, 1) := by decide +kernel
theorem dX3_firstLetter_50 : decode cX3_firstLetter 50 = .ok (.ireturn, 1) := by decide +kernel
theorem dX3_firstLetter_51 : decode cX3_firstLetter 51 = .ok (.iinc 2 1, 3) := by decide +kernel
theorem dX3_firstLetter_54 : decode cX3_firstLetter 54 = .ok (.goto (-42), 3) := by decide +kernel
theorem dX3_firstLetter_57 : decode cX3_firstLetter 57 = .ok (.iinc 1 1, 3) := by decide +kernel
theorem dX3_firstLetter_60 : decode cX3_firstLetter 60 = .ok (.goto (-58), 3) := by decide +kernel
theorem dX3_firstLetter_63 : decode cX3_firstLetter 63 = .ok (.iconst (-1), 1) := by decide +kernel
theorem dX3_firstLetter_64 : decode cX3_firstLetter 64 = .ok (.ireturn, 1) := by decide +kernel
theorem dX3_go_0 : decode cX3_go 0 = .ok (.aload_n 0, 1) := by decide +kernel
theorem dX3_go_1 : decode cX3_go 1 = .ok (.invokevirtual 137, 3) := by decide +kernel
theorem dX3_go_4 : decode cX3_go 4 = .ok (.istore_n 2, 1) := by decide +kernel
theorem dX3_go_5 : decode cX3_go 5 = .ok (.iload_n 2, 1) := by decide +kernel
theorem dX3_go_6 : decode cX3_go 6 = .ok (.iconst (-1), 1) := by decide +kernel
theorem dX3_go_7 : decode cX3_go 7 = .ok (.if_icmp .ne 5, 3) := by decide +kernel
theorem dX3_go_10 : decode cX3_go 10 = .ok (.iconst 0, 1) := by decide +kernel
theorem dX3_go_11 : decode cX3_go 11 = .ok (.ireturn, 1) := by decide +kernel
theorem dX3_go_12 : decode cX3_go 12 = .ok (.iconst 0, 1) := by decide +kernel
theorem dX3_go_13 : decode cX3_go 13 = .ok (.istore_n 3, 1) := by decide +kernel
theorem dX3_go_14 : decode cX3_go 14 = .ok (.iload_n 3, 1) := by decide +kernel
theorem dX3_go_15 : decode cX3_go 15 = .ok (.aload_n 0, 1) := by decide +kernel
theorem dX3_go_16 : decode cX3_go 16 = .ok (.getfield 59, 3) := by decide +kernel
theorem dX3_go_19 : decode cX3_go 19 = .ok (.if_icmp .ge 26, 3) := by decide +kernel
theorem dX3_go_22 : decode cX3_go 22 = .ok (.aload_n 0, 1) := by decide +kernel
theorem dX3_go_23 : decode cX3_go 23 = .ok (.getfield 14, 3) := by decide +kernel
theorem dX3_go_26 : decode cX3_go 26 = .ok (.iload_n 3, 1) := by decide +kernel
theorem dX3_go_27 : decode cX3_go 27 = .ok (.aload_n 0, 1) := by decide +kernel
theorem dX3_go_28 : decode cX3_go 28 = .ok (.getfield 17, 3) := by decide +kernel
theorem dX3_go_31 : decode cX3_go 31 = .ok (.iload_n 3, 1) := by decide +kernel
theorem dX3_go_32 : decode cX3_go 32 = .ok (.iload_n 2, 1) := by decide +kernel
theorem dX3_go_33 : decode cX3_go 33 = .ok (.iload_n 1, 1) := by decide +kernel
theorem dX3_go_34 : decode cX3_go 34 = .ok (.invokestatic 103, 3) := by decide +kernel
theorem dX3_go_37 : decode cX3_go 37 = .ok (.baload, 1) := by decide +kernel
theorem dX3_go_38 : decode cX3_go 38 = .ok (.bastore, 1) := by decide +kernel
theorem dX3_go_39 : decode cX3_go 39 = .ok (.iinc 3 1, 3) := by decide +kernel
theorem dX3_go_42 : decode cX3_go 42 = .ok (.goto (-28), 3) := by decide +kernel
theorem dX3_go_45 : decode cX3_go 45 = .ok (.iconst 0, 1) := by decide +kernel
theorem dX3_go_46 : decode cX3_go 46 = .ok (.istore_n 3, 1) := by decide +kernel
theorem dX3_go_47 : decode cX3_go 47 = .ok (.iload_n 3, 1) := by decide +kernel
theorem dX3_go_48 : decode cX3_go 48 = .ok (.aload_n 0, 1) := by decide +kernel
theorem dX3_go_49 : decode cX3_go 49 = .ok (.getfield 59, 3) := by decide +kernel
theorem dX3_go_52 : decode cX3_go 52 = .ok (.if_icmp .ge 21, 3) := by decide +kernel
theorem dX3_go_55 : decode cX3_go 55 = .ok (.aload_n 0, 1) := by decide +kernel
theorem dX3_go_56 : decode cX3_go 56 = .ok (.getfield 17, 3) := by decide +kernel
theorem dX3_go_59 : decode cX3_go 59 = .ok (.iload_n 3, 1) := by decide +kernel
theorem dX3_go_60 : decode cX3_go 60 = .ok (.aload_n 0, 1) := by decide +kernel
theorem dX3_go_61 : decode cX3_go 61 = .ok (.getfield 14, 3) := by decide +kernel
theorem dX3_go_64 : decode cX3_go 64 = .ok (.iload_n 3, 1) := by decide +kernel
theorem dX3_go_65 : decode cX3_go 65 = .ok (.baload, 1) := by decide +kernel
theorem dX3_go_66 : decode cX3_go 66 = .ok (.bastore, 1) := by decide +kernel
theorem dX3_go_67 : decode cX3_go 67 = .ok (.iinc 3 1, 3) := by decide +kernel
theorem dX3_go_70 : decode cX3_go 70 = .ok (.goto (-23), 3) := by decide +kernel
theorem dX3_go_73 : decode cX3_go 73 = .ok (.iconst 1, 1) := by decide +kernel
theorem dX3_go_74 : decode cX3_go 74 = .ok (.ireturn, 1) := by decide +kernel
theorem dX3_at_0 : decode cX3_at 0 = .ok (.aload_n 0, 1) := by decide +kernel
theorem dX3_at_1 : decode cX3_at 1 = .ok (.invokevirtual 137, 3) := by decide +kernel
theorem dX3_at_4 : decode cX3_at 4 = .ok (.istore_n 1, 1) := by decide +kernel
theorem dX3_at_5 : decode cX3_at 5 = .ok (.iload_n 1, 1) := by decide +kernel
theorem dX3_at_6 : decode cX3_at 6 = .ok (.iconst (-1), 1) := by decide +kernel
theorem dX3_at_7 : decode cX3_at 7 = .ok (.if_icmp .eq 7, 3) := by decide +kernel
theorem dX3_at_10 : decode cX3_at 10 = .ok (.iload_n 1, 1) := by decide +kernel
theorem dX3_at_11 : decode cX3_at 11 = .ok (.goto 19, 3) := by decide +kernel
theorem dX3_at_14 : decode cX3_at 14 = .ok (.aload_n 0, 1) := by decide +kernel
theorem dX3_at_15 : decode cX3_at 15 = .ok (.getfield 17, 3) := by decide +kernel
theorem dX3_at_18 : decode cX3_at 18 = .ok (.iconst 0, 1) := by decide +kernel
theorem dX3_at_19 : decode cX3_at 19 = .ok (.baload, 1) := by decide +kernel
theorem dX3_at_20 : decode cX3_at 20 = .ok (.ifCond .eq 8, 3) := by decide +kernel
theorem dX3_at_23 : decode cX3_at 23 = .ok (.bipush (-3), 2) := by decide +kernel
theorem dX3_at_25 : decode cX3_at 25 = .ok (.goto 5, 3) := by decide +kernel
theorem dX3_at_28 : decode cX3_at 28 = .ok (.bipush (-2), 2) := by decide +kernel
theorem dX3_at_30 : decode cX3_at 30 = .ok (.ireturn, 1) := by decide +kernel
theorem dX3_level_0 : decode cX3_level 0 = .ok (.iload_n 1, 1) := by decide +kernel
theorem dX3_level_1 : decode cX3_level 1 = .ok (.ifCond .lt 20, 3) := by decide +kernel
theorem dX3_level_4 : decode cX3_level 4 = .ok (.iload_n 1, 1) := by decide +kernel
theorem dX3_level_5 : decode cX3_level 5 = .ok (.aload_n 0, 1) := by decide +kernel
theorem dX3_level_6 : decode cX3_level 6 = .ok (.getfield 55, 3) := by decide +kernel
theorem dX3_level_9 : decode cX3_level 9 = .ok (.if_icmp .ge 12, 3) := by decide +kernel
theorem dX3_level_12 : decode cX3_level 12 = .ok (.iload_n 2, 1) := by decide +kernel
theorem dX3_level_13 : decode cX3_level 13 = .ok (.ifCond .lt 8, 3) := by decide +kernel
theorem dX3_level_16 : decode cX3_level 16 = .ok (.iload_n 2, 1) := by decide +kernel
theorem dX3_level_17 : decode cX3_level 17 = .ok (.iconst 1, 1) := by decide +kernel
theorem dX3_level_18 : decode cX3_level 18 = .ok (.if_icmp .le 5, 3) := by decide +kernel
theorem dX3_level_21 : decode cX3_level 21 = .ok (.iconst (-1), 1) := by decide +kernel
theorem dX3_level_22 : decode cX3_level 22 = .ok (.ireturn, 1) := by decide +kernel
theorem dX3_level_23 : decode cX3_level 23 = .ok (.iload_n 2, 1) := by decide +kernel
theorem dX3_level_24 : decode cX3_level 24 = .ok (.ifCond .ne 10, 3) := by decide +kernel
theorem dX3_level_27 : decode cX3_level 27 = .ok (.aload_n 0, 1) := by decide +kernel
theorem dX3_level_28 : decode cX3_level 28 = .ok (.getfield 24, 3) := by decide +kernel
theorem dX3_level_31 : decode cX3_level 31 = .ok (.iload_n 1, 1) := by decide +kernel
theorem dX3_level_32 : decode cX3_level 32 = .ok (.iaload, 1) := by decide +kernel
theorem dX3_level_33 : decode cX3_level 33 = .ok (.ireturn, 1) := by decide +kernel
theorem dX3_level_34 : decode cX3_level 34 = .ok (.aload_n 0, 1) := by decide +kernel
theorem dX3_level_35 : decode cX3_level 35 = .ok (.iconst 0, 1) := by decide +kernel
theorem dX3_level_36 : decode cX3_level 36 = .ok (.bipush 32, 2) := by decide +kernel
theorem dX3_level_38 : decode cX3_level 38 = .ok (.iconst (-1), 1) := by decide +kernel
theorem dX3_level_39 : decode cX3_level 39 = .ok (.aload_n 0, 1) := by decide +kernel
theorem dX3_level_40 : decode cX3_level 40 = .ok (.getfield 24, 3) := by decide +kernel
theorem dX3_level_43 : decode cX3_level 43 = .ok (.invokevirtual 88, 3) := by decide +kernel
theorem dX3_level_46 : decode cX3_level 46 = .ok (.pop, 1) := by decide +kernel
theorem dX3_level_47 : decode cX3_level 47 = .ok (.aload_n 0, 1) := by decide +kernel
theorem dX3_level_48 : decode cX3_level 48 = .ok (.getfield 36, 3) := by decide +kernel
theorem dX3_level_51 : decode cX3_level 51 = .ok (.iload_n 1, 1) := by decide +kernel
theorem dX3_level_52 : decode cX3_level 52 = .ok (.iaload, 1) := by decide +kernel
theorem dX3_level_53 : decode cX3_level 53 = .ok (.ireturn, 1) := by decide +kernel
theorem dX3_count_0 : decode cX3_count 0 = .ok (.iload_n 1, 1) := by decide +kernel
theorem dX3_count_1 : decode cX3_count 1 = .ok (.tableswitch 59 0 3 #[31, 36, 41, 54], 31) := by decide +kernel
theorem dX3_count_32 : decode cX3_count 32 = .ok (.aload_n 0, 1) := by decide +kernel
theorem dX3_count_33 : decode cX3_count 33 = .ok (.getfield 55, 3) := by decide +kernel
theorem dX3_count_36 : decode cX3_count 36 = .ok (.ireturn, 1) := by decide +kernel
theorem dX3_count_37 : decode cX3_count 37 = .ok (.aload_n 0, 1) := by decide +kernel
theorem dX3_count_38 : decode cX3_count 38 = .ok (.getfield 62, 3) := by decide +kernel
theorem dX3_count_41 : decode cX3_count 41 = .ok (.ireturn, 1) := by decide +kernel
theorem dX3_count_42 : decode cX3_count 42 = .ok (.aload_n 0, 1) := by decide +kernel
theorem dX3_count_43 : decode cX3_count 43 = .ok (.iconst 0, 1) := by decide +kernel
theorem dX3_count_44 : decode cX3_count 44 = .ok (.bipush 32, 2) := by decide +kernel
theorem dX3_count_46 : decode cX3_count 46 = .ok (.iconst (-1), 1) := by decide +kernel
theorem dX3_count_47 : decode cX3_count 47 = .ok (.aload_n 0, 1) := by decide +kernel
theorem dX3_count_48 : decode cX3_count 48 = .ok (.getfield 24, 3) := by decide +kernel
theorem dX3_count_51 : decode cX3_count 51 = .ok (.invokevirtual 88, 3) := by decide +kernel
theorem dX3_count_54 : decode cX3_count 54 = .ok (.ireturn, 1) := by decide +kernel
theorem dX3_count_55 : decode cX3_count 55 = .ok (.aload_n 0, 1) := by decide +kernel
theorem dX3_count_56 : decode cX3_count 56 = .ok (.invokevirtual 140, 3) := by decide +kernel
theorem dX3_count_59 : decode cX3_count 59 = .ok (.ireturn, 1) := by decide +kernel
theorem dX3_count_60 : decode cX3_count 60 = .ok (.iconst (-1), 1) := by decide +kernel
theorem dX3_count_61 : decode cX3_count 61 = .ok (.ireturn, 1) := by decide +kernel
theorem dX3_mixed_0 : decode cX3_mixed 0 = .ok (.iconst 0, 1) := by decide +kernel
theorem dX3_mixed_1 : decode cX3_mixed 1 = .ok (.istore_n 1, 1) := by decide +kernel
theorem dX3_mixed_2 : decode cX3_mixed 2 = .ok (.iconst 0, 1) := by decide +kernel
theorem dX3_mixed_3 : decode cX3_mixed 3 = .ok (.istore_n 2, 1) := by decide +kernel
theorem dX3_mixed_4 : decode cX3_mixed 4 = .ok (.iload_n 2, 1) := by decide +kernel
theorem dX3_mixed_5 : decode cX3_mixed 5 = .ok (.bipush 32, 2) := by decide +kernel
theorem dX3_mixed_7 : decode cX3_mixed 7 = .ok (.if_icmp .ge 37, 3) := by decide +kernel
theorem dX3_mixed_10 : decode cX3_mixed 10 = .ok (.iload_n 1, 1) := by decide +kernel
theorem dX3_mixed_11 : decode cX3_mixed 11 = .ok (.aload_n 0, 1) := by decide +kernel
theorem dX3_mixed_12 : decode cX3_mixed 12 = .ok (.iload_n 2, 1) := by decide +kernel
theorem dX3_mixed_13 : decode cX3_mixed 13 = .ok (.invokevirtual 111, 3) := by decide +kernel
theorem dX3_mixed_16 : decode cX3_mixed 16 = .ok (.ifCond .le 19, 3) := by decide +kernel
theorem dX3_mixed_19 : decode cX3_mixed 19 = .ok (.aload_n 0, 1) := by decide +kernel
theorem dX3_mixed_20 : decode cX3_mixed 20 = .ok (.iload_n 2, 1) := by decide +kernel
theorem dX3_mixed_21 : decode cX3_mixed 21 = .ok (.invokevirtual 111, 3) := by decide +kernel
theorem dX3_mixed_24 : decode cX3_mixed 24 = .ok (.aload_n 0, 1) := by decide +kernel
theorem dX3_mixed_25 : decode cX3_mixed 25 = .ok (.getfield 59, 3) := by decide +kernel
theorem dX3_mixed_28 : decode cX3_mixed 28 = .ok (.if_icmp .ge 7, 3) := by decide +kernel
theorem dX3_mixed_31 : decode cX3_mixed 31 = .ok (.iconst 1, 1) := by decide +kernel
theorem dX3_mixed_32 : decode cX3_mixed 32 = .ok (.goto 4, 3) := by decide +kernel
theorem dX3_mixed_35 : decode cX3_mixed 35 = .ok (.iconst 0, 1) := by decide +kernel
theorem dX3_mixed_36 : decode cX3_mixed 36 = .ok (.iadd, 1) := by decide +kernel
theorem dX3_mixed_37 : decode cX3_mixed 37 = .ok (.istore_n 1, 1) := by decide +kernel
theorem dX3_mixed_38 : decode cX3_mixed 38 = .ok (.iinc 2 1, 3) := by decide +kernel
theorem dX3_mixed_41 : decode cX3_mixed 41 = .ok (.goto (-37), 3) := by decide +kernel
theorem dX3_mixed_44 : decode cX3_mixed 44 = .ok (.iload_n 1, 1) := by decide +kernel
theorem dX3_mixed_45 : decode cX3_mixed 45 = .ok (.ireturn, 1) := by decide +kernel
end
section
theorem dL_law_0 : decode cL_law 0 = .ok (.new 7, 3) := by decide +kernel
theorem dL_law_3 : decode cL_law 3 = .ok (.dup, 1) := by decide +kernel
theorem dL_law_4 : decode cL_law 4 = .ok (.invokespecial 9, 3) := by decide +kernel
theorem dL_law_7 : decode cL_law 7 = .ok (.astore_n 1, 1) := by decide +kernel
theorem dL_law_8 : decode cL_law 8 = .ok (.new 10, 3) := by decide +kernel
theorem dL_law_11 : decode cL_law 11 = .ok (.dup, 1) := by decide +kernel
theorem dL_law_12 : decode cL_law 12 = .ok (.invokespecial 12, 3) := by decide +kernel
theorem dL_law_15 : decode cL_law 15 = .ok (.astore_n 2, 1) := by decide +kernel
theorem dL_law_16 : decode cL_law 16 = .ok (.iconst 0, 1) := by decide +kernel
theorem dL_law_17 : decode cL_law 17 = .ok (.istore_n 3, 1) := by decide +kernel
theorem dL_law_18 : decode cL_law 18 = .ok (.iload_n 3, 1) := by decide +kernel
theorem dL_law_19 : decode cL_law 19 = .ok (.aload_n 0, 1) := by decide +kernel
theorem dL_law_20 : decode cL_law 20 = .ok (.arraylength, 1) := by decide +kernel
theorem dL_law_21 : decode cL_law 21 = .ok (.iconst 5, 1) := by decide +kernel
theorem dL_law_22 : decode cL_law 22 = .ok (.isub, 1) := by decide +kernel
theorem dL_law_23 : decode cL_law 23 = .ok (.if_icmp .gt 1141, 3) := by decide +kernel
theorem dL_law_26 : decode cL_law 26 = .ok (.aload_n 0, 1) := by decide +kernel
theorem dL_law_27 : decode cL_law 27 = .ok (.iload_n 3, 1) := by decide +kernel
theorem dL_law_28 : decode cL_law 28 = .ok (.iaload, 1) := by decide +kernel
theorem dL_law_29 : decode cL_law 29 = .ok (.bipush 31, 2) := by decide +kernel
theorem dL_law_31 : decode cL_law 31 = .ok (.iand, 1) := by decide +kernel
theorem dL_law_32 : decode cL_law 32 = .ok (.tableswitch 1126 0 27 #[128, 161, 210, 243, 296, 349, 418, 471, 540, 593, 636, 669, 692, 715, 748, 781, 814, 837, 870, 893, 916, 939, 962, 995, 1018, 1057, 1070, 1103], 128) := by decide +kernel
theorem dL_law_160 : decode cL_law 160 = .ok (.aload_n 1, 1) := by decide +kernel
theorem dL_law_161 : decode cL_law 161 = .ok (.aload_n 0, 1) := by decide +kernel
theorem dL_law_162 : decode cL_law 162 = .ok (.iload_n 3, 1) := by decide +kernel
theorem dL_law_163 : decode cL_law 163 = .ok (.iconst 1, 1) := by decide +kernel
theorem dL_law_164 : decode cL_law 164 = .ok (.iadd, 1) := by decide +kernel
theorem dL_law_165 : decode cL_law 165 = .ok (.iaload, 1) := by decide +kernel
theorem dL_law_166 : decode cL_law 166 = .ok (.aload_n 0, 1) := by decide +kernel
theorem dL_law_167 : decode cL_law 167 = .ok (.iload_n 3, 1) := by decide +kernel
theorem dL_law_168 : decode cL_law 168 = .ok (.iconst 2, 1) := by decide +kernel
theorem dL_law_169 : decode cL_law 169 = .ok (.iadd, 1) := by decide +kernel
theorem dL_law_170 : decode cL_law 170 = .ok (.iaload, 1) := by decide +kernel
theorem dL_law_171 : decode cL_law 171 = .ok (.invokevirtual 13, 3) := by decide +kernel
theorem dL_law_174 : decode cL_law 174 = .ok (.aload_n 2, 1) := by decide +kernel
theorem dL_law_175 : decode cL_law 175 = .ok (.aload_n 0, 1) := by decide +kernel
theorem dL_law_176 : decode cL_law 176 = .ok (.iload_n 3, 1) := by decide +kernel
theorem dL_law_177 : decode cL_law 177 = .ok (.iconst 1, 1) := by decide +kernel
theorem dL_law_178 : decode cL_law 178 = .ok (.iadd, 1) := by decide +kernel
theorem dL_law_179 : decode cL_law 179 = .ok (.iaload, 1) := by decide +kernel
theorem dL_law_180 : decode cL_law 180 = .ok (.aload_n 0, 1) := by decide +kernel
theorem dL_law_181 : decode cL_law 181 = .ok (.iload_n 3, 1) := by decide +kernel
theorem dL_law_182 : decode cL_law 182 = .ok (.iconst 2, 1) := by decide +kernel
theorem dL_law_183 : decode cL_law 183 = .ok (.iadd, 1) := by decide +kernel
theorem dL_law_184 : decode cL_law 184 = .ok (.iaload, 1) := by decide +kernel
theorem dL_law_185 : decode cL_law 185 = .ok (.invokevirtual 17, 3) := by decide +kernel
theorem dL_law_188 : decode cL_law 188 = .ok (.if_icmp .eq 970, 3) := by decide +kernel
theorem dL_law_191 : decode cL_law 191 = .ok (.iconst 0, 1) := by decide +kernel
theorem dL_law_192 : decode cL_law 192 = .ok (.ireturn, 1) := by decide +kernel
theorem dL_law_193 : decode cL_law 193 = .ok (.aload_n 1, 1) := by decide +kernel
theorem dL_law_194 : decode cL_law 194 = .ok (.aload_n 0, 1) := by decide +kernel
theorem dL_law_195 : decode cL_law 195 = .ok (.iload_n 3, 1) := by decide +kernel
theorem dL_law_196 : decode cL_law 196 = .ok (.iconst 1, 1) := by decide +kernel
theorem dL_law_197 : decode cL_law 197 = .ok (.iadd, 1) := by decide +kernel
theorem dL_law_198 : decode cL_law 198 = .ok (.iaload, 1) := by decide +kernel
theorem dL_law_199 : decode cL_law 199 = .ok (.aload_n 0, 1) := by decide +kernel
theorem dL_law_200 : decode cL_law 200 = .ok (.iload_n 3, 1) := by decide +kernel
theorem dL_law_201 : decode cL_law 201 = .ok (.iconst 2, 1) := by decide +kernel
theorem dL_law_202 : decode cL_law 202 = .ok (.iadd, 1) := by decide +kernel
theorem dL_law_203 : decode cL_law 203 = .ok (.iaload, 1) := by decide +kernel
theorem dL_law_204 : decode cL_law 204 = .ok (.ifCond .eq 7, 3) := by decide +kernel
theorem dL_law_207 : decode cL_law 207 = .ok (.iconst 1, 1) := by decide +kernel
theorem dL_law_208 : decode cL_law 208 = .ok (.goto 4, 3) := by decide +kernel
theorem dL_law_211 : decode cL_law 211 = .ok (.iconst 0, 1) := by decide +kernel
theorem dL_law_212 : decode cL_law 212 = .ok (.invokevirtual 18, 3) := by decide +kernel
theorem dL_law_215 : decode cL_law 215 = .ok (.aload_n 2, 1) := by decide +kernel
theorem dL_law_216 : decode cL_law 216 = .ok (.aload_n 0, 1) := by decide +kernel
theorem dL_law_217 : decode cL_law 217 = .ok (.iload_n 3, 1) := by decide +kernel
theorem dL_law_218 : decode cL_law 218 = .ok (.iconst 1, 1) := by decide +kernel
theorem dL_law_219 : decode cL_law 219 = .ok (.iadd, 1) := by decide +kernel
theorem dL_law_220 : decode cL_law 220 = .ok (.iaload, 1) := by decide +kernel
theorem dL_law_221 : decode cL_law 221 = .ok (.aload_n 0, 1) := by decide +kernel
theorem dL_law_222 : decode cL_law 222 = .ok (.iload_n 3, 1) := by decide +kernel
theorem dL_law_223 : decode cL_law 223 = .ok (.iconst 2, 1) := by decide +kernel
theorem dL_law_224 : decode cL_law 224 = .ok (.iadd, 1) := by decide +kernel
theorem dL_law_225 : decode cL_law 225 = .ok (.iaload, 1) := by decide +kernel
theorem dL_law_226 : decode cL_law 226 = .ok (.ifCond .eq 7, 3) := by decide +kernel
theorem dL_law_229 : decode cL_law 229 = .ok (.iconst 1, 1) := by decide +kernel
theorem dL_law_230 : decode cL_law 230 = .ok (.goto 4, 3) := by decide +kernel
theorem dL_law_233 : decode cL_law 233 = .ok (.iconst 0, 1) := by decide +kernel
theorem dL_law_234 : decode cL_law 234 = .ok (.invokevirtual 22, 3) := by decide +kernel
theorem dL_law_237 : decode cL_law 237 = .ok (.if_icmp .eq 921, 3) := by decide +kernel
theorem dL_law_240 : decode cL_law 240 = .ok (.iconst 0, 1) := by decide +kernel
theorem dL_law_241 : decode cL_law 241 = .ok (.ireturn, 1) := by decide +kernel
theorem dL_law_242 : decode cL_law 242 = .ok (.aload_n 1, 1) := by decide +kernel
theorem dL_law_243 : decode cL_law 243 = .ok (.aload_n 0, 1) := by decide +kernel
theorem dL_law_244 : decode cL_law 244 = .ok (.iload_n 3, 1) := by decide +kernel
theorem dL_law_245 : decode cL_law 245 = .ok (.iconst 1, 1) := by decide +kernel
theorem dL_law_246 : decode cL_law 246 = .ok (.iadd, 1) := by decide +kernel
theorem dL_law_247 : decode cL_law 247 = .ok (.iaload, 1) := by decide +kernel
theorem dL_law_248 : decode cL_law 248 = .ok (.aload_n 0, 1) := by decide +kernel
theorem dL_law_249 : decode cL_law 249 = .ok (.iload_n 3, 1) := by decide +kernel
theorem dL_law_250 : decode cL_law 250 = .ok (.iconst 2, 1) := by decide +kernel
theorem dL_law_251 : decode cL_law 251 = .ok (.iadd, 1) := by decide +kernel
theorem dL_law_252 : decode cL_law 252 = .ok (.iaload, 1) := by decide +kernel
theorem dL_law_253 : decode cL_law 253 = .ok (.invokevirtual 23, 3) := by decide +kernel
theorem dL_law_256 : decode cL_law 256 = .ok (.aload_n 2, 1) := by decide +kernel
theorem dL_law_257 : decode cL_law 257 = .ok (.aload_n 0, 1) := by decide +kernel
theorem dL_law_258 : decode cL_law 258 = .ok (.iload_n 3, 1) := by decide +kernel
theorem dL_law_259 : decode cL_law 259 = .ok (.iconst 1, 1) := by decide +kernel
theorem dL_law_260 : decode cL_law 260 = .ok (.iadd, 1) := by decide +kernel
theorem dL_law_261 : decode cL_law 261 = .ok (.iaload, 1) := by decide +kernel
theorem dL_law_262 : decode cL_law 262 = .ok (.aload_n 0, 1) := by decide +kernel
theorem dL_law_263 : decode cL_law 263 = .ok (.iload_n 3, 1) := by decide +kernel
theorem dL_law_264 : decode cL_law 264 = .ok (.iconst 2, 1) := by decide +kernel
theorem dL_law_265 : decode cL_law 265 = .ok (.iadd, 1) := by decide +kernel
theorem dL_law_266 : decode cL_law 266 = .ok (.iaload, 1) := by decide +kernel
theorem dL_law_267 : decode cL_law 267 = .ok (.invokevirtual 27, 3) := by decide +kernel
theorem dL_law_270 : decode cL_law 270 = .ok (.if_icmp .eq 888, 3) := by decide +kernel
theorem dL_law_273 : decode cL_law 273 = .ok (.iconst 0, 1) := by decide +kernel
theorem dL_law_274 : decode cL_law 274 = .ok (.ireturn, 1) := by decide +kernel
theorem dL_law_275 : decode cL_law 275 = .ok (.aload_n 1, 1) := by decide +kernel
theorem dL_law_276 : decode cL_law 276 = .ok (.aload_n 0, 1) := by decide +kernel
theorem dL_law_277 : decode cL_law 277 = .ok (.iload_n 3, 1) := by decide +kernel
theorem dL_law_278 : decode cL_law 278 = .ok (.iconst 1, 1) := by decide +kernel
theorem dL_law_279 : decode cL_law 279 = .ok (.iadd, 1) := by decide +kernel
theorem dL_law_280 : decode cL_law 280 = .ok (.iaload, 1) := by decide +kernel
theorem dL_law_281 : decode cL_law 281 = .ok (.aload_n 0, 1) := by decide +kernel
theorem dL_law_282 : decode cL_law 282 = .ok (.iload_n 3, 1) := by decide +kernel
theorem dL_law_283 : decode cL_law 283 = .ok (.iconst 2, 1) := by decide +kernel
theorem dL_law_284 : decode cL_law 284 = .ok (.iadd, 1) := by decide +kernel
theorem dL_law_285 : decode cL_law 285 = .ok (.iaload, 1) := by decide +kernel
theorem dL_law_286 : decode cL_law 286 = .ok (.aload_n 0, 1) := by decide +kernel
theorem dL_law_287 : decode cL_law 287 = .ok (.iload_n 3, 1) := by decide +kernel
theorem dL_law_288 : decode cL_law 288 = .ok (.iconst 3, 1) := by decide +kernel
theorem dL_law_289 : decode cL_law 289 = .ok (.iadd, 1) := by decide +kernel
theorem dL_law_290 : decode cL_law 290 = .ok (.iaload, 1) := by decide +kernel
theorem dL_law_291 : decode cL_law 291 = .ok (.aload_n 0, 1) := by decide +kernel
theorem dL_law_292 : decode cL_law 292 = .ok (.iload_n 3, 1) := by decide +kernel
theorem dL_law_293 : decode cL_law 293 = .ok (.iconst 4, 1) := by decide +kernel
theorem dL_law_294 : decode cL_law 294 = .ok (.iadd, 1) := by decide +kernel
theorem dL_law_295 : decode cL_law 295 = .ok (.iaload, 1) := by decide +kernel
theorem dL_law_296 : decode cL_law 296 = .ok (.invokevirtual 28, 3) := by decide +kernel
theorem dL_law_299 : decode cL_law 299 = .ok (.aload_n 2, 1) := by decide +kernel
theorem dL_law_300 : decode cL_law 300 = .ok (.aload_n 0, 1) := by decide +kernel
theorem dL_law_301 : decode cL_law 301 = .ok (.iload_n 3, 1) := by decide +kernel
theorem dL_law_302 : decode cL_law 302 = .ok (.iconst 1, 1) := by decide +kernel
theorem dL_law_303 : decode cL_law 303 = .ok (.iadd, 1) := by decide +kernel
theorem dL_law_304 : decode cL_law 304 = .ok (.iaload, 1) := by decide +kernel
theorem dL_law_305 : decode cL_law 305 = .ok (.aload_n 0, 1) := by decide +kernel
theorem dL_law_306 : decode cL_law 306 = .ok (.iload_n 3, 1) := by decide +kernel
theorem dL_law_307 : decode cL_law 307 = .ok (.iconst 2, 1) := by decide +kernel
theorem dL_law_308 : decode cL_law 308 = .ok (.iadd, 1) := by decide +kernel
theorem dL_law_309 : decode cL_law 309 = .ok (.iaload, 1) := by decide +kernel
theorem dL_law_310 : decode cL_law 310 = .ok (.aload_n 0, 1) := by decide +kernel
theorem dL_law_311 : decode cL_law 311 = .ok (.iload_n 3, 1) := by decide +kernel
theorem dL_law_312 : decode cL_law 312 = .ok (.iconst 3, 1) := by decide +kernel
theorem dL_law_313 : decode cL_law 313 = .ok (.iadd, 1) := by decide +kernel
theorem dL_law_314 : decode cL_law 314 = .ok (.iaload, 1) := by decide +kernel
theorem dL_law_315 : decode cL_law 315 = .ok (.aload_n 0, 1) := by decide +kernel
theorem dL_law_316 : decode cL_law 316 = .ok (.iload_n 3, 1) := by decide +kernel
theorem dL_law_317 : decode cL_law 317 = .ok (.iconst 4, 1) := by decide +kernel
theorem dL_law_318 : decode cL_law 318 = .ok (.iadd, 1) := by decide +kernel
theorem dL_law_319 : decode cL_law 319 = .ok (.iaload, 1) := by decide +kernel
theorem dL_law_320 : decode cL_law 320 = .ok (.invokevirtual 32, 3) := by decide +kernel
theorem dL_law_323 : decode cL_law 323 = .ok (.if_icmp .eq 835, 3) := by decide +kernel
theorem dL_law_326 : decode cL_law 326 = .ok (.iconst 0, 1) := by decide +kernel
theorem dL_law_327 : decode cL_law 327 = .ok (.ireturn, 1) := by decide +kernel
theorem dL_law_328 : decode cL_law 328 = .ok (.aload_n 1, 1) := by decide +kernel
theorem dL_law_329 : decode cL_law 329 = .ok (.aload_n 0, 1) := by decide +kernel
theorem dL_law_330 : decode cL_law 330 = .ok (.iload_n 3, 1) := by decide +kernel
theorem dL_law_331 : decode cL_law 331 = .ok (.iconst 1, 1) := by decide +kernel
theorem dL_law_332 : decode cL_law 332 = .ok (.iadd, 1) := by decide +kernel
theorem dL_law_333 : decode cL_law 333 = .ok (.iaload, 1) := by decide +kernel
theorem dL_law_334 : decode cL_law 334 = .ok (.aload_n 0, 1) := by decide +kernel
theorem dL_law_335 : decode cL_law 335 = .ok (.iload_n 3, 1) := by decide +kernel
theorem dL_law_336 : decode cL_law 336 = .ok (.iconst 2, 1) := by decide +kernel
theorem dL_law_337 : decode cL_law 337 = .ok (.iadd, 1) := by decide +kernel
theorem dL_law_338 : decode cL_law 338 = .ok (.iaload, 1) := by decide +kernel
theorem dL_law_339 : decode cL_law 339 = .ok (.aload_n 0, 1) := by decide +kernel
theorem dL_law_340 : decode cL_law 340 = .ok (.iload_n 3, 1) := by decide +kernel
theorem dL_law_341 : decode cL_law 341 = .ok (.iconst 3, 1) := by decide +kernel
theorem dL_law_342 : decode cL_law 342 = .ok (.iadd, 1) := by decide +kernel
theorem dL_law_343 : decode cL_law 343 = .ok (.iaload, 1) := by decide +kernel
theorem dL_law_344 : decode cL_law 344 = .ok (.aload_n 0, 1) := by decide +kernel
theorem dL_law_345 : decode cL_law 345 = .ok (.iload_n 3, 1) := by decide +kernel
theorem dL_law_346 : decode cL_law 346 = .ok (.iconst 4, 1) := by decide +kernel
theorem dL_law_347 : decode cL_law 347 = .ok (.iadd, 1) := by decide +kernel
theorem dL_law_348 : decode cL_law 348 = .ok (.iaload, 1) := by decide +kernel
theorem dL_law_349 : decode cL_law 349 = .ok (.invokevirtual 33, 3) := by decide +kernel
theorem dL_law_352 : decode cL_law 352 = .ok (.aload_n 2, 1) := by decide +kernel
theorem dL_law_353 : decode cL_law 353 = .ok (.aload_n 0, 1) := by decide +kernel
theorem dL_law_354 : decode cL_law 354 = .ok (.iload_n 3, 1) := by decide +kernel
theorem dL_law_355 : decode cL_law 355 = .ok (.iconst 1, 1) := by decide +kernel
theorem dL_law_356 : decode cL_law 356 = .ok (.iadd, 1) := by decide +kernel
theorem dL_law_357 : decode cL_law 357 = .ok (.iaload, 1) := by decide +kernel
theorem dL_law_358 : decode cL_law 358 = .ok (.aload_n 0, 1) := by decide +kernel
theorem dL_law_359 : decode cL_law 359 = .ok (.iload_n 3, 1) := by decide +kernel
theorem dL_law_360 : decode cL_law 360 = .ok (.iconst 2, 1) := by decide +kernel
theorem dL_law_361 : decode cL_law 361 = .ok (.iadd, 1) := by decide +kernel
theorem dL_law_362 : decode cL_law 362 = .ok (.iaload, 1) := by decide +kernel
theorem dL_law_363 : decode cL_law 363 = .ok (.aload_n 0, 1) := by decide +kernel
theorem dL_law_364 : decode cL_law 364 = .ok (.iload_n 3, 1) := by decide +kernel
theorem dL_law_365 : decode cL_law 365 = .ok (.iconst 3, 1) := by decide +kernel
theorem dL_law_366 : decode cL_law 366 = .ok (.iadd, 1) := by decide +kernel
theorem dL_law_367 : decode cL_law 367 = .ok (.iaload, 1) := by decide +kernel
theorem dL_law_368 : decode cL_law 368 = .ok (.aload_n 0, 1) := by decide +kernel
theorem dL_law_369 : decode cL_law 369 = .ok (.iload_n 3, 1) := by decide +kernel
theorem dL_law_370 : decode cL_law 370 = .ok (.iconst 4, 1) := by decide +kernel
theorem dL_law_371 : decode cL_law 371 = .ok (.iadd, 1) := by decide +kernel
theorem dL_law_372 : decode cL_law 372 = .ok (.iaload, 1) := by decide +kernel
theorem dL_law_373 : decode cL_law 373 = .ok (.invokevirtual 36, 3) := by decide +kernel
theorem dL_law_376 : decode cL_law 376 = .ok (.if_icmp .eq 782, 3) := by decide +kernel
theorem dL_law_379 : decode cL_law 379 = .ok (.iconst 0, 1) := by decide +kernel
theorem dL_law_380 : decode cL_law 380 = .ok (.ireturn, 1) := by decide +kernel
theorem dL_law_381 : decode cL_law 381 = .ok (.aload_n 1, 1) := by decide +kernel
theorem dL_law_382 : decode cL_law 382 = .ok (.aload_n 0, 1) := by decide +kernel
theorem dL_law_383 : decode cL_law 383 = .ok (.iload_n 3, 1) := by decide +kernel
theorem dL_law_384 : decode cL_law 384 = .ok (.iconst 1, 1) := by decide +kernel
theorem dL_law_385 : decode cL_law 385 = .ok (.iadd, 1) := by decide +kernel
theorem dL_law_386 : decode cL_law 386 = .ok (.iaload, 1) := by decide +kernel
theorem dL_law_387 : decode cL_law 387 = .ok (.aload_n 0, 1) := by decide +kernel
theorem dL_law_388 : decode cL_law 388 = .ok (.iload_n 3, 1) := by decide +kernel
theorem dL_law_389 : decode cL_law 389 = .ok (.iconst 2, 1) := by decide +kernel
theorem dL_law_390 : decode cL_law 390 = .ok (.iadd, 1) := by decide +kernel
theorem dL_law_391 : decode cL_law 391 = .ok (.iaload, 1) := by decide +kernel
theorem dL_law_392 : decode cL_law 392 = .ok (.aload_n 0, 1) := by decide +kernel
theorem dL_law_393 : decode cL_law 393 = .ok (.iload_n 3, 1) := by decide +kernel
theorem dL_law_394 : decode cL_law 394 = .ok (.iconst 3, 1) := by decide +kernel
theorem dL_law_395 : decode cL_law 395 = .ok (.iadd, 1) := by decide +kernel
theorem dL_law_396 : decode cL_law 396 = .ok (.iaload, 1) := by decide +kernel
theorem dL_law_397 : decode cL_law 397 = .ok (.aload_n 0, 1) := by decide +kernel
theorem dL_law_398 : decode cL_law 398 = .ok (.iload_n 3, 1) := by decide +kernel
theorem dL_law_399 : decode cL_law 399 = .ok (.iconst 4, 1) := by decide +kernel
theorem dL_law_400 : decode cL_law 400 = .ok (.iadd, 1) := by decide +kernel
theorem dL_law_401 : decode cL_law 401 = .ok (.iaload, 1) := by decide +kernel
theorem dL_law_402 : decode cL_law 402 = .ok (.ifCond .eq 7, 3) := by decide +kernel
theorem dL_law_405 : decode cL_law 405 = .ok (.iconst 1, 1) := by decide +kernel
theorem dL_law_406 : decode cL_law 406 = .ok (.goto 4, 3) := by decide +kernel
theorem dL_law_409 : decode cL_law 409 = .ok (.iconst 0, 1) := by decide +kernel
theorem dL_law_410 : decode cL_law 410 = .ok (.invokevirtual 37, 3) := by decide +kernel
theorem dL_law_413 : decode cL_law 413 = .ok (.aload_n 2, 1) := by decide +kernel
theorem dL_law_414 : decode cL_law 414 = .ok (.aload_n 0, 1) := by decide +kernel
theorem dL_law_415 : decode cL_law 415 = .ok (.iload_n 3, 1) := by decide +kernel
theorem dL_law_416 : decode cL_law 416 = .ok (.iconst 1, 1) := by decide +kernel
theorem dL_law_417 : decode cL_law 417 = .ok (.iadd, 1) := by decide +kernel
theorem dL_law_418 : decode cL_law 418 = .ok (.iaload, 1) := by decide +kernel
theorem dL_law_419 : decode cL_law 419 = .ok (.aload_n 0, 1) := by decide +kernel
theorem dL_law_420 : decode cL_law 420 = .ok (.iload_n 3, 1) := by decide +kernel
theorem dL_law_421 : decode cL_law 421 = .ok (.iconst 2, 1) := by decide +kernel
theorem dL_law_422 : decode cL_law 422 = .ok (.iadd, 1) := by decide +kernel
theorem dL_law_423 : decode cL_law 423 = .ok (.iaload, 1) := by decide +kernel
theorem dL_law_424 : decode cL_law 424 = .ok (.aload_n 0, 1) := by decide +kernel
theorem dL_law_425 : decode cL_law 425 = .ok (.iload_n 3, 1) := by decide +kernel
theorem dL_law_426 : decode cL_law 426 = .ok (.iconst 3, 1) := by decide +kernel
theorem dL_law_427 : decode cL_law 427 = .ok (.iadd, 1) := by decide +kernel
theorem dL_law_428 : decode cL_law 428 = .ok (.iaload, 1) := by decide +kernel
theorem dL_law_429 : decode cL_law 429 = .ok (.aload_n 0, 1) := by decide +kernel
theorem dL_law_430 : decode cL_law 430 = .ok (.iload_n 3, 1) := by decide +kernel
theorem dL_law_431 : decode cL_law 431 = .ok (.iconst 4, 1) := by decide +kernel
theorem dL_law_432 : decode cL_law 432 = .ok (.iadd, 1) := by decide +kernel
theorem dL_law_433 : decode cL_law 433 = .ok (.iaload, 1) := by decide +kernel
theorem dL_law_434 : decode cL_law 434 = .ok (.ifCond .eq 7, 3) := by decide +kernel
theorem dL_law_437 : decode cL_law 437 = .ok (.iconst 1, 1) := by decide +kernel
theorem dL_law_438 : decode cL_law 438 = .ok (.goto 4, 3) := by decide +kernel
theorem dL_law_441 : decode cL_law 441 = .ok (.iconst 0, 1) := by decide +kernel
theorem dL_law_442 : decode cL_law 442 = .ok (.invokevirtual 41, 3) := by decide +kernel
theorem dL_law_445 : decode cL_law 445 = .ok (.if_icmp .eq 713, 3) := by decide +kernel
theorem dL_law_448 : decode cL_law 448 = .ok (.iconst 0, 1) := by decide +kernel
theorem dL_law_449 : decode cL_law 449 = .ok (.ireturn, 1) := by decide +kernel
theorem dL_law_450 : decode cL_law 450 = .ok (.aload_n 1, 1) := by decide +kernel
theorem dL_law_451 : decode cL_law 451 = .ok (.aload_n 0, 1) := by decide +kernel
theorem dL_law_452 : decode cL_law 452 = .ok (.iload_n 3, 1) := by decide +kernel
theorem dL_law_453 : decode cL_law 453 = .ok (.iconst 1, 1) := by decide +kernel
theorem dL_law_454 : decode cL_law 454 = .ok (.iadd, 1) := by decide +kernel
theorem dL_law_455 : decode cL_law 455 = .ok (.iaload, 1) := by decide +kernel
theorem dL_law_456 : decode cL_law 456 = .ok (.aload_n 0, 1) := by decide +kernel
theorem dL_law_457 : decode cL_law 457 = .ok (.iload_n 3, 1) := by decide +kernel
theorem dL_law_458 : decode cL_law 458 = .ok (.iconst 2, 1) := by decide +kernel
theorem dL_law_459 : decode cL_law 459 = .ok (.iadd, 1) := by decide +kernel
theorem dL_law_460 : decode cL_law 460 = .ok (.iaload, 1) := by decide +kernel
theorem dL_law_461 : decode cL_law 461 = .ok (.aload_n 0, 1) := by decide +kernel
theorem dL_law_462 : decode cL_law 462 = .ok (.iload_n 3, 1) := by decide +kernel
theorem dL_law_463 : decode cL_law 463 = .ok (.iconst 3, 1) := by decide +kernel
theorem dL_law_464 : decode cL_law 464 = .ok (.iadd, 1) := by decide +kernel
theorem dL_law_465 : decode cL_law 465 = .ok (.iaload, 1) := by decide +kernel
theorem dL_law_466 : decode cL_law 466 = .ok (.aload_n 0, 1) := by decide +kernel
theorem dL_law_467 : decode cL_law 467 = .ok (.iload_n 3, 1) := by decide +kernel
theorem dL_law_468 : decode cL_law 468 = .ok (.iconst 4, 1) := by decide +kernel
theorem dL_law_469 : decode cL_law 469 = .ok (.iadd, 1) := by decide +kernel
theorem dL_law_470 : decode cL_law 470 = .ok (.iaload, 1) := by decide +kernel
theorem dL_law_471 : decode cL_law 471 = .ok (.invokevirtual 42, 3) := by decide +kernel
theorem dL_law_474 : decode cL_law 474 = .ok (.aload_n 2, 1) := by decide +kernel
theorem dL_law_475 : decode cL_law 475 = .ok (.aload_n 0, 1) := by decide +kernel
theorem dL_law_476 : decode cL_law 476 = .ok (.iload_n 3, 1) := by decide +kernel
theorem dL_law_477 : decode cL_law 477 = .ok (.iconst 1, 1) := by decide +kernel
theorem dL_law_478 : decode cL_law 478 = .ok (.iadd, 1) := by decide +kernel
theorem dL_law_479 : decode cL_law 479 = .ok (.iaload, 1) := by decide +kernel
theorem dL_law_480 : decode cL_law 480 = .ok (.aload_n 0, 1) := by decide +kernel
theorem dL_law_481 : decode cL_law 481 = .ok (.iload_n 3, 1) := by decide +kernel
theorem dL_law_482 : decode cL_law 482 = .ok (.iconst 2, 1) := by decide +kernel
theorem dL_law_483 : decode cL_law 483 = .ok (.iadd, 1) := by decide +kernel
theorem dL_law_484 : decode cL_law 484 = .ok (.iaload, 1) := by decide +kernel
theorem dL_law_485 : decode cL_law 485 = .ok (.aload_n 0, 1) := by decide +kernel
theorem dL_law_486 : decode cL_law 486 = .ok (.iload_n 3, 1) := by decide +kernel
theorem dL_law_487 : decode cL_law 487 = .ok (.iconst 3, 1) := by decide +kernel
theorem dL_law_488 : decode cL_law 488 = .ok (.iadd, 1) := by decide +kernel
theorem dL_law_489 : decode cL_law 489 = .ok (.iaload, 1) := by decide +kernel
theorem dL_law_490 : decode cL_law 490 = .ok (.aload_n 0, 1) := by decide +kernel
theorem dL_law_491 : decode cL_law 491 = .ok (.iload_n 3, 1) := by decide +kernel
theorem dL_law_492 : decode cL_law 492 = .ok (.iconst 4, 1) := by decide +kernel
theorem dL_law_493 : decode cL_law 493 = .ok (.iadd, 1) := by decide +kernel
theorem dL_law_494 : decode cL_law 494 = .ok (.iaload, 1) := by decide +kernel
theorem dL_law_495 : decode cL_law 495 = .ok (.invokevirtual 45, 3) := by decide +kernel
theorem dL_law_498 : decode cL_law 498 = .ok (.if_icmp .eq 660, 3) := by decide +kernel
theorem dL_law_501 : decode cL_law 501 = .ok (.iconst 0, 1) := by decide +kernel
theorem dL_law_502 : decode cL_law 502 = .ok (.ireturn, 1) := by decide +kernel
theorem dL_law_503 : decode cL_law 503 = .ok (.aload_n 1, 1) := by decide +kernel
theorem dL_law_504 : decode cL_law 504 = .ok (.aload_n 0, 1) := by decide +kernel
theorem dL_law_505 : decode cL_law 505 = .ok (.iload_n 3, 1) := by decide +kernel
theorem dL_law_506 : decode cL_law 506 = .ok (.iconst 1, 1) := by decide +kernel
theorem dL_law_507 : decode cL_law 507 = .ok (.iadd, 1) := by decide +kernel
theorem dL_law_508 : decode cL_law 508 = .ok (.iaload, 1) := by decide +kernel
theorem dL_law_509 : decode cL_law 509 = .ok (.aload_n 0, 1) := by decide +kernel
theorem dL_law_510 : decode cL_law 510 = .ok (.iload_n 3, 1) := by decide +kernel
theorem dL_law_511 : decode cL_law 511 = .ok (.iconst 2, 1) := by decide +kernel
theorem dL_law_512 : decode cL_law 512 = .ok (.iadd, 1) := by decide +kernel
theorem dL_law_513 : decode cL_law 513 = .ok (.iaload, 1) := by decide +kernel
theorem dL_law_514 : decode cL_law 514 = .ok (.aload_n 0, 1) := by decide +kernel
theorem dL_law_515 : decode cL_law 515 = .ok (.iload_n 3, 1) := by decide +kernel
theorem dL_law_516 : decode cL_law 516 = .ok (.iconst 3, 1) := by decide +kernel
theorem dL_law_517 : decode cL_law 517 = .ok (.iadd, 1) := by decide +kernel
theorem dL_law_518 : decode cL_law 518 = .ok (.iaload, 1) := by decide +kernel
theorem dL_law_519 : decode cL_law 519 = .ok (.aload_n 0, 1) := by decide +kernel
theorem dL_law_520 : decode cL_law 520 = .ok (.iload_n 3, 1) := by decide +kernel
theorem dL_law_521 : decode cL_law 521 = .ok (.iconst 4, 1) := by decide +kernel
theorem dL_law_522 : decode cL_law 522 = .ok (.iadd, 1) := by decide +kernel
theorem dL_law_523 : decode cL_law 523 = .ok (.iaload, 1) := by decide +kernel
theorem dL_law_524 : decode cL_law 524 = .ok (.ifCond .eq 7, 3) := by decide +kernel
theorem dL_law_527 : decode cL_law 527 = .ok (.iconst 1, 1) := by decide +kernel
theorem dL_law_528 : decode cL_law 528 = .ok (.goto 4, 3) := by decide +kernel
theorem dL_law_531 : decode cL_law 531 = .ok (.iconst 0, 1) := by decide +kernel
theorem dL_law_532 : decode cL_law 532 = .ok (.invokevirtual 46, 3) := by decide +kernel
theorem dL_law_535 : decode cL_law 535 = .ok (.aload_n 2, 1) := by decide +kernel
theorem dL_law_536 : decode cL_law 536 = .ok (.aload_n 0, 1) := by decide +kernel
theorem dL_law_537 : decode cL_law 537 = .ok (.iload_n 3, 1) := by decide +kernel
theorem dL_law_538 : decode cL_law 538 = .ok (.iconst 1, 1) := by decide +kernel
theorem dL_law_539 : decode cL_law 539 = .ok (.iadd, 1) := by decide +kernel
theorem dL_law_540 : decode cL_law 540 = .ok (.iaload, 1) := by decide +kernel
theorem dL_law_541 : decode cL_law 541 = .ok (.aload_n 0, 1) := by decide +kernel
theorem dL_law_542 : decode cL_law 542 = .ok (.iload_n 3, 1) := by decide +kernel
theorem dL_law_543 : decode cL_law 543 = .ok (.iconst 2, 1) := by decide +kernel
theorem dL_law_544 : decode cL_law 544 = .ok (.iadd, 1) := by decide +kernel
theorem dL_law_545 : decode cL_law 545 = .ok (.iaload, 1) := by decide +kernel
theorem dL_law_546 : decode cL_law 546 = .ok (.aload_n 0, 1) := by decide +kernel
theorem dL_law_547 : decode cL_law 547 = .ok (.iload_n 3, 1) := by decide +kernel
theorem dL_law_548 : decode cL_law 548 = .ok (.iconst 3, 1) := by decide +kernel
theorem dL_law_549 : decode cL_law 549 = .ok (.iadd, 1) := by decide +kernel
theorem dL_law_550 : decode cL_law 550 = .ok (.iaload, 1) := by decide +kernel
theorem dL_law_551 : decode cL_law 551 = .ok (.aload_n 0, 1) := by decide +kernel
theorem dL_law_552 : decode cL_law 552 = .ok (.iload_n 3, 1) := by decide +kernel
theorem dL_law_553 : decode cL_law 553 = .ok (.iconst 4, 1) := by decide +kernel
theorem dL_law_554 : decode cL_law 554 = .ok (.iadd, 1) := by decide +kernel
theorem dL_law_555 : decode cL_law 555 = .ok (.iaload, 1) := by decide +kernel
theorem dL_law_556 : decode cL_law 556 = .ok (.ifCond .eq 7, 3) := by decide +kernel
theorem dL_law_559 : decode cL_law 559 = .ok (.iconst 1, 1) := by decide +kernel
theorem dL_law_560 : decode cL_law 560 = .ok (.goto 4, 3) := by decide +kernel
theorem dL_law_563 : decode cL_law 563 = .ok (.iconst 0, 1) := by decide +kernel
theorem dL_law_564 : decode cL_law 564 = .ok (.invokevirtual 49, 3) := by decide +kernel
theorem dL_law_567 : decode cL_law 567 = .ok (.if_icmp .eq 591, 3) := by decide +kernel
theorem dL_law_570 : decode cL_law 570 = .ok (.iconst 0, 1) := by decide +kernel
theorem dL_law_571 : decode cL_law 571 = .ok (.ireturn, 1) := by decide +kernel
theorem dL_law_572 : decode cL_law 572 = .ok (.aload_n 1, 1) := by decide +kernel
theorem dL_law_573 : decode cL_law 573 = .ok (.aload_n 0, 1) := by decide +kernel
theorem dL_law_574 : decode cL_law 574 = .ok (.iload_n 3, 1) := by decide +kernel
theorem dL_law_575 : decode cL_law 575 = .ok (.iconst 1, 1) := by decide +kernel
theorem dL_law_576 : decode cL_law 576 = .ok (.iadd, 1) := by decide +kernel
theorem dL_law_577 : decode cL_law 577 = .ok (.iaload, 1) := by decide +kernel
theorem dL_law_578 : decode cL_law 578 = .ok (.aload_n 0, 1) := by decide +kernel
theorem dL_law_579 : decode cL_law 579 = .ok (.iload_n 3, 1) := by decide +kernel
theorem dL_law_580 : decode cL_law 580 = .ok (.iconst 2, 1) := by decide +kernel
theorem dL_law_581 : decode cL_law 581 = .ok (.iadd, 1) := by decide +kernel
theorem dL_law_582 : decode cL_law 582 = .ok (.iaload, 1) := by decide +kernel
theorem dL_law_583 : decode cL_law 583 = .ok (.aload_n 0, 1) := by decide +kernel
theorem dL_law_584 : decode cL_law 584 = .ok (.iload_n 3, 1) := by decide +kernel
theorem dL_law_585 : decode cL_law 585 = .ok (.iconst 3, 1) := by decide +kernel
theorem dL_law_586 : decode cL_law 586 = .ok (.iadd, 1) := by decide +kernel
theorem dL_law_587 : decode cL_law 587 = .ok (.iaload, 1) := by decide +kernel
theorem dL_law_588 : decode cL_law 588 = .ok (.aload_n 0, 1) := by decide +kernel
theorem dL_law_589 : decode cL_law 589 = .ok (.iload_n 3, 1) := by decide +kernel
theorem dL_law_590 : decode cL_law 590 = .ok (.iconst 4, 1) := by decide +kernel
theorem dL_law_591 : decode cL_law 591 = .ok (.iadd, 1) := by decide +kernel
theorem dL_law_592 : decode cL_law 592 = .ok (.iaload, 1) := by decide +kernel
theorem dL_law_593 : decode cL_law 593 = .ok (.invokevirtual 50, 3) := by decide +kernel
theorem dL_law_596 : decode cL_law 596 = .ok (.aload_n 2, 1) := by decide +kernel
theorem dL_law_597 : decode cL_law 597 = .ok (.aload_n 0, 1) := by decide +kernel
theorem dL_law_598 : decode cL_law 598 = .ok (.iload_n 3, 1) := by decide +kernel
theorem dL_law_599 : decode cL_law 599 = .ok (.iconst 1, 1) := by decide +kernel
theorem dL_law_600 : decode cL_law 600 = .ok (.iadd, 1) := by decide +kernel
theorem dL_law_601 : decode cL_law 601 = .ok (.iaload, 1) := by decide +kernel
theorem dL_law_602 : decode cL_law 602 = .ok (.aload_n 0, 1) := by decide +kernel
theorem dL_law_603 : decode cL_law 603 = .ok (.iload_n 3, 1) := by decide +kernel
theorem dL_law_604 : decode cL_law 604 = .ok (.iconst 2, 1) := by decide +kernel
theorem dL_law_605 : decode cL_law 605 = .ok (.iadd, 1) := by decide +kernel
theorem dL_law_606 : decode cL_law 606 = .ok (.iaload, 1) := by decide +kernel
theorem dL_law_607 : decode cL_law 607 = .ok (.aload_n 0, 1) := by decide +kernel
theorem dL_law_608 : decode cL_law 608 = .ok (.iload_n 3, 1) := by decide +kernel
theorem dL_law_609 : decode cL_law 609 = .ok (.iconst 3, 1) := by decide +kernel
theorem dL_law_610 : decode cL_law 610 = .ok (.iadd, 1) := by decide +kernel
theorem dL_law_611 : decode cL_law 611 = .ok (.iaload, 1) := by decide +kernel
theorem dL_law_612 : decode cL_law 612 = .ok (.aload_n 0, 1) := by decide +kernel
theorem dL_law_613 : decode cL_law 613 = .ok (.iload_n 3, 1) := by decide +kernel
theorem dL_law_614 : decode cL_law 614 = .ok (.iconst 4, 1) := by decide +kernel
theorem dL_law_615 : decode cL_law 615 = .ok (.iadd, 1) := by decide +kernel
theorem dL_law_616 : decode cL_law 616 = .ok (.iaload, 1) := by decide +kernel
theorem dL_law_617 : decode cL_law 617 = .ok (.invokevirtual 53, 3) := by decide +kernel
theorem dL_law_620 : decode cL_law 620 = .ok (.if_icmp .eq 538, 3) := by decide +kernel
theorem dL_law_623 : decode cL_law 623 = .ok (.iconst 0, 1) := by decide +kernel
theorem dL_law_624 : decode cL_law 624 = .ok (.ireturn, 1) := by decide +kernel
theorem dL_law_625 : decode cL_law 625 = .ok (.aload_n 1, 1) := by decide +kernel
theorem dL_law_626 : decode cL_law 626 = .ok (.aload_n 0, 1) := by decide +kernel
theorem dL_law_627 : decode cL_law 627 = .ok (.iload_n 3, 1) := by decide +kernel
theorem dL_law_628 : decode cL_law 628 = .ok (.iconst 1, 1) := by decide +kernel
theorem dL_law_629 : decode cL_law 629 = .ok (.iadd, 1) := by decide +kernel
theorem dL_law_630 : decode cL_law 630 = .ok (.iaload, 1) := by decide +kernel
theorem dL_law_631 : decode cL_law 631 = .ok (.aload_n 0, 1) := by decide +kernel
theorem dL_law_632 : decode cL_law 632 = .ok (.iload_n 3, 1) := by decide +kernel
theorem dL_law_633 : decode cL_law 633 = .ok (.iconst 2, 1) := by decide +kernel
theorem dL_law_634 : decode cL_law 634 = .ok (.iadd, 1) := by decide +kernel
theorem dL_law_635 : decode cL_law 635 = .ok (.iaload, 1) := by decide +kernel
theorem dL_law_636 : decode cL_law 636 = .ok (.aload_n 0, 1) := by decide +kernel
theorem dL_law_637 : decode cL_law 637 = .ok (.iload_n 3, 1) := by decide +kernel
theorem dL_law_638 : decode cL_law 638 = .ok (.iconst 3, 1) := by decide +kernel
theorem dL_law_639 : decode cL_law 639 = .ok (.iadd, 1) := by decide +kernel
theorem dL_law_640 : decode cL_law 640 = .ok (.iaload, 1) := by decide +kernel
theorem dL_law_641 : decode cL_law 641 = .ok (.invokevirtual 54, 3) := by decide +kernel
theorem dL_law_644 : decode cL_law 644 = .ok (.aload_n 2, 1) := by decide +kernel
theorem dL_law_645 : decode cL_law 645 = .ok (.aload_n 0, 1) := by decide +kernel
theorem dL_law_646 : decode cL_law 646 = .ok (.iload_n 3, 1) := by decide +kernel
theorem dL_law_647 : decode cL_law 647 = .ok (.iconst 1, 1) := by decide +kernel
theorem dL_law_648 : decode cL_law 648 = .ok (.iadd, 1) := by decide +kernel
theorem dL_law_649 : decode cL_law 649 = .ok (.iaload, 1) := by decide +kernel
theorem dL_law_650 : decode cL_law 650 = .ok (.aload_n 0, 1) := by decide +kernel
theorem dL_law_651 : decode cL_law 651 = .ok (.iload_n 3, 1) := by decide +kernel
theorem dL_law_652 : decode cL_law 652 = .ok (.iconst 2, 1) := by decide +kernel
theorem dL_law_653 : decode cL_law 653 = .ok (.iadd, 1) := by decide +kernel
theorem dL_law_654 : decode cL_law 654 = .ok (.iaload, 1) := by decide +kernel
theorem dL_law_655 : decode cL_law 655 = .ok (.aload_n 0, 1) := by decide +kernel
theorem dL_law_656 : decode cL_law 656 = .ok (.iload_n 3, 1) := by decide +kernel
theorem dL_law_657 : decode cL_law 657 = .ok (.iconst 3, 1) := by decide +kernel
theorem dL_law_658 : decode cL_law 658 = .ok (.iadd, 1) := by decide +kernel
theorem dL_law_659 : decode cL_law 659 = .ok (.iaload, 1) := by decide +kernel
theorem dL_law_660 : decode cL_law 660 = .ok (.invokevirtual 58, 3) := by decide +kernel
theorem dL_law_663 : decode cL_law 663 = .ok (.if_icmp .eq 495, 3) := by decide +kernel
theorem dL_law_666 : decode cL_law 666 = .ok (.iconst 0, 1) := by decide +kernel
theorem dL_law_667 : decode cL_law 667 = .ok (.ireturn, 1) := by decide +kernel
theorem dL_law_668 : decode cL_law 668 = .ok (.aload_n 1, 1) := by decide +kernel
theorem dL_law_669 : decode cL_law 669 = .ok (.aload_n 0, 1) := by decide +kernel
theorem dL_law_670 : decode cL_law 670 = .ok (.iload_n 3, 1) := by decide +kernel
theorem dL_law_671 : decode cL_law 671 = .ok (.iconst 1, 1) := by decide +kernel
theorem dL_law_672 : decode cL_law 672 = .ok (.iadd, 1) := by decide +kernel
theorem dL_law_673 : decode cL_law 673 = .ok (.iaload, 1) := by decide +kernel
theorem dL_law_674 : decode cL_law 674 = .ok (.aload_n 0, 1) := by decide +kernel
theorem dL_law_675 : decode cL_law 675 = .ok (.iload_n 3, 1) := by decide +kernel
theorem dL_law_676 : decode cL_law 676 = .ok (.iconst 2, 1) := by decide +kernel
theorem dL_law_677 : decode cL_law 677 = .ok (.iadd, 1) := by decide +kernel
theorem dL_law_678 : decode cL_law 678 = .ok (.iaload, 1) := by decide +kernel
theorem dL_law_679 : decode cL_law 679 = .ok (.invokevirtual 59, 3) := by decide +kernel
theorem dL_law_682 : decode cL_law 682 = .ok (.aload_n 2, 1) := by decide +kernel
theorem dL_law_683 : decode cL_law 683 = .ok (.aload_n 0, 1) := by decide +kernel
theorem dL_law_684 : decode cL_law 684 = .ok (.iload_n 3, 1) := by decide +kernel
theorem dL_law_685 : decode cL_law 685 = .ok (.iconst 1, 1) := by decide +kernel
theorem dL_law_686 : decode cL_law 686 = .ok (.iadd, 1) := by decide +kernel
theorem dL_law_687 : decode cL_law 687 = .ok (.iaload, 1) := by decide +kernel
theorem dL_law_688 : decode cL_law 688 = .ok (.aload_n 0, 1) := by decide +kernel
theorem dL_law_689 : decode cL_law 689 = .ok (.iload_n 3, 1) := by decide +kernel
theorem dL_law_690 : decode cL_law 690 = .ok (.iconst 2, 1) := by decide +kernel
theorem dL_law_691 : decode cL_law 691 = .ok (.iadd, 1) := by decide +kernel
theorem dL_law_692 : decode cL_law 692 = .ok (.iaload, 1) := by decide +kernel
theorem dL_law_693 : decode cL_law 693 = .ok (.invokevirtual 62, 3) := by decide +kernel
theorem dL_law_696 : decode cL_law 696 = .ok (.if_icmp .eq 462, 3) := by decide +kernel
theorem dL_law_699 : decode cL_law 699 = .ok (.iconst 0, 1) := by decide +kernel
theorem dL_law_700 : decode cL_law 700 = .ok (.ireturn, 1) := by decide +kernel
theorem dL_law_701 : decode cL_law 701 = .ok (.aload_n 1, 1) := by decide +kernel
theorem dL_law_702 : decode cL_law 702 = .ok (.aload_n 0, 1) := by decide +kernel
theorem dL_law_703 : decode cL_law 703 = .ok (.iload_n 3, 1) := by decide +kernel
theorem dL_law_704 : decode cL_law 704 = .ok (.iconst 1, 1) := by decide +kernel
theorem dL_law_705 : decode cL_law 705 = .ok (.iadd, 1) := by decide +kernel
theorem dL_law_706 : decode cL_law 706 = .ok (.iaload, 1) := by decide +kernel
theorem dL_law_707 : decode cL_law 707 = .ok (.invokevirtual 63, 3) := by decide +kernel
theorem dL_law_710 : decode cL_law 710 = .ok (.aload_n 2, 1) := by decide +kernel
theorem dL_law_711 : decode cL_law 711 = .ok (.aload_n 0, 1) := by decide +kernel
theorem dL_law_712 : decode cL_law 712 = .ok (.iload_n 3, 1) := by decide +kernel
theorem dL_law_713 : decode cL_law 713 = .ok (.iconst 1, 1) := by decide +kernel
theorem dL_law_714 : decode cL_law 714 = .ok (.iadd, 1) := by decide +kernel
theorem dL_law_715 : decode cL_law 715 = .ok (.iaload, 1) := by decide +kernel
theorem dL_law_716 : decode cL_law 716 = .ok (.invokevirtual 67, 3) := by decide +kernel
theorem dL_law_719 : decode cL_law 719 = .ok (.if_icmp .eq 439, 3) := by decide +kernel
theorem dL_law_722 : decode cL_law 722 = .ok (.iconst 0, 1) := by decide +kernel
theorem dL_law_723 : decode cL_law 723 = .ok (.ireturn, 1) := by decide +kernel
theorem dL_law_724 : decode cL_law 724 = .ok (.aload_n 1, 1) := by decide +kernel
theorem dL_law_725 : decode cL_law 725 = .ok (.aload_n 0, 1) := by decide +kernel
theorem dL_law_726 : decode cL_law 726 = .ok (.iload_n 3, 1) := by decide +kernel
theorem dL_law_727 : decode cL_law 727 = .ok (.iconst 1, 1) := by decide +kernel
theorem dL_law_728 : decode cL_law 728 = .ok (.iadd, 1) := by decide +kernel
theorem dL_law_729 : decode cL_law 729 = .ok (.iaload, 1) := by decide +kernel
theorem dL_law_730 : decode cL_law 730 = .ok (.invokevirtual 68, 3) := by decide +kernel
theorem dL_law_733 : decode cL_law 733 = .ok (.aload_n 2, 1) := by decide +kernel
theorem dL_law_734 : decode cL_law 734 = .ok (.aload_n 0, 1) := by decide +kernel
theorem dL_law_735 : decode cL_law 735 = .ok (.iload_n 3, 1) := by decide +kernel
theorem dL_law_736 : decode cL_law 736 = .ok (.iconst 1, 1) := by decide +kernel
theorem dL_law_737 : decode cL_law 737 = .ok (.iadd, 1) := by decide +kernel
theorem dL_law_738 : decode cL_law 738 = .ok (.iaload, 1) := by decide +kernel
theorem dL_law_739 : decode cL_law 739 = .ok (.invokevirtual 71, 3) := by decide +kernel
theorem dL_law_742 : decode cL_law 742 = .ok (.if_icmp .eq 416, 3) := by decide +kernel
theorem dL_law_745 : decode cL_law 745 = .ok (.iconst 0, 1) := by decide +kernel
theorem dL_law_746 : decode cL_law 746 = .ok (.ireturn, 1) := by decide +kernel
theorem dL_law_747 : decode cL_law 747 = .ok (.aload_n 1, 1) := by decide +kernel
theorem dL_law_748 : decode cL_law 748 = .ok (.aload_n 0, 1) := by decide +kernel
theorem dL_law_749 : decode cL_law 749 = .ok (.iload_n 3, 1) := by decide +kernel
theorem dL_law_750 : decode cL_law 750 = .ok (.iconst 1, 1) := by decide +kernel
theorem dL_law_751 : decode cL_law 751 = .ok (.iadd, 1) := by decide +kernel
theorem dL_law_752 : decode cL_law 752 = .ok (.iaload, 1) := by decide +kernel
theorem dL_law_753 : decode cL_law 753 = .ok (.aload_n 0, 1) := by decide +kernel
theorem dL_law_754 : decode cL_law 754 = .ok (.iload_n 3, 1) := by decide +kernel
theorem dL_law_755 : decode cL_law 755 = .ok (.iconst 2, 1) := by decide +kernel
theorem dL_law_756 : decode cL_law 756 = .ok (.iadd, 1) := by decide +kernel
theorem dL_law_757 : decode cL_law 757 = .ok (.iaload, 1) := by decide +kernel
theorem dL_law_758 : decode cL_law 758 = .ok (.invokevirtual 72, 3) := by decide +kernel
theorem dL_law_761 : decode cL_law 761 = .ok (.aload_n 2, 1) := by decide +kernel
theorem dL_law_762 : decode cL_law 762 = .ok (.aload_n 0, 1) := by decide +kernel
theorem dL_law_763 : decode cL_law 763 = .ok (.iload_n 3, 1) := by decide +kernel
theorem dL_law_764 : decode cL_law 764 = .ok (.iconst 1, 1) := by decide +kernel
theorem dL_law_765 : decode cL_law 765 = .ok (.iadd, 1) := by decide +kernel
theorem dL_law_766 : decode cL_law 766 = .ok (.iaload, 1) := by decide +kernel
theorem dL_law_767 : decode cL_law 767 = .ok (.aload_n 0, 1) := by decide +kernel
theorem dL_law_768 : decode cL_law 768 = .ok (.iload_n 3, 1) := by decide +kernel
theorem dL_law_769 : decode cL_law 769 = .ok (.iconst 2, 1) := by decide +kernel
theorem dL_law_770 : decode cL_law 770 = .ok (.iadd, 1) := by decide +kernel
theorem dL_law_771 : decode cL_law 771 = .ok (.iaload, 1) := by decide +kernel
theorem dL_law_772 : decode cL_law 772 = .ok (.invokevirtual 75, 3) := by decide +kernel
theorem dL_law_775 : decode cL_law 775 = .ok (.if_icmp .eq 383, 3) := by decide +kernel
theorem dL_law_778 : decode cL_law 778 = .ok (.iconst 0, 1) := by decide +kernel
theorem dL_law_779 : decode cL_law 779 = .ok (.ireturn, 1) := by decide +kernel
theorem dL_law_780 : decode cL_law 780 = .ok (.aload_n 1, 1) := by decide +kernel
theorem dL_law_781 : decode cL_law 781 = .ok (.aload_n 0, 1) := by decide +kernel
theorem dL_law_782 : decode cL_law 782 = .ok (.iload_n 3, 1) := by decide +kernel
theorem dL_law_783 : decode cL_law 783 = .ok (.iconst 1, 1) := by decide +kernel
theorem dL_law_784 : decode cL_law 784 = .ok (.iadd, 1) := by decide +kernel
theorem dL_law_785 : decode cL_law 785 = .ok (.iaload, 1) := by decide +kernel
theorem dL_law_786 : decode cL_law 786 = .ok (.aload_n 0, 1) := by decide +kernel
theorem dL_law_787 : decode cL_law 787 = .ok (.iload_n 3, 1) := by decide +kernel
theorem dL_law_788 : decode cL_law 788 = .ok (.iconst 2, 1) := by decide +kernel
theorem dL_law_789 : decode cL_law 789 = .ok (.iadd, 1) := by decide +kernel
theorem dL_law_790 : decode cL_law 790 = .ok (.iaload, 1) := by decide +kernel
theorem dL_law_791 : decode cL_law 791 = .ok (.invokevirtual 76, 3) := by decide +kernel
theorem dL_law_794 : decode cL_law 794 = .ok (.aload_n 2, 1) := by decide +kernel
theorem dL_law_795 : decode cL_law 795 = .ok (.aload_n 0, 1) := by decide +kernel
theorem dL_law_796 : decode cL_law 796 = .ok (.iload_n 3, 1) := by decide +kernel
theorem dL_law_797 : decode cL_law 797 = .ok (.iconst 1, 1) := by decide +kernel
theorem dL_law_798 : decode cL_law 798 = .ok (.iadd, 1) := by decide +kernel
theorem dL_law_799 : decode cL_law 799 = .ok (.iaload, 1) := by decide +kernel
theorem dL_law_800 : decode cL_law 800 = .ok (.aload_n 0, 1) := by decide +kernel
theorem dL_law_801 : decode cL_law 801 = .ok (.iload_n 3, 1) := by decide +kernel
theorem dL_law_802 : decode cL_law 802 = .ok (.iconst 2, 1) := by decide +kernel
theorem dL_law_803 : decode cL_law 803 = .ok (.iadd, 1) := by decide +kernel
theorem dL_law_804 : decode cL_law 804 = .ok (.iaload, 1) := by decide +kernel
theorem dL_law_805 : decode cL_law 805 = .ok (.invokevirtual 79, 3) := by decide +kernel
theorem dL_law_808 : decode cL_law 808 = .ok (.if_icmp .eq 350, 3) := by decide +kernel
theorem dL_law_811 : decode cL_law 811 = .ok (.iconst 0, 1) := by decide +kernel
theorem dL_law_812 : decode cL_law 812 = .ok (.ireturn, 1) := by decide +kernel
theorem dL_law_813 : decode cL_law 813 = .ok (.aload_n 1, 1) := by decide +kernel
theorem dL_law_814 : decode cL_law 814 = .ok (.aload_n 0, 1) := by decide +kernel
theorem dL_law_815 : decode cL_law 815 = .ok (.iload_n 3, 1) := by decide +kernel
theorem dL_law_816 : decode cL_law 816 = .ok (.iconst 1, 1) := by decide +kernel
theorem dL_law_817 : decode cL_law 817 = .ok (.iadd, 1) := by decide +kernel
theorem dL_law_818 : decode cL_law 818 = .ok (.iaload, 1) := by decide +kernel
theorem dL_law_819 : decode cL_law 819 = .ok (.aload_n 0, 1) := by decide +kernel
theorem dL_law_820 : decode cL_law 820 = .ok (.iload_n 3, 1) := by decide +kernel
theorem dL_law_821 : decode cL_law 821 = .ok (.iconst 2, 1) := by decide +kernel
theorem dL_law_822 : decode cL_law 822 = .ok (.iadd, 1) := by decide +kernel
theorem dL_law_823 : decode cL_law 823 = .ok (.iaload, 1) := by decide +kernel
theorem dL_law_824 : decode cL_law 824 = .ok (.invokevirtual 80, 3) := by decide +kernel
theorem dL_law_827 : decode cL_law 827 = .ok (.aload_n 2, 1) := by decide +kernel
theorem dL_law_828 : decode cL_law 828 = .ok (.aload_n 0, 1) := by decide +kernel
theorem dL_law_829 : decode cL_law 829 = .ok (.iload_n 3, 1) := by decide +kernel
theorem dL_law_830 : decode cL_law 830 = .ok (.iconst 1, 1) := by decide +kernel
theorem dL_law_831 : decode cL_law 831 = .ok (.iadd, 1) := by decide +kernel
theorem dL_law_832 : decode cL_law 832 = .ok (.iaload, 1) := by decide +kernel
theorem dL_law_833 : decode cL_law 833 = .ok (.aload_n 0, 1) := by decide +kernel
theorem dL_law_834 : decode cL_law 834 = .ok (.iload_n 3, 1) := by decide +kernel
theorem dL_law_835 : decode cL_law 835 = .ok (.iconst 2, 1) := by decide +kernel
theorem dL_law_836 : decode cL_law 836 = .ok (.iadd, 1) := by decide +kernel
theorem dL_law_837 : decode cL_law 837 = .ok (.iaload, 1) := by decide +kernel
theorem dL_law_838 : decode cL_law 838 = .ok (.invokevirtual 83, 3) := by decide +kernel
theorem dL_law_841 : decode cL_law 841 = .ok (.if_icmp .eq 317, 3) := by decide +kernel
theorem dL_law_844 : decode cL_law 844 = .ok (.iconst 0, 1) := by decide +kernel
theorem dL_law_845 : decode cL_law 845 = .ok (.ireturn, 1) := by decide +kernel
theorem dL_law_846 : decode cL_law 846 = .ok (.aload_n 1, 1) := by decide +kernel
theorem dL_law_847 : decode cL_law 847 = .ok (.aload_n 0, 1) := by decide +kernel
theorem dL_law_848 : decode cL_law 848 = .ok (.iload_n 3, 1) := by decide +kernel
theorem dL_law_849 : decode cL_law 849 = .ok (.iconst 1, 1) := by decide +kernel
theorem dL_law_850 : decode cL_law 850 = .ok (.iadd, 1) := by decide +kernel
theorem dL_law_851 : decode cL_law 851 = .ok (.iaload, 1) := by decide +kernel
theorem dL_law_852 : decode cL_law 852 = .ok (.invokevirtual 84, 3) := by decide +kernel
theorem dL_law_855 : decode cL_law 855 = .ok (.aload_n 2, 1) := by decide +kernel
theorem dL_law_856 : decode cL_law 856 = .ok (.aload_n 0, 1) := by decide +kernel
theorem dL_law_857 : decode cL_law 857 = .ok (.iload_n 3, 1) := by decide +kernel
theorem dL_law_858 : decode cL_law 858 = .ok (.iconst 1, 1) := by decide +kernel
theorem dL_law_859 : decode cL_law 859 = .ok (.iadd, 1) := by decide +kernel
theorem dL_law_860 : decode cL_law 860 = .ok (.iaload, 1) := by decide +kernel
theorem dL_law_861 : decode cL_law 861 = .ok (.invokevirtual 87, 3) := by decide +kernel
theorem dL_law_864 : decode cL_law 864 = .ok (.if_icmp .eq 294, 3) := by decide +kernel
theorem dL_law_867 : decode cL_law 867 = .ok (.iconst 0, 1) := by decide +kernel
theorem dL_law_868 : decode cL_law 868 = .ok (.ireturn, 1) := by decide +kernel
theorem dL_law_869 : decode cL_law 869 = .ok (.aload_n 1, 1) := by decide +kernel
theorem dL_law_870 : decode cL_law 870 = .ok (.aload_n 0, 1) := by decide +kernel
theorem dL_law_871 : decode cL_law 871 = .ok (.iload_n 3, 1) := by decide +kernel
theorem dL_law_872 : decode cL_law 872 = .ok (.iconst 1, 1) := by decide +kernel
theorem dL_law_873 : decode cL_law 873 = .ok (.iadd, 1) := by decide +kernel
theorem dL_law_874 : decode cL_law 874 = .ok (.iaload, 1) := by decide +kernel
theorem dL_law_875 : decode cL_law 875 = .ok (.aload_n 0, 1) := by decide +kernel
theorem dL_law_876 : decode cL_law 876 = .ok (.iload_n 3, 1) := by decide +kernel
theorem dL_law_877 : decode cL_law 877 = .ok (.iconst 2, 1) := by decide +kernel
theorem dL_law_878 : decode cL_law 878 = .ok (.iadd, 1) := by decide +kernel
theorem dL_law_879 : decode cL_law 879 = .ok (.iaload, 1) := by decide +kernel
theorem dL_law_880 : decode cL_law 880 = .ok (.invokevirtual 88, 3) := by decide +kernel
theorem dL_law_883 : decode cL_law 883 = .ok (.aload_n 2, 1) := by decide +kernel
theorem dL_law_884 : decode cL_law 884 = .ok (.aload_n 0, 1) := by decide +kernel
theorem dL_law_885 : decode cL_law 885 = .ok (.iload_n 3, 1) := by decide +kernel
theorem dL_law_886 : decode cL_law 886 = .ok (.iconst 1, 1) := by decide +kernel
theorem dL_law_887 : decode cL_law 887 = .ok (.iadd, 1) := by decide +kernel
theorem dL_law_888 : decode cL_law 888 = .ok (.iaload, 1) := by decide +kernel
theorem dL_law_889 : decode cL_law 889 = .ok (.aload_n 0, 1) := by decide +kernel
theorem dL_law_890 : decode cL_law 890 = .ok (.iload_n 3, 1) := by decide +kernel
theorem dL_law_891 : decode cL_law 891 = .ok (.iconst 2, 1) := by decide +kernel
theorem dL_law_892 : decode cL_law 892 = .ok (.iadd, 1) := by decide +kernel
theorem dL_law_893 : decode cL_law 893 = .ok (.iaload, 1) := by decide +kernel
theorem dL_law_894 : decode cL_law 894 = .ok (.invokevirtual 91, 3) := by decide +kernel
theorem dL_law_897 : decode cL_law 897 = .ok (.if_icmp .eq 261, 3) := by decide +kernel
theorem dL_law_900 : decode cL_law 900 = .ok (.iconst 0, 1) := by decide +kernel
theorem dL_law_901 : decode cL_law 901 = .ok (.ireturn, 1) := by decide +kernel
theorem dL_law_902 : decode cL_law 902 = .ok (.aload_n 1, 1) := by decide +kernel
theorem dL_law_903 : decode cL_law 903 = .ok (.aload_n 0, 1) := by decide +kernel
theorem dL_law_904 : decode cL_law 904 = .ok (.iload_n 3, 1) := by decide +kernel
theorem dL_law_905 : decode cL_law 905 = .ok (.iconst 1, 1) := by decide +kernel
theorem dL_law_906 : decode cL_law 906 = .ok (.iadd, 1) := by decide +kernel
theorem dL_law_907 : decode cL_law 907 = .ok (.iaload, 1) := by decide +kernel
theorem dL_law_908 : decode cL_law 908 = .ok (.invokevirtual 92, 3) := by decide +kernel
theorem dL_law_911 : decode cL_law 911 = .ok (.aload_n 2, 1) := by decide +kernel
theorem dL_law_912 : decode cL_law 912 = .ok (.aload_n 0, 1) := by decide +kernel
theorem dL_law_913 : decode cL_law 913 = .ok (.iload_n 3, 1) := by decide +kernel
theorem dL_law_914 : decode cL_law 914 = .ok (.iconst 1, 1) := by decide +kernel
theorem dL_law_915 : decode cL_law 915 = .ok (.iadd, 1) := by decide +kernel
theorem dL_law_916 : decode cL_law 916 = .ok (.iaload, 1) := by decide +kernel
theorem dL_law_917 : decode cL_law 917 = .ok (.invokevirtual 95, 3) := by decide +kernel
theorem dL_law_920 : decode cL_law 920 = .ok (.if_icmp .eq 238, 3) := by decide +kernel
theorem dL_law_923 : decode cL_law 923 = .ok (.iconst 0, 1) := by decide +kernel
theorem dL_law_924 : decode cL_law 924 = .ok (.ireturn, 1) := by decide +kernel
theorem dL_law_925 : decode cL_law 925 = .ok (.aload_n 1, 1) := by decide +kernel
theorem dL_law_926 : decode cL_law 926 = .ok (.aload_n 0, 1) := by decide +kernel
theorem dL_law_927 : decode cL_law 927 = .ok (.iload_n 3, 1) := by decide +kernel
theorem dL_law_928 : decode cL_law 928 = .ok (.iconst 1, 1) := by decide +kernel
theorem dL_law_929 : decode cL_law 929 = .ok (.iadd, 1) := by decide +kernel
theorem dL_law_930 : decode cL_law 930 = .ok (.iaload, 1) := by decide +kernel
theorem dL_law_931 : decode cL_law 931 = .ok (.invokevirtual 96, 3) := by decide +kernel
theorem dL_law_934 : decode cL_law 934 = .ok (.aload_n 2, 1) := by decide +kernel
theorem dL_law_935 : decode cL_law 935 = .ok (.aload_n 0, 1) := by decide +kernel
theorem dL_law_936 : decode cL_law 936 = .ok (.iload_n 3, 1) := by decide +kernel
theorem dL_law_937 : decode cL_law 937 = .ok (.iconst 1, 1) := by decide +kernel
theorem dL_law_938 : decode cL_law 938 = .ok (.iadd, 1) := by decide +kernel
theorem dL_law_939 : decode cL_law 939 = .ok (.iaload, 1) := by decide +kernel
theorem dL_law_940 : decode cL_law 940 = .ok (.invokevirtual 99, 3) := by decide +kernel
theorem dL_law_943 : decode cL_law 943 = .ok (.if_icmp .eq 215, 3) := by decide +kernel
theorem dL_law_946 : decode cL_law 946 = .ok (.iconst 0, 1) := by decide +kernel
theorem dL_law_947 : decode cL_law 947 = .ok (.ireturn, 1) := by decide +kernel
theorem dL_law_948 : decode cL_law 948 = .ok (.aload_n 1, 1) := by decide +kernel
theorem dL_law_949 : decode cL_law 949 = .ok (.aload_n 0, 1) := by decide +kernel
theorem dL_law_950 : decode cL_law 950 = .ok (.iload_n 3, 1) := by decide +kernel
theorem dL_law_951 : decode cL_law 951 = .ok (.iconst 1, 1) := by decide +kernel
theorem dL_law_952 : decode cL_law 952 = .ok (.iadd, 1) := by decide +kernel
theorem dL_law_953 : decode cL_law 953 = .ok (.iaload, 1) := by decide +kernel
theorem dL_law_954 : decode cL_law 954 = .ok (.invokevirtual 100, 3) := by decide +kernel
theorem dL_law_957 : decode cL_law 957 = .ok (.aload_n 2, 1) := by decide +kernel
theorem dL_law_958 : decode cL_law 958 = .ok (.aload_n 0, 1) := by decide +kernel
theorem dL_law_959 : decode cL_law 959 = .ok (.iload_n 3, 1) := by decide +kernel
theorem dL_law_960 : decode cL_law 960 = .ok (.iconst 1, 1) := by decide +kernel
theorem dL_law_961 : decode cL_law 961 = .ok (.iadd, 1) := by decide +kernel
theorem dL_law_962 : decode cL_law 962 = .ok (.iaload, 1) := by decide +kernel
theorem dL_law_963 : decode cL_law 963 = .ok (.invokevirtual 103, 3) := by decide +kernel
theorem dL_law_966 : decode cL_law 966 = .ok (.if_icmp .eq 192, 3) := by decide +kernel
theorem dL_law_969 : decode cL_law 969 = .ok (.iconst 0, 1) := by decide +kernel
theorem dL_law_970 : decode cL_law 970 = .ok (.ireturn, 1) := by decide +kernel
theorem dL_law_971 : decode cL_law 971 = .ok (.aload_n 1, 1) := by decide +kernel
theorem dL_law_972 : decode cL_law 972 = .ok (.aload_n 0, 1) := by decide +kernel
theorem dL_law_973 : decode cL_law 973 = .ok (.iload_n 3, 1) := by decide +kernel
theorem dL_law_974 : decode cL_law 974 = .ok (.iconst 1, 1) := by decide +kernel
theorem dL_law_975 : decode cL_law 975 = .ok (.iadd, 1) := by decide +kernel
theorem dL_law_976 : decode cL_law 976 = .ok (.iaload, 1) := by decide +kernel
theorem dL_law_977 : decode cL_law 977 = .ok (.invokevirtual 104, 3) := by decide +kernel
theorem dL_law_980 : decode cL_law 980 = .ok (.aload_n 2, 1) := by decide +kernel
theorem dL_law_981 : decode cL_law 981 = .ok (.aload_n 0, 1) := by decide +kernel
theorem dL_law_982 : decode cL_law 982 = .ok (.iload_n 3, 1) := by decide +kernel
theorem dL_law_983 : decode cL_law 983 = .ok (.iconst 1, 1) := by decide +kernel
theorem dL_law_984 : decode cL_law 984 = .ok (.iadd, 1) := by decide +kernel
theorem dL_law_985 : decode cL_law 985 = .ok (.iaload, 1) := by decide +kernel
theorem dL_law_986 : decode cL_law 986 = .ok (.invokevirtual 107, 3) := by decide +kernel
theorem dL_law_989 : decode cL_law 989 = .ok (.if_icmp .eq 169, 3) := by decide +kernel
theorem dL_law_992 : decode cL_law 992 = .ok (.iconst 0, 1) := by decide +kernel
theorem dL_law_993 : decode cL_law 993 = .ok (.ireturn, 1) := by decide +kernel
theorem dL_law_994 : decode cL_law 994 = .ok (.aload_n 1, 1) := by decide +kernel
theorem dL_law_995 : decode cL_law 995 = .ok (.aload_n 0, 1) := by decide +kernel
theorem dL_law_996 : decode cL_law 996 = .ok (.iload_n 3, 1) := by decide +kernel
theorem dL_law_997 : decode cL_law 997 = .ok (.iconst 1, 1) := by decide +kernel
theorem dL_law_998 : decode cL_law 998 = .ok (.iadd, 1) := by decide +kernel
theorem dL_law_999 : decode cL_law 999 = .ok (.iaload, 1) := by decide +kernel
theorem dL_law_1000 : decode cL_law 1000 = .ok (.aload_n 0, 1) := by decide +kernel
theorem dL_law_1001 : decode cL_law 1001 = .ok (.iload_n 3, 1) := by decide +kernel
theorem dL_law_1002 : decode cL_law 1002 = .ok (.iconst 2, 1) := by decide +kernel
theorem dL_law_1003 : decode cL_law 1003 = .ok (.iadd, 1) := by decide +kernel
theorem dL_law_1004 : decode cL_law 1004 = .ok (.iaload, 1) := by decide +kernel
theorem dL_law_1005 : decode cL_law 1005 = .ok (.invokevirtual 108, 3) := by decide +kernel
theorem dL_law_1008 : decode cL_law 1008 = .ok (.aload_n 2, 1) := by decide +kernel
theorem dL_law_1009 : decode cL_law 1009 = .ok (.aload_n 0, 1) := by decide +kernel
theorem dL_law_1010 : decode cL_law 1010 = .ok (.iload_n 3, 1) := by decide +kernel
theorem dL_law_1011 : decode cL_law 1011 = .ok (.iconst 1, 1) := by decide +kernel
theorem dL_law_1012 : decode cL_law 1012 = .ok (.iadd, 1) := by decide +kernel
theorem dL_law_1013 : decode cL_law 1013 = .ok (.iaload, 1) := by decide +kernel
theorem dL_law_1014 : decode cL_law 1014 = .ok (.aload_n 0, 1) := by decide +kernel
theorem dL_law_1015 : decode cL_law 1015 = .ok (.iload_n 3, 1) := by decide +kernel
theorem dL_law_1016 : decode cL_law 1016 = .ok (.iconst 2, 1) := by decide +kernel
theorem dL_law_1017 : decode cL_law 1017 = .ok (.iadd, 1) := by decide +kernel
theorem dL_law_1018 : decode cL_law 1018 = .ok (.iaload, 1) := by decide +kernel
theorem dL_law_1019 : decode cL_law 1019 = .ok (.invokevirtual 111, 3) := by decide +kernel
theorem dL_law_1022 : decode cL_law 1022 = .ok (.if_icmp .eq 136, 3) := by decide +kernel
theorem dL_law_1025 : decode cL_law 1025 = .ok (.iconst 0, 1) := by decide +kernel
theorem dL_law_1026 : decode cL_law 1026 = .ok (.ireturn, 1) := by decide +kernel
theorem dL_law_1027 : decode cL_law 1027 = .ok (.aload_n 1, 1) := by decide +kernel
theorem dL_law_1028 : decode cL_law 1028 = .ok (.aload_n 0, 1) := by decide +kernel
theorem dL_law_1029 : decode cL_law 1029 = .ok (.iload_n 3, 1) := by decide +kernel
theorem dL_law_1030 : decode cL_law 1030 = .ok (.iconst 1, 1) := by decide +kernel
theorem dL_law_1031 : decode cL_law 1031 = .ok (.iadd, 1) := by decide +kernel
theorem dL_law_1032 : decode cL_law 1032 = .ok (.iaload, 1) := by decide +kernel
theorem dL_law_1033 : decode cL_law 1033 = .ok (.invokevirtual 112, 3) := by decide +kernel
theorem dL_law_1036 : decode cL_law 1036 = .ok (.aload_n 2, 1) := by decide +kernel
theorem dL_law_1037 : decode cL_law 1037 = .ok (.aload_n 0, 1) := by decide +kernel
theorem dL_law_1038 : decode cL_law 1038 = .ok (.iload_n 3, 1) := by decide +kernel
theorem dL_law_1039 : decode cL_law 1039 = .ok (.iconst 1, 1) := by decide +kernel
theorem dL_law_1040 : decode cL_law 1040 = .ok (.iadd, 1) := by decide +kernel
theorem dL_law_1041 : decode cL_law 1041 = .ok (.iaload, 1) := by decide +kernel
theorem dL_law_1042 : decode cL_law 1042 = .ok (.invokevirtual 115, 3) := by decide +kernel
theorem dL_law_1045 : decode cL_law 1045 = .ok (.if_icmp .eq 113, 3) := by decide +kernel
theorem dL_law_1048 : decode cL_law 1048 = .ok (.iconst 0, 1) := by decide +kernel
theorem dL_law_1049 : decode cL_law 1049 = .ok (.ireturn, 1) := by decide +kernel
theorem dL_law_1050 : decode cL_law 1050 = .ok (.aload_n 1, 1) := by decide +kernel
theorem dL_law_1051 : decode cL_law 1051 = .ok (.aload_n 0, 1) := by decide +kernel
theorem dL_law_1052 : decode cL_law 1052 = .ok (.iload_n 3, 1) := by decide +kernel
theorem dL_law_1053 : decode cL_law 1053 = .ok (.iconst 1, 1) := by decide +kernel
theorem dL_law_1054 : decode cL_law 1054 = .ok (.iadd, 1) := by decide +kernel
theorem dL_law_1055 : decode cL_law 1055 = .ok (.iaload, 1) := by decide +kernel
theorem dL_law_1056 : decode cL_law 1056 = .ok (.ifCond .eq 7, 3) := by decide +kernel
theorem dL_law_1059 : decode cL_law 1059 = .ok (.iconst 1, 1) := by decide +kernel
theorem dL_law_1060 : decode cL_law 1060 = .ok (.goto 4, 3) := by decide +kernel
theorem dL_law_1063 : decode cL_law 1063 = .ok (.iconst 0, 1) := by decide +kernel
theorem dL_law_1064 : decode cL_law 1064 = .ok (.invokevirtual 116, 3) := by decide +kernel
theorem dL_law_1067 : decode cL_law 1067 = .ok (.aload_n 2, 1) := by decide +kernel
theorem dL_law_1068 : decode cL_law 1068 = .ok (.aload_n 0, 1) := by decide +kernel
theorem dL_law_1069 : decode cL_law 1069 = .ok (.iload_n 3, 1) := by decide +kernel
theorem dL_law_1070 : decode cL_law 1070 = .ok (.iconst 1, 1) := by decide +kernel
theorem dL_law_1071 : decode cL_law 1071 = .ok (.iadd, 1) := by decide +kernel
theorem dL_law_1072 : decode cL_law 1072 = .ok (.iaload, 1) := by decide +kernel
theorem dL_law_1073 : decode cL_law 1073 = .ok (.ifCond .eq 7, 3) := by decide +kernel
theorem dL_law_1076 : decode cL_law 1076 = .ok (.iconst 1, 1) := by decide +kernel
theorem dL_law_1077 : decode cL_law 1077 = .ok (.goto 4, 3) := by decide +kernel
theorem dL_law_1080 : decode cL_law 1080 = .ok (.iconst 0, 1) := by decide +kernel
theorem dL_law_1081 : decode cL_law 1081 = .ok (.invokevirtual 120, 3) := by decide +kernel
theorem dL_law_1084 : decode cL_law 1084 = .ok (.if_icmp .eq 74, 3) := by decide +kernel
theorem dL_law_1087 : decode cL_law 1087 = .ok (.iconst 0, 1) := by decide +kernel
theorem dL_law_1088 : decode cL_law 1088 = .ok (.ireturn, 1) := by decide +kernel
theorem dL_law_1089 : decode cL_law 1089 = .ok (.aload_n 1, 1) := by decide +kernel
theorem dL_law_1090 : decode cL_law 1090 = .ok (.invokevirtual 121, 3) := by decide +kernel
theorem dL_law_1093 : decode cL_law 1093 = .ok (.aload_n 2, 1) := by decide +kernel
theorem dL_law_1094 : decode cL_law 1094 = .ok (.invokevirtual 125, 3) := by decide +kernel
theorem dL_law_1097 : decode cL_law 1097 = .ok (.if_icmp .eq 61, 3) := by decide +kernel
theorem dL_law_1100 : decode cL_law 1100 = .ok (.iconst 0, 1) := by decide +kernel
theorem dL_law_1101 : decode cL_law 1101 = .ok (.ireturn, 1) := by decide +kernel
theorem dL_law_1102 : decode cL_law 1102 = .ok (.aload_n 1, 1) := by decide +kernel
theorem dL_law_1103 : decode cL_law 1103 = .ok (.aload_n 0, 1) := by decide +kernel
theorem dL_law_1104 : decode cL_law 1104 = .ok (.iload_n 3, 1) := by decide +kernel
theorem dL_law_1105 : decode cL_law 1105 = .ok (.iconst 1, 1) := by decide +kernel
theorem dL_law_1106 : decode cL_law 1106 = .ok (.iadd, 1) := by decide +kernel
theorem dL_law_1107 : decode cL_law 1107 = .ok (.iaload, 1) := by decide +kernel
theorem dL_law_1108 : decode cL_law 1108 = .ok (.aload_n 0, 1) := by decide +kernel
theorem dL_law_1109 : decode cL_law 1109 = .ok (.iload_n 3, 1) := by decide +kernel
theorem dL_law_1110 : decode cL_law 1110 = .ok (.iconst 2, 1) := by decide +kernel
theorem dL_law_1111 : decode cL_law 1111 = .ok (.iadd, 1) := by decide +kernel
theorem dL_law_1112 : decode cL_law 1112 = .ok (.iaload, 1) := by decide +kernel
theorem dL_law_1113 : decode cL_law 1113 = .ok (.invokevirtual 126, 3) := by decide +kernel
theorem dL_law_1116 : decode cL_law 1116 = .ok (.aload_n 2, 1) := by decide +kernel
theorem dL_law_1117 : decode cL_law 1117 = .ok (.aload_n 0, 1) := by decide +kernel
theorem dL_law_1118 : decode cL_law 1118 = .ok (.iload_n 3, 1) := by decide +kernel
theorem dL_law_1119 : decode cL_law 1119 = .ok (.iconst 1, 1) := by decide +kernel
theorem dL_law_1120 : decode cL_law 1120 = .ok (.iadd, 1) := by decide +kernel
theorem dL_law_1121 : decode cL_law 1121 = .ok (.iaload, 1) := by decide +kernel
theorem dL_law_1122 : decode cL_law 1122 = .ok (.aload_n 0, 1) := by decide +kernel
theorem dL_law_1123 : decode cL_law 1123 = .ok (.iload_n 3, 1) := by decide +kernel
theorem dL_law_1124 : decode cL_law 1124 = .ok (.iconst 2, 1) := by decide +kernel
theorem dL_law_1125 : decode cL_law 1125 = .ok (.iadd, 1) := by decide +kernel
theorem dL_law_1126 : decode cL_law 1126 = .ok (.iaload, 1) := by decide +kernel
theorem dL_law_1127 : decode cL_law 1127 = .ok (.invokevirtual 129, 3) := by decide +kernel
theorem dL_law_1130 : decode cL_law 1130 = .ok (.if_icmp .eq 28, 3) := by decide +kernel
theorem dL_law_1133 : decode cL_law 1133 = .ok (.iconst 0, 1) := by decide +kernel
theorem dL_law_1134 : decode cL_law 1134 = .ok (.ireturn, 1) := by decide +kernel
theorem dL_law_1135 : decode cL_law 1135 = .ok (.aload_n 1, 1) := by decide +kernel
theorem dL_law_1136 : decode cL_law 1136 = .ok (.aload_n 0, 1) := by decide +kernel
theorem dL_law_1137 : decode cL_law 1137 = .ok (.iload_n 3, 1) := by decide +kernel
theorem dL_law_1138 : decode cL_law 1138 = .ok (.iconst 1, 1) := by decide +kernel
theorem dL_law_1139 : decode cL_law 1139 = .ok (.iadd, 1) := by decide +kernel
theorem dL_law_1140 : decode cL_law 1140 = .ok (.iaload, 1) := by decide +kernel
theorem dL_law_1141 : decode cL_law 1141 = .ok (.invokevirtual 130, 3) := by decide +kernel
theorem dL_law_1144 : decode cL_law 1144 = .ok (.aload_n 2, 1) := by decide +kernel
theorem dL_law_1145 : decode cL_law 1145 = .ok (.aload_n 0, 1) := by decide +kernel
theorem dL_law_1146 : decode cL_law 1146 = .ok (.iload_n 3, 1) := by decide +kernel
theorem dL_law_1147 : decode cL_law 1147 = .ok (.iconst 1, 1) := by decide +kernel
theorem dL_law_1148 : decode cL_law 1148 = .ok (.iadd, 1) := by decide +kernel
theorem dL_law_1149 : decode cL_law 1149 = .ok (.iaload, 1) := by decide +kernel
theorem dL_law_1150 : decode cL_law 1150 = .ok (.invokevirtual 133, 3) := by decide +kernel
theorem dL_law_1153 : decode cL_law 1153 = .ok (.if_icmp .eq 5, 3) := by decide +kernel
theorem dL_law_1156 : decode cL_law 1156 = .ok (.iconst 0, 1) := by decide +kernel
theorem dL_law_1157 : decode cL_law 1157 = .ok (.ireturn, 1) := by decide +kernel
theorem dL_law_1158 : decode cL_law 1158 = .ok (.iinc 3 5, 3) := by decide +kernel
theorem dL_law_1161 : decode cL_law 1161 = .ok (.goto (-1143), 3) := by decide +kernel
theorem dL_law_1164 : decode cL_law 1164 = .ok (.iconst 1, 1) := by decide +kernel
theorem dL_law_1165 : decode cL_law 1165 = .ok (.ireturn, 1) := by decide +kernel
end
section
/-! MY LAYER. A state of the world is pure data (St); its cells have names (numbers), addresses by a map; WP: from this frame and this state the method returns with K; Runs: a call returns with K. -/
/-- int and boolean arrays by name; long arrays by name; int fields by number; the long field; names held by two fields -/
abbrev St : Type := (Nat → Nat → Int32) × (Nat → Nat → Int64) × (Nat → Int32) × Int64 × (Nat → Nat)
def sI (σ : St) : Nat → Nat → Int32 := σ.1
def sL (σ : St) : Nat → Nat → Int64 := σ.2.1
def sV (σ : St) : Nat → Int32 := σ.2.2.1
def sW (σ : St) : Int64 := σ.2.2.2.1
def sR (σ : St) : Nat → Nat := σ.2.2.2.2
def uI (σ : St) (k i : Nat) (x : Int32) : St := (va_up σ.1 k (upd (σ.1 k) i x), σ.2)
def uL (σ : St) (k i : Nat) (x : Int64) : St := (σ.1, va_up σ.2.1 k (vp_updL (σ.2.1 k) i x), σ.2.2)
def uLf (σ : St) (k : Nat) (f : Nat → Int64) : St := (σ.1, va_up σ.2.1 k f, σ.2.2)
def uV (σ : St) (k : Nat) (x : Int32) : St := (σ.1, σ.2.1, va_up σ.2.2.1 k x, σ.2.2.2)
def uW (σ : St) (x : Int64) : St := (σ.1, σ.2.1, σ.2.2.1, x, σ.2.2.2.2)
def uR (σ : St) (k x : Nat) : St := (σ.1, σ.2.1, σ.2.2.1, σ.2.2.2.1, va_up σ.2.2.2.2 k x)
/-- the environment: launch, classes, slots, addresses by name, array classes (0 int, 1 long, 2 boolean, 3 long[][]), the two static arrays' addresses -/
abbrev Ev : Type := Launch × (Nat → ClassId) × (Nat → Nat → Nat) × (Nat → Nat) × (Nat → ClassId) × (Nat → Nat)
abbrev eL (g : Ev) : Launch := g.1
abbrev eD (g : Ev) : va_G := (g.2.1, g.2.2.1)
abbrev eA (g : Ev) : Nat → Nat := g.2.2.2.1
abbrev eC (g : Ev) : Nat → ClassId := g.2.2.2.2.1
abbrev eS (g : Ev) : Nat → Nat := g.2.2.2.2.2
/-- the length of the array of a name: int, long, boolean -/
def lenI (k : Nat) : Nat := if k = 2 ∨ k = 3 ∨ k = 7 ∨ k = 49 ∨ k = 50 ∨ k = 51 ∨ k = 54 then 12 else if k = 4 ∨ k = 5 ∨ k = 8 ∨ k = 9 then 8192 else if k = 10 then 16384 else if k = 52 ∨ k = 53 ∨ k = 55 ∨ k = 56 ∨ k = 57 ∨ k = 58 then 131072 else 0
def lenJ (k : Nat) : Nat := if 11 ≤ k ∧ k < 45 then 64 else 0
def lenZ (k : Nat) : Nat := if k = 46 then 131072 else if k = 47 ∨ k = 48 then 4096 else 0
def wcell (g : Ev) (σ : St) (k : Nat) : va_E :=
  if k = 0 then .inr (1, [.ref (eA g 1), .ref (eA g 2), .ref (eA g 3), .ref (eA g 4), .ref (eA g 5), .ref (eA g 6), .int (sV σ 0), .int (sV σ 1), .int (sV σ 2), .long (sW σ), .int (sV σ 3), .int (sV σ 4), .int (sV σ 5)])
  else if k = 6 then .inr (0, [.ref (eA g 7), .ref (eA g (sR σ 0)), .ref (eA g (sR σ 1)), .int (sV σ 6), .ref (eA g 10), .int (sV σ 7)])
  else if k = 45 then .inr (2, [.int (sV σ 8), .int (sV σ 9), .int (sV σ 10), .ref (eA g 46), .ref (eA g 47), .ref (eA g 48), .ref (eA g 49), .ref (eA g 50), .ref (eA g 51), .ref (eA g 52), .ref (eA g 53), .ref (eA g 54), .ref (eA g 55), .ref (eA g 56), .ref (eA g 57), .ref (eA g 58), .int (sV σ 11), .int (sV σ 12)])
  else if k = 1 then .inl (eC g 3, 34, .inr (.inr (.inr (.inr (fun t => if t < 34 then some (eA g (11 + t)) else none)))))
  else if 11 ≤ k ∧ k < 45 then .inl (eC g 1, 64, .inr (.inl (sL σ k)))
  else if k = 46 ∨ k = 47 ∨ k = 48 then .inl (eC g 2, lenZ k, .inl (sI σ k))
  else .inl (eC g 0, lenI k, .inl (sI σ k))
def wd (g : Ev) (lo hi : Nat) (σ : St) : va_W := (List.range (hi - lo)).map (fun j => (eA g (lo + j), wcell g σ (lo + j)))
def wA (g : Ev) (lo hi : Nat) : Nat → Prop := fun q => ∃ k, lo ≤ k ∧ k < hi ∧ q = eA g k
def wInj (g : Ev) (lo hi : Nat) : Prop := ∀ i j, lo ≤ i → i < hi → lo ≤ j → j < hi → eA g i = eA g j → i = j
abbrev wTy (g : Ev) : List (ClassId × FieldType) := [(eC g 0, .int), (eC g 1, .long), (eC g 2, .boolean), (eC g 3, .array .long)]
theorem wd_at {g : Ev} {lo hi : Nat} {σ : St} {k : Nat} (h1 : lo ≤ k) (h2 : k < hi) : (wd g lo hi σ)[k - lo]? = some (eA g k, wcell g σ k) := by
  unfold wd
  rw [List.getElem?_map, List.getElem?_range (by omega)]
  simp only [Option.map_some, Nat.add_sub_cancel' h1]
theorem wd_get {g : Ev} {lo hi : Nat} {σ : St} {p : Nat} {q : Nat × va_E} (h : (wd g lo hi σ)[p]? = some q) : lo + p < hi ∧ q = (eA g (lo + p), wcell g σ (lo + p)) := by
  unfold wd at h
  rw [List.getElem?_map] at h
  by_cases hp : p < hi - lo
  · rw [List.getElem?_range hp] at h
    exact ⟨by omega, (Option.some.inj h).symm⟩
  · rw [List.getElem?_eq_none (by rw [List.length_range]; omega)] at h
    cases h
theorem wd_D {g : Ev} {lo hi : Nat} {σ : St} (h : wInj g lo hi) : va_D (wA g lo hi) (wd g lo hi σ) := by
  refine ⟨fun i j p q hp hq e => ?_, fun k q hq => ?_⟩
  · obtain ⟨h1, rfl⟩ := wd_get hp
    obtain ⟨h2, rfl⟩ := wd_get hq
    have := h _ _ (Nat.le_add_right lo i) h1 (Nat.le_add_right lo j) h2 e
    omega
  · obtain ⟨h1, rfl⟩ := wd_get hq
    exact ⟨lo + k, Nat.le_add_right _ _, h1, rfl⟩
theorem wd_set {g : Ev} {lo hi : Nat} {σ σ' : St} {k : Nat} {e : va_E} (h1 : lo ≤ k) (h2 : k < hi) (he : wcell g σ' k = e) (ho : ∀ j, j ≠ k → wcell g σ' j = wcell g σ j) : (wd g lo hi σ).set (k - lo) (eA g k, e) = wd g lo hi σ' := by
  apply List.ext_getElem?
  intro i
  rw [List.getElem?_set]
  by_cases hi' : k - lo = i
  · subst hi'
    rw [if_pos rfl, wd_at h1 h2, he, if_pos (by unfold wd; rw [List.length_map, List.length_range]; omega)]
  · rw [if_neg hi']
    unfold wd
    rw [List.getElem?_map, List.getElem?_map]
    by_cases hp : i < hi - lo
    · rw [List.getElem?_range hp]
      simp only [Option.map_some, ho (lo + i) (by omega)]
    · rw [List.getElem?_eq_none (by rw [List.length_range]; omega)]
      rfl
-- cells by kind
theorem lenI_pos {k : Nat} (h : 0 < lenI k) : ¬ k = 0 ∧ ¬ k = 6 ∧ ¬ k = 45 ∧ ¬ k = 1 ∧ ¬ (11 ≤ k ∧ k < 45) ∧ ¬ (k = 46 ∨ k = 47 ∨ k = 48) := by
  by_cases h1 : k = 2 ∨ k = 3 ∨ k = 7 ∨ k = 49 ∨ k = 50 ∨ k = 51 ∨ k = 54
  · omega
  by_cases h2 : k = 4 ∨ k = 5 ∨ k = 8 ∨ k = 9
  · omega
  by_cases h3 : k = 10
  · omega
  by_cases h4 : k = 52 ∨ k = 53 ∨ k = 55 ∨ k = 56 ∨ k = 57 ∨ k = 58
  · omega
  unfold lenI at h
  rw [if_neg h1, if_neg h2, if_neg h3, if_neg h4] at h
  omega
theorem wcell_I {g : Ev} {σ : St} {k : Nat} (h : 0 < lenI k) : wcell g σ k = .inl (eC g 0, lenI k, .inl (sI σ k)) := by
  obtain ⟨a, b, c, d, e, f⟩ := lenI_pos h
  unfold wcell
  rw [if_neg a, if_neg b, if_neg c, if_neg d, if_neg e, if_neg f]
theorem lenJ_pos {k : Nat} (h : 0 < lenJ k) : 11 ≤ k ∧ k < 45 := by
  unfold lenJ at h
  split at h
  · assumption
  · omega
theorem wcell_J {g : Ev} {σ : St} {k : Nat} (h : 0 < lenJ k) : wcell g σ k = .inl (eC g 1, lenJ k, .inr (.inl (sL σ k))) := by
  have e := lenJ_pos h
  unfold wcell lenJ
  rw [if_neg (by omega), if_neg (by omega), if_neg (by omega), if_neg (by omega), if_pos e, if_pos e]
theorem lenZ_pos {k : Nat} (h : 0 < lenZ k) : k = 46 ∨ k = 47 ∨ k = 48 := by
  unfold lenZ at h
  split at h
  · left; assumption
  · split at h
    · right; assumption
    · omega
theorem wcell_Z {g : Ev} {σ : St} {k : Nat} (h : 0 < lenZ k) : wcell g σ k = .inl (eC g 2, lenZ k, .inl (sI σ k)) := by
  have e := lenZ_pos h
  unfold wcell
  rw [if_neg (by omega), if_neg (by omega), if_neg (by omega), if_neg (by omega), if_neg (by omega), if_pos e]
theorem up_ne {α : Type} {f : Nat → α} {k j : Nat} {v : α} (h : j ≠ k) : va_up f k v j = f j := if_neg h
theorem up_eq {α : Type} {f : Nat → α} {k : Nat} {v : α} : va_up f k v k = v := if_pos rfl
theorem wcell_uI {g : Ev} {σ : St} {k i : Nat} {x : Int32} (j : Nat) (h : j ≠ k) : wcell g (uI σ k i x) j = wcell g σ j := by
  have e : sI (uI σ k i x) j = sI σ j := up_ne h
  have e2 : sV (uI σ k i x) = sV σ := rfl
  have e3 : sW (uI σ k i x) = sW σ := rfl
  have e4 : sL (uI σ k i x) = sL σ := rfl
  have e5 : sR (uI σ k i x) = sR σ := rfl
  unfold wcell
  rw [e, e2, e3, e4, e5]
theorem wcell_uL {g : Ev} {σ : St} {k : Nat} {f : Nat → Int64} (j : Nat) (h : j ≠ k) : wcell g (uLf σ k f) j = wcell g σ j := by
  have e : sL (uLf σ k f) j = sL σ j := up_ne h
  have e2 : sV (uLf σ k f) = sV σ := rfl
  have e3 : sW (uLf σ k f) = sW σ := rfl
  have e4 : sI (uLf σ k f) = sI σ := rfl
  have e5 : sR (uLf σ k f) = sR σ := rfl
  unfold wcell
  rw [e, e2, e3, e4, e5]
-- words: the good ones, those of nest mates
def lw_good : List Cond := lw_tbl.filter goodWord
def isNest : Cond → Bool
  | .methodLinkNest .. => true
  | .fieldLinkNest .. => true
  | _ => false
def lw_nest : List Cond := lw_tbl.filter isNest
theorem lw_gmem {w : Cond} (i : Nat) (h : lw_tbl[i]? = some w) (hg : goodWord w = true) : w ∈ lw_good := List.mem_filter.mpr ⟨List.mem_of_getElem? h, hg⟩
theorem lw_nmem {w : Cond} (i : Nat) (h : lw_tbl[i]? = some w) (hg : isNest w = true) : w ∈ lw_nest := List.mem_filter.mpr ⟨List.mem_of_getElem? h, hg⟩
theorem lw_goodIn {w : Cond} (h : w ∈ lw_good) : GoodIn lw_good (w :: lw_good) := fun v hv => by
  have : v ∈ lw_good := by
    rcases List.mem_cons.mp hv with rfl | h1
    · exact h
    · exact h1
  exact ⟨this, good_of_word (List.mem_filter.mp this).2⟩
/-- a method: name, code, locals, answer -/
abbrev Mt : Type := MethodName × ByteArray × Nat × Option FieldType
abbrev mY (M : Mt) : MethodName := M.1
abbrev mC (M : Mt) : ByteArray := M.2.1
abbrev mN (M : Mt) : Nat := M.2.2.1
abbrev mR (M : Mt) : Option FieldType := M.2.2.2
abbrev mW (M : Mt) : Cond := .code (mY M) (mC M) (mN M) (mR M)
abbrev rmD (d : Nat) : Room := { frames := d, cells := 0, slots := 0, locals := 40 * d }
/-- what the two static arrays hold -/
def fONE (j : Nat) : Int64 := match j with
  | 0 => -6148914691236517206
  | 1 => -3689348814741910324
  | 2 => -1085102592571150096
  | 3 => -71777214294589696
  | 4 => -281470681808896
  | _ => -4294967296
def fMF (j : Nat) : Int32 := match j with
  | 0 => 0 | 1 => 2 | 2 => 14 | 3 => 46 | 4 => 110 | 5 => 238 | 6 => 478 | 7 => 734 | 8 => 1246 | 9 => 2270 | 10 => 4318 | 11 => 8414 | _ => 16606
def wSt (g : Ev) (A : Nat → Prop) (U : State) : Prop :=
  va_Z "DecisionWeb$Bits" "ONE_AT" "[J" (.ref (eS g 0)) A U U.heap ∧ va_T .long (eS g 0) 6 (fun j => .long (fONE j)) A U U.heap ∧ va_Z "DecisionWeb" "MOST_FORKS" "[I" (.ref (eS g 1)) A U U.heap ∧ va_T .int (eS g 1) 13 (fun j => .int (fMF j)) A U U.heap
def wNs (U : State) : Prop := ∀ w ∈ lw_nest, va_Nw w U
/-- the world at a state -/
def wU (g : Ev) (lo hi : Nat) (σ : St) (U : State) : Prop :=
  va_P (eD g) vwCl (wd g lo hi σ) U.heap ∧ va_K (eD g) vwCl (wTy g) U ∧ wSt g (wA g lo hi) U ∧ wNs U ∧ wInj g lo hi
def wQ (g : Ev) (lo hi : Nat) (K : Option Value → St → Prop) : Array Value → State → Outcome → State → Prop := fun _ st oc t =>
  (∃ (r : Option Value) (σ : St), oc = .returned r ∧ K r σ ∧ va_P (eD g) vwCl (wd g lo hi σ) t.heap) ∧ va_F (wA g lo hi) st t
def Runs (g : Ev) (lo hi d : Nat) (M : Mt) (As : List Value) (σ : St) (K : Option Value → St → Prop) : Prop :=
  Met (eL g) (mY M) (mW M :: lw_good) (rmD d) (va_Pc As (wU g lo hi σ)) (wQ g lo hi K) 0 0 (wA g lo hi)
/-- the frame's facts -/
def wFr (g : Ev) (lo hi : Nat) (M : Mt) (p : Program) (s : State) (m : MethodId) (args : Array Value) (meth : Method) (c : Code) : Prop :=
  p.tables.exec = Jvm.exec ∧ c.code = mC M ∧ meth.sig.returnType = mR M ∧ c.maxLocals = mN M ∧ s.vm.findClass (mY M).cls = some m.cls ∧ (∀ w ∈ lw_good, w.before args s = true) ∧ meth.locks = false ∧ va_K (eD g) vwCl (wTy g) s ∧ wSt g (wA g lo hi) s ∧ wNs s ∧ wInj g lo hi
def WP (g : Ev) (lo hi d : Nat) (M : Mt) (pc : Nat) (lv : List (Nat × Value)) (st : List Value) (σ : St) (K : Option Value → St → Prop) : Prop :=
  ∀ (p : Program) (e : Env) (s : State) (m : MethodId) (args : Array Value) (below : List Frame) (meth : Method) (c : Code), wFr g lo hi M p s m args meth c →
    ∀ (H : Heap) (locs : List Loc) (ls : Array Slot), va_P (eD g) vwCl (wd g lo hi σ) H → va_S (wA g lo hi) s.heap H locs → lv_has ls (mN M) lv →
      W p (eL g) e (rmD d) s m args below meth c H locs 0 0 (MQ below (wQ g lo hi K) args s 0 0 (wA g lo hi)) (F0 m pc ls st)
theorem wNs_warm {s U : State} (hW : s.WarmedH U.vm) (h : wNs s) : wNs U := by
  intro w hw
  have h0 := h w hw
  have hn := (List.mem_filter.mp hw).2
  cases w <;> first | (cases hn; done) | exact va_Nw.warmM hW h0 | exact va_Nw.warmF hW h0
theorem wNs_same {s U : State} (hv : s.vm = U.vm) (h : wNs s) : wNs U := by
  intro w hw
  have h0 := h w hw
  have hn := (List.mem_filter.mp hw).2
  cases w <;> first | (cases hn; done) | exact va_Nw.same rfl hv h0
theorem wSt_moved {g : Ev} {A : Nat → Prop} {s U : State} {H : Heap} {locs : List Loc} (h : wSt g A s) (hvm : s.vm.Alike U.vm) (hS : va_S A s.heap H locs) (hH : U.heap = H) : wSt g A U := by
  have hq : ∀ a : Nat, a < s.heap.size → ¬ A a → U.heap[a]? = s.heap[a]? := fun a h1 h2 => by rw [hH]; exact hS.2.1 a h1 h2
  exact ⟨(h.1.kept hq).moved hvm, (h.2.1.kept hq).moved hvm, (h.2.2.1.kept hq).moved hvm, (h.2.2.2.kept hq).moved hvm⟩
theorem wU_blind {g : Ev} {lo hi : Nat} {σ : St} {As : List Value} : FrameBlind (va_Pc As (wU g lo hi σ)) := by
  intro a U gf mk h
  obtain ⟨h0, h1, h2, h3, h4, h5⟩ := h
  refine ⟨h0, h1, va_K.moved (u := U) (U := U.calling gf mk a) (Vm.Alike.refl U.vm) h2, ?_, wNs_same (s := U) (U := U.calling gf mk a) rfl h4, h5⟩
  exact wSt_moved (H := U.heap) (locs := []) h3 (Vm.Alike.refl U.vm) va_S.rf rfl
theorem Runs.mono {g : Ev} {lo hi d : Nat} {M : Mt} {As : List Value} {σ : St} {K K' : Option Value → St → Prop} (h : Runs g lo hi d M As σ K) (hk : ∀ r σ', K r σ' → K' r σ') : Runs g lo hi d M As σ K' := by
  intro p e ha hc hkk s m args below hf happ hP hT
  obtain ⟨t, o, h1, h2, h3, ⟨⟨⟨r, σ', e1, e2, e3⟩, e4⟩, e5⟩⟩ := h p e ha hc hkk s m args below hf happ hP hT
  exact ⟨t, o, h1, h2, h3, ⟨⟨⟨r, σ', e1, hk _ _ e2, e3⟩, e4⟩, e5⟩⟩
theorem Runs.of {g : Ev} {lo hi d : Nat} {M : Mt} {As : List Value} {σ : St} {K : Option Value → St → Prop} (hy : plainName (mY M).cls = true) (hn : (lg_sl As).length ≤ mN M) (h : WP g lo hi d M 0 (lv_args 0 As) [] σ K) : Runs g lo hi d M As σ K := by
  refine Met.ofW (cc := mC M) (maxL := mN M) (ret := mR M) hy rfl ?_
  intro p e s m args below meth c s₁ B hml hv
  obtain ⟨rfl, hP, hK, hSt, hNs, hI⟩ := hv
  have hts := atoms_spec (ws := mW M :: lw_good) B.pre
  have hl := lv_entry As (n := mN M) hn
  rw [lg_entry_eq]
  exact h p e s m _ below meth c ⟨B.exec, B.bytes, B.returns, hml, findClass_of_methodNamed B.named, fun w hw => hts w (List.mem_cons_of_mem _ hw), B.notSynchronized, hK, hSt, hNs, hI⟩ s.heap [] _ hP va_S.rf hl
theorem WP.mono {g : Ev} {lo hi d : Nat} {M : Mt} {pc : Nat} {lv : List (Nat × Value)} {st : List Value} {σ : St} {K K' : Option Value → St → Prop} (h : WP g lo hi d M pc lv st σ K) (hk : ∀ r σ', K r σ' → K' r σ') : WP g lo hi d M pc lv st σ K' := by
  intro p e s m args below meth c F H locs ls hP hS hl T hT X
  obtain ⟨t, h1, o, h2, h3, ⟨⟨r, σ', e1, e2, e3⟩, e4⟩, e5⟩ := h p e s m args below meth c F H locs ls hP hS hl T hT X
  exact ⟨t, h1, o, h2, h3, ⟨⟨r, σ', e1, hk _ _ e2, e3⟩, e4⟩, e5⟩
end
section
section RULES
variable {g : Ev} {lo hi d : Nat} {M : Mt} {pc : Nat} {lv lv' : List (Nat × Value)} {st : List Value} {σ : St} {K : Option Value → St → Prop}
theorem wp_sub (ks : List Nat) (hl : lv_pick lv ks = lv') (k : WP g lo hi d M pc lv' st σ K) : WP g lo hi d M pc lv st σ K :=
  fun p e s m args below meth c F H locs ls hP hS h => k p e s m args below meth c F H locs ls hP hS (lv_sub h ks hl)
-- constants
theorem wp_iconst {n : Int} (v : Int32) (hd : decode (mC M) pc = .ok (.iconst n, 1)) (hv : Int32.ofInt n = v) (k : WP g lo hi d M (pc + 1) lv (.int v :: st) σ K) : WP g lo hi d M pc lv st σ K :=
  fun p e s m args below meth c F H locs ls hP hS h => lv_iconst F.1 F.2.1 hd hv (k p e s m args below meth c F H locs ls hP hS h)
theorem wp_bipush {n : Int} (v : Int32) (hd : decode (mC M) pc = .ok (.bipush n, 2)) (hv : (Int8.ofInt n).toInt32 = v) (k : WP g lo hi d M (pc + 2) lv (.int v :: st) σ K) : WP g lo hi d M pc lv st σ K :=
  fun p e s m args below meth c F H locs ls hP hS h => lv_bipush F.1 F.2.1 hd hv (k p e s m args below meth c F H locs ls hP hS h)
theorem wp_sipush {n : Int} (v : Int32) (hd : decode (mC M) pc = .ok (.sipush n, 3)) (hv : (Int16.ofInt n).toInt32 = v) (k : WP g lo hi d M (pc + 3) lv (.int v :: st) σ K) : WP g lo hi d M pc lv st σ K :=
  fun p e s m args below meth c F H locs ls hP hS h => lv_sipush F.1 F.2.1 hd hv (k p e s m args below meth c F H locs ls hP hS h)
theorem wp_lconst {n : Fin 2} (v : Int64) (hd : decode (mC M) pc = .ok (.lconst n, 1)) (hv : Int64.ofNat (n : Nat) = v) (k : WP g lo hi d M (pc + 1) lv (.long v :: st) σ K) : WP g lo hi d M pc lv st σ K :=
  fun p e s m args below meth c F H locs ls hP hS h => lv_lconst F.1 F.2.1 hd hv (k p e s m args below meth c F H locs ls hP hS h)
theorem wp_ldc {i : Nat} {v : Int32} (hw : Cond.constant (mY M).cls i v ∈ lw_good) (hd : decode (mC M) pc = .ok (.ldc i, 2)) (k : WP g lo hi d M (pc + 2) lv (.int v :: st) σ K) : WP g lo hi d M pc lv st σ K :=
  fun p e s m args below meth c F H locs ls hP hS h => lv_ldc F.1 F.2.1 F.2.2.2.2.1 (F.2.2.2.2.2.1 _ hw) hd (k p e s m args below meth c F H locs ls hP hS h)
theorem wp_ldcw {i : Nat} {v : Int32} (hw : Cond.constant (mY M).cls i v ∈ lw_good) (hd : decode (mC M) pc = .ok (.ldc_w i, 3)) (k : WP g lo hi d M (pc + 3) lv (.int v :: st) σ K) : WP g lo hi d M pc lv st σ K :=
  fun p e s m args below meth c F H locs ls hP hS h => lv_ldcw F.1 F.2.1 F.2.2.2.2.1 (F.2.2.2.2.2.1 _ hw) hd (k p e s m args below meth c F H locs ls hP hS h)
theorem wp_ldc2 {i : Nat} {v : Int64} (hw : Cond.constantLong (mY M).cls i v ∈ lw_good) (hd : decode (mC M) pc = .ok (.ldc2_w i, 3)) (k : WP g lo hi d M (pc + 3) lv (.long v :: st) σ K) : WP g lo hi d M pc lv st σ K :=
  fun p e s m args below meth c F H locs ls hP hS h => lv_ldc2 F.1 F.2.1 F.2.2.2.2.1 (F.2.2.2.2.2.1 _ hw) hd (k p e s m args below meth c F H locs ls hP hS h)
-- locals
theorem wp_iload_n (q : Nat) {n : Fin 4} {i : Nat} {x : Int32} (hd : decode (mC M) pc = .ok (.iload_n n, 1)) (hi' : (n : Nat) = i) (hq : lv[q]? = some (i, .int x)) (k : WP g lo hi d M (pc + 1) lv (.int x :: st) σ K) : WP g lo hi d M pc lv st σ K :=
  fun p e s m args below meth c F H locs ls hP hS h => lv_iload_n F.1 F.2.1 hd hi' (lv_at h q hq) (k p e s m args below meth c F H locs ls hP hS h)
theorem wp_iload (q : Nat) {i : Nat} {x : Int32} (hd : decode (mC M) pc = .ok (.iload i, 2)) (hq : lv[q]? = some (i, .int x)) (k : WP g lo hi d M (pc + 2) lv (.int x :: st) σ K) : WP g lo hi d M pc lv st σ K :=
  fun p e s m args below meth c F H locs ls hP hS h => lv_iload F.1 F.2.1 hd (lv_at h q hq) (k p e s m args below meth c F H locs ls hP hS h)
theorem wp_lload_n (q : Nat) {n : Fin 4} {i : Nat} {x : Int64} (hd : decode (mC M) pc = .ok (.lload_n n, 1)) (hi' : (n : Nat) = i) (hq : lv[q]? = some (i, .long x)) (k : WP g lo hi d M (pc + 1) lv (.long x :: st) σ K) : WP g lo hi d M pc lv st σ K :=
  fun p e s m args below meth c F H locs ls hP hS h => lv_lload_n F.1 F.2.1 hd hi' (lv_at h q hq) (k p e s m args below meth c F H locs ls hP hS h)
theorem wp_lload (q : Nat) {i : Nat} {x : Int64} (hd : decode (mC M) pc = .ok (.lload i, 2)) (hq : lv[q]? = some (i, .long x)) (k : WP g lo hi d M (pc + 2) lv (.long x :: st) σ K) : WP g lo hi d M pc lv st σ K :=
  fun p e s m args below meth c F H locs ls hP hS h => lv_lload F.1 F.2.1 hd (lv_at h q hq) (k p e s m args below meth c F H locs ls hP hS h)
theorem wp_aload_n (q : Nat) {n : Fin 4} {i : Nat} {x : Nat} (hd : decode (mC M) pc = .ok (.aload_n n, 1)) (hi' : (n : Nat) = i) (hq : lv[q]? = some (i, .ref x)) (k : WP g lo hi d M (pc + 1) lv (.ref x :: st) σ K) : WP g lo hi d M pc lv st σ K :=
  fun p e s m args below meth c F H locs ls hP hS h => lv_aload_n F.1 F.2.1 hd hi' (lv_at h q hq) (k p e s m args below meth c F H locs ls hP hS h)
theorem wp_aload (q : Nat) {i : Nat} {x : Nat} (hd : decode (mC M) pc = .ok (.aload i, 2)) (hq : lv[q]? = some (i, .ref x)) (k : WP g lo hi d M (pc + 2) lv (.ref x :: st) σ K) : WP g lo hi d M pc lv st σ K :=
  fun p e s m args below meth c F H locs ls hP hS h => lv_aload F.1 F.2.1 hd (lv_at h q hq) (k p e s m args below meth c F H locs ls hP hS h)
def st1 (lv : List (Nat × Value)) (i : Nat) (v : Value) : List (Nat × Value) := (i, v) :: lv.filter (fun q => !(q.1 == i) && !(q.1 + 1 == i && q.2.category == 2))
def st2 (lv : List (Nat × Value)) (i : Nat) (v : Value) : List (Nat × Value) := (i, v) :: lv.filter (fun q => !(q.1 == i) && (!(q.1 == i + 1) && !(q.1 + 1 == i && q.2.category == 2)))
theorem wp_istore_n {n : Fin 4} {i : Nat} {x : Int32} (hd : decode (mC M) pc = .ok (.istore_n n, 1)) (hi' : (n : Nat) = i) (hn : i < mN M) (hl : st1 lv i (.int x) = lv') (k : WP g lo hi d M (pc + 1) lv' st σ K) : WP g lo hi d M pc lv (.int x :: st) σ K :=
  fun p e s m args below meth c F H locs ls hP hS h => lv_istore_n F.1 F.2.1 hd hi' h hn hl (fun ls h => k p e s m args below meth c F H locs ls hP hS h)
theorem wp_istore {i : Nat} {x : Int32} (hd : decode (mC M) pc = .ok (.istore i, 2)) (hn : i < mN M) (hl : st1 lv i (.int x) = lv') (k : WP g lo hi d M (pc + 2) lv' st σ K) : WP g lo hi d M pc lv (.int x :: st) σ K :=
  fun p e s m args below meth c F H locs ls hP hS h => lv_istore F.1 F.2.1 hd h hn hl (fun ls h => k p e s m args below meth c F H locs ls hP hS h)
theorem wp_astore_n {n : Fin 4} {i : Nat} {x : Nat} (hd : decode (mC M) pc = .ok (.astore_n n, 1)) (hi' : (n : Nat) = i) (hn : i < mN M) (hl : st1 lv i (.ref x) = lv') (k : WP g lo hi d M (pc + 1) lv' st σ K) : WP g lo hi d M pc lv (.ref x :: st) σ K :=
  fun p e s m args below meth c F H locs ls hP hS h => lv_astore_n F.1 F.2.1 hd hi' h hn hl (fun ls h => k p e s m args below meth c F H locs ls hP hS h)
theorem wp_astore {i : Nat} {x : Nat} (hd : decode (mC M) pc = .ok (.astore i, 2)) (hn : i < mN M) (hl : st1 lv i (.ref x) = lv') (k : WP g lo hi d M (pc + 2) lv' st σ K) : WP g lo hi d M pc lv (.ref x :: st) σ K :=
  fun p e s m args below meth c F H locs ls hP hS h => lv_astore F.1 F.2.1 hd h hn hl (fun ls h => k p e s m args below meth c F H locs ls hP hS h)
theorem wp_lstore_n {n : Fin 4} {i : Nat} {x : Int64} (hd : decode (mC M) pc = .ok (.lstore_n n, 1)) (hi' : (n : Nat) = i) (hn : i + 1 < mN M) (hl : st2 lv i (.long x) = lv') (k : WP g lo hi d M (pc + 1) lv' st σ K) : WP g lo hi d M pc lv (.long x :: st) σ K :=
  fun p e s m args below meth c F H locs ls hP hS h => lv_lstore_n F.1 F.2.1 hd hi' h hn hl (fun ls h => k p e s m args below meth c F H locs ls hP hS h)
theorem wp_lstore {i : Nat} {x : Int64} (hd : decode (mC M) pc = .ok (.lstore i, 2)) (hn : i + 1 < mN M) (hl : st2 lv i (.long x) = lv') (k : WP g lo hi d M (pc + 2) lv' st σ K) : WP g lo hi d M pc lv (.long x :: st) σ K :=
  fun p e s m args below meth c F H locs ls hP hS h => lv_lstore F.1 F.2.1 hd h hn hl (fun ls h => k p e s m args below meth c F H locs ls hP hS h)
theorem wp_iinc (q : Nat) {i : Nat} {n : Int} {x : Int32} (b : Int32) (hd : decode (mC M) pc = .ok (.iinc i n, 3)) (hb : Int32.ofInt n = b) (hq : lv[q]? = some (i, .int x)) (hn : i < mN M) (hl : st1 lv i (.int (x + b)) = lv') (k : WP g lo hi d M (pc + 3) lv' st σ K) : WP g lo hi d M pc lv st σ K :=
  fun p e s m args below meth c F H locs ls hP hS h => lv_iinc F.1 F.2.1 hd h hq (by rw [hb]) hn hl (fun ls h => k p e s m args below meth c F H locs ls hP hS h)
-- arithmetic
def jshl (x y : Int32) : Int32 := x <<< (y &&& 31)
def jshr (x y : Int32) : Int32 := x >>> (y &&& 31)
def jlshl (x : Int64) (y : Int32) : Int64 := x <<< (y.toInt64 &&& 63)
def jlushr (x : Int64) (y : Int32) : Int64 := (x.toUInt64 >>> (y.toInt64.toUInt64 &&& Int64.toUInt64 63)).toInt64
theorem wp_iadd {x y : Int32} (hd : decode (mC M) pc = .ok (.iadd, 1)) (k : WP g lo hi d M (pc + 1) lv (.int (x + y) :: st) σ K) : WP g lo hi d M pc lv (.int y :: .int x :: st) σ K :=
  fun p e s m args below meth c F H locs ls hP hS h => lv_iadd F.1 F.2.1 hd (k p e s m args below meth c F H locs ls hP hS h)
theorem wp_isub {x y : Int32} (hd : decode (mC M) pc = .ok (.isub, 1)) (k : WP g lo hi d M (pc + 1) lv (.int (x - y) :: st) σ K) : WP g lo hi d M pc lv (.int y :: .int x :: st) σ K :=
  fun p e s m args below meth c F H locs ls hP hS h => lv_isub F.1 F.2.1 hd (k p e s m args below meth c F H locs ls hP hS h)
theorem wp_imul {x y : Int32} (hd : decode (mC M) pc = .ok (.imul, 1)) (k : WP g lo hi d M (pc + 1) lv (.int (x * y) :: st) σ K) : WP g lo hi d M pc lv (.int y :: .int x :: st) σ K :=
  fun p e s m args below meth c F H locs ls hP hS h => lv_imul F.1 F.2.1 hd (k p e s m args below meth c F H locs ls hP hS h)
theorem wp_iand {x y : Int32} (hd : decode (mC M) pc = .ok (.iand, 1)) (k : WP g lo hi d M (pc + 1) lv (.int (x &&& y) :: st) σ K) : WP g lo hi d M pc lv (.int y :: .int x :: st) σ K :=
  fun p e s m args below meth c F H locs ls hP hS h => lv_iand F.1 F.2.1 hd (k p e s m args below meth c F H locs ls hP hS h)
theorem wp_ior {x y : Int32} (hd : decode (mC M) pc = .ok (.ior, 1)) (k : WP g lo hi d M (pc + 1) lv (.int (x ||| y) :: st) σ K) : WP g lo hi d M pc lv (.int y :: .int x :: st) σ K :=
  fun p e s m args below meth c F H locs ls hP hS h => lv_ior F.1 F.2.1 hd (k p e s m args below meth c F H locs ls hP hS h)
theorem wp_ixor {x y : Int32} (hd : decode (mC M) pc = .ok (.ixor, 1)) (k : WP g lo hi d M (pc + 1) lv (.int (x ^^^ y) :: st) σ K) : WP g lo hi d M pc lv (.int y :: .int x :: st) σ K :=
  fun p e s m args below meth c F H locs ls hP hS h => lv_ixor F.1 F.2.1 hd (k p e s m args below meth c F H locs ls hP hS h)
theorem wp_ishl {x y : Int32} (hd : decode (mC M) pc = .ok (.ishl, 1)) (k : WP g lo hi d M (pc + 1) lv (.int (jshl x y) :: st) σ K) : WP g lo hi d M pc lv (.int y :: .int x :: st) σ K :=
  fun p e s m args below meth c F H locs ls hP hS h => lv_ishl F.1 F.2.1 hd (k p e s m args below meth c F H locs ls hP hS h)
theorem wp_ishr {x y : Int32} (hd : decode (mC M) pc = .ok (.ishr, 1)) (k : WP g lo hi d M (pc + 1) lv (.int (jshr x y) :: st) σ K) : WP g lo hi d M pc lv (.int y :: .int x :: st) σ K :=
  fun p e s m args below meth c F H locs ls hP hS h => lv_ishr F.1 F.2.1 hd (k p e s m args below meth c F H locs ls hP hS h)
theorem wp_ladd {x y : Int64} (hd : decode (mC M) pc = .ok (.ladd, 1)) (k : WP g lo hi d M (pc + 1) lv (.long (x + y) :: st) σ K) : WP g lo hi d M pc lv (.long y :: .long x :: st) σ K :=
  fun p e s m args below meth c F H locs ls hP hS h => lv_ladd F.1 F.2.1 hd (k p e s m args below meth c F H locs ls hP hS h)
theorem wp_lsub {x y : Int64} (hd : decode (mC M) pc = .ok (.lsub, 1)) (k : WP g lo hi d M (pc + 1) lv (.long (x - y) :: st) σ K) : WP g lo hi d M pc lv (.long y :: .long x :: st) σ K :=
  fun p e s m args below meth c F H locs ls hP hS h => lv_lsub F.1 F.2.1 hd (k p e s m args below meth c F H locs ls hP hS h)
theorem wp_lmul {x y : Int64} (hd : decode (mC M) pc = .ok (.lmul, 1)) (k : WP g lo hi d M (pc + 1) lv (.long (x * y) :: st) σ K) : WP g lo hi d M pc lv (.long y :: .long x :: st) σ K :=
  fun p e s m args below meth c F H locs ls hP hS h => lv_lmul F.1 F.2.1 hd (k p e s m args below meth c F H locs ls hP hS h)
theorem wp_land {x y : Int64} (hd : decode (mC M) pc = .ok (.land, 1)) (k : WP g lo hi d M (pc + 1) lv (.long (x &&& y) :: st) σ K) : WP g lo hi d M pc lv (.long y :: .long x :: st) σ K :=
  fun p e s m args below meth c F H locs ls hP hS h => lv_land F.1 F.2.1 hd (k p e s m args below meth c F H locs ls hP hS h)
theorem wp_lor {x y : Int64} (hd : decode (mC M) pc = .ok (.lor, 1)) (k : WP g lo hi d M (pc + 1) lv (.long (x ||| y) :: st) σ K) : WP g lo hi d M pc lv (.long y :: .long x :: st) σ K :=
  fun p e s m args below meth c F H locs ls hP hS h => lv_lor F.1 F.2.1 hd (k p e s m args below meth c F H locs ls hP hS h)
theorem wp_lxor {x y : Int64} (hd : decode (mC M) pc = .ok (.lxor, 1)) (k : WP g lo hi d M (pc + 1) lv (.long (x ^^^ y) :: st) σ K) : WP g lo hi d M pc lv (.long y :: .long x :: st) σ K :=
  fun p e s m args below meth c F H locs ls hP hS h => lv_lxor F.1 F.2.1 hd (k p e s m args below meth c F H locs ls hP hS h)
theorem wp_lcmp {x y : Int64} (hd : decode (mC M) pc = .ok (.lcmp, 1)) (k : WP g lo hi d M (pc + 1) lv (.int (lg_cmp x y) :: st) σ K) : WP g lo hi d M pc lv (.long y :: .long x :: st) σ K :=
  fun p e s m args below meth c F H locs ls hP hS h => W.lcmp F.1 F.2.1 hd (k p e s m args below meth c F H locs ls hP hS h)
theorem wp_lshl {x : Int64} {y : Int32} (hd : decode (mC M) pc = .ok (.lshl, 1)) (k : WP g lo hi d M (pc + 1) lv (.long (jlshl x y) :: st) σ K) : WP g lo hi d M pc lv (.int y :: .long x :: st) σ K :=
  fun p e s m args below meth c F H locs ls hP hS h => lv_lshl F.1 F.2.1 hd rfl (k p e s m args below meth c F H locs ls hP hS h)
theorem wp_lushr {x : Int64} {y : Int32} (hd : decode (mC M) pc = .ok (.lushr, 1)) (k : WP g lo hi d M (pc + 1) lv (.long (jlushr x y) :: st) σ K) : WP g lo hi d M pc lv (.int y :: .long x :: st) σ K :=
  fun p e s m args below meth c F H locs ls hP hS h => lv_lushr F.1 F.2.1 hd rfl (k p e s m args below meth c F H locs ls hP hS h)
theorem wp_l2i {x : Int64} (hd : decode (mC M) pc = .ok (.l2i, 1)) (k : WP g lo hi d M (pc + 1) lv (.int x.toInt32 :: st) σ K) : WP g lo hi d M pc lv (.long x :: st) σ K :=
  fun p e s m args below meth c F H locs ls hP hS h => lv_l2i F.1 F.2.1 hd rfl (k p e s m args below meth c F H locs ls hP hS h)
theorem wp_dup {v : Value} (hd : decode (mC M) pc = .ok (.dup, 1)) (hv : v.category = 1) (k : WP g lo hi d M (pc + 1) lv (v :: v :: st) σ K) : WP g lo hi d M pc lv (v :: st) σ K :=
  fun p e s m args below meth c F H locs ls hP hS h => lv_dup F.1 F.2.1 hd hv (k p e s m args below meth c F H locs ls hP hS h)
theorem wp_pop {v : Value} (hd : decode (mC M) pc = .ok (.pop, 1)) (hv : v.category = 1) (k : WP g lo hi d M (pc + 1) lv st σ K) : WP g lo hi d M pc lv (v :: st) σ K :=
  fun p e s m args below meth c F H locs ls hP hS h => lv_pop F.1 F.2.1 hd hv (k p e s m args below meth c F H locs ls hP hS h)
theorem wp_dup2 {v w : Value} (hd : decode (mC M) pc = .ok (.dup2, 1)) (hv : v.category = 1) (hw : w.category = 1) (k : WP g lo hi d M (pc + 1) lv (v :: w :: v :: w :: st) σ K) : WP g lo hi d M pc lv (v :: w :: st) σ K :=
  fun p e s m args below meth c F H locs ls hP hS h => lv_dup2_11 F.1 F.2.1 hd hv hw (k p e s m args below meth c F H locs ls hP hS h)
theorem wp_dup_x1 {v w : Value} (hd : decode (mC M) pc = .ok (.dup_x1, 1)) (hv : v.category = 1) (hw : w.category = 1) (k : WP g lo hi d M (pc + 1) lv (v :: w :: v :: st) σ K) : WP g lo hi d M pc lv (v :: w :: st) σ K :=
  fun p e s m args below meth c F H locs ls hP hS h => lv_dup_x1 F.1 F.2.1 hd hv hw (k p e s m args below meth c F H locs ls hP hS h)
theorem wp_goto {off : Int} (t : Nat) (hd : decode (mC M) pc = .ok (.goto off, 3)) (ht : (pc : Int) + off = (t : Int)) (k : WP g lo hi d M t lv st σ K) : WP g lo hi d M pc lv st σ K :=
  fun p e s m args below meth c F H locs ls hP hS h => lv_goto F.1 F.2.1 hd ht (k p e s m args below meth c F H locs ls hP hS h)
theorem wp_if_eq {x : Int32} {off : Int} (t : Nat) (hd : decode (mC M) pc = .ok (.ifCond .eq off, 3)) (ht : (pc : Int) + off = (t : Int)) (kt : x = 0 → WP g lo hi d M t lv st σ K) (kf : ¬ x = 0 → WP g lo hi d M (pc + 3) lv st σ K) : WP g lo hi d M pc lv (.int x :: st) σ K :=
  fun p e s m args below meth c F H locs ls hP hS h => lv_if_eq F.1 F.2.1 hd ht (fun q => kt q p e s m args below meth c F H locs ls hP hS h) (fun q => kf q p e s m args below meth c F H locs ls hP hS h)
theorem wp_if_ne {x : Int32} {off : Int} (t : Nat) (hd : decode (mC M) pc = .ok (.ifCond .ne off, 3)) (ht : (pc : Int) + off = (t : Int)) (kt : ¬ x = 0 → WP g lo hi d M t lv st σ K) (kf : x = 0 → WP g lo hi d M (pc + 3) lv st σ K) : WP g lo hi d M pc lv (.int x :: st) σ K :=
  fun p e s m args below meth c F H locs ls hP hS h => lv_if_ne F.1 F.2.1 hd ht (fun q => kt q p e s m args below meth c F H locs ls hP hS h) (fun q => kf q p e s m args below meth c F H locs ls hP hS h)
theorem wp_if_lt {x : Int32} {off : Int} (t : Nat) (hd : decode (mC M) pc = .ok (.ifCond .lt off, 3)) (ht : (pc : Int) + off = (t : Int)) (kt : x < 0 → WP g lo hi d M t lv st σ K) (kf : ¬ x < 0 → WP g lo hi d M (pc + 3) lv st σ K) : WP g lo hi d M pc lv (.int x :: st) σ K :=
  fun p e s m args below meth c F H locs ls hP hS h => lv_if_lt F.1 F.2.1 hd ht (fun q => kt q p e s m args below meth c F H locs ls hP hS h) (fun q => kf q p e s m args below meth c F H locs ls hP hS h)
theorem wp_if_ge {x : Int32} {off : Int} (t : Nat) (hd : decode (mC M) pc = .ok (.ifCond .ge off, 3)) (ht : (pc : Int) + off = (t : Int)) (kt : 0 ≤ x → WP g lo hi d M t lv st σ K) (kf : ¬ 0 ≤ x → WP g lo hi d M (pc + 3) lv st σ K) : WP g lo hi d M pc lv (.int x :: st) σ K :=
  fun p e s m args below meth c F H locs ls hP hS h => lv_if_ge F.1 F.2.1 hd ht (fun q => kt q p e s m args below meth c F H locs ls hP hS h) (fun q => kf q p e s m args below meth c F H locs ls hP hS h)
theorem wp_if_le {x : Int32} {off : Int} (t : Nat) (hd : decode (mC M) pc = .ok (.ifCond .le off, 3)) (ht : (pc : Int) + off = (t : Int)) (kt : x ≤ 0 → WP g lo hi d M t lv st σ K) (kf : ¬ x ≤ 0 → WP g lo hi d M (pc + 3) lv st σ K) : WP g lo hi d M pc lv (.int x :: st) σ K :=
  fun p e s m args below meth c F H locs ls hP hS h => lv_if_le F.1 F.2.1 hd ht (fun q => kt q p e s m args below meth c F H locs ls hP hS h) (fun q => kf q p e s m args below meth c F H locs ls hP hS h)
theorem wp_icmp_eq {x y : Int32} {off : Int} (t : Nat) (hd : decode (mC M) pc = .ok (.if_icmp .eq off, 3)) (ht : (pc : Int) + off = (t : Int)) (kt : x = y → WP g lo hi d M t lv st σ K) (kf : ¬ x = y → WP g lo hi d M (pc + 3) lv st σ K) : WP g lo hi d M pc lv (.int y :: .int x :: st) σ K :=
  fun p e s m args below meth c F H locs ls hP hS h => lv_icmp_eq F.1 F.2.1 hd ht (fun q => kt q p e s m args below meth c F H locs ls hP hS h) (fun q => kf q p e s m args below meth c F H locs ls hP hS h)
theorem wp_icmp_ne {x y : Int32} {off : Int} (t : Nat) (hd : decode (mC M) pc = .ok (.if_icmp .ne off, 3)) (ht : (pc : Int) + off = (t : Int)) (kt : ¬ x = y → WP g lo hi d M t lv st σ K) (kf : x = y → WP g lo hi d M (pc + 3) lv st σ K) : WP g lo hi d M pc lv (.int y :: .int x :: st) σ K :=
  fun p e s m args below meth c F H locs ls hP hS h => lv_icmp_ne F.1 F.2.1 hd ht (fun q => kt q p e s m args below meth c F H locs ls hP hS h) (fun q => kf q p e s m args below meth c F H locs ls hP hS h)
theorem wp_icmp_lt {x y : Int32} {off : Int} (t : Nat) (hd : decode (mC M) pc = .ok (.if_icmp .lt off, 3)) (ht : (pc : Int) + off = (t : Int)) (kt : x < y → WP g lo hi d M t lv st σ K) (kf : ¬ x < y → WP g lo hi d M (pc + 3) lv st σ K) : WP g lo hi d M pc lv (.int y :: .int x :: st) σ K :=
  fun p e s m args below meth c F H locs ls hP hS h => lv_icmp_lt F.1 F.2.1 hd ht (fun q => kt q p e s m args below meth c F H locs ls hP hS h) (fun q => kf q p e s m args below meth c F H locs ls hP hS h)
theorem wp_icmp_ge {x y : Int32} {off : Int} (t : Nat) (hd : decode (mC M) pc = .ok (.if_icmp .ge off, 3)) (ht : (pc : Int) + off = (t : Int)) (kt : y ≤ x → WP g lo hi d M t lv st σ K) (kf : ¬ y ≤ x → WP g lo hi d M (pc + 3) lv st σ K) : WP g lo hi d M pc lv (.int y :: .int x :: st) σ K :=
  fun p e s m args below meth c F H locs ls hP hS h => lv_icmp_ge F.1 F.2.1 hd ht (fun q => kt q p e s m args below meth c F H locs ls hP hS h) (fun q => kf q p e s m args below meth c F H locs ls hP hS h)
theorem wp_icmp_le {x y : Int32} {off : Int} (t : Nat) (hd : decode (mC M) pc = .ok (.if_icmp .le off, 3)) (ht : (pc : Int) + off = (t : Int)) (kt : x ≤ y → WP g lo hi d M t lv st σ K) (kf : ¬ x ≤ y → WP g lo hi d M (pc + 3) lv st σ K) : WP g lo hi d M pc lv (.int y :: .int x :: st) σ K :=
  fun p e s m args below meth c F H locs ls hP hS h => lv_icmp_le F.1 F.2.1 hd ht (fun q => kt q p e s m args below meth c F H locs ls hP hS h) (fun q => kf q p e s m args below meth c F H locs ls hP hS h)
theorem wp_icmp_gt {x y : Int32} {off : Int} (t : Nat) (hd : decode (mC M) pc = .ok (.if_icmp .gt off, 3)) (ht : (pc : Int) + off = (t : Int)) (kt : y < x → WP g lo hi d M t lv st σ K) (kf : ¬ y < x → WP g lo hi d M (pc + 3) lv st σ K) : WP g lo hi d M pc lv (.int y :: .int x :: st) σ K :=
  fun p e s m args below meth c F H locs ls hP hS h => lv_icmp_gt F.1 F.2.1 hd ht (fun q => kt q p e s m args below meth c F H locs ls hP hS h) (fun q => kf q p e s m args below meth c F H locs ls hP hS h)
end RULES
end
section
theorem upV_ne {σ : St} {f i : Nat} {x : Int32} (h : i ≠ f) : sV (uV σ f x) i = sV σ i := up_ne h
theorem wcell_uV0 {g : Ev} {σ : St} {f : Nat} {x : Int32} (hf : f ≤ 5) (j : Nat) (h : j ≠ 0) : wcell g (uV σ f x) j = wcell g σ j := by
  have e3 : sW (uV σ f x) = sW σ := rfl
  have e4 : sL (uV σ f x) = sL σ := rfl
  have e5 : sR (uV σ f x) = sR σ := rfl
  have e6 : sI (uV σ f x) = sI σ := rfl
  unfold wcell
  rw [if_neg h, if_neg h, e4, e5, e6, upV_ne (i := 6) (by omega), upV_ne (i := 7) (by omega), upV_ne (i := 8) (by omega), upV_ne (i := 9) (by omega), upV_ne (i := 10) (by omega), upV_ne (i := 11) (by omega), upV_ne (i := 12) (by omega)]
theorem wcell_uV6 {g : Ev} {σ : St} {f : Nat} {x : Int32} (hf : f = 6 ∨ f = 7) (j : Nat) (h : j ≠ 6) : wcell g (uV σ f x) j = wcell g σ j := by
  have e3 : sW (uV σ f x) = sW σ := rfl
  have e4 : sL (uV σ f x) = sL σ := rfl
  have e6 : sI (uV σ f x) = sI σ := rfl
  unfold wcell
  rw [if_neg h, if_neg h, e3, e4, e6, upV_ne (i := 0) (by omega), upV_ne (i := 1) (by omega), upV_ne (i := 2) (by omega), upV_ne (i := 3) (by omega), upV_ne (i := 4) (by omega), upV_ne (i := 5) (by omega), upV_ne (i := 8) (by omega), upV_ne (i := 9) (by omega), upV_ne (i := 10) (by omega), upV_ne (i := 11) (by omega), upV_ne (i := 12) (by omega)]
theorem wcell_uV45 {g : Ev} {σ : St} {f : Nat} {x : Int32} (hf : 8 ≤ f) (j : Nat) (h : j ≠ 45) : wcell g (uV σ f x) j = wcell g σ j := by
  have e3 : sW (uV σ f x) = sW σ := rfl
  have e4 : sL (uV σ f x) = sL σ := rfl
  have e5 : sR (uV σ f x) = sR σ := rfl
  have e6 : sI (uV σ f x) = sI σ := rfl
  unfold wcell
  rw [if_neg h, if_neg h, e3, e4, e5, e6, upV_ne (i := 0) (by omega), upV_ne (i := 1) (by omega), upV_ne (i := 2) (by omega), upV_ne (i := 3) (by omega), upV_ne (i := 4) (by omega), upV_ne (i := 5) (by omega), upV_ne (i := 6) (by omega), upV_ne (i := 7) (by omega)]
theorem wcell_uW {g : Ev} {σ : St} {x : Int64} (j : Nat) (h : j ≠ 0) : wcell g (uW σ x) j = wcell g σ j := by
  have e2 : sV (uW σ x) = sV σ := rfl
  have e4 : sL (uW σ x) = sL σ := rfl
  have e5 : sR (uW σ x) = sR σ := rfl
  have e6 : sI (uW σ x) = sI σ := rfl
  unfold wcell
  rw [if_neg h, if_neg h, e2, e4, e5, e6]
theorem wcell_uR {g : Ev} {σ : St} {f x : Nat} (j : Nat) (h : j ≠ 6) : wcell g (uR σ f x) j = wcell g σ j := by
  have e2 : sV (uR σ f x) = sV σ := rfl
  have e3 : sW (uR σ f x) = sW σ := rfl
  have e4 : sL (uR σ f x) = sL σ := rfl
  have e6 : sI (uR σ f x) = sI σ := rfl
  unfold wcell
  rw [if_neg h, if_neg h, e2, e3, e4, e6]
theorem inG1 : ∀ w ∈ u_ws RX1 TX1 6, w ∈ lw_good := fun w h => List.mem_filter.mpr ⟨inX1 w h, by revert w h; decide +kernel⟩
theorem inG2 : ∀ w ∈ u_ws RX2 TX2 13, w ∈ lw_good := fun w h => List.mem_filter.mpr ⟨inX2 w h, by revert w h; decide +kernel⟩
theorem inG3 : ∀ w ∈ u_ws RX3 TX3 18, w ∈ lw_good := fun w h => List.mem_filter.mpr ⟨inX3 w h, by revert w h; decide +kernel⟩
section MEM
variable {g : Ev} {lo hi d : Nat} {M : Mt} {pc : Nat} {lv lv' : List (Nat × Value)} {st : List Value} {σ : St} {K : Option Value → St → Prop}
theorem wp_get (ko ci f : Nat) {C : String} {T : u_T} {N idx : Nat} {fs : List Value} {v : Value} (h1 : lo ≤ ko) (h2 : ko < hi) (hc : wcell g σ ko = .inr (ci, fs)) (hcl : vwCl[ci]? = some (C, T, N)) (hin : ∀ w ∈ u_ws C T N, w ∈ lw_good) (hf : f < N) (hw : Cond.fieldLink (mY M).cls idx (T f).1 (T f).2.1 (T f).2.2.1 ∈ lw_good) (hv : fs[f]? = some v) (hd : decode (mC M) pc = .ok (.getfield idx, 3)) (k : WP g lo hi d M (pc + 3) lv (v :: st) σ K) : WP g lo hi d M pc lv (.ref (eA g ko) :: st) σ K :=
  fun p e s m args below meth c F H locs ls hP hS h => va_get (D := eD g) (ci := ci) (v := v) (C := C) (T := T) (N := N) F.1 F.2.1 F.2.2.2.2.2.1 hin F.2.2.2.2.1 F.2.2.2.2.2.2.2.1 hP (ko - lo) (by rw [wd_at h1 h2, hc]) hcl f hf (F.2.2.2.2.2.1 _ hw) (fun _ h9 => h9) hv hd (k p e s m args below meth c F H locs ls hP hS h)
theorem wp_getN (ko ci f : Nat) {C host : String} {T : u_T} {N idx : Nat} {fs : List Value} {v : Value} (h1 : lo ≤ ko) (h2 : ko < hi) (hc : wcell g σ ko = .inr (ci, fs)) (hcl : vwCl[ci]? = some (C, T, N)) (hin : ∀ w ∈ u_ws C T N, w ∈ lw_good) (hf : f < N) (hw : Cond.fieldLinkNest (mY M).cls idx (T f).1 (T f).2.1 (T f).2.2.1 host ∈ lw_nest) (hv : fs[f]? = some v) (hd : decode (mC M) pc = .ok (.getfield idx, 3)) (k : WP g lo hi d M (pc + 3) lv (v :: st) σ K) : WP g lo hi d M pc lv (.ref (eA g ko) :: st) σ K :=
  fun p e s m args below meth c F H locs ls hP hS h => va_getN (D := eD g) (ci := ci) (v := v) (C := C) (T := T) (N := N) F.1 F.2.1 F.2.2.2.2.2.1 hin F.2.2.2.2.1 F.2.2.2.2.2.2.2.1 hP (ko - lo) (by rw [wd_at h1 h2, hc]) hcl f hf (va_Nw.use rfl (F.2.2.2.2.2.2.2.2.2.1 _ hw)) (fun _ h9 => h9) hv hd (k p e s m args below meth c F H locs ls hP hS h)
theorem wp_put (ko ci f : Nat) {C : String} {T : u_T} {N idx : Nat} {fs : List Value} {v : Value} {ty : FieldType} (ty0 : Nat → FieldType) (hty : ∀ k, k < N → parseFieldDescriptor (T k).2.2.1 = some (ty0 k)) (hnm : ∀ a, a < N → ∀ b, b < N → a ≠ b → (T a).2.1 ≠ (T b).2.1) (σ' : St) (h1 : lo ≤ ko) (h2 : ko < hi) (hc : wcell g σ ko = .inr (ci, fs)) (hcl : vwCl[ci]? = some (C, T, N)) (hin : ∀ w ∈ u_ws C T N, w ∈ lw_good) (hf : f < N) (hw : Cond.fieldLink (mY M).cls idx (T f).1 (T f).2.1 (T f).2.2.1 ∈ lw_good) (hfin : (T f).2.2.2 = false) (hdd : parseFieldDescriptor (T f).2.2.1 = some ty) (hn : narrow ty v = v) (hfit : fits ty v = true) (hl : f < fs.length) (hd : decode (mC M) pc = .ok (.putfield idx, 3))
    (he : wcell g σ' ko = .inr (ci, fs.set f v)) (ho : ∀ j, j ≠ ko → wcell g σ' j = wcell g σ j) (k : WP g lo hi d M (pc + 3) lv st σ' K) : WP g lo hi d M pc lv (v :: .ref (eA g ko) :: st) σ K :=
  fun p e s m args below meth c F H locs ls hP hS h => va_put (D := eD g) (ci := ci) (v := v) (ty := ty) (C := C) (T := T) (N := N) F.1 F.2.1 F.2.2.2.2.2.1 hin ty0 hty hnm F.2.2.2.2.1 F.2.2.2.2.2.2.2.1 hP (wd_D F.2.2.2.2.2.2.2.2.2.2) hS (ko - lo) (by rw [wd_at h1 h2, hc]) hcl f hf (F.2.2.2.2.2.1 _ hw) (fun _ h9 => h9) hfin hdd hn hfit hl hd
    (fun H1 locs1 hP1 _ hS1 => k p e s m args below meth c F H1 locs1 ls (by rw [wd_set h1 h2 he ho] at hP1; exact hP1) hS1 h)
-- arrays
theorem wp_iald {a : Nat} {i : Int32} (h1 : lo ≤ a) (h2 : a < hi) (hd : decode (mC M) pc = .ok (.iaload, 1)) (hin : vp_in i (lenI a)) (k : WP g lo hi d M (pc + 1) lv (.int (sI σ a i.toNatClampNeg) :: st) σ K) : WP g lo hi d M pc lv (.int i :: .ref (eA g a) :: st) σ K :=
  fun p e s m args below meth c F H locs ls hP hS h => va_iald F.1 F.2.1 F.2.2.2.2.2.2.2.1 hP (a - lo) 0 (by rw [wd_at h1 h2, wcell_I (Nat.lt_of_le_of_lt (Nat.zero_le _) (Nat.not_le.mp fun q => hin (Or.inr q)))]) rfl hin hd (k p e s m args below meth c F H locs ls hP hS h)
theorem wp_zald {a : Nat} {i : Int32} (h1 : lo ≤ a) (h2 : a < hi) (hd : decode (mC M) pc = .ok (.baload, 1)) (hin : vp_in i (lenZ a)) (k : WP g lo hi d M (pc + 1) lv (.int (sI σ a i.toNatClampNeg) :: st) σ K) : WP g lo hi d M pc lv (.int i :: .ref (eA g a) :: st) σ K :=
  fun p e s m args below meth c F H locs ls hP hS h => va_zald F.1 F.2.1 F.2.2.2.2.2.2.2.1 hP (a - lo) 2 (by rw [wd_at h1 h2, wcell_Z (Nat.lt_of_le_of_lt (Nat.zero_le _) (Nat.not_le.mp fun q => hin (Or.inr q)))]) rfl hin hd (k p e s m args below meth c F H locs ls hP hS h)
theorem wp_lald {a : Nat} {i : Int32} (h1 : lo ≤ a) (h2 : a < hi) (hd : decode (mC M) pc = .ok (.laload, 1)) (hin : vp_in i (lenJ a)) (k : WP g lo hi d M (pc + 1) lv (.long (sL σ a i.toNatClampNeg) :: st) σ K) : WP g lo hi d M pc lv (.int i :: .ref (eA g a) :: st) σ K :=
  fun p e s m args below meth c F H locs ls hP hS h => va_lald F.1 F.2.1 F.2.2.2.2.2.2.2.1 hP (a - lo) 1 (by rw [wd_at h1 h2, wcell_J (Nat.lt_of_le_of_lt (Nat.zero_le _) (Nat.not_le.mp fun q => hin (Or.inr q)))]) rfl hin hd (k p e s m args below meth c F H locs ls hP hS h)
theorem wp_iast {a : Nat} {i x : Int32} (h1 : lo ≤ a) (h2 : a < hi) (hd : decode (mC M) pc = .ok (.iastore, 1)) (hin : vp_in i (lenI a)) (k : WP g lo hi d M (pc + 1) lv st (uI σ a i.toNatClampNeg x) K) : WP g lo hi d M pc lv (.int x :: .int i :: .ref (eA g a) :: st) σ K :=
  fun p e s m args below meth c F H locs ls hP hS h =>
    have hp : 0 < lenI a := Nat.lt_of_le_of_lt (Nat.zero_le _) (Nat.not_le.mp fun q => hin (Or.inr q))
    va_iast F.1 F.2.1 F.2.2.2.2.2.2.2.1 hP (wd_D F.2.2.2.2.2.2.2.2.2.2) hS (a - lo) 0 (by rw [wd_at h1 h2, wcell_I hp]) rfl hin hd (fun H1 locs1 hP1 _ hS1 => k p e s m args below meth c F H1 locs1 ls (by
      rw [wd_set (σ' := uI σ a i.toNatClampNeg x) h1 h2 (by rw [wcell_I hp]; exact congrArg (fun z => Sum.inl (eC g 0, lenI a, Sum.inl z)) up_eq) (fun j hj => wcell_uI j hj)] at hP1; exact hP1) hS1 h)
theorem wp_zast {a : Nat} {i x : Int32} (h1 : lo ≤ a) (h2 : a < hi) (hd : decode (mC M) pc = .ok (.bastore, 1)) (hin : vp_in i (lenZ a)) (k : WP g lo hi d M (pc + 1) lv st (uI σ a i.toNatClampNeg (vp_nar .boolean x)) K) : WP g lo hi d M pc lv (.int x :: .int i :: .ref (eA g a) :: st) σ K :=
  fun p e s m args below meth c F H locs ls hP hS h =>
    have hp : 0 < lenZ a := Nat.lt_of_le_of_lt (Nat.zero_le _) (Nat.not_le.mp fun q => hin (Or.inr q))
    va_zast F.1 F.2.1 F.2.2.2.2.2.2.2.1 hP (wd_D F.2.2.2.2.2.2.2.2.2.2) hS (a - lo) 2 (by rw [wd_at h1 h2, wcell_Z hp]) rfl hin hd (fun H1 locs1 hP1 _ hS1 => k p e s m args below meth c F H1 locs1 ls (by
      rw [wd_set (σ' := uI σ a i.toNatClampNeg (vp_nar .boolean x)) h1 h2 (by rw [wcell_Z hp]; exact congrArg (fun z => Sum.inl (eC g 2, lenZ a, Sum.inl z)) up_eq) (fun j hj => wcell_uI j hj)] at hP1; exact hP1) hS1 h)
theorem wp_last {a : Nat} {i : Int32} {x : Int64} (h1 : lo ≤ a) (h2 : a < hi) (hd : decode (mC M) pc = .ok (.lastore, 1)) (hin : vp_in i (lenJ a)) (k : WP g lo hi d M (pc + 1) lv st (uL σ a i.toNatClampNeg x) K) : WP g lo hi d M pc lv (.long x :: .int i :: .ref (eA g a) :: st) σ K :=
  fun p e s m args below meth c F H locs ls hP hS h =>
    have hp : 0 < lenJ a := Nat.lt_of_le_of_lt (Nat.zero_le _) (Nat.not_le.mp fun q => hin (Or.inr q))
    va_last F.1 F.2.1 F.2.2.2.2.2.2.2.1 hP (wd_D F.2.2.2.2.2.2.2.2.2.2) hS (a - lo) 1 (by rw [wd_at h1 h2, wcell_J hp]) rfl hin hd (fun H1 locs1 hP1 _ hS1 => k p e s m args below meth c F H1 locs1 ls (by
      rw [wd_set (σ' := uL σ a i.toNatClampNeg x) h1 h2 (by rw [wcell_J hp]; exact congrArg (fun z => Sum.inl (eC g 1, lenJ a, Sum.inr (Sum.inl z))) up_eq) (fun j hj => wcell_uL j hj)] at hP1; exact hP1) hS1 h)
theorem va_aldAr {p : Program} {l : Launch} {e : Env} {R : Room} {s : State} {m : MethodId} {args : Array Value} {below : List Frame} {meth : Method} {c : Code} {H : Heap} {locs : List Loc} {cells slots : Nat} {Q : State → Prop} {cc : ByteArray} {pc : Nat} {ls : Array Slot} {rest : List Value} {D : va_G} {cl : List vw_C} {a : Nat} {tys : List (ClassId × FieldType)} {ws : va_W} (hexec : p.tables.exec = Jvm.exec) (hb : c.code = cc) (hK : va_K D cl tys s) (hP : va_P D cl ws H) (q0 t0 : Nat) {cA : ClassId} {t : FieldType} {n : Nat} {f : Nat → Option Nat} (ha : ws[q0]? = some (a, .inl (cA, n, .inr (.inr (.inr (.inr f)))))) (ht : tys[t0]? = some (cA, .array t)) {i : Int32} (hin : vp_in i n) (hdg : decode cc pc = .ok (.aaload, 1)) {v : Value} (hv : va_rf (f i.toNatClampNeg) = v)
    (kk : W p l e R s m args below meth c H locs cells slots Q (F0 m (pc + 1) ls (v :: rest))) : W p l e R s m args below meth c H locs cells slots Q (F0 m pc ls (.int i :: .ref a :: rest)) := by
  subst hv
  have hlt : i.toNatClampNeg < n := Nat.not_le.mp fun q => hin (Or.inr q)
  exact W.aald (v := va_rf (f i.toNatClampNeg)) (ty := .array t) hexec hb (hP q0 _ ha) ((hK.2 t0 _ ht).1 n (fun j => va_rf (f j))) rfl (fun q => by cases q) (by show ¬ (i < 0 ∨ (arrV _ _ _).slots.size ≤ _); rw [arrV_size]; exact hin) (by show (arrV _ _ _).slots[_]? = _; rw [arrV_read _ _ hlt]) rfl rfl hdg kk
theorem wp_aald {i : Int32} (h1 : lo ≤ 1) (h2 : 1 < hi) (hd : decode (mC M) pc = .ok (.aaload, 1)) (hin : vp_in i 34) (k : WP g lo hi d M (pc + 1) lv (.ref (eA g (11 + i.toNatClampNeg)) :: st) σ K) : WP g lo hi d M pc lv (.int i :: .ref (eA g 1) :: st) σ K :=
  fun p e s m args below meth c F H locs ls hP hS h =>
    have hlt : i.toNatClampNeg < 34 := Nat.not_le.mp fun q => hin (Or.inr q)
    have ha : (wd g lo hi σ)[1 - lo]? = some (eA g 1, .inl (eC g 3, 34, .inr (.inr (.inr (.inr (fun t => if t < 34 then some (eA g (11 + t)) else none)))))) := wd_at h1 h2
    have ev : va_rf (if i.toNatClampNeg < 34 then some (eA g (11 + i.toNatClampNeg)) else none) = .ref (eA g (11 + i.toNatClampNeg)) := by rw [if_pos hlt]; rfl
    va_aldAr (D := eD g) F.1 F.2.1 F.2.2.2.2.2.2.2.1 hP (1 - lo) 3 ha rfl hin hd ev (k p e s m args below meth c F H locs ls hP hS h)
theorem wp_alenJ {a : Nat} (h1 : lo ≤ a) (h2 : a < hi) (hp : 0 < lenJ a) (hd : decode (mC M) pc = .ok (.arraylength, 1)) (k : WP g lo hi d M (pc + 1) lv (.int (nI (lenJ a)) :: st) σ K) : WP g lo hi d M pc lv (.ref (eA g a) :: st) σ K :=
  fun p e s m args below meth c F H locs ls hP hS h => va_alen (x := (lenJ a, .inr (.inl (sL σ a)))) F.1 F.2.1 F.2.2.2.2.2.2.2.1 hP (a - lo) 1 (by rw [wd_at h1 h2, wcell_J hp]) rfl rfl hd (k p e s m args below meth c F H locs ls hP hS h)
theorem wp_alenI {a : Nat} (h1 : lo ≤ a) (h2 : a < hi) (hp : 0 < lenI a) (hd : decode (mC M) pc = .ok (.arraylength, 1)) (k : WP g lo hi d M (pc + 1) lv (.int (nI (lenI a)) :: st) σ K) : WP g lo hi d M pc lv (.ref (eA g a) :: st) σ K :=
  fun p e s m args below meth c F H locs ls hP hS h => va_alen (x := (lenI a, .inl (sI σ a))) F.1 F.2.1 F.2.2.2.2.2.2.2.1 hP (a - lo) 0 (by rw [wd_at h1 h2, wcell_I hp]) rfl rfl hd (k p e s m args below meth c F H locs ls hP hS h)
-- the static arrays
theorem wp_gets0 {idx : Nat} (hw : Cond.fieldLink (mY M).cls idx "DecisionWeb$Bits" "ONE_AT" "[J" ∈ lw_good) (hd : decode (mC M) pc = .ok (.getstatic idx, 3)) (k : WP g lo hi d M (pc + 3) lv (.ref (eS g 0) :: st) σ K) : WP g lo hi d M pc lv st σ K :=
  fun p e s m args below meth c F H locs ls hP hS h => va_gets F.1 F.2.1 F.2.2.2.2.2.2.2.2.1.1 hS F.2.2.2.2.1 (F.2.2.2.2.2.1 _ hw) (fun _ h9 => h9) hd (k p e s m args below meth c F H locs ls hP hS h)
theorem wp_gets1 {idx : Nat} (hw : Cond.fieldLink (mY M).cls idx "DecisionWeb" "MOST_FORKS" "[I" ∈ lw_good) (hd : decode (mC M) pc = .ok (.getstatic idx, 3)) (k : WP g lo hi d M (pc + 3) lv (.ref (eS g 1) :: st) σ K) : WP g lo hi d M pc lv st σ K :=
  fun p e s m args below meth c F H locs ls hP hS h => va_gets F.1 F.2.1 F.2.2.2.2.2.2.2.2.1.2.2.1 hS F.2.2.2.2.1 (F.2.2.2.2.2.1 _ hw) (fun _ h9 => h9) hd (k p e s m args below meth c F H locs ls hP hS h)
theorem wp_tl {i : Int32} (hd : decode (mC M) pc = .ok (.laload, 1)) (hin : vp_in i 6) (k : WP g lo hi d M (pc + 1) lv (.long (fONE i.toNatClampNeg) :: st) σ K) : WP g lo hi d M pc lv (.int i :: .ref (eS g 0) :: st) σ K :=
  fun p e s m args below meth c F H locs ls hP hS h => va_tl F.1 F.2.1 F.2.2.2.2.2.2.2.2.1.2.1 hS hin rfl hd (k p e s m args below meth c F H locs ls hP hS h)
theorem wp_ti {i : Int32} (hd : decode (mC M) pc = .ok (.iaload, 1)) (hin : vp_in i 13) (k : WP g lo hi d M (pc + 1) lv (.int (fMF i.toNatClampNeg) :: st) σ K) : WP g lo hi d M pc lv (.int i :: .ref (eS g 1) :: st) σ K :=
  fun p e s m args below meth c F H locs ls hP hS h => va_ti F.1 F.2.1 F.2.2.2.2.2.2.2.2.1.2.2.2 hS hin rfl hd (k p e s m args below meth c F H locs ls hP hS h)
-- returns
theorem wp_iret {v : Int32} (hr : mR M = some .int) (hd : decode (mC M) pc = .ok (.ireturn, 1)) (k : K (some (.int v)) σ) : WP g lo hi d M pc lv [.int v] σ K :=
  fun p e s m args below meth c F H locs ls hP hS h => W.iret F.1 F.2.1 (F.2.2.1.trans hr) (fun t ht hW => ⟨⟨_, σ, rfl, k, by rw [ht]; exact hP⟩, hS.F ht⟩) hS.2.2 hd F.2.2.2.2.2.2.1
theorem wp_zret {v : Int32} (hr : mR M = some .boolean) (hn : narrow .boolean (.int v) = .int v) (hd : decode (mC M) pc = .ok (.ireturn, 1)) (k : K (some (.int v)) σ) : WP g lo hi d M pc lv [.int v] σ K :=
  fun p e s m args below meth c F H locs ls hP hS h => W.zret F.1 F.2.1 (F.2.2.1.trans hr) hn (fun t ht hW => ⟨⟨_, σ, rfl, k, by rw [ht]; exact hP⟩, hS.F ht⟩) hS.2.2 hd F.2.2.2.2.2.2.1
theorem wp_lret {v : Int64} (hr : mR M = some .long) (hd : decode (mC M) pc = .ok (.lreturn, 1)) (k : K (some (.long v)) σ) : WP g lo hi d M pc lv [.long v] σ K :=
  fun p e s m args below meth c F H locs ls hP hS h => W.lret F.1 F.2.1 (F.2.2.1.trans hr) (fun t ht hW => ⟨⟨_, σ, rfl, k, by rw [ht]; exact hP⟩, hS.F ht⟩) hS.2.2 hd F.2.2.2.2.2.2.1
theorem wp_vret (hr : mR M = none) (hd : decode (mC M) pc = .ok (.return_, 1)) (k : K none σ) : WP g lo hi d M pc lv [] σ K :=
  fun p e s m args below meth c F H locs ls hP hS h => W.vret F.1 F.2.1 (F.2.2.1.trans hr) (fun t ht hW => ⟨⟨_, σ, rfl, k, by rw [ht]; exact hP⟩, hS.F ht⟩) hS.2.2 hd F.2.2.2.2.2.2.1
end MEM
end
section
section CALLS
variable {g : Ev} {lo hi d : Nat} {M M' : Mt} {pc idx : Nat} {lv : List (Nat × Value)} {st : List Value} {σ : St} {K F' : Option Value → St → Prop} {host : String}
/-- behind a call -/
theorem wp_run {rest st0 : List Value} {p : Program} {e : Env} {s : State} {m : MethodId} {args : Array Value} {below : List Frame} {meth : Method} {c : Code} {H : Heap} {locs : List Loc} {ls : Array Slot} {a : Array Value} (F : wFr g lo hi M p s m args meth c) (hS : va_S (wA g lo hi) s.heap H locs) (hl : lv_has ls (mN M) lv)
    (hr : va_Run p (eL g) e (rmD (d + 1)) s m args below meth c H locs 0 0 0 0 (F0 m pc ls st0) rest (wQ g lo hi F' a) (wA g lo hi))
    (k : ∀ r σ', F' r σ' → WP g lo hi (d + 1) M (pc + 3) lv (r.toList ++ rest) σ' K) : W p (eL g) e (rmD (d + 1)) s m args below meth c H locs 0 0 (MQ below (wQ g lo hi K) args s 0 0 (wA g lo hi)) (F0 m pc ls st0) := by
  intro T hT X
  obtain ⟨v, st₀, t, T', L, h0, X', hL, e1, e2, ⟨⟨r, σ', hv, hp, hb⟩, hz, hk⟩, st⟩ := hr T hT X
  cases hv
  rw [h0] at hz hk
  obtain ⟨t2, a1, b1⟩ := k v σ' hp p e s m args below meth c F T'.heap (locs ++ L) ls (by rw [e1]; exact hb)
    ⟨Nat.le_trans hS.1 (by rw [e1]; exact hz), fun q h1 h2 => by rw [e1, hk q (Nat.lt_of_lt_of_le h1 hS.1) h2]; exact hS.2.1 q h1 h2, fun q hq => by
      rcases List.mem_append.mp hq with h | h
      · exact hS.2.2 q h
      · exact hL q h⟩ hl T' rfl X'
  exact ⟨t2, st t2 a1, b1⟩
theorem wp_pre {As : List Value} {p : Program} {s : State} {m : MethodId} {args : Array Value} {meth : Method} {c : Code} {H : Heap} {locs : List Loc} (F : wFr g lo hi M p s m args meth c) (hP : va_P (eD g) vwCl (wd g lo hi σ) H) (hS : va_S (wA g lo hi) s.heap H locs) : PreS s H (va_Pc As (wU g lo hi σ)) As :=
  ⟨wU_blind, fun U hU hW => ⟨rfl, by rw [hU]; exact hP, va_K.moved hW.alike F.2.2.2.2.2.2.2.1, wSt_moved F.2.2.2.2.2.2.2.2.1 hW.alike hS hU, wNs_warm hW F.2.2.2.2.2.2.2.2.2.1, F.2.2.2.2.2.2.2.2.2.2⟩⟩
abbrev okM (M' : Mt) (n : Nat) : Prop := (mY M').cls ≠ "java/lang/invoke/MethodHandle" ∧ (mY M').cls ≠ "java/lang/invoke/VarHandle" ∧ (parseMethodDescriptor (mY M').desc).map (fun d => d.parameters.length) = some n
theorem room_ok {n : Nat} (h : n ≤ 21) : (rmD d).frames + 1 ≤ (rmD (d + 1)).frames ∧ 8 + (n + 11) + (rmD d).locals ≤ (rmD (d + 1)).locals := ⟨Nat.le_refl _, by show 8 + (n + 11) + 40 * d ≤ 40 * (d + 1); omega⟩
theorem wp_callS (As rest : List Value) (hM : mW M' ∈ lw_good) (hl : Cond.methodLink (mY M).cls idx (mY M') ∈ lw_good) (hs : Cond.static (mY M') ∈ lw_good) (hn : Cond.initialized (mY M').cls ∈ lw_good) (hdd : okM M' As.length) (hmx : mN M' ≤ 21) (hrest : (rest.map fun v => v.category).sum ≤ 8) (hd : decode (mC M) pc = .ok (.invokestatic idx, 3)) (hst : As.reverse ++ rest = st) (hR : Runs g lo hi d M' As σ F') (k : ∀ r σ', F' r σ' → WP g lo hi (d + 1) M (pc + 3) lv (r.toList ++ rest) σ' K) : WP g lo hi (d + 1) M pc lv st σ K := by
  subst hst
  intro p e s m args below meth c F H locs ls hP hS h
  refine wp_run F hS h (va_runS (As := As) (rest := rest) ⟨F.1, F.2.1, F.2.2.2.1, F.2.2.2.2.1, F.2.2.2.2.2.1⟩ hR ⟨callB_of As.length F.2.2.2.2.2.1 (lw_goodIn hM) rfl rfl rfl (F.2.2.2.2.2.1 _ hn) (F.2.2.2.2.2.1 _ hl) hdd (room_ok hmx), F.2.2.2.2.2.1 _ hs⟩ (wp_pre F hP hS) rfl rfl h.1 rfl (lv_room hrest) hd ⟨Nat.le_refl _, Nat.le_refl _⟩) k
theorem wp_callSN (As rest : List Value) (hM : mW M' ∈ lw_good) (hl : Cond.methodLinkNest (mY M).cls idx (mY M') host ∈ lw_nest) (hs : Cond.static (mY M') ∈ lw_good) (hn : Cond.initialized (mY M').cls ∈ lw_good) (hdd : okM M' As.length) (hmx : mN M' ≤ 21) (hrest : (rest.map fun v => v.category).sum ≤ 8) (hd : decode (mC M) pc = .ok (.invokestatic idx, 3)) (hst : As.reverse ++ rest = st) (hR : Runs g lo hi d M' As σ F') (k : ∀ r σ', F' r σ' → WP g lo hi (d + 1) M (pc + 3) lv (r.toList ++ rest) σ' K) : WP g lo hi (d + 1) M pc lv st σ K := by
  subst hst
  intro p e s m args below meth c F H locs ls hP hS h
  refine wp_run F hS h (va_runSN (As := As) (rest := rest) ⟨F.1, F.2.1, F.2.2.2.1, F.2.2.2.2.1, F.2.2.2.2.2.1⟩ hR ⟨va_cnB As.length F.2.2.2.2.2.1 (lw_goodIn hM) rfl rfl rfl (F.2.2.2.2.2.2.2.2.2.1 _ hl) (F.2.2.2.2.2.1 _ hn) hdd (room_ok hmx), F.2.2.2.2.2.1 _ hs, trivial⟩ (wp_pre F hP hS) rfl rfl h.1 rfl (lv_room hrest) hd ⟨Nat.le_refl _, Nat.le_refl _⟩) k
theorem wp_callV (As rest : List Value) (ko ci : Nat) {T : u_T} {N : Nat} {fs : List Value} (h1 : lo ≤ ko) (h2 : ko < hi) (hc : wcell g σ ko = .inr (ci, fs)) (hcl : vwCl[ci]? = some ((mY M').cls, T, N)) (hM : mW M' ∈ lw_good) (hl : Cond.methodLink (mY M).cls idx (mY M') ∈ lw_good) (hs : Cond.instanceMethod (mY M') ∈ lw_good) (hsel : Cond.selects (mY M').cls (mY M') (mY M') ∈ lw_good) (hn : Cond.initialized (mY M').cls ∈ lw_good) (hdd : okM M' As.length) (hmx : mN M' ≤ 21) (hrest : (rest.map fun v => v.category).sum ≤ 8) (hd : decode (mC M) pc = .ok (.invokevirtual idx, 3)) (hst : As.reverse ++ .ref (eA g ko) :: rest = st) (hR : Runs g lo hi d M' (.ref (eA g ko) :: As) σ F') (k : ∀ r σ', F' r σ' → WP g lo hi (d + 1) M (pc + 3) lv (r.toList ++ rest) σ' K) : WP g lo hi (d + 1) M pc lv st σ K := by
  subst hst
  intro p e s m args below meth c F H locs ls hP hS h
  have hpre : PreV s H (mY M').cls (eA g ko) (va_Pc (.ref (eA g ko) :: As) (wU g lo hi σ)) As := ⟨wU_blind, va_recv F.2.2.2.2.2.2.2.1 hP hcl (q0 := ko - lo) (by rw [wd_at h1 h2, hc]), (wp_pre F hP hS).2⟩
  refine wp_run F hS h (va_runV (As := As) (rest := rest) ⟨F.1, F.2.1, F.2.2.2.1, F.2.2.2.2.1, F.2.2.2.2.2.1⟩ hR ⟨callB_of As.length F.2.2.2.2.2.1 (lw_goodIn hM) rfl rfl rfl (F.2.2.2.2.2.1 _ hn) (F.2.2.2.2.2.1 _ hl) hdd (room_ok hmx), F.2.2.2.2.2.1 _ hs, F.2.2.2.2.2.1 _ hsel⟩ hpre rfl rfl h.1 rfl (lv_room hrest) hd ⟨Nat.le_refl _, Nat.le_refl _⟩) k
theorem wp_callVN (As rest : List Value) (ko ci : Nat) {T : u_T} {N : Nat} {fs : List Value} (h1 : lo ≤ ko) (h2 : ko < hi) (hc : wcell g σ ko = .inr (ci, fs)) (hcl : vwCl[ci]? = some ((mY M').cls, T, N)) (hM : mW M' ∈ lw_good) (hl : Cond.methodLinkNest (mY M).cls idx (mY M') host ∈ lw_nest) (hs : Cond.instanceMethod (mY M') ∈ lw_good) (hsel : Cond.selects (mY M').cls (mY M') (mY M') ∈ lw_good) (hn : Cond.initialized (mY M').cls ∈ lw_good) (hdd : okM M' As.length) (hmx : mN M' ≤ 21) (hrest : (rest.map fun v => v.category).sum ≤ 8) (hd : decode (mC M) pc = .ok (.invokevirtual idx, 3)) (hst : As.reverse ++ .ref (eA g ko) :: rest = st) (hR : Runs g lo hi d M' (.ref (eA g ko) :: As) σ F') (k : ∀ r σ', F' r σ' → WP g lo hi (d + 1) M (pc + 3) lv (r.toList ++ rest) σ' K) : WP g lo hi (d + 1) M pc lv st σ K := by
  subst hst
  intro p e s m args below meth c F H locs ls hP hS h
  have hpre : PreV s H (mY M').cls (eA g ko) (va_Pc (.ref (eA g ko) :: As) (wU g lo hi σ)) As := ⟨wU_blind, va_recv F.2.2.2.2.2.2.2.1 hP hcl (q0 := ko - lo) (by rw [wd_at h1 h2, hc]), (wp_pre F hP hS).2⟩
  refine wp_run F hS h (va_runVN (As := As) (rest := rest) ⟨F.1, F.2.1, F.2.2.2.1, F.2.2.2.2.1, F.2.2.2.2.2.1⟩ hR ⟨va_cnB As.length F.2.2.2.2.2.1 (lw_goodIn hM) rfl rfl rfl (F.2.2.2.2.2.2.2.2.2.1 _ hl) (F.2.2.2.2.2.1 _ hn) hdd (room_ok hmx), F.2.2.2.2.2.1 _ hs, F.2.2.2.2.2.1 _ hsel⟩ hpre rfl rfl h.1 rfl (lv_room hrest) hd ⟨Nat.le_refl _, Nat.le_refl _⟩) k
theorem wp_mmax {x y : Int32} (hl : Cond.methodLink (mY M).cls idx Lib.Math.max.name ∈ lw_good) (hs : Cond.static Lib.Math.max.name ∈ lw_good) (hn : Cond.initialized "java/lang/Math" ∈ lw_good) (hc : Cond.code Lib.Math.max.name Lib.Math.max.code 2 (some .int) ∈ lw_good) (hrest : (st.map fun v => v.category).sum ≤ 8) (hd : decode (mC M) pc = .ok (.invokestatic idx, 3)) (k : WP g lo hi (d + 1) M (pc + 3) lv (.int (if x < y then y else x) :: st) σ K) : WP g lo hi (d + 1) M pc lv (.int y :: .int x :: st) σ K :=
  fun p e s m args below meth c F H locs ls hP hS h => va_mmax F.1 F.2.1 (F.2.2.2.1.trans h.1.symm) F.2.2.2.2.1 (F.2.2.2.2.2.1 _ hl) (F.2.2.2.2.2.1 _ hs) (F.2.2.2.2.2.1 _ hn) (F.2.2.2.2.2.1 _ hc) (Nat.le_add_left _ _) (by show _ + 13 ≤ 40 * (d + 1); omega) (Nat.le_refl _) (Nat.le_refl _) hd (k p e s m args below meth c F H locs ls hP hS h)
theorem wp_mmin {x y : Int32} (hl : Cond.methodLink (mY M).cls idx Lib.Math.min.name ∈ lw_good) (hs : Cond.static Lib.Math.min.name ∈ lw_good) (hn : Cond.initialized "java/lang/Math" ∈ lw_good) (hc : Cond.code Lib.Math.min.name Lib.Math.min.code 2 (some .int) ∈ lw_good) (hrest : (st.map fun v => v.category).sum ≤ 8) (hd : decode (mC M) pc = .ok (.invokestatic idx, 3)) (k : WP g lo hi (d + 1) M (pc + 3) lv (.int (if y < x then y else x) :: st) σ K) : WP g lo hi (d + 1) M pc lv (.int y :: .int x :: st) σ K :=
  fun p e s m args below meth c F H locs ls hP hS h => va_mmin F.1 F.2.1 (F.2.2.2.1.trans h.1.symm) F.2.2.2.2.1 (F.2.2.2.2.2.1 _ hl) (F.2.2.2.2.2.1 _ hs) (F.2.2.2.2.2.1 _ hn) (F.2.2.2.2.2.1 _ hc) (Nat.le_add_left _ _) (by show _ + 13 ≤ 40 * (d + 1); omega) (Nat.le_refl _) (Nat.le_refl _) hd (k p e s m args below meth c F H locs ls hP hS h)
theorem ncopy_room {n : Nat} (h : n ≤ 8) : n + (nativeFrameWords "java/lang/System" "arraycopy" 5 + 11) ≤ 40 * (d + 1) := by
  have h9 : nativeFrameWords "java/lang/System" "arraycopy" 5 + 11 ≤ 32 := by decide +kernel
  omega
theorem wp_tableIn {dflt l0 h0 : Int} {offs : Array Int} {len : Nat} {x : Int32} {off : Int} (t : Nat) (hd : decode (mC M) pc = .ok (.tableswitch dflt l0 h0 offs, len)) (h1 : ¬ x.toInt < l0) (h2 : ¬ h0 < x.toInt) (ho : offs[(x.toInt - l0).toNat]? = some off) (ht : (pc : Int) + off = (t : Int)) (k : WP g lo hi d M t lv st σ K) : WP g lo hi d M pc lv (.int x :: st) σ K :=
  fun p e s m args below meth c F H locs ls hP hS h => lv_tableIn F.1 F.2.1 hd h1 h2 ho ht (k p e s m args below meth c F H locs ls hP hS h)
theorem wp_tableOut {dflt l0 h0 : Int} {offs : Array Int} {len : Nat} {x : Int32} (t : Nat) (hd : decode (mC M) pc = .ok (.tableswitch dflt l0 h0 offs, len)) (h1 : x.toInt < l0 ∨ h0 < x.toInt) (ht : (pc : Int) + dflt = (t : Int)) (k : WP g lo hi d M t lv st σ K) : WP g lo hi d M pc lv (.int x :: st) σ K :=
  fun p e s m args below meth c F H locs ls hP hS h => lv_tableOut F.1 F.2.1 hd h1 ht (k p e s m args below meth c F H locs ls hP hS h)
theorem wp_copyl {a b : Nat} {sp dp n : Int32} (hl : Cond.methodLink (mY M).cls idx arraycopyName ∈ lw_good) (hnt : Cond.native arraycopyName ∈ lw_good) (hs : Cond.static arraycopyName ∈ lw_good) (hn : Cond.initialized "java/lang/System" ∈ lw_good) (a1 : lo ≤ a) (a2 : a < hi) (b1 : lo ≤ b) (b2 : b < hi) (pa : 0 < lenJ a) (pb : 0 < lenJ b) (c1 : ¬ sp < 0) (c2 : ¬ dp < 0) (c3 : ¬ n < 0) (c4 : sp.toNatClampNeg + n.toNatClampNeg ≤ lenJ a) (c5 : dp.toNatClampNeg + n.toNatClampNeg ≤ lenJ b) (hrest : (st.map fun v => v.category).sum ≤ 8) (hd : decode (mC M) pc = .ok (.invokestatic idx, 3))
    (k : WP g lo hi (d + 1) M (pc + 3) lv st (uLf σ b (va_cpy (sL σ a) (sL σ b) sp.toNatClampNeg dp.toNatClampNeg n.toNatClampNeg)) K) : WP g lo hi (d + 1) M pc lv (.int n :: .int dp :: .ref (eA g b) :: .int sp :: .ref (eA g a) :: st) σ K :=
  fun p e s m args below meth c F H locs ls hP hS h => va_copyl F.1 F.2.1 (F.2.2.2.1.trans h.1.symm) F.2.2.2.2.1 (F.2.2.2.2.2.1 _ hl) (F.2.2.2.2.2.1 _ hnt) (F.2.2.2.2.2.1 _ hs) (F.2.2.2.2.2.1 _ hn) F.2.2.2.2.2.2.2.1 hP (wd_D F.2.2.2.2.2.2.2.2.2.2) hS (a - lo) (b - lo) 1 1 (by rw [wd_at a1 a2, wcell_J pa]) (by rw [wd_at b1 b2, wcell_J pb]) rfl rfl rfl c1 c2 c3 c4 c5 (fun _ _ => rfl) (Nat.le_add_left _ _) (ncopy_room hrest) hd
    (fun H1 locs1 hP1 _ hS1 => k p e s m args below meth c F H1 locs1 ls (by
      rw [wd_set (σ' := uLf σ b (va_cpy (sL σ a) (sL σ b) sp.toNatClampNeg dp.toNatClampNeg n.toNatClampNeg)) b1 b2 (by rw [wcell_J pb]; exact congrArg (fun z => Sum.inl (eC g 1, lenJ b, Sum.inr (Sum.inl z))) up_eq) (fun j hj => wcell_uL j hj)] at hP1; exact hP1) hS1 h)
end CALLS
end
