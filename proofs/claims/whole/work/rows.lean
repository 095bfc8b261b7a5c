section
/-- a private method of a class that the tables say can be made, by its rows of tables_1 -/
def lw_okq (q : MethodName × Nat) : Prop := (q.1.cls ≠ "java/lang/invoke/MethodHandle" ∧ q.1.cls ≠ "java/lang/invoke/VarHandle") ∧ Cond.instantiable q.1.cls q.2 ∈ tables_1 ∧ Cond.privateMethod q.1 ∈ tables_1 ∧ Cond.instanceMethod q.1 ∈ tables_1
theorem lw_p0 : lw_okq (⟨"ContractDesk", "forgetImages", "()V"⟩, 8) := ⟨⟨by decide +kernel, by decide +kernel⟩, List.mem_of_getElem? (i := 14) (by decide +kernel), List.mem_of_getElem? (i := 171) (by decide +kernel), List.mem_of_getElem? (i := 172) (by decide +kernel)⟩
theorem lw_p1 : lw_okq (⟨"ContractDesk$Reader", "skipBlanks", "()V"⟩, 8) := ⟨⟨by decide +kernel, by decide +kernel⟩, List.mem_of_getElem? (i := 22) (by decide +kernel), List.mem_of_getElem? (i := 288) (by decide +kernel), List.mem_of_getElem? (i := 289) (by decide +kernel)⟩
theorem lw_p2 : lw_okq (⟨"ContractDesk$Reader", "readWord", "()V"⟩, 8) := ⟨⟨by decide +kernel, by decide +kernel⟩, List.mem_of_getElem? (i := 22) (by decide +kernel), List.mem_of_getElem? (i := 292) (by decide +kernel), List.mem_of_getElem? (i := 293) (by decide +kernel)⟩
theorem lw_p3 : lw_okq (⟨"ContractDesk$Reader", "letterHere", "()I"⟩, 8) := ⟨⟨by decide +kernel, by decide +kernel⟩, List.mem_of_getElem? (i := 22) (by decide +kernel), List.mem_of_getElem? (i := 296) (by decide +kernel), List.mem_of_getElem? (i := 297) (by decide +kernel)⟩
theorem lw_p4 : lw_okq (⟨"ContractDesk$Reader", "readClauseHead", "()V"⟩, 8) := ⟨⟨by decide +kernel, by decide +kernel⟩, List.mem_of_getElem? (i := 22) (by decide +kernel), List.mem_of_getElem? (i := 300) (by decide +kernel), List.mem_of_getElem? (i := 301) (by decide +kernel)⟩
theorem lw_p5 : lw_okq (⟨"ContractDesk$Reader", "fail", "(II)V"⟩, 8) := ⟨⟨by decide +kernel, by decide +kernel⟩, List.mem_of_getElem? (i := 22) (by decide +kernel), List.mem_of_getElem? (i := 308) (by decide +kernel), List.mem_of_getElem? (i := 309) (by decide +kernel)⟩
theorem lw_p6 : lw_okq (⟨"ContractDesk$Reader", "isWantHere", "()Z"⟩, 8) := ⟨⟨by decide +kernel, by decide +kernel⟩, List.mem_of_getElem? (i := 22) (by decide +kernel), List.mem_of_getElem? (i := 312) (by decide +kernel), List.mem_of_getElem? (i := 313) (by decide +kernel)⟩
theorem lw_p7 : lw_okq (⟨"ContractDesk$Reader", "readWant", "(I)V"⟩, 8) := ⟨⟨by decide +kernel, by decide +kernel⟩, List.mem_of_getElem? (i := 22) (by decide +kernel), List.mem_of_getElem? (i := 316) (by decide +kernel), List.mem_of_getElem? (i := 317) (by decide +kernel)⟩
theorem lw_p8 : lw_okq (⟨"ContractDesk$Reader", "readFigure", "(I)I"⟩, 8) := ⟨⟨by decide +kernel, by decide +kernel⟩, List.mem_of_getElem? (i := 22) (by decide +kernel), List.mem_of_getElem? (i := 320) (by decide +kernel), List.mem_of_getElem? (i := 321) (by decide +kernel)⟩
theorem lw_p9 : lw_okq (⟨"ContractDesk$Reader", "figureHere", "()I"⟩, 8) := ⟨⟨by decide +kernel, by decide +kernel⟩, List.mem_of_getElem? (i := 22) (by decide +kernel), List.mem_of_getElem? (i := 324) (by decide +kernel), List.mem_of_getElem? (i := 325) (by decide +kernel)⟩
theorem lw_p10 : lw_okq (⟨"ContractDesk$Reader", "readPart", "(I)V"⟩, 8) := ⟨⟨by decide +kernel, by decide +kernel⟩, List.mem_of_getElem? (i := 22) (by decide +kernel), List.mem_of_getElem? (i := 331) (by decide +kernel), List.mem_of_getElem? (i := 332) (by decide +kernel)⟩
theorem lw_p11 : lw_okq (⟨"ContractDesk$Reader", "readReference", "()V"⟩, 8) := ⟨⟨by decide +kernel, by decide +kernel⟩, List.mem_of_getElem? (i := 22) (by decide +kernel), List.mem_of_getElem? (i := 335) (by decide +kernel), List.mem_of_getElem? (i := 336) (by decide +kernel)⟩
theorem lw_p12 : lw_okq (⟨"ContractDesk$Reader", "checkReferences", "()V"⟩, 8) := ⟨⟨by decide +kernel, by decide +kernel⟩, List.mem_of_getElem? (i := 22) (by decide +kernel), List.mem_of_getElem? (i := 343) (by decide +kernel), List.mem_of_getElem? (i := 344) (by decide +kernel)⟩
theorem lw_p13 : lw_okq (⟨"ContractDesk$Outcomes", "reckonForce", "(I)V"⟩, 6) := ⟨⟨by decide +kernel, by decide +kernel⟩, List.mem_of_getElem? (i := 175) (by decide +kernel), List.mem_of_getElem? (i := 362) (by decide +kernel), List.mem_of_getElem? (i := 363) (by decide +kernel)⟩
theorem lw_p14 : lw_okq (⟨"ContractDesk$Outcomes", "forceSoFar", "(I)J"⟩, 6) := ⟨⟨by decide +kernel, by decide +kernel⟩, List.mem_of_getElem? (i := 175) (by decide +kernel), List.mem_of_getElem? (i := 367) (by decide +kernel), List.mem_of_getElem? (i := 368) (by decide +kernel)⟩
theorem lw_p15 : lw_okq (⟨"ContractDesk$Outcomes", "anyForce", "(I)J"⟩, 6) := ⟨⟨by decide +kernel, by decide +kernel⟩, List.mem_of_getElem? (i := 175) (by decide +kernel), List.mem_of_getElem? (i := 385) (by decide +kernel), List.mem_of_getElem? (i := 386) (by decide +kernel)⟩
def lw_privs_1 : List (MethodName × Nat) := [(⟨"ContractDesk", "forgetImages", "()V"⟩, 8), (⟨"ContractDesk$Reader", "skipBlanks", "()V"⟩, 8), (⟨"ContractDesk$Reader", "readWord", "()V"⟩, 8), (⟨"ContractDesk$Reader", "letterHere", "()I"⟩, 8), (⟨"ContractDesk$Reader", "readClauseHead", "()V"⟩, 8), (⟨"ContractDesk$Reader", "fail", "(II)V"⟩, 8), (⟨"ContractDesk$Reader", "isWantHere", "()Z"⟩, 8), (⟨"ContractDesk$Reader", "readWant", "(I)V"⟩, 8), (⟨"ContractDesk$Reader", "readFigure", "(I)I"⟩, 8), (⟨"ContractDesk$Reader", "figureHere", "()I"⟩, 8), (⟨"ContractDesk$Reader", "readPart", "(I)V"⟩, 8), (⟨"ContractDesk$Reader", "readReference", "()V"⟩, 8), (⟨"ContractDesk$Reader", "checkReferences", "()V"⟩, 8), (⟨"ContractDesk$Outcomes", "reckonForce", "(I)V"⟩, 6), (⟨"ContractDesk$Outcomes", "forceSoFar", "(I)J"⟩, 6), (⟨"ContractDesk$Outcomes", "anyForce", "(I)J"⟩, 6)]
theorem lw_r1 : ∀ q ∈ lw_privs_1, lw_okq q := List.forall_mem_cons.mpr ⟨lw_p0, List.forall_mem_cons.mpr ⟨lw_p1, List.forall_mem_cons.mpr ⟨lw_p2, List.forall_mem_cons.mpr ⟨lw_p3, List.forall_mem_cons.mpr ⟨lw_p4, List.forall_mem_cons.mpr ⟨lw_p5, List.forall_mem_cons.mpr ⟨lw_p6, List.forall_mem_cons.mpr ⟨lw_p7, List.forall_mem_cons.mpr ⟨lw_p8, List.forall_mem_cons.mpr ⟨lw_p9, List.forall_mem_cons.mpr ⟨lw_p10, List.forall_mem_cons.mpr ⟨lw_p11, List.forall_mem_cons.mpr ⟨lw_p12, List.forall_mem_cons.mpr ⟨lw_p13, List.forall_mem_cons.mpr ⟨lw_p14, List.forall_mem_cons.mpr ⟨lw_p15, fun _ h => absurd h List.not_mem_nil⟩⟩⟩⟩⟩⟩⟩⟩⟩⟩⟩⟩⟩⟩⟩⟩
theorem lw_p16 : lw_okq (⟨"ContractDesk$Outcomes", "reckonAmiss", "()V"⟩, 6) := ⟨⟨by decide +kernel, by decide +kernel⟩, List.mem_of_getElem? (i := 175) (by decide +kernel), List.mem_of_getElem? (i := 389) (by decide +kernel), List.mem_of_getElem? (i := 390) (by decide +kernel)⟩
theorem lw_p17 : lw_okq (⟨"ContractDesk$Outcomes", "reckonHang", "()V"⟩, 6) := ⟨⟨by decide +kernel, by decide +kernel⟩, List.mem_of_getElem? (i := 175) (by decide +kernel), List.mem_of_getElem? (i := 394) (by decide +kernel), List.mem_of_getElem? (i := 395) (by decide +kernel)⟩
theorem lw_p18 : lw_okq (⟨"ContractDesk$Outcomes", "hangOnAll", "(IIJ)V"⟩, 6) := ⟨⟨by decide +kernel, by decide +kernel⟩, List.mem_of_getElem? (i := 175) (by decide +kernel), List.mem_of_getElem? (i := 398) (by decide +kernel), List.mem_of_getElem? (i := 399) (by decide +kernel)⟩
theorem lw_p19 : lw_okq (⟨"ContractDesk$Outcomes", "reckonReach", "()V"⟩, 6) := ⟨⟨by decide +kernel, by decide +kernel⟩, List.mem_of_getElem? (i := 175) (by decide +kernel), List.mem_of_getElem? (i := 402) (by decide +kernel), List.mem_of_getElem? (i := 403) (by decide +kernel)⟩
theorem lw_p20 : lw_okq (⟨"ContractDesk", "isClause", "(I)Z"⟩, 8) := ⟨⟨by decide +kernel, by decide +kernel⟩, List.mem_of_getElem? (i := 14) (by decide +kernel), List.mem_of_getElem? (i := 446) (by decide +kernel), List.mem_of_getElem? (i := 447) (by decide +kernel)⟩
theorem lw_p21 : lw_okq (⟨"ContractDesk", "inForceNow", "()I"⟩, 8) := ⟨⟨by decide +kernel, by decide +kernel⟩, List.mem_of_getElem? (i := 14) (by decide +kernel), List.mem_of_getElem? (i := 451) (by decide +kernel), List.mem_of_getElem? (i := 452) (by decide +kernel)⟩
theorem lw_p22 : lw_okq (⟨"ContractDesk", "restore", "(I)V"⟩, 8) := ⟨⟨by decide +kernel, by decide +kernel⟩, List.mem_of_getElem? (i := 14) (by decide +kernel), List.mem_of_getElem? (i := 484) (by decide +kernel), List.mem_of_getElem? (i := 485) (by decide +kernel)⟩
theorem lw_p23 : lw_okq (⟨"ContractDesk$Outlook", "clausesOf", "(I)I"⟩, 3) := ⟨⟨by decide +kernel, by decide +kernel⟩, List.mem_of_getElem? (i := 201) (by decide +kernel), List.mem_of_getElem? (i := 504) (by decide +kernel), List.mem_of_getElem? (i := 505) (by decide +kernel)⟩
theorem lw_p24 : lw_okq (⟨"ContractDesk$Outlook", "possible", "()J"⟩, 3) := ⟨⟨by decide +kernel, by decide +kernel⟩, List.mem_of_getElem? (i := 201) (by decide +kernel), List.mem_of_getElem? (i := 512) (by decide +kernel), List.mem_of_getElem? (i := 513) (by decide +kernel)⟩
theorem lw_p25 : lw_okq (⟨"ContractDesk$Outlook", "suretyAmong", "(IJ)I"⟩, 3) := ⟨⟨by decide +kernel, by decide +kernel⟩, List.mem_of_getElem? (i := 201) (by decide +kernel), List.mem_of_getElem? (i := 517) (by decide +kernel), List.mem_of_getElem? (i := 518) (by decide +kernel)⟩
theorem lw_p26 : lw_okq (⟨"ContractDesk$Script", "writeClause", "(I)V"⟩, 5) := ⟨⟨by decide +kernel, by decide +kernel⟩, List.mem_of_getElem? (i := 217) (by decide +kernel), List.mem_of_getElem? (i := 578) (by decide +kernel), List.mem_of_getElem? (i := 579) (by decide +kernel)⟩
theorem lw_p27 : lw_okq (⟨"ContractDesk$Script", "writeNumber", "(I)V"⟩, 5) := ⟨⟨by decide +kernel, by decide +kernel⟩, List.mem_of_getElem? (i := 217) (by decide +kernel), List.mem_of_getElem? (i := 582) (by decide +kernel), List.mem_of_getElem? (i := 583) (by decide +kernel)⟩
theorem lw_p28 : lw_okq (⟨"ContractDesk$Script", "put", "(I)V"⟩, 5) := ⟨⟨by decide +kernel, by decide +kernel⟩, List.mem_of_getElem? (i := 217) (by decide +kernel), List.mem_of_getElem? (i := 586) (by decide +kernel), List.mem_of_getElem? (i := 587) (by decide +kernel)⟩
theorem lw_p29 : lw_okq (⟨"ContractDesk$Script", "writeFigures", "(I)V"⟩, 5) := ⟨⟨by decide +kernel, by decide +kernel⟩, List.mem_of_getElem? (i := 217) (by decide +kernel), List.mem_of_getElem? (i := 599) (by decide +kernel), List.mem_of_getElem? (i := 600) (by decide +kernel)⟩
theorem lw_p30 : lw_okq (⟨"ContractDesk$Script", "writePart", "(II)V"⟩, 5) := ⟨⟨by decide +kernel, by decide +kernel⟩, List.mem_of_getElem? (i := 217) (by decide +kernel), List.mem_of_getElem? (i := 603) (by decide +kernel), List.mem_of_getElem? (i := 604) (by decide +kernel)⟩
theorem lw_p31 : lw_okq (⟨"ContractDesk$Outcomes", "isInForce", "(IIII)Z"⟩, 6) := ⟨⟨by decide +kernel, by decide +kernel⟩, List.mem_of_getElem? (i := 175) (by decide +kernel), List.mem_of_getElem? (i := 620) (by decide +kernel), List.mem_of_getElem? (i := 621) (by decide +kernel)⟩
def lw_privs_2 : List (MethodName × Nat) := [(⟨"ContractDesk$Outcomes", "reckonAmiss", "()V"⟩, 6), (⟨"ContractDesk$Outcomes", "reckonHang", "()V"⟩, 6), (⟨"ContractDesk$Outcomes", "hangOnAll", "(IIJ)V"⟩, 6), (⟨"ContractDesk$Outcomes", "reckonReach", "()V"⟩, 6), (⟨"ContractDesk", "isClause", "(I)Z"⟩, 8), (⟨"ContractDesk", "inForceNow", "()I"⟩, 8), (⟨"ContractDesk", "restore", "(I)V"⟩, 8), (⟨"ContractDesk$Outlook", "clausesOf", "(I)I"⟩, 3), (⟨"ContractDesk$Outlook", "possible", "()J"⟩, 3), (⟨"ContractDesk$Outlook", "suretyAmong", "(IJ)I"⟩, 3), (⟨"ContractDesk$Script", "writeClause", "(I)V"⟩, 5), (⟨"ContractDesk$Script", "writeNumber", "(I)V"⟩, 5), (⟨"ContractDesk$Script", "put", "(I)V"⟩, 5), (⟨"ContractDesk$Script", "writeFigures", "(I)V"⟩, 5), (⟨"ContractDesk$Script", "writePart", "(II)V"⟩, 5), (⟨"ContractDesk$Outcomes", "isInForce", "(IIII)Z"⟩, 6)]
theorem lw_r2 : ∀ q ∈ lw_privs_2, lw_okq q := List.forall_mem_cons.mpr ⟨lw_p16, List.forall_mem_cons.mpr ⟨lw_p17, List.forall_mem_cons.mpr ⟨lw_p18, List.forall_mem_cons.mpr ⟨lw_p19, List.forall_mem_cons.mpr ⟨lw_p20, List.forall_mem_cons.mpr ⟨lw_p21, List.forall_mem_cons.mpr ⟨lw_p22, List.forall_mem_cons.mpr ⟨lw_p23, List.forall_mem_cons.mpr ⟨lw_p24, List.forall_mem_cons.mpr ⟨lw_p25, List.forall_mem_cons.mpr ⟨lw_p26, List.forall_mem_cons.mpr ⟨lw_p27, List.forall_mem_cons.mpr ⟨lw_p28, List.forall_mem_cons.mpr ⟨lw_p29, List.forall_mem_cons.mpr ⟨lw_p30, List.forall_mem_cons.mpr ⟨lw_p31, fun _ h => absurd h List.not_mem_nil⟩⟩⟩⟩⟩⟩⟩⟩⟩⟩⟩⟩⟩⟩⟩⟩
theorem lw_p32 : lw_okq (⟨"ContractDesk$Outlook", "couldSettle", "(II)Z"⟩, 3) := ⟨⟨by decide +kernel, by decide +kernel⟩, List.mem_of_getElem? (i := 201) (by decide +kernel), List.mem_of_getElem? (i := 671) (by decide +kernel), List.mem_of_getElem? (i := 672) (by decide +kernel)⟩
theorem lw_p33 : lw_okq (⟨"ContractDeskModel", "reads", "()V"⟩, 35) := ⟨⟨by decide +kernel, by decide +kernel⟩, List.mem_of_getElem? (i := 712) (by decide +kernel), List.mem_of_getElem? (i := 838) (by decide +kernel), List.mem_of_getElem? (i := 839) (by decide +kernel)⟩
theorem lw_p34 : lw_okq (⟨"ContractDeskModel", "sign", "()I"⟩, 35) := ⟨⟨by decide +kernel, by decide +kernel⟩, List.mem_of_getElem? (i := 712) (by decide +kernel), List.mem_of_getElem? (i := 842) (by decide +kernel), List.mem_of_getElem? (i := 843) (by decide +kernel)⟩
theorem lw_p35 : lw_okq (⟨"ContractDeskModel", "opens", "(I)V"⟩, 35) := ⟨⟨by decide +kernel, by decide +kernel⟩, List.mem_of_getElem? (i := 712) (by decide +kernel), List.mem_of_getElem? (i := 846) (by decide +kernel), List.mem_of_getElem? (i := 847) (by decide +kernel)⟩
theorem lw_p36 : lw_okq (⟨"ContractDeskModel", "fails", "(I)V"⟩, 35) := ⟨⟨by decide +kernel, by decide +kernel⟩, List.mem_of_getElem? (i := 712) (by decide +kernel), List.mem_of_getElem? (i := 850) (by decide +kernel), List.mem_of_getElem? (i := 851) (by decide +kernel)⟩
theorem lw_p37 : lw_okq (⟨"ContractDeskModel", "figure", "(I)I"⟩, 35) := ⟨⟨by decide +kernel, by decide +kernel⟩, List.mem_of_getElem? (i := 712) (by decide +kernel), List.mem_of_getElem? (i := 854) (by decide +kernel), List.mem_of_getElem? (i := 855) (by decide +kernel)⟩
theorem lw_p38 : lw_okq (⟨"ContractDeskModel", "takesPart", "(II)V"⟩, 35) := ⟨⟨by decide +kernel, by decide +kernel⟩, List.mem_of_getElem? (i := 712) (by decide +kernel), List.mem_of_getElem? (i := 864) (by decide +kernel), List.mem_of_getElem? (i := 865) (by decide +kernel)⟩
theorem lw_p39 : lw_okq (⟨"ContractDeskModel", "clauseNumber", "()I"⟩, 35) := ⟨⟨by decide +kernel, by decide +kernel⟩, List.mem_of_getElem? (i := 712) (by decide +kernel), List.mem_of_getElem? (i := 868) (by decide +kernel), List.mem_of_getElem? (i := 869) (by decide +kernel)⟩
theorem lw_p40 : lw_okq (⟨"ContractDeskModel", "notes", "()V"⟩, 35) := ⟨⟨by decide +kernel, by decide +kernel⟩, List.mem_of_getElem? (i := 712) (by decide +kernel), List.mem_of_getElem? (i := 887) (by decide +kernel), List.mem_of_getElem? (i := 888) (by decide +kernel)⟩
theorem lw_p41 : lw_okq (⟨"ContractDeskModel", "isClause", "(I)Z"⟩, 35) := ⟨⟨by decide +kernel, by decide +kernel⟩, List.mem_of_getElem? (i := 712) (by decide +kernel), List.mem_of_getElem? (i := 899) (by decide +kernel), List.mem_of_getElem? (i := 900) (by decide +kernel)⟩
theorem lw_p42 : lw_okq (⟨"ContractDeskModel", "now", "()I"⟩, 35) := ⟨⟨by decide +kernel, by decide +kernel⟩, List.mem_of_getElem? (i := 712) (by decide +kernel), List.mem_of_getElem? (i := 903) (by decide +kernel), List.mem_of_getElem? (i := 904) (by decide +kernel)⟩
theorem lw_p43 : lw_okq (⟨"ContractDeskModel", "forceBy", "(I)I"⟩, 35) := ⟨⟨by decide +kernel, by decide +kernel⟩, List.mem_of_getElem? (i := 712) (by decide +kernel), List.mem_of_getElem? (i := 907) (by decide +kernel), List.mem_of_getElem? (i := 908) (by decide +kernel)⟩
theorem lw_p44 : lw_okq (⟨"ContractDeskModel", "holds", "(II)Z"⟩, 35) := ⟨⟨by decide +kernel, by decide +kernel⟩, List.mem_of_getElem? (i := 712) (by decide +kernel), List.mem_of_getElem? (i := 911) (by decide +kernel), List.mem_of_getElem? (i := 912) (by decide +kernel)⟩
theorem lw_p45 : lw_okq (⟨"ContractDeskModel", "isCalled", "(II)Z"⟩, 35) := ⟨⟨by decide +kernel, by decide +kernel⟩, List.mem_of_getElem? (i := 712) (by decide +kernel), List.mem_of_getElem? (i := 915) (by decide +kernel), List.mem_of_getElem? (i := 916) (by decide +kernel)⟩
theorem lw_p46 : lw_okq (⟨"ContractDeskModel", "surely", "(I)I"⟩, 35) := ⟨⟨by decide +kernel, by decide +kernel⟩, List.mem_of_getElem? (i := 712) (by decide +kernel), List.mem_of_getElem? (i := 939) (by decide +kernel), List.mem_of_getElem? (i := 940) (by decide +kernel)⟩
theorem lw_p47 : lw_okq (⟨"ContractDeskModel", "forces", "()V"⟩, 35) := ⟨⟨by decide +kernel, by decide +kernel⟩, List.mem_of_getElem? (i := 712) (by decide +kernel), List.mem_of_getElem? (i := 943) (by decide +kernel), List.mem_of_getElem? (i := 944) (by decide +kernel)⟩
def lw_privs_3 : List (MethodName × Nat) := [(⟨"ContractDesk$Outlook", "couldSettle", "(II)Z"⟩, 3), (⟨"ContractDeskModel", "reads", "()V"⟩, 35), (⟨"ContractDeskModel", "sign", "()I"⟩, 35), (⟨"ContractDeskModel", "opens", "(I)V"⟩, 35), (⟨"ContractDeskModel", "fails", "(I)V"⟩, 35), (⟨"ContractDeskModel", "figure", "(I)I"⟩, 35), (⟨"ContractDeskModel", "takesPart", "(II)V"⟩, 35), (⟨"ContractDeskModel", "clauseNumber", "()I"⟩, 35), (⟨"ContractDeskModel", "notes", "()V"⟩, 35), (⟨"ContractDeskModel", "isClause", "(I)Z"⟩, 35), (⟨"ContractDeskModel", "now", "()I"⟩, 35), (⟨"ContractDeskModel", "forceBy", "(I)I"⟩, 35), (⟨"ContractDeskModel", "holds", "(II)Z"⟩, 35), (⟨"ContractDeskModel", "isCalled", "(II)Z"⟩, 35), (⟨"ContractDeskModel", "surely", "(I)I"⟩, 35), (⟨"ContractDeskModel", "forces", "()V"⟩, 35)]
theorem lw_r3 : ∀ q ∈ lw_privs_3, lw_okq q := List.forall_mem_cons.mpr ⟨lw_p32, List.forall_mem_cons.mpr ⟨lw_p33, List.forall_mem_cons.mpr ⟨lw_p34, List.forall_mem_cons.mpr ⟨lw_p35, List.forall_mem_cons.mpr ⟨lw_p36, List.forall_mem_cons.mpr ⟨lw_p37, List.forall_mem_cons.mpr ⟨lw_p38, List.forall_mem_cons.mpr ⟨lw_p39, List.forall_mem_cons.mpr ⟨lw_p40, List.forall_mem_cons.mpr ⟨lw_p41, List.forall_mem_cons.mpr ⟨lw_p42, List.forall_mem_cons.mpr ⟨lw_p43, List.forall_mem_cons.mpr ⟨lw_p44, List.forall_mem_cons.mpr ⟨lw_p45, List.forall_mem_cons.mpr ⟨lw_p46, List.forall_mem_cons.mpr ⟨lw_p47, fun _ h => absurd h List.not_mem_nil⟩⟩⟩⟩⟩⟩⟩⟩⟩⟩⟩⟩⟩⟩⟩⟩
theorem lw_p48 : lw_okq (⟨"ContractDeskModel", "canBe", "(I)Z"⟩, 35) := ⟨⟨by decide +kernel, by decide +kernel⟩, List.mem_of_getElem? (i := 712) (by decide +kernel), List.mem_of_getElem? (i := 947) (by decide +kernel), List.mem_of_getElem? (i := 948) (by decide +kernel)⟩
theorem lw_p49 : lw_okq (⟨"ContractDeskModel", "wrongBy", "(I)I"⟩, 35) := ⟨⟨by decide +kernel, by decide +kernel⟩, List.mem_of_getElem? (i := 712) (by decide +kernel), List.mem_of_getElem? (i := 951) (by decide +kernel), List.mem_of_getElem? (i := 952) (by decide +kernel)⟩
theorem lw_p50 : lw_okq (⟨"ContractDeskModel", "count", "(II)I"⟩, 35) := ⟨⟨by decide +kernel, by decide +kernel⟩, List.mem_of_getElem? (i := 712) (by decide +kernel), List.mem_of_getElem? (i := 955) (by decide +kernel), List.mem_of_getElem? (i := 956) (by decide +kernel)⟩
theorem lw_p51 : lw_okq (⟨"ContractDeskModel", "isWrong", "(III)Z"⟩, 35) := ⟨⟨by decide +kernel, by decide +kernel⟩, List.mem_of_getElem? (i := 712) (by decide +kernel), List.mem_of_getElem? (i := 959) (by decide +kernel), List.mem_of_getElem? (i := 960) (by decide +kernel)⟩
theorem lw_p52 : lw_okq (⟨"ContractDeskModel", "often", "(IIII)I"⟩, 35) := ⟨⟨by decide +kernel, by decide +kernel⟩, List.mem_of_getElem? (i := 712) (by decide +kernel), List.mem_of_getElem? (i := 963) (by decide +kernel), List.mem_of_getElem? (i := 964) (by decide +kernel)⟩
theorem lw_p53 : lw_okq (⟨"ContractDeskModel", "roundOf", "(I)I"⟩, 35) := ⟨⟨by decide +kernel, by decide +kernel⟩, List.mem_of_getElem? (i := 712) (by decide +kernel), List.mem_of_getElem? (i := 967) (by decide +kernel), List.mem_of_getElem? (i := 968) (by decide +kernel)⟩
theorem lw_p54 : lw_okq (⟨"ContractDeskModel", "hangsOn", "(II)I"⟩, 35) := ⟨⟨by decide +kernel, by decide +kernel⟩, List.mem_of_getElem? (i := 712) (by decide +kernel), List.mem_of_getElem? (i := 971) (by decide +kernel), List.mem_of_getElem? (i := 972) (by decide +kernel)⟩
theorem lw_p55 : lw_okq (⟨"ContractDeskModel", "matters", "(I)I"⟩, 35) := ⟨⟨by decide +kernel, by decide +kernel⟩, List.mem_of_getElem? (i := 712) (by decide +kernel), List.mem_of_getElem? (i := 975) (by decide +kernel), List.mem_of_getElem? (i := 976) (by decide +kernel)⟩
theorem lw_p56 : lw_okq (⟨"ContractDeskModel", "ways", "(Z)I"⟩, 35) := ⟨⟨by decide +kernel, by decide +kernel⟩, List.mem_of_getElem? (i := 712) (by decide +kernel), List.mem_of_getElem? (i := 979) (by decide +kernel), List.mem_of_getElem? (i := 980) (by decide +kernel)⟩
theorem lw_p57 : lw_okq (⟨"ContractDeskModel", "writesAll", "()I"⟩, 35) := ⟨⟨by decide +kernel, by decide +kernel⟩, List.mem_of_getElem? (i := 712) (by decide +kernel), List.mem_of_getElem? (i := 983) (by decide +kernel), List.mem_of_getElem? (i := 984) (by decide +kernel)⟩
theorem lw_p58 : lw_okq (⟨"ContractDeskModel", "writesNumber", "(II)V"⟩, 35) := ⟨⟨by decide +kernel, by decide +kernel⟩, List.mem_of_getElem? (i := 712) (by decide +kernel), List.mem_of_getElem? (i := 987) (by decide +kernel), List.mem_of_getElem? (i := 988) (by decide +kernel)⟩
theorem lw_p59 : lw_okq (⟨"ContractDeskModel", "depthOf", "(I)I"⟩, 35) := ⟨⟨by decide +kernel, by decide +kernel⟩, List.mem_of_getElem? (i := 712) (by decide +kernel), List.mem_of_getElem? (i := 991) (by decide +kernel), List.mem_of_getElem? (i := 992) (by decide +kernel)⟩
theorem lw_p60 : lw_okq (⟨"ContractDeskModel", "writes", "(I)V"⟩, 35) := ⟨⟨by decide +kernel, by decide +kernel⟩, List.mem_of_getElem? (i := 712) (by decide +kernel), List.mem_of_getElem? (i := 995) (by decide +kernel), List.mem_of_getElem? (i := 996) (by decide +kernel)⟩
theorem lw_p61 : lw_okq (⟨"ContractDeskModel", "upTo", "(II)I"⟩, 35) := ⟨⟨by decide +kernel, by decide +kernel⟩, List.mem_of_getElem? (i := 712) (by decide +kernel), List.mem_of_getElem? (i := 999) (by decide +kernel), List.mem_of_getElem? (i := 1000) (by decide +kernel)⟩
theorem lw_p62 : lw_okq (⟨"ContractDeskModel", "placeOf", "(II)I"⟩, 35) := ⟨⟨by decide +kernel, by decide +kernel⟩, List.mem_of_getElem? (i := 712) (by decide +kernel), List.mem_of_getElem? (i := 1003) (by decide +kernel), List.mem_of_getElem? (i := 1004) (by decide +kernel)⟩
theorem lw_p63 : lw_okq (⟨"ContractDeskModel", "firstWrong", "(I)I"⟩, 35) := ⟨⟨by decide +kernel, by decide +kernel⟩, List.mem_of_getElem? (i := 712) (by decide +kernel), List.mem_of_getElem? (i := 1011) (by decide +kernel), List.mem_of_getElem? (i := 1012) (by decide +kernel)⟩
def lw_privs_4 : List (MethodName × Nat) := [(⟨"ContractDeskModel", "canBe", "(I)Z"⟩, 35), (⟨"ContractDeskModel", "wrongBy", "(I)I"⟩, 35), (⟨"ContractDeskModel", "count", "(II)I"⟩, 35), (⟨"ContractDeskModel", "isWrong", "(III)Z"⟩, 35), (⟨"ContractDeskModel", "often", "(IIII)I"⟩, 35), (⟨"ContractDeskModel", "roundOf", "(I)I"⟩, 35), (⟨"ContractDeskModel", "hangsOn", "(II)I"⟩, 35), (⟨"ContractDeskModel", "matters", "(I)I"⟩, 35), (⟨"ContractDeskModel", "ways", "(Z)I"⟩, 35), (⟨"ContractDeskModel", "writesAll", "()I"⟩, 35), (⟨"ContractDeskModel", "writesNumber", "(II)V"⟩, 35), (⟨"ContractDeskModel", "depthOf", "(I)I"⟩, 35), (⟨"ContractDeskModel", "writes", "(I)V"⟩, 35), (⟨"ContractDeskModel", "upTo", "(II)I"⟩, 35), (⟨"ContractDeskModel", "placeOf", "(II)I"⟩, 35), (⟨"ContractDeskModel", "firstWrong", "(I)I"⟩, 35)]
theorem lw_r4 : ∀ q ∈ lw_privs_4, lw_okq q := List.forall_mem_cons.mpr ⟨lw_p48, List.forall_mem_cons.mpr ⟨lw_p49, List.forall_mem_cons.mpr ⟨lw_p50, List.forall_mem_cons.mpr ⟨lw_p51, List.forall_mem_cons.mpr ⟨lw_p52, List.forall_mem_cons.mpr ⟨lw_p53, List.forall_mem_cons.mpr ⟨lw_p54, List.forall_mem_cons.mpr ⟨lw_p55, List.forall_mem_cons.mpr ⟨lw_p56, List.forall_mem_cons.mpr ⟨lw_p57, List.forall_mem_cons.mpr ⟨lw_p58, List.forall_mem_cons.mpr ⟨lw_p59, List.forall_mem_cons.mpr ⟨lw_p60, List.forall_mem_cons.mpr ⟨lw_p61, List.forall_mem_cons.mpr ⟨lw_p62, List.forall_mem_cons.mpr ⟨lw_p63, fun _ h => absurd h List.not_mem_nil⟩⟩⟩⟩⟩⟩⟩⟩⟩⟩⟩⟩⟩⟩⟩⟩
theorem lw_p64 : lw_okq (⟨"ContractDeskModel", "idle", "(I)I"⟩, 35) := ⟨⟨by decide +kernel, by decide +kernel⟩, List.mem_of_getElem? (i := 712) (by decide +kernel), List.mem_of_getElem? (i := 1015) (by decide +kernel), List.mem_of_getElem? (i := 1016) (by decide +kernel)⟩
theorem lw_p65 : lw_okq (⟨"ContractDeskModel", "settles", "(I)I"⟩, 35) := ⟨⟨by decide +kernel, by decide +kernel⟩, List.mem_of_getElem? (i := 712) (by decide +kernel), List.mem_of_getElem? (i := 1035) (by decide +kernel), List.mem_of_getElem? (i := 1036) (by decide +kernel)⟩
theorem lw_p66 : lw_okq (⟨"ContractDeskModel", "brings", "(I)I"⟩, 35) := ⟨⟨by decide +kernel, by decide +kernel⟩, List.mem_of_getElem? (i := 712) (by decide +kernel), List.mem_of_getElem? (i := 1039) (by decide +kernel), List.mem_of_getElem? (i := 1040) (by decide +kernel)⟩
def lw_privs_5 : List (MethodName × Nat) := [(⟨"ContractDeskModel", "idle", "(I)I"⟩, 35), (⟨"ContractDeskModel", "settles", "(I)I"⟩, 35), (⟨"ContractDeskModel", "brings", "(I)I"⟩, 35)]
theorem lw_r5 : ∀ q ∈ lw_privs_5, lw_okq q := List.forall_mem_cons.mpr ⟨lw_p64, List.forall_mem_cons.mpr ⟨lw_p65, List.forall_mem_cons.mpr ⟨lw_p66, fun _ h => absurd h List.not_mem_nil⟩⟩⟩
def lw_privs : List (MethodName × Nat) := lw_privs_1 ++ (lw_privs_2 ++ (lw_privs_3 ++ (lw_privs_4 ++ (lw_privs_5))))
def lw_tbl : List Cond := k2_sels lw_privs ++ tables_1
theorem lw_privs_ok : ∀ q ∈ lw_privs, lw_okq q := by
  show ∀ q ∈ lw_privs_1 ++ (lw_privs_2 ++ (lw_privs_3 ++ (lw_privs_4 ++ (lw_privs_5)))), lw_okq q
  exact List.forall_mem_append.mpr ⟨lw_r1, List.forall_mem_append.mpr ⟨lw_r2, List.forall_mem_append.mpr ⟨lw_r3, List.forall_mem_append.mpr ⟨lw_r4, lw_r5⟩⟩⟩⟩
end
section
def RX0 : String := "ContractDesk$Deed"
def TX0 : u_T := fun k => match k with
  | 0 => ("ContractDesk$Deed", "clauses", "I", false)
  | 1 => ("ContractDesk$Deed", "parts", "I", false)
  | 2 => ("ContractDesk$Deed", "called", "I", false)
  | 3 => ("ContractDesk$Deed", "around", "[I", true)
  | 4 => ("ContractDesk$Deed", "depth", "[I", true)
  | 5 => ("ContractDesk$Deed", "wantsYes", "[I", true)
  | 6 => ("ContractDesk$Deed", "wantsNo", "[I", true)
  | 7 => ("ContractDesk$Deed", "referring", "[I", true)
  | 8 => ("ContractDesk$Deed", "termsUsed", "[I", true)
  | 9 => ("ContractDesk$Deed", "kind", "[I", true)
  | 10 => ("ContractDesk$Deed", "value", "[I", true)
  | _ => ("ContractDesk$Deed", "owner", "[I", true)
def tyX0 : Nat → FieldType := fun k => match k with
  | 0 => .int
  | 1 => .int
  | 2 => .int
  | 3 => .array .int
  | 4 => .array .int
  | 5 => .array .int
  | 6 => .array .int
  | 7 => .array .int
  | 8 => .array .int
  | 9 => .array .int
  | 10 => .array .int
  | _ => .array .int
abbrev wsX00 : List Cond := u_ws RX0 TX0 12
theorem nmX0 : ∀ a, a < 12 → ∀ b, b < 12 → a ≠ b → (TX0 a).2.1 ≠ (TX0 b).2.1 := by decide +kernel
theorem tyX0_ok : ∀ k, k < 12 → parseFieldDescriptor (TX0 k).2.2.1 = some (tyX0 k) := by decide +kernel
abbrev cX0_init : ByteArray := prog_2_method_1_code
def yX0_init : MethodName := ⟨RX0, "<init>", "()V"⟩
abbrev cX0_clear : ByteArray := prog_2_method_2_code
def yX0_clear : MethodName := ⟨RX0, "clear", "()V"⟩
abbrev cX0_takeOver : ByteArray := prog_2_method_3_code
def yX0_takeOver : MethodName := ⟨RX0, "takeOver", "(LContractDesk$Deed;)V"⟩
abbrev cX0_addClause : ByteArray := prog_2_method_4_code
def yX0_addClause : MethodName := ⟨RX0, "addClause", "(I)I"⟩
abbrev cX0_addPart : ByteArray := prog_2_method_5_code
def yX0_addPart : MethodName := ⟨RX0, "addPart", "(III)V"⟩
abbrev cX0_ownerOf : ByteArray := prog_2_method_6_code
def yX0_ownerOf : MethodName := ⟨RX0, "ownerOf", "(I)I"⟩
abbrev cX0_within : ByteArray := prog_2_method_7_code
def yX0_within : MethodName := ⟨RX0, "within", "(I)I"⟩
abbrev cX0_countOwnParts : ByteArray := prog_2_method_8_code
def yX0_countOwnParts : MethodName := ⟨RX0, "countOwnParts", "(I)I"⟩
abbrev cX0_ownPart : ByteArray := prog_2_method_9_code
def yX0_ownPart : MethodName := ⟨RX0, "ownPart", "(II)I"⟩
abbrev cX0_holds : ByteArray := prog_2_method_10_code
def yX0_holds : MethodName := ⟨RX0, "holds", "(I)J"⟩
abbrev cX0_aroundAt : ByteArray := prog_2_method_11_code
def yX0_aroundAt : MethodName := ⟨RX0, "aroundAt", "(II)I"⟩
abbrev cX0_place : ByteArray := prog_2_method_12_code
def yX0_place : MethodName := ⟨RX0, "place", "(II)I"⟩
def RX1 : String := "ContractDesk$History"
def TX1 : u_T := fun k => match k with
  | 0 => ("ContractDesk$History", "size", "I", false)
  | _ => ("ContractDesk$History", "standings", "[I", true)
def tyX1 : Nat → FieldType := fun k => match k with
  | 0 => .int
  | _ => .array .int
abbrev wsX10 : List Cond := u_ws RX1 TX1 2
theorem nmX1 : ∀ a, a < 2 → ∀ b, b < 2 → a ≠ b → (TX1 a).2.1 ≠ (TX1 b).2.1 := by decide +kernel
theorem tyX1_ok : ∀ k, k < 2 → parseFieldDescriptor (TX1 k).2.2.1 = some (tyX1 k) := by decide +kernel
abbrev cX1_init : ByteArray := prog_3_method_1_code
def yX1_init : MethodName := ⟨RX1, "<init>", "()V"⟩
abbrev cX1_clear : ByteArray := prog_3_method_2_code
def yX1_clear : MethodName := ⟨RX1, "clear", "()V"⟩
abbrev cX1_push : ByteArray := prog_3_method_3_code
def yX1_push : MethodName := ⟨RX1, "push", "(I)V"⟩
abbrev cX1_pop : ByteArray := prog_3_method_4_code
def yX1_pop : MethodName := ⟨RX1, "pop", "()I"⟩
def RX2 : String := "ContractDesk$Outcomes"
def TX2 : u_T := fun k => match k with
  | 0 => ("ContractDesk$Outcomes", "deed", "LContractDesk$Deed;", true)
  | 1 => ("ContractDesk$Outcomes", "force", "[J", true)
  | 2 => ("ContractDesk$Outcomes", "amiss", "[J", true)
  | 3 => ("ContractDesk$Outcomes", "defined", "[J", true)
  | 4 => ("ContractDesk$Outcomes", "hang", "[J", true)
  | _ => ("ContractDesk$Outcomes", "reach", "[J", true)
def tyX2 : Nat → FieldType := fun k => match k with
  | 0 => .object "ContractDesk$Deed"
  | 1 => .array .long
  | 2 => .array .long
  | 3 => .array .long
  | 4 => .array .long
  | _ => .array .long
abbrev wsX20 : List Cond := u_ws RX2 TX2 6
theorem nmX2 : ∀ a, a < 6 → ∀ b, b < 6 → a ≠ b → (TX2 a).2.1 ≠ (TX2 b).2.1 := by decide +kernel
theorem tyX2_ok : ∀ k, k < 6 → parseFieldDescriptor (TX2 k).2.2.1 = some (tyX2 k) := by decide +kernel
abbrev cX2_init : ByteArray := prog_4_method_1_code
def yX2_init : MethodName := ⟨RX2, "<init>", "(LContractDesk$Deed;)V"⟩
abbrev cX2_reckon : ByteArray := prog_4_method_2_code
def yX2_reckon : MethodName := ⟨RX2, "reckon", "(I)V"⟩
abbrev cX2_forceOf : ByteArray := prog_4_method_3_code
def yX2_forceOf : MethodName := ⟨RX2, "forceOf", "(I)J"⟩
abbrev cX2_reckonForce : ByteArray := prog_4_method_4_code
def yX2_reckonForce : MethodName := ⟨RX2, "reckonForce", "(I)V"⟩
abbrev cX2_forceSoFar : ByteArray := prog_4_method_5_code
def yX2_forceSoFar : MethodName := ⟨RX2, "forceSoFar", "(I)J"⟩
abbrev cX2_anyForce : ByteArray := prog_4_method_6_code
def yX2_anyForce : MethodName := ⟨RX2, "anyForce", "(I)J"⟩
abbrev cX2_reckonAmiss : ByteArray := prog_4_method_7_code
def yX2_reckonAmiss : MethodName := ⟨RX2, "reckonAmiss", "()V"⟩
abbrev cX2_reckonHang : ByteArray := prog_4_method_8_code
def yX2_reckonHang : MethodName := ⟨RX2, "reckonHang", "()V"⟩
abbrev cX2_hangOnAll : ByteArray := prog_4_method_9_code
def yX2_hangOnAll : MethodName := ⟨RX2, "hangOnAll", "(IIJ)V"⟩
abbrev cX2_reckonReach : ByteArray := prog_4_method_10_code
def yX2_reckonReach : MethodName := ⟨RX2, "reckonReach", "()V"⟩
abbrev cX2_inForce : ByteArray := prog_4_method_11_code
def yX2_inForce : MethodName := ⟨RX2, "inForce", "(I)I"⟩
abbrev cX2_roundTerms : ByteArray := prog_4_method_12_code
def yX2_roundTerms : MethodName := ⟨RX2, "roundTerms", "(I)I"⟩
abbrev cX2_hangsOn : ByteArray := prog_4_method_13_code
def yX2_hangsOn : MethodName := ⟨RX2, "hangsOn", "(II)I"⟩
abbrev cX2_countAmiss : ByteArray := prog_4_method_14_code
def yX2_countAmiss : MethodName := ⟨RX2, "countAmiss", "(II)I"⟩
abbrev cX2_firstAmiss : ByteArray := prog_4_method_15_code
def yX2_firstAmiss : MethodName := ⟨RX2, "firstAmiss", "(I)I"⟩
abbrev cX2_countWrong : ByteArray := prog_4_method_16_code
def yX2_countWrong : MethodName := ⟨RX2, "countWrong", "(I)I"⟩
abbrev cX2_faultless : ByteArray := prog_4_method_17_code
def yX2_faultless : MethodName := ⟨RX2, "faultless", "()J"⟩
abbrev cX2_countParts : ByteArray := prog_4_method_18_code
def yX2_countParts : MethodName := ⟨RX2, "countParts", "(III)I"⟩
abbrev cX2_firstDefinition : ByteArray := prog_4_method_19_code
def yX2_firstDefinition : MethodName := ⟨RX2, "firstDefinition", "(II)I"⟩
abbrev cX2_countIdle : ByteArray := prog_4_method_20_code
def yX2_countIdle : MethodName := ⟨RX2, "countIdle", "(I)I"⟩
abbrev cX2_isInForce : ByteArray := prog_4_method_21_code
def yX2_isInForce : MethodName := ⟨RX2, "isInForce", "(IIII)Z"⟩
def RX3 : String := "ContractDesk$Outlook"
def TX3 : u_T := fun k => match k with
  | 0 => ("ContractDesk$Outlook", "deed", "LContractDesk$Deed;", true)
  | 1 => ("ContractDesk$Outlook", "outcomes", "LContractDesk$Outcomes;", true)
  | _ => ("ContractDesk$Outlook", "standing", "LContractDesk$Standing;", true)
def tyX3 : Nat → FieldType := fun k => match k with
  | 0 => .object "ContractDesk$Deed"
  | 1 => .object "ContractDesk$Outcomes"
  | _ => .object "ContractDesk$Standing"
abbrev wsX30 : List Cond := u_ws RX3 TX3 3
theorem nmX3 : ∀ a, a < 3 → ∀ b, b < 3 → a ≠ b → (TX3 a).2.1 ≠ (TX3 b).2.1 := by decide +kernel
theorem tyX3_ok : ∀ k, k < 3 → parseFieldDescriptor (TX3 k).2.2.1 = some (tyX3 k) := by decide +kernel
abbrev cX3_init : ByteArray := prog_5_method_1_code
def yX3_init : MethodName := ⟨RX3, "<init>", "(LContractDesk$Deed;LContractDesk$Outcomes;LContractDesk$Standing;)V"⟩
abbrev cX3_possible : ByteArray := prog_5_method_2_code
def yX3_possible : MethodName := ⟨RX3, "possible", "()J"⟩
abbrev cX3_sure : ByteArray := prog_5_method_3_code
def yX3_sure : MethodName := ⟨RX3, "sure", "()I"⟩
abbrev cX3_open : ByteArray := prog_5_method_4_code
def yX3_open : MethodName := ⟨RX3, "open", "()I"⟩
abbrev cX3_never : ByteArray := prog_5_method_5_code
def yX3_never : MethodName := ⟨RX3, "never", "()I"⟩
abbrev cX3_clausesOf : ByteArray := prog_5_method_6_code
def yX3_clausesOf : MethodName := ⟨RX3, "clausesOf", "(I)I"⟩
abbrev cX3_surety : ByteArray := prog_5_method_7_code
def yX3_surety : MethodName := ⟨RX3, "surety", "(I)I"⟩
abbrev cX3_suretyAmong : ByteArray := prog_5_method_8_code
def yX3_suretyAmong : MethodName := ⟨RX3, "suretyAmong", "(IJ)I"⟩
abbrev cX3_brings : ByteArray := prog_5_method_9_code
def yX3_brings : MethodName := ⟨RX3, "brings", "(I)I"⟩
abbrev cX3_ways : ByteArray := prog_5_method_10_code
def yX3_ways : MethodName := ⟨RX3, "ways", "()I"⟩
abbrev cX3_firstWay : ByteArray := prog_5_method_11_code
def yX3_firstWay : MethodName := ⟨RX3, "firstWay", "()I"⟩
abbrev cX3_matters : ByteArray := prog_5_method_12_code
def yX3_matters : MethodName := ⟨RX3, "matters", "()I"⟩
abbrev cX3_mattersFor : ByteArray := prog_5_method_13_code
def yX3_mattersFor : MethodName := ⟨RX3, "mattersFor", "(I)I"⟩
abbrev cX3_settles : ByteArray := prog_5_method_14_code
def yX3_settles : MethodName := ⟨RX3, "settles", "(I)I"⟩
abbrev cX3_couldSettle : ByteArray := prog_5_method_15_code
def yX3_couldSettle : MethodName := ⟨RX3, "couldSettle", "(II)Z"⟩
def RX4 : String := "ContractDesk$Reader"
def TX4 : u_T := fun k => match k with
  | 0 => ("ContractDesk$Reader", "length", "I", false)
  | 1 => ("ContractDesk$Reader", "faultAt", "I", false)
  | 2 => ("ContractDesk$Reader", "draft", "LContractDesk$Deed;", true)
  | 3 => ("ContractDesk$Reader", "letters", "[I", true)
  | 4 => ("ContractDesk$Reader", "valueAt", "[I", true)
  | 5 => ("ContractDesk$Reader", "faultNumber", "I", false)
  | 6 => ("ContractDesk$Reader", "at", "I", false)
  | _ => ("ContractDesk$Reader", "inside", "I", false)
def tyX4 : Nat → FieldType := fun k => match k with
  | 0 => .int
  | 1 => .int
  | 2 => .object "ContractDesk$Deed"
  | 3 => .array .int
  | 4 => .array .int
  | 5 => .int
  | 6 => .int
  | _ => .int
abbrev wsX40 : List Cond := u_ws RX4 TX4 8
theorem nmX4 : ∀ a, a < 8 → ∀ b, b < 8 → a ≠ b → (TX4 a).2.1 ≠ (TX4 b).2.1 := by decide +kernel
theorem tyX4_ok : ∀ k, k < 8 → parseFieldDescriptor (TX4 k).2.2.1 = some (tyX4 k) := by decide +kernel
abbrev cX4_init : ByteArray := prog_6_method_1_code
def yX4_init : MethodName := ⟨RX4, "<init>", "()V"⟩
abbrev cX4_takeLetter : ByteArray := prog_6_method_2_code
def yX4_takeLetter : MethodName := ⟨RX4, "takeLetter", "(I)Z"⟩
abbrev cX4_readText : ByteArray := prog_6_method_3_code
def yX4_readText : MethodName := ⟨RX4, "readText", "()I"⟩
abbrev cX4_fail : ByteArray := prog_6_method_4_code
def yX4_fail : MethodName := ⟨RX4, "fail", "(II)V"⟩
abbrev cX4_letterHere : ByteArray := prog_6_method_5_code
def yX4_letterHere : MethodName := ⟨RX4, "letterHere", "()I"⟩
abbrev cX4_figureHere : ByteArray := prog_6_method_6_code
def yX4_figureHere : MethodName := ⟨RX4, "figureHere", "()I"⟩
abbrev cX4_skipBlanks : ByteArray := prog_6_method_7_code
def yX4_skipBlanks : MethodName := ⟨RX4, "skipBlanks", "()V"⟩
abbrev cX4_readWord : ByteArray := prog_6_method_8_code
def yX4_readWord : MethodName := ⟨RX4, "readWord", "()V"⟩
abbrev cX4_readClauseHead : ByteArray := prog_6_method_9_code
def yX4_readClauseHead : MethodName := ⟨RX4, "readClauseHead", "()V"⟩
abbrev cX4_isWantHere : ByteArray := prog_6_method_10_code
def yX4_isWantHere : MethodName := ⟨RX4, "isWantHere", "()Z"⟩
abbrev cX4_readWant : ByteArray := prog_6_method_11_code
def yX4_readWant : MethodName := ⟨RX4, "readWant", "(I)V"⟩
abbrev cX4_readPart : ByteArray := prog_6_method_12_code
def yX4_readPart : MethodName := ⟨RX4, "readPart", "(I)V"⟩
abbrev cX4_readFigure : ByteArray := prog_6_method_13_code
def yX4_readFigure : MethodName := ⟨RX4, "readFigure", "(I)I"⟩
abbrev cX4_readReference : ByteArray := prog_6_method_14_code
def yX4_readReference : MethodName := ⟨RX4, "readReference", "()V"⟩
abbrev cX4_checkReferences : ByteArray := prog_6_method_15_code
def yX4_checkReferences : MethodName := ⟨RX4, "checkReferences", "()V"⟩
def RX5 : String := "ContractDesk$Script"
def TX5 : u_T := fun k => match k with
  | 0 => ("ContractDesk$Script", "deed", "LContractDesk$Deed;", true)
  | 1 => ("ContractDesk$Script", "signs", "I", false)
  | 2 => ("ContractDesk$Script", "found", "I", false)
  | 3 => ("ContractDesk$Script", "inForce", "I", false)
  | _ => ("ContractDesk$Script", "wanted", "I", false)
def tyX5 : Nat → FieldType := fun k => match k with
  | 0 => .object "ContractDesk$Deed"
  | 1 => .int
  | 2 => .int
  | 3 => .int
  | _ => .int
abbrev wsX50 : List Cond := u_ws RX5 TX5 5
theorem nmX5 : ∀ a, a < 5 → ∀ b, b < 5 → a ≠ b → (TX5 a).2.1 ≠ (TX5 b).2.1 := by decide +kernel
theorem tyX5_ok : ∀ k, k < 5 → parseFieldDescriptor (TX5 k).2.2.1 = some (tyX5 k) := by decide +kernel
abbrev cX5_init : ByteArray := prog_7_method_1_code
def yX5_init : MethodName := ⟨RX5, "<init>", "(LContractDesk$Deed;)V"⟩
abbrev cX5_write : ByteArray := prog_7_method_2_code
def yX5_write : MethodName := ⟨RX5, "write", "(II)LContractDesk$Script;"⟩
abbrev cX5_writeClause : ByteArray := prog_7_method_3_code
def yX5_writeClause : MethodName := ⟨RX5, "writeClause", "(I)V"⟩
abbrev cX5_writePart : ByteArray := prog_7_method_4_code
def yX5_writePart : MethodName := ⟨RX5, "writePart", "(II)V"⟩
abbrev cX5_writeNumber : ByteArray := prog_7_method_5_code
def yX5_writeNumber : MethodName := ⟨RX5, "writeNumber", "(I)V"⟩
abbrev cX5_writeFigures : ByteArray := prog_7_method_6_code
def yX5_writeFigures : MethodName := ⟨RX5, "writeFigures", "(I)V"⟩
abbrev cX5_put : ByteArray := prog_7_method_7_code
def yX5_put : MethodName := ⟨RX5, "put", "(I)V"⟩
def RX6 : String := "ContractDesk$Standing"
def TX6 : u_T := fun k => match k with
  | 0 => ("ContractDesk$Standing", "answered", "I", false)
  | 1 => ("ContractDesk$Standing", "yes", "I", false)
  | _ => ("ContractDesk$Standing", "struck", "I", false)
def tyX6 : Nat → FieldType := fun k => match k with
  | 0 => .int
  | 1 => .int
  | _ => .int
abbrev wsX60 : List Cond := u_ws RX6 TX6 3
theorem nmX6 : ∀ a, a < 3 → ∀ b, b < 3 → a ≠ b → (TX6 a).2.1 ≠ (TX6 b).2.1 := by decide +kernel
theorem tyX6_ok : ∀ k, k < 3 → parseFieldDescriptor (TX6 k).2.2.1 = some (tyX6 k) := by decide +kernel
abbrev cX6_init : ByteArray := prog_8_method_1_code
def yX6_init : MethodName := ⟨RX6, "<init>", "()V"⟩
abbrev cX6_answerTo : ByteArray := prog_8_method_2_code
def yX6_answerTo : MethodName := ⟨RX6, "answerTo", "(I)I"⟩
abbrev cX6_setAnswer : ByteArray := prog_8_method_3_code
def yX6_setAnswer : MethodName := ⟨RX6, "setAnswer", "(II)V"⟩
abbrev cX6_packed : ByteArray := prog_8_method_4_code
def yX6_packed : MethodName := ⟨RX6, "packed", "()I"⟩
abbrev cX6_unpack : ByteArray := prog_8_method_5_code
def yX6_unpack : MethodName := ⟨RX6, "unpack", "(I)V"⟩
def RX7 : String := "ContractDesk"
def TX7 : u_T := fun k => match k with
  | 0 => ("ContractDesk", "reader", "LContractDesk$Reader;", true)
  | 1 => ("ContractDesk", "deed", "LContractDesk$Deed;", true)
  | 2 => ("ContractDesk", "standing", "LContractDesk$Standing;", true)
  | 3 => ("ContractDesk", "history", "LContractDesk$History;", true)
  | 4 => ("ContractDesk", "images", "[I", true)
  | 5 => ("ContractDesk", "outcomes", "LContractDesk$Outcomes;", true)
  | 6 => ("ContractDesk", "outlook", "LContractDesk$Outlook;", true)
  | _ => ("ContractDesk", "script", "LContractDesk$Script;", true)
def tyX7 : Nat → FieldType := fun k => match k with
  | 0 => .object "ContractDesk$Reader"
  | 1 => .object "ContractDesk$Deed"
  | 2 => .object "ContractDesk$Standing"
  | 3 => .object "ContractDesk$History"
  | 4 => .array .int
  | 5 => .object "ContractDesk$Outcomes"
  | 6 => .object "ContractDesk$Outlook"
  | _ => .object "ContractDesk$Script"
abbrev wsX70 : List Cond := u_ws RX7 TX7 8
theorem nmX7 : ∀ a, a < 8 → ∀ b, b < 8 → a ≠ b → (TX7 a).2.1 ≠ (TX7 b).2.1 := by decide +kernel
theorem tyX7_ok : ∀ k, k < 8 → parseFieldDescriptor (TX7 k).2.2.1 = some (tyX7 k) := by decide +kernel
abbrev cX7_init : ByteArray := prog_1_method_1_code
def yX7_init : MethodName := ⟨RX7, "<init>", "()V"⟩
abbrev cX7_feed : ByteArray := prog_1_method_2_code
def yX7_feed : MethodName := ⟨RX7, "feed", "(I)I"⟩
abbrev cX7_contract : ByteArray := prog_1_method_3_code
def yX7_contract : MethodName := ⟨RX7, "contract", "()I"⟩
abbrev cX7_fault : ByteArray := prog_1_method_4_code
def yX7_fault : MethodName := ⟨RX7, "fault", "()I"⟩
abbrev cX7_answer : ByteArray := prog_1_method_5_code
def yX7_answer : MethodName := ⟨RX7, "answer", "(IZ)I"⟩
abbrev cX7_forget : ByteArray := prog_1_method_6_code
def yX7_forget : MethodName := ⟨RX7, "forget", "(I)I"⟩
abbrev cX7_strike : ByteArray := prog_1_method_7_code
def yX7_strike : MethodName := ⟨RX7, "strike", "(IZ)I"⟩
abbrev cX7_drift : ByteArray := prog_1_method_8_code
def yX7_drift : MethodName := ⟨RX7, "drift", "(I)I"⟩
abbrev cX7_undo : ByteArray := prog_1_method_9_code
def yX7_undo : MethodName := ⟨RX7, "undo", "()I"⟩
abbrev cX7_answerOf : ByteArray := prog_1_method_10_code
def yX7_answerOf : MethodName := ⟨RX7, "answerOf", "(I)I"⟩
abbrev cX7_told : ByteArray := prog_1_method_11_code
def yX7_told : MethodName := ⟨RX7, "told", "(I)I"⟩
abbrev cX7_wrong : ByteArray := prog_1_method_12_code
def yX7_wrong : MethodName := ⟨RX7, "wrong", "(I)I"⟩
abbrev cX7_clause : ByteArray := prog_1_method_13_code
def yX7_clause : MethodName := ⟨RX7, "clause", "(II)I"⟩
abbrev cX7_part : ByteArray := prog_1_method_14_code
def yX7_part : MethodName := ⟨RX7, "part", "(III)I"⟩
abbrev cX7_number : ByteArray := prog_1_method_15_code
def yX7_number : MethodName := ⟨RX7, "number", "(II)I"⟩
abbrev cX7_hangs : ByteArray := prog_1_method_16_code
def yX7_hangs : MethodName := ⟨RX7, "hangs", "(II)I"⟩
abbrev cX7_term : ByteArray := prog_1_method_17_code
def yX7_term : MethodName := ⟨RX7, "term", "(II)I"⟩
abbrev cX7_by : ByteArray := prog_1_method_18_code
def yX7_by : MethodName := ⟨RX7, "by", "(II)I"⟩
abbrev cX7_sign : ByteArray := prog_1_method_19_code
def yX7_sign : MethodName := ⟨RX7, "sign", "(I)I"⟩
abbrev cX7_keep : ByteArray := prog_1_method_20_code
def yX7_keep : MethodName := ⟨RX7, "keep", "(I)I"⟩
abbrev cX7_goBack : ByteArray := prog_1_method_21_code
def yX7_goBack : MethodName := ⟨RX7, "goBack", "(I)I"⟩
abbrev cX7_restore : ByteArray := prog_1_method_22_code
def yX7_restore : MethodName := ⟨RX7, "restore", "(I)V"⟩
abbrev cX7_forgetImages : ByteArray := prog_1_method_23_code
def yX7_forgetImages : MethodName := ⟨RX7, "forgetImages", "()V"⟩
abbrev cX7_inForceNow : ByteArray := prog_1_method_24_code
def yX7_inForceNow : MethodName := ⟨RX7, "inForceNow", "()I"⟩
abbrev cX7_isClause : ByteArray := prog_1_method_25_code
def yX7_isClause : MethodName := ⟨RX7, "isClause", "(I)Z"⟩
abbrev cX7_isQuestion : ByteArray := prog_1_method_26_code
def yX7_isQuestion : MethodName := ⟨RX7, "isQuestion", "(I)Z"⟩
abbrev cX7_isImage : ByteArray := prog_1_method_27_code
def yX7_isImage : MethodName := ⟨RX7, "isImage", "(I)Z"⟩
abbrev cX7_has : ByteArray := prog_1_method_28_code
def yX7_has : MethodName := ⟨RX7, "has", "(II)Z"⟩
abbrev cX7_isSo : ByteArray := prog_1_method_29_code
def yX7_isSo : MethodName := ⟨RX7, "isSo", "(JI)Z"⟩
abbrev cX7_agreeing : ByteArray := prog_1_method_30_code
def yX7_agreeing : MethodName := ⟨RX7, "agreeing", "(II)J"⟩
def RX8 : String := "ContractDeskModel"
def TX8 : u_T := fun k => match k with
  | 0 => ("ContractDeskModel", "text", "[I", true)
  | 1 => ("ContractDeskModel", "fed", "I", false)
  | 2 => ("ContractDeskModel", "faultPlace", "I", false)
  | 3 => ("ContractDeskModel", "clauses", "I", false)
  | 4 => ("ContractDeskModel", "around", "[I", true)
  | 5 => ("ContractDeskModel", "yes", "[I", true)
  | 6 => ("ContractDeskModel", "no", "[I", true)
  | 7 => ("ContractDeskModel", "called", "[I", true)
  | 8 => ("ContractDeskModel", "parts", "I", false)
  | 9 => ("ContractDeskModel", "of", "[I", true)
  | 10 => ("ContractDeskModel", "sort", "[I", true)
  | 11 => ("ContractDeskModel", "num", "[I", true)
  | 12 => ("ContractDeskModel", "newClauses", "I", false)
  | 13 => ("ContractDeskModel", "newAround", "[I", true)
  | 14 => ("ContractDeskModel", "newYes", "[I", true)
  | 15 => ("ContractDeskModel", "newNo", "[I", true)
  | 16 => ("ContractDeskModel", "newCalled", "[I", true)
  | 17 => ("ContractDeskModel", "newParts", "I", false)
  | 18 => ("ContractDeskModel", "newOf", "[I", true)
  | 19 => ("ContractDeskModel", "newSort", "[I", true)
  | 20 => ("ContractDeskModel", "newNum", "[I", true)
  | 21 => ("ContractDeskModel", "newPlace", "[I", true)
  | 22 => ("ContractDeskModel", "at", "I", false)
  | 23 => ("ContractDeskModel", "fault", "I", false)
  | 24 => ("ContractDeskModel", "known", "I", false)
  | 25 => ("ContractDeskModel", "said", "I", false)
  | 26 => ("ContractDeskModel", "struck", "I", false)
  | 27 => ("ContractDeskModel", "past", "[I", true)
  | 28 => ("ContractDeskModel", "acts", "I", false)
  | 29 => ("ContractDeskModel", "images", "[I", true)
  | 30 => ("ContractDeskModel", "kept", "[Z", true)
  | 31 => ("ContractDeskModel", "force", "[I", true)
  | 32 => ("ContractDeskModel", "hang", "[I", true)
  | 33 => ("ContractDeskModel", "signs", "[I", true)
  | _ => ("ContractDeskModel", "written", "I", false)
def tyX8 : Nat → FieldType := fun k => match k with
  | 0 => .array .int
  | 1 => .int
  | 2 => .int
  | 3 => .int
  | 4 => .array .int
  | 5 => .array .int
  | 6 => .array .int
  | 7 => .array .int
  | 8 => .int
  | 9 => .array .int
  | 10 => .array .int
  | 11 => .array .int
  | 12 => .int
  | 13 => .array .int
  | 14 => .array .int
  | 15 => .array .int
  | 16 => .array .int
  | 17 => .int
  | 18 => .array .int
  | 19 => .array .int
  | 20 => .array .int
  | 21 => .array .int
  | 22 => .int
  | 23 => .int
  | 24 => .int
  | 25 => .int
  | 26 => .int
  | 27 => .array .int
  | 28 => .int
  | 29 => .array .int
  | 30 => .array .boolean
  | 31 => .array .int
  | 32 => .array .int
  | 33 => .array .int
  | _ => .int
abbrev wsX80 : List Cond := u_ws RX8 TX8 35
theorem nmX8 : ∀ a, a < 35 → ∀ b, b < 35 → a ≠ b → (TX8 a).2.1 ≠ (TX8 b).2.1 := by decide +kernel
theorem tyX8_ok : ∀ k, k < 35 → parseFieldDescriptor (TX8 k).2.2.1 = some (tyX8 k) := by decide +kernel
abbrev cX8_init : ByteArray := prog_10_method_1_code
def yX8_init : MethodName := ⟨RX8, "<init>", "()V"⟩
abbrev cX8_in : ByteArray := prog_10_method_3_code
def yX8_in : MethodName := ⟨RX8, "in", "(III)Z"⟩
abbrev cX8_has : ByteArray := prog_10_method_4_code
def yX8_has : MethodName := ⟨RX8, "has", "(II)Z"⟩
abbrev cX8_ones : ByteArray := prog_10_method_5_code
def yX8_ones : MethodName := ⟨RX8, "ones", "(I)I"⟩
abbrev cX8_isClause : ByteArray := prog_10_method_6_code
def yX8_isClause : MethodName := ⟨RX8, "isClause", "(I)Z"⟩
abbrev cX8_feed : ByteArray := prog_10_method_7_code
def yX8_feed : MethodName := ⟨RX8, "feed", "(I)I"⟩
abbrev cX8_sign : ByteArray := prog_10_method_8_code
def yX8_sign : MethodName := ⟨RX8, "sign", "()I"⟩
abbrev cX8_fails : ByteArray := prog_10_method_9_code
def yX8_fails : MethodName := ⟨RX8, "fails", "(I)V"⟩
abbrev cX8_isFigure : ByteArray := prog_10_method_10_code
def yX8_isFigure : MethodName := ⟨RX8, "isFigure", "(I)Z"⟩
abbrev cX8_figure : ByteArray := prog_10_method_11_code
def yX8_figure : MethodName := ⟨RX8, "figure", "(I)I"⟩
abbrev cX8_clauseNumber : ByteArray := prog_10_method_12_code
def yX8_clauseNumber : MethodName := ⟨RX8, "clauseNumber", "()I"⟩
abbrev cX8_opens : ByteArray := prog_10_method_13_code
def yX8_opens : MethodName := ⟨RX8, "opens", "(I)V"⟩
abbrev cX8_takesPart : ByteArray := prog_10_method_14_code
def yX8_takesPart : MethodName := ⟨RX8, "takesPart", "(II)V"⟩
abbrev cX8_reads : ByteArray := prog_10_method_15_code
def yX8_reads : MethodName := ⟨RX8, "reads", "()V"⟩
abbrev cX8_contract : ByteArray := prog_10_method_16_code
def yX8_contract : MethodName := ⟨RX8, "contract", "()I"⟩
abbrev cX8_fault : ByteArray := prog_10_method_17_code
def yX8_fault : MethodName := ⟨RX8, "fault", "()I"⟩
abbrev cX8_holds : ByteArray := prog_10_method_18_code
def yX8_holds : MethodName := ⟨RX8, "holds", "(II)Z"⟩
abbrev cX8_isCalled : ByteArray := prog_10_method_19_code
def yX8_isCalled : MethodName := ⟨RX8, "isCalled", "(II)Z"⟩
abbrev cX8_forceBy : ByteArray := prog_10_method_20_code
def yX8_forceBy : MethodName := ⟨RX8, "forceBy", "(I)I"⟩
abbrev cX8_now : ByteArray := prog_10_method_21_code
def yX8_now : MethodName := ⟨RX8, "now", "()I"⟩
abbrev cX8_forces : ByteArray := prog_10_method_22_code
def yX8_forces : MethodName := ⟨RX8, "forces", "()V"⟩
abbrev cX8_canBe : ByteArray := prog_10_method_23_code
def yX8_canBe : MethodName := ⟨RX8, "canBe", "(I)Z"⟩
abbrev cX8_often : ByteArray := prog_10_method_24_code
def yX8_often : MethodName := ⟨RX8, "often", "(IIII)I"⟩
abbrev cX8_isWrong : ByteArray := prog_10_method_25_code
def yX8_isWrong : MethodName := ⟨RX8, "isWrong", "(III)Z"⟩
abbrev cX8_hangsOn : ByteArray := prog_10_method_26_code
def yX8_hangsOn : MethodName := ⟨RX8, "hangsOn", "(II)I"⟩
abbrev cX8_roundOf : ByteArray := prog_10_method_27_code
def yX8_roundOf : MethodName := ⟨RX8, "roundOf", "(I)I"⟩
abbrev cX8_count : ByteArray := prog_10_method_28_code
def yX8_count : MethodName := ⟨RX8, "count", "(II)I"⟩
abbrev cX8_wrongBy : ByteArray := prog_10_method_29_code
def yX8_wrongBy : MethodName := ⟨RX8, "wrongBy", "(I)I"⟩
abbrev cX8_notes : ByteArray := prog_10_method_30_code
def yX8_notes : MethodName := ⟨RX8, "notes", "()V"⟩
abbrev cX8_answerOf : ByteArray := prog_10_method_31_code
def yX8_answerOf : MethodName := ⟨RX8, "answerOf", "(I)I"⟩
abbrev cX8_answer : ByteArray := prog_10_method_32_code
def yX8_answer : MethodName := ⟨RX8, "answer", "(IZ)I"⟩
abbrev cX8_forget : ByteArray := prog_10_method_33_code
def yX8_forget : MethodName := ⟨RX8, "forget", "(I)I"⟩
abbrev cX8_strike : ByteArray := prog_10_method_34_code
def yX8_strike : MethodName := ⟨RX8, "strike", "(IZ)I"⟩
abbrev cX8_drift : ByteArray := prog_10_method_35_code
def yX8_drift : MethodName := ⟨RX8, "drift", "(I)I"⟩
abbrev cX8_undo : ByteArray := prog_10_method_36_code
def yX8_undo : MethodName := ⟨RX8, "undo", "()I"⟩
abbrev cX8_surely : ByteArray := prog_10_method_37_code
def yX8_surely : MethodName := ⟨RX8, "surely", "(I)I"⟩
abbrev cX8_matters : ByteArray := prog_10_method_38_code
def yX8_matters : MethodName := ⟨RX8, "matters", "(I)I"⟩
abbrev cX8_ways : ByteArray := prog_10_method_39_code
def yX8_ways : MethodName := ⟨RX8, "ways", "(Z)I"⟩
abbrev cX8_brings : ByteArray := prog_10_method_40_code
def yX8_brings : MethodName := ⟨RX8, "brings", "(I)I"⟩
abbrev cX8_settles : ByteArray := prog_10_method_41_code
def yX8_settles : MethodName := ⟨RX8, "settles", "(I)I"⟩
abbrev cX8_depthOf : ByteArray := prog_10_method_42_code
def yX8_depthOf : MethodName := ⟨RX8, "depthOf", "(I)I"⟩
abbrev cX8_placeOf : ByteArray := prog_10_method_43_code
def yX8_placeOf : MethodName := ⟨RX8, "placeOf", "(II)I"⟩
abbrev cX8_upTo : ByteArray := prog_10_method_44_code
def yX8_upTo : MethodName := ⟨RX8, "upTo", "(II)I"⟩
abbrev cX8_writes : ByteArray := prog_10_method_45_code
def yX8_writes : MethodName := ⟨RX8, "writes", "(I)V"⟩
abbrev cX8_writesNumber : ByteArray := prog_10_method_46_code
def yX8_writesNumber : MethodName := ⟨RX8, "writesNumber", "(II)V"⟩
abbrev cX8_writesAll : ByteArray := prog_10_method_47_code
def yX8_writesAll : MethodName := ⟨RX8, "writesAll", "()I"⟩
abbrev cX8_told : ByteArray := prog_10_method_48_code
def yX8_told : MethodName := ⟨RX8, "told", "(I)I"⟩
abbrev cX8_idle : ByteArray := prog_10_method_49_code
def yX8_idle : MethodName := ⟨RX8, "idle", "(I)I"⟩
abbrev cX8_firstWrong : ByteArray := prog_10_method_50_code
def yX8_firstWrong : MethodName := ⟨RX8, "firstWrong", "(I)I"⟩
abbrev cX8_wrong : ByteArray := prog_10_method_51_code
def yX8_wrong : MethodName := ⟨RX8, "wrong", "(I)I"⟩
abbrev cX8_clause : ByteArray := prog_10_method_52_code
def yX8_clause : MethodName := ⟨RX8, "clause", "(II)I"⟩
abbrev cX8_part : ByteArray := prog_10_method_53_code
def yX8_part : MethodName := ⟨RX8, "part", "(III)I"⟩
abbrev cX8_number : ByteArray := prog_10_method_54_code
def yX8_number : MethodName := ⟨RX8, "number", "(II)I"⟩
abbrev cX8_hangs : ByteArray := prog_10_method_55_code
def yX8_hangs : MethodName := ⟨RX8, "hangs", "(II)I"⟩
abbrev cX8_term : ByteArray := prog_10_method_56_code
def yX8_term : MethodName := ⟨RX8, "term", "(II)I"⟩
abbrev cX8_by : ByteArray := prog_10_method_57_code
def yX8_by : MethodName := ⟨RX8, "by", "(II)I"⟩
abbrev cX8_sign_ : ByteArray := prog_10_method_58_code
def yX8_sign_ : MethodName := ⟨RX8, "sign", "(I)I"⟩
abbrev cX8_keep : ByteArray := prog_10_method_59_code
def yX8_keep : MethodName := ⟨RX8, "keep", "(I)I"⟩
abbrev cX8_goBack : ByteArray := prog_10_method_60_code
def yX8_goBack : MethodName := ⟨RX8, "goBack", "(I)I"⟩
def RJ6 : String := "java/lang/Integer"
def TJ6 : u_T := fun k => match k with
  | _ => ("", "", "", false)
def tyJ6 : Nat → FieldType := fun k => match k with
  | _ => .int
abbrev wsJ60 : List Cond := u_ws RJ6 TJ6 0
theorem nmJ6 : ∀ a, a < 0 → ∀ b, b < 0 → a ≠ b → (TJ6 a).2.1 ≠ (TJ6 b).2.1 := by decide +kernel
theorem tyJ6_ok : ∀ k, k < 0 → parseFieldDescriptor (TJ6 k).2.2.1 = some (tyJ6 k) := by decide +kernel
abbrev cJ6_bitCount_0f7a4 : ByteArray := prog_11_method_49_code
def yJ6_bitCount_0f7a4 : MethodName := ⟨RJ6, "bitCount", "(I)I"⟩
def RJ13 : String := "java/lang/Long"
def TJ13 : u_T := fun k => match k with
  | _ => ("", "", "", false)
def tyJ13 : Nat → FieldType := fun k => match k with
  | _ => .int
abbrev wsJ130 : List Cond := u_ws RJ13 TJ13 0
theorem nmJ13 : ∀ a, a < 0 → ∀ b, b < 0 → a ≠ b → (TJ13 a).2.1 ≠ (TJ13 b).2.1 := by decide +kernel
theorem tyJ13_ok : ∀ k, k < 0 → parseFieldDescriptor (TJ13 k).2.2.1 = some (tyJ13 k) := by decide +kernel
abbrev cJ13_bitCount_95d88 : ByteArray := prog_12_method_50_code
def yJ13_bitCount_95d88 : MethodName := ⟨RJ13, "bitCount", "(J)I"⟩
def RJ10 : String := "java/lang/System"
def TJ10 : u_T := fun k => match k with
  | _ => ("", "", "", false)
def tyJ10 : Nat → FieldType := fun k => match k with
  | _ => .int
abbrev wsJ100 : List Cond := u_ws RJ10 TJ10 0
theorem nmJ10 : ∀ a, a < 0 → ∀ b, b < 0 → a ≠ b → (TJ10 a).2.1 ≠ (TJ10 b).2.1 := by decide +kernel
theorem tyJ10_ok : ∀ k, k < 0 → parseFieldDescriptor (TJ10 k).2.2.1 = some (tyJ10 k) := by decide +kernel
def RL : String := "ContractDeskLaw"
abbrev cL_law : ByteArray := code
def yL_law : MethodName := ⟨RL, "law", "([I)Z"⟩
abbrev vwCl : List vw_C := [(RX0, TX0, 12), (RX1, TX1, 2), (RX2, TX2, 6), (RX3, TX3, 3), (RX4, TX4, 8), (RX5, TX5, 5), (RX6, TX6, 3), (RX7, TX7, 8), (RX8, TX8, 35)]
end
section
/-! the words that all contracts are proved over; the bundle of a method's walk; one row an instruction -/
def wsG : List Cond := lw_tbl.filter goodWord
theorem inG {w : Cond} (i : Nat) (h : lw_tbl[i]? = some w) (hg : goodWord w = true) : w ∈ wsG := List.mem_filter.mpr ⟨List.mem_of_getElem? h, hg⟩
theorem inGs (ws : List Cond) (ps : List Nat) (hp : ws = ps.filterMap (fun i => lw_tbl[i]?)) (hg : ws.all goodWord = true) : ∀ w ∈ ws, w ∈ wsG := by
  intro w hw
  refine List.mem_filter.mpr ⟨?_, List.all_eq_true.mp hg w hw⟩
  rw [hp] at hw
  obtain ⟨i, -, hi⟩ := List.mem_filterMap.mp hw
  exact List.mem_of_getElem? hi
theorem goodC {y : MethodName} {c : ByteArray} {n : Nat} {r : Option FieldType} (h : Cond.code y c n r ∈ wsG) : GoodIn wsG (Cond.code y c n r :: wsG) := by
  intro w hw
  have hm : w ∈ wsG := by
    rcases List.mem_cons.mp hw with e | e
    · rw [e]; exact h
    · exact e
  exact ⟨hm, good_of_word (List.mem_filter.mp hm).2⟩
abbrev Bx : Type := Program × Launch × Env × Room × State × MethodId × Array Value × List Frame × Method × Code × (State → Prop) × (Nat → Prop)
abbrev bS (X : Bx) : State := X.2.2.2.2.1
abbrev bM (X : Bx) : MethodId := X.2.2.2.2.2.1
abbrev bAr (X : Bx) : Array Value := X.2.2.2.2.2.2.1
abbrev bMe (X : Bx) : Method := X.2.2.2.2.2.2.2.2.1
abbrev bC (X : Bx) : Code := X.2.2.2.2.2.2.2.2.2.1
abbrev bQ (X : Bx) : State → Prop := X.2.2.2.2.2.2.2.2.2.2.1
abbrev bA (X : Bx) : Nat → Prop := X.2.2.2.2.2.2.2.2.2.2.2
def Vx (X : Bx) (D : va_G) (nL : Nat) (ws : va_W) (pc : Nat) (ls : List (Nat × Value)) (st : List Value) : Prop :=
  ∀ (H : Heap) (locs : List Loc) (Ls : Array Slot), lv_has Ls nL ls → va_P D vwCl ws H → va_S (bA X) (bS X).heap H locs →
    W X.1 X.2.1 X.2.2.1 X.2.2.2.1 (bS X) (bM X) (bAr X) X.2.2.2.2.2.2.2.1 (bMe X) (bC X) H locs 0 0 (bQ X) (F0 (bM X) pc Ls st)
/-- what a walk stands on: the machine, the code, the words -/
def Okx (X : Bx) (D : va_G) (cc : ByteArray) (nL : Nat) (own : String) (tys : List (ClassId × FieldType)) : Prop :=
  X.1.tables.exec = Jvm.exec ∧ (bC X).code = cc ∧ (bC X).maxLocals = nL ∧ (bS X).vm.findClass own = some (bM X).cls ∧ (∀ w ∈ wsG, w.before (bAr X) (bS X) = true) ∧ va_K D vwCl tys (bS X) ∧ (∀ q, (bS X).heap.size ≤ q → (bA X) q) ∧ (bMe X).locks = false
section VX
variable {X : Bx} {D : va_G} {cc : ByteArray} {nL : Nat} {own : String} {tys : List (ClassId × FieldType)} {ws : va_W} {pc : Nat} {ls : List (Nat × Value)} {st : List Value}
theorem mem_of_lookup {l : List (Nat × Value)} {i : Nat} {v : Value} (h : l.lookup i = some v) : (i, v) ∈ l := by
  induction l with
  | nil => cases h
  | cons a l ih =>
    obtain ⟨j, w⟩ := a
    rw [List.lookup_cons] at h
    by_cases hj : (i == j) = true
    · rw [hj] at h
      have e : i = j := by simpa using hj
      cases h
      rw [e]
      exact List.mem_cons_self
    · have hj : (i == j) = false := by simpa using hj
      rw [hj] at h
      exact List.mem_cons_of_mem _ (ih h)
theorem vx_sub {ls' : List (Nat × Value)} (ks : List Nat) (hl : lv_pick ls ks = ls') (k : Vx X D nL ws pc ls' st) : Vx X D nL ws pc ls st :=
  fun H locs Ls h hP hS => k H locs Ls (lv_sub h ks hl) hP hS
theorem vx_iconst (hX : Okx X D cc nL own tys) {n : Int} {v : Int32} (hd : decode cc pc = .ok (.iconst n, 1)) (hv : Int32.ofInt n = v) (k : Vx X D nL ws (pc + 1) ls (.int v :: st)) : Vx X D nL ws pc ls st :=
  fun H locs Ls h hP hS => lv_iconst hX.1 hX.2.1 hd hv (k H locs Ls h hP hS)
theorem vx_bipush (hX : Okx X D cc nL own tys) {n : Int} {v : Int32} (hd : decode cc pc = .ok (.bipush n, 2)) (hv : (Int8.ofInt n).toInt32 = v) (k : Vx X D nL ws (pc + 2) ls (.int v :: st)) : Vx X D nL ws pc ls st :=
  fun H locs Ls h hP hS => lv_bipush hX.1 hX.2.1 hd hv (k H locs Ls h hP hS)
theorem vx_sipush (hX : Okx X D cc nL own tys) {n : Int} {v : Int32} (hd : decode cc pc = .ok (.sipush n, 3)) (hv : (Int16.ofInt n).toInt32 = v) (k : Vx X D nL ws (pc + 3) ls (.int v :: st)) : Vx X D nL ws pc ls st :=
  fun H locs Ls h hP hS => lv_sipush hX.1 hX.2.1 hd hv (k H locs Ls h hP hS)
theorem vx_lconst (hX : Okx X D cc nL own tys) {n : Fin 2} {v : Int64} (hd : decode cc pc = .ok (.lconst n, 1)) (hv : Int64.ofNat (n : Nat) = v) (k : Vx X D nL ws (pc + 1) ls (.long v :: st)) : Vx X D nL ws pc ls st :=
  fun H locs Ls h hP hS => lv_lconst hX.1 hX.2.1 hd hv (k H locs Ls h hP hS)
theorem vx_ldc (hX : Okx X D cc nL own tys) {i : Nat} {v : Int32} (hw : Cond.constant own i v ∈ wsG) (hd : decode cc pc = .ok (.ldc i, 2)) (k : Vx X D nL ws (pc + 2) ls (.int v :: st)) : Vx X D nL ws pc ls st :=
  fun H locs Ls h hP hS => lv_ldc hX.1 hX.2.1 hX.2.2.2.1 (hX.2.2.2.2.1 _ hw) hd (k H locs Ls h hP hS)
theorem vx_ldcw (hX : Okx X D cc nL own tys) {i : Nat} {v : Int32} (hw : Cond.constant own i v ∈ wsG) (hd : decode cc pc = .ok (.ldc_w i, 3)) (k : Vx X D nL ws (pc + 3) ls (.int v :: st)) : Vx X D nL ws pc ls st :=
  fun H locs Ls h hP hS => lv_ldcw hX.1 hX.2.1 hX.2.2.2.1 (hX.2.2.2.2.1 _ hw) hd (k H locs Ls h hP hS)
theorem vx_ldc2 (hX : Okx X D cc nL own tys) {i : Nat} {v : Int64} (hw : Cond.constantLong own i v ∈ wsG) (hd : decode cc pc = .ok (.ldc2_w i, 3)) (k : Vx X D nL ws (pc + 3) ls (.long v :: st)) : Vx X D nL ws pc ls st :=
  fun H locs Ls h hP hS => lv_ldc2 hX.1 hX.2.1 hX.2.2.2.1 (hX.2.2.2.2.1 _ hw) hd (k H locs Ls h hP hS)
theorem vx_iload_n (hX : Okx X D cc nL own tys) {j : Fin 4} {x : Int32} (hd : decode cc pc = .ok (.iload_n j, 1)) (hl : ls.lookup (j : Nat) = some (.int x)) (k : Vx X D nL ws (pc + 1) ls (.int x :: st)) : Vx X D nL ws pc ls st :=
  fun H locs Ls h hP hS => lv_iload_n hX.1 hX.2.1 hd rfl (h.2.2 _ (mem_of_lookup hl)) (k H locs Ls h hP hS)
theorem vx_iload (hX : Okx X D cc nL own tys) {j : Nat} {x : Int32} (hd : decode cc pc = .ok (.iload j, 2)) (hl : ls.lookup j = some (.int x)) (k : Vx X D nL ws (pc + 2) ls (.int x :: st)) : Vx X D nL ws pc ls st :=
  fun H locs Ls h hP hS => lv_iload hX.1 hX.2.1 hd (h.2.2 _ (mem_of_lookup hl)) (k H locs Ls h hP hS)
theorem vx_lload_n (hX : Okx X D cc nL own tys) {j : Fin 4} {x : Int64} (hd : decode cc pc = .ok (.lload_n j, 1)) (hl : ls.lookup (j : Nat) = some (.long x)) (k : Vx X D nL ws (pc + 1) ls (.long x :: st)) : Vx X D nL ws pc ls st :=
  fun H locs Ls h hP hS => lv_lload_n hX.1 hX.2.1 hd rfl (h.2.2 _ (mem_of_lookup hl)) (k H locs Ls h hP hS)
theorem vx_lload (hX : Okx X D cc nL own tys) {j : Nat} {x : Int64} (hd : decode cc pc = .ok (.lload j, 2)) (hl : ls.lookup j = some (.long x)) (k : Vx X D nL ws (pc + 2) ls (.long x :: st)) : Vx X D nL ws pc ls st :=
  fun H locs Ls h hP hS => lv_lload hX.1 hX.2.1 hd (h.2.2 _ (mem_of_lookup hl)) (k H locs Ls h hP hS)
theorem vx_aload_n (hX : Okx X D cc nL own tys) {j : Fin 4} {x : Nat} (hd : decode cc pc = .ok (.aload_n j, 1)) (hl : ls.lookup (j : Nat) = some (.ref x)) (k : Vx X D nL ws (pc + 1) ls (.ref x :: st)) : Vx X D nL ws pc ls st :=
  fun H locs Ls h hP hS => lv_aload_n hX.1 hX.2.1 hd rfl (h.2.2 _ (mem_of_lookup hl)) (k H locs Ls h hP hS)
theorem vx_istore_n (hX : Okx X D cc nL own tys) {j : Fin 4} {x : Int32} {ls' : List (Nat × Value)} (hd : decode cc pc = .ok (.istore_n j, 1)) (hn : (j : Nat) < nL) (hl : ((j : Nat), Value.int x) :: ls.filter (fun q => !(q.1 == (j : Nat)) && !(q.1 + 1 == (j : Nat) && q.2.category == 2)) = ls') (k : Vx X D nL ws (pc + 1) ls' st) : Vx X D nL ws pc ls (.int x :: st) :=
  fun H locs Ls h hP hS => lv_istore_n hX.1 hX.2.1 hd rfl h hn hl (fun Ls' h' => k H locs Ls' h' hP hS)
theorem vx_istore (hX : Okx X D cc nL own tys) {j : Nat} {x : Int32} {ls' : List (Nat × Value)} (hd : decode cc pc = .ok (.istore j, 2)) (hn : j < nL) (hl : (j, Value.int x) :: ls.filter (fun q => !(q.1 == j) && !(q.1 + 1 == j && q.2.category == 2)) = ls') (k : Vx X D nL ws (pc + 2) ls' st) : Vx X D nL ws pc ls (.int x :: st) :=
  fun H locs Ls h hP hS => lv_istore hX.1 hX.2.1 hd h hn hl (fun Ls' h' => k H locs Ls' h' hP hS)
theorem vx_lstore_n (hX : Okx X D cc nL own tys) {j : Fin 4} {x : Int64} {ls' : List (Nat × Value)} (hd : decode cc pc = .ok (.lstore_n j, 1)) (hn : (j : Nat) + 1 < nL) (hl : ((j : Nat), Value.long x) :: ls.filter (fun q => !(q.1 == (j : Nat)) && (!(q.1 == (j : Nat) + 1) && !(q.1 + 1 == (j : Nat) && q.2.category == 2))) = ls') (k : Vx X D nL ws (pc + 1) ls' st) : Vx X D nL ws pc ls (.long x :: st) :=
  fun H locs Ls h hP hS => lv_lstore_n hX.1 hX.2.1 hd rfl h hn hl (fun Ls' h' => k H locs Ls' h' hP hS)
theorem vx_lstore (hX : Okx X D cc nL own tys) {j : Nat} {x : Int64} {ls' : List (Nat × Value)} (hd : decode cc pc = .ok (.lstore j, 2)) (hn : j + 1 < nL) (hl : (j, Value.long x) :: ls.filter (fun q => !(q.1 == j) && (!(q.1 == j + 1) && !(q.1 + 1 == j && q.2.category == 2))) = ls') (k : Vx X D nL ws (pc + 2) ls' st) : Vx X D nL ws pc ls (.long x :: st) :=
  fun H locs Ls h hP hS => lv_lstore hX.1 hX.2.1 hd h hn hl (fun Ls' h' => k H locs Ls' h' hP hS)
theorem vx_iinc (hX : Okx X D cc nL own tys) {j q : Nat} {n : Int} {x v : Int32} {ls' : List (Nat × Value)} (hd : decode cc pc = .ok (.iinc j n, 3)) (hq : ls[q]? = some (j, .int x)) (hv : x + Int32.ofInt n = v) (hn : j < nL) (hl : (j, Value.int v) :: ls.filter (fun q => !(q.1 == j) && !(q.1 + 1 == j && q.2.category == 2)) = ls') (k : Vx X D nL ws (pc + 3) ls' st) : Vx X D nL ws pc ls st :=
  fun H locs Ls h hP hS => lv_iinc hX.1 hX.2.1 hd h hq hv hn hl (fun Ls' h' => k H locs Ls' h' hP hS)
theorem vx_goto (hX : Okx X D cc nL own tys) {off : Int} {tgt : Nat} (hd : decode cc pc = .ok (.goto off, 3)) (ht : (pc : Int) + off = (tgt : Int)) (k : Vx X D nL ws tgt ls st) : Vx X D nL ws pc ls st :=
  fun H locs Ls h hP hS => lv_goto hX.1 hX.2.1 hd ht (k H locs Ls h hP hS)
theorem vx_iadd (hX : Okx X D cc nL own tys) {x y : Int32} (hd : decode cc pc = .ok (.iadd, 1)) (k : Vx X D nL ws (pc + 1) ls (.int (x + y) :: st)) : Vx X D nL ws pc ls (.int y :: .int x :: st) :=
  fun H locs Ls h hP hS => lv_iadd hX.1 hX.2.1 hd (k H locs Ls h hP hS)
theorem vx_isub (hX : Okx X D cc nL own tys) {x y : Int32} (hd : decode cc pc = .ok (.isub, 1)) (k : Vx X D nL ws (pc + 1) ls (.int (x - y) :: st)) : Vx X D nL ws pc ls (.int y :: .int x :: st) :=
  fun H locs Ls h hP hS => lv_isub hX.1 hX.2.1 hd (k H locs Ls h hP hS)
theorem vx_imul (hX : Okx X D cc nL own tys) {x y : Int32} (hd : decode cc pc = .ok (.imul, 1)) (k : Vx X D nL ws (pc + 1) ls (.int (x * y) :: st)) : Vx X D nL ws pc ls (.int y :: .int x :: st) :=
  fun H locs Ls h hP hS => lv_imul hX.1 hX.2.1 hd (k H locs Ls h hP hS)
theorem vx_iand (hX : Okx X D cc nL own tys) {x y : Int32} (hd : decode cc pc = .ok (.iand, 1)) (k : Vx X D nL ws (pc + 1) ls (.int (x &&& y) :: st)) : Vx X D nL ws pc ls (.int y :: .int x :: st) :=
  fun H locs Ls h hP hS => lv_iand hX.1 hX.2.1 hd (k H locs Ls h hP hS)
theorem vx_ior (hX : Okx X D cc nL own tys) {x y : Int32} (hd : decode cc pc = .ok (.ior, 1)) (k : Vx X D nL ws (pc + 1) ls (.int (x ||| y) :: st)) : Vx X D nL ws pc ls (.int y :: .int x :: st) :=
  fun H locs Ls h hP hS => lv_ior hX.1 hX.2.1 hd (k H locs Ls h hP hS)
theorem vx_ixor (hX : Okx X D cc nL own tys) {x y : Int32} (hd : decode cc pc = .ok (.ixor, 1)) (k : Vx X D nL ws (pc + 1) ls (.int (x ^^^ y) :: st)) : Vx X D nL ws pc ls (.int y :: .int x :: st) :=
  fun H locs Ls h hP hS => lv_ixor hX.1 hX.2.1 hd (k H locs Ls h hP hS)
theorem vx_ladd (hX : Okx X D cc nL own tys) {x y : Int64} (hd : decode cc pc = .ok (.ladd, 1)) (k : Vx X D nL ws (pc + 1) ls (.long (x + y) :: st)) : Vx X D nL ws pc ls (.long y :: .long x :: st) :=
  fun H locs Ls h hP hS => lv_ladd hX.1 hX.2.1 hd (k H locs Ls h hP hS)
theorem vx_lsub (hX : Okx X D cc nL own tys) {x y : Int64} (hd : decode cc pc = .ok (.lsub, 1)) (k : Vx X D nL ws (pc + 1) ls (.long (x - y) :: st)) : Vx X D nL ws pc ls (.long y :: .long x :: st) :=
  fun H locs Ls h hP hS => lv_lsub hX.1 hX.2.1 hd (k H locs Ls h hP hS)
theorem vx_lmul (hX : Okx X D cc nL own tys) {x y : Int64} (hd : decode cc pc = .ok (.lmul, 1)) (k : Vx X D nL ws (pc + 1) ls (.long (x * y) :: st)) : Vx X D nL ws pc ls (.long y :: .long x :: st) :=
  fun H locs Ls h hP hS => lv_lmul hX.1 hX.2.1 hd (k H locs Ls h hP hS)
theorem vx_land (hX : Okx X D cc nL own tys) {x y : Int64} (hd : decode cc pc = .ok (.land, 1)) (k : Vx X D nL ws (pc + 1) ls (.long (x &&& y) :: st)) : Vx X D nL ws pc ls (.long y :: .long x :: st) :=
  fun H locs Ls h hP hS => lv_land hX.1 hX.2.1 hd (k H locs Ls h hP hS)
theorem vx_lor (hX : Okx X D cc nL own tys) {x y : Int64} (hd : decode cc pc = .ok (.lor, 1)) (k : Vx X D nL ws (pc + 1) ls (.long (x ||| y) :: st)) : Vx X D nL ws pc ls (.long y :: .long x :: st) :=
  fun H locs Ls h hP hS => lv_lor hX.1 hX.2.1 hd (k H locs Ls h hP hS)
theorem vx_lxor (hX : Okx X D cc nL own tys) {x y : Int64} (hd : decode cc pc = .ok (.lxor, 1)) (k : Vx X D nL ws (pc + 1) ls (.long (x ^^^ y) :: st)) : Vx X D nL ws pc ls (.long y :: .long x :: st) :=
  fun H locs Ls h hP hS => lv_lxor hX.1 hX.2.1 hd (k H locs Ls h hP hS)
theorem vx_if_eq (hX : Okx X D cc nL own tys) {x : Int32} {off : Int} {tgt : Nat} (hd : decode cc pc = .ok (.ifCond .eq off, 3)) (ht : (pc : Int) + off = (tgt : Int)) (kt : x = 0 → Vx X D nL ws tgt ls st) (kf : ¬ x = 0 → Vx X D nL ws (pc + 3) ls st) : Vx X D nL ws pc ls (.int x :: st) :=
  fun H locs Ls h hP hS => lv_if_eq hX.1 hX.2.1 hd ht (fun q => kt q H locs Ls h hP hS) (fun q => kf q H locs Ls h hP hS)
theorem vx_icmp_eq (hX : Okx X D cc nL own tys) {x y : Int32} {off : Int} {tgt : Nat} (hd : decode cc pc = .ok (.if_icmp .eq off, 3)) (ht : (pc : Int) + off = (tgt : Int)) (kt : x = y → Vx X D nL ws tgt ls st) (kf : ¬ x = y → Vx X D nL ws (pc + 3) ls st) : Vx X D nL ws pc ls (.int y :: .int x :: st) :=
  fun H locs Ls h hP hS => lv_icmp_eq hX.1 hX.2.1 hd ht (fun q => kt q H locs Ls h hP hS) (fun q => kf q H locs Ls h hP hS)
theorem vx_if_ne (hX : Okx X D cc nL own tys) {x : Int32} {off : Int} {tgt : Nat} (hd : decode cc pc = .ok (.ifCond .ne off, 3)) (ht : (pc : Int) + off = (tgt : Int)) (kt : ¬ x = 0 → Vx X D nL ws tgt ls st) (kf : x = 0 → Vx X D nL ws (pc + 3) ls st) : Vx X D nL ws pc ls (.int x :: st) :=
  fun H locs Ls h hP hS => lv_if_ne hX.1 hX.2.1 hd ht (fun q => kt q H locs Ls h hP hS) (fun q => kf q H locs Ls h hP hS)
theorem vx_icmp_ne (hX : Okx X D cc nL own tys) {x y : Int32} {off : Int} {tgt : Nat} (hd : decode cc pc = .ok (.if_icmp .ne off, 3)) (ht : (pc : Int) + off = (tgt : Int)) (kt : ¬ x = y → Vx X D nL ws tgt ls st) (kf : x = y → Vx X D nL ws (pc + 3) ls st) : Vx X D nL ws pc ls (.int y :: .int x :: st) :=
  fun H locs Ls h hP hS => lv_icmp_ne hX.1 hX.2.1 hd ht (fun q => kt q H locs Ls h hP hS) (fun q => kf q H locs Ls h hP hS)
theorem vx_if_lt (hX : Okx X D cc nL own tys) {x : Int32} {off : Int} {tgt : Nat} (hd : decode cc pc = .ok (.ifCond .lt off, 3)) (ht : (pc : Int) + off = (tgt : Int)) (kt : x < 0 → Vx X D nL ws tgt ls st) (kf : ¬ x < 0 → Vx X D nL ws (pc + 3) ls st) : Vx X D nL ws pc ls (.int x :: st) :=
  fun H locs Ls h hP hS => lv_if_lt hX.1 hX.2.1 hd ht (fun q => kt q H locs Ls h hP hS) (fun q => kf q H locs Ls h hP hS)
theorem vx_icmp_lt (hX : Okx X D cc nL own tys) {x y : Int32} {off : Int} {tgt : Nat} (hd : decode cc pc = .ok (.if_icmp .lt off, 3)) (ht : (pc : Int) + off = (tgt : Int)) (kt : x < y → Vx X D nL ws tgt ls st) (kf : ¬ x < y → Vx X D nL ws (pc + 3) ls st) : Vx X D nL ws pc ls (.int y :: .int x :: st) :=
  fun H locs Ls h hP hS => lv_icmp_lt hX.1 hX.2.1 hd ht (fun q => kt q H locs Ls h hP hS) (fun q => kf q H locs Ls h hP hS)
theorem vx_if_ge (hX : Okx X D cc nL own tys) {x : Int32} {off : Int} {tgt : Nat} (hd : decode cc pc = .ok (.ifCond .ge off, 3)) (ht : (pc : Int) + off = (tgt : Int)) (kt : 0 ≤ x → Vx X D nL ws tgt ls st) (kf : ¬ 0 ≤ x → Vx X D nL ws (pc + 3) ls st) : Vx X D nL ws pc ls (.int x :: st) :=
  fun H locs Ls h hP hS => lv_if_ge hX.1 hX.2.1 hd ht (fun q => kt q H locs Ls h hP hS) (fun q => kf q H locs Ls h hP hS)
theorem vx_icmp_ge (hX : Okx X D cc nL own tys) {x y : Int32} {off : Int} {tgt : Nat} (hd : decode cc pc = .ok (.if_icmp .ge off, 3)) (ht : (pc : Int) + off = (tgt : Int)) (kt : y ≤ x → Vx X D nL ws tgt ls st) (kf : ¬ y ≤ x → Vx X D nL ws (pc + 3) ls st) : Vx X D nL ws pc ls (.int y :: .int x :: st) :=
  fun H locs Ls h hP hS => lv_icmp_ge hX.1 hX.2.1 hd ht (fun q => kt q H locs Ls h hP hS) (fun q => kf q H locs Ls h hP hS)
theorem vx_if_gt (hX : Okx X D cc nL own tys) {x : Int32} {off : Int} {tgt : Nat} (hd : decode cc pc = .ok (.ifCond .gt off, 3)) (ht : (pc : Int) + off = (tgt : Int)) (kt : 0 < x → Vx X D nL ws tgt ls st) (kf : ¬ 0 < x → Vx X D nL ws (pc + 3) ls st) : Vx X D nL ws pc ls (.int x :: st) :=
  fun H locs Ls h hP hS => lv_if_gt hX.1 hX.2.1 hd ht (fun q => kt q H locs Ls h hP hS) (fun q => kf q H locs Ls h hP hS)
theorem vx_icmp_gt (hX : Okx X D cc nL own tys) {x y : Int32} {off : Int} {tgt : Nat} (hd : decode cc pc = .ok (.if_icmp .gt off, 3)) (ht : (pc : Int) + off = (tgt : Int)) (kt : y < x → Vx X D nL ws tgt ls st) (kf : ¬ y < x → Vx X D nL ws (pc + 3) ls st) : Vx X D nL ws pc ls (.int y :: .int x :: st) :=
  fun H locs Ls h hP hS => lv_icmp_gt hX.1 hX.2.1 hd ht (fun q => kt q H locs Ls h hP hS) (fun q => kf q H locs Ls h hP hS)
theorem vx_if_le (hX : Okx X D cc nL own tys) {x : Int32} {off : Int} {tgt : Nat} (hd : decode cc pc = .ok (.ifCond .le off, 3)) (ht : (pc : Int) + off = (tgt : Int)) (kt : x ≤ 0 → Vx X D nL ws tgt ls st) (kf : ¬ x ≤ 0 → Vx X D nL ws (pc + 3) ls st) : Vx X D nL ws pc ls (.int x :: st) :=
  fun H locs Ls h hP hS => lv_if_le hX.1 hX.2.1 hd ht (fun q => kt q H locs Ls h hP hS) (fun q => kf q H locs Ls h hP hS)
theorem vx_icmp_le (hX : Okx X D cc nL own tys) {x y : Int32} {off : Int} {tgt : Nat} (hd : decode cc pc = .ok (.if_icmp .le off, 3)) (ht : (pc : Int) + off = (tgt : Int)) (kt : x ≤ y → Vx X D nL ws tgt ls st) (kf : ¬ x ≤ y → Vx X D nL ws (pc + 3) ls st) : Vx X D nL ws pc ls (.int y :: .int x :: st) :=
  fun H locs Ls h hP hS => lv_icmp_le hX.1 hX.2.1 hd ht (fun q => kt q H locs Ls h hP hS) (fun q => kf q H locs Ls h hP hS)
def jushr (x y : Int32) : Int32 := (x.toUInt32 >>> (y.toUInt32 &&& Int32.toUInt32 31)).toInt32
def jshl (x y : Int32) : Int32 := x <<< (y &&& 31)
def jshr (x y : Int32) : Int32 := x >>> (y &&& 31)
def jlushr (x : Int64) (y : Int32) : Int64 := (x.toUInt64 >>> (y.toInt64.toUInt64 &&& Int64.toUInt64 63)).toInt64
def jrem (x y : Int32) : Int32 := x - x / y * y
def jlrem (x y : Int64) : Int64 := x - x / y * y
theorem vx_ishl (hX : Okx X D cc nL own tys) {x y : Int32} (hd : decode cc pc = .ok (.ishl, 1)) (k : Vx X D nL ws (pc + 1) ls (.int (jshl x y) :: st)) : Vx X D nL ws pc ls (.int y :: .int x :: st) :=
  fun H locs Ls h hP hS => lv_ishl hX.1 hX.2.1 hd (k H locs Ls h hP hS)
theorem vx_ishr (hX : Okx X D cc nL own tys) {x y : Int32} (hd : decode cc pc = .ok (.ishr, 1)) (k : Vx X D nL ws (pc + 1) ls (.int (jshr x y) :: st)) : Vx X D nL ws pc ls (.int y :: .int x :: st) :=
  fun H locs Ls h hP hS => lv_ishr hX.1 hX.2.1 hd (k H locs Ls h hP hS)
theorem vx_iushr (hX : Okx X D cc nL own tys) {x y : Int32} (hd : decode cc pc = .ok (.iushr, 1)) (k : Vx X D nL ws (pc + 1) ls (.int (jushr x y) :: st)) : Vx X D nL ws pc ls (.int y :: .int x :: st) :=
  fun H locs Ls h hP hS => lv_iushr hX.1 hX.2.1 hd rfl (k H locs Ls h hP hS)
theorem vx_lushr (hX : Okx X D cc nL own tys) {x : Int64} {y : Int32} (hd : decode cc pc = .ok (.lushr, 1)) (k : Vx X D nL ws (pc + 1) ls (.long (jlushr x y) :: st)) : Vx X D nL ws pc ls (.int y :: .long x :: st) :=
  fun H locs Ls h hP hS => lv_lushr hX.1 hX.2.1 hd rfl (k H locs Ls h hP hS)
theorem vx_idiv (hX : Okx X D cc nL own tys) {x y : Int32} (hd : decode cc pc = .ok (.idiv, 1)) (hn : ¬ y = 0) (k : Vx X D nL ws (pc + 1) ls (.int (x / y) :: st)) : Vx X D nL ws pc ls (.int y :: .int x :: st) :=
  fun H locs Ls h hP hS => lv_idiv hX.1 hX.2.1 hd hn (k H locs Ls h hP hS)
theorem vx_irem (hX : Okx X D cc nL own tys) {x y : Int32} (hd : decode cc pc = .ok (.irem, 1)) (hn : ¬ y = 0) (k : Vx X D nL ws (pc + 1) ls (.int (jrem x y) :: st)) : Vx X D nL ws pc ls (.int y :: .int x :: st) :=
  fun H locs Ls h hP hS => lv_irem hX.1 hX.2.1 hd hn (k H locs Ls h hP hS)
theorem vx_lrem (hX : Okx X D cc nL own tys) {x y : Int64} (hd : decode cc pc = .ok (.lrem, 1)) (hn : ¬ y = 0) (k : Vx X D nL ws (pc + 1) ls (.long (jlrem x y) :: st)) : Vx X D nL ws pc ls (.long y :: .long x :: st) :=
  fun H locs Ls h hP hS => lv_lrem hX.1 hX.2.1 hd hn (k H locs Ls h hP hS)
theorem vx_i2l (hX : Okx X D cc nL own tys) {x : Int32} (hd : decode cc pc = .ok (.i2l, 1)) (k : Vx X D nL ws (pc + 1) ls (.long x.toInt64 :: st)) : Vx X D nL ws pc ls (.int x :: st) :=
  fun H locs Ls h hP hS => lv_i2l hX.1 hX.2.1 hd rfl (k H locs Ls h hP hS)
theorem vx_l2i (hX : Okx X D cc nL own tys) {x : Int64} (hd : decode cc pc = .ok (.l2i, 1)) (k : Vx X D nL ws (pc + 1) ls (.int x.toInt32 :: st)) : Vx X D nL ws pc ls (.long x :: st) :=
  fun H locs Ls h hP hS => lv_l2i hX.1 hX.2.1 hd rfl (k H locs Ls h hP hS)
theorem vx_lcmp (hX : Okx X D cc nL own tys) {x y : Int64} (hd : decode cc pc = .ok (.lcmp, 1)) (k : Vx X D nL ws (pc + 1) ls (.int (lg_cmp x y) :: st)) : Vx X D nL ws pc ls (.long y :: .long x :: st) :=
  fun H locs Ls h hP hS => W.lcmp hX.1 hX.2.1 hd (k H locs Ls h hP hS)
theorem vx_dup (hX : Okx X D cc nL own tys) {v : Value} (hd : decode cc pc = .ok (.dup, 1)) (hv : v.category = 1) (k : Vx X D nL ws (pc + 1) ls (v :: v :: st)) : Vx X D nL ws pc ls (v :: st) :=
  fun H locs Ls h hP hS => lv_dup hX.1 hX.2.1 hd hv (k H locs Ls h hP hS)
theorem vx_dup2 (hX : Okx X D cc nL own tys) {v w : Value} (hd : decode cc pc = .ok (.dup2, 1)) (hv : v.category = 1) (hw : w.category = 1) (k : Vx X D nL ws (pc + 1) ls (v :: w :: v :: w :: st)) : Vx X D nL ws pc ls (v :: w :: st) :=
  fun H locs Ls h hP hS => lv_dup2_11 hX.1 hX.2.1 hd hv hw (k H locs Ls h hP hS)
theorem vx_pop (hX : Okx X D cc nL own tys) {v : Value} (hd : decode cc pc = .ok (.pop, 1)) (hv : v.category = 1) (k : Vx X D nL ws (pc + 1) ls st) : Vx X D nL ws pc ls (v :: st) :=
  fun H locs Ls h hP hS => lv_pop hX.1 hX.2.1 hd hv (k H locs Ls h hP hS)
theorem vx_tabIn (hX : Okx X D cc nL own tys) {dflt lo hi : Int} {offs : Array Int} {len : Nat} {x : Int32} {off : Int} {tgt : Nat} (hd : decode cc pc = .ok (.tableswitch dflt lo hi offs, len)) (h1 : ¬ x.toInt < lo) (h2 : ¬ hi < x.toInt) (ho : offs[(x.toInt - lo).toNat]? = some off) (ht : (pc : Int) + off = (tgt : Int)) (k : Vx X D nL ws tgt ls st) : Vx X D nL ws pc ls (.int x :: st) :=
  fun H locs Ls h hP hS => lv_tableIn hX.1 hX.2.1 hd h1 h2 ho ht (k H locs Ls h hP hS)
theorem vx_tabOut (hX : Okx X D cc nL own tys) {dflt lo hi : Int} {offs : Array Int} {len : Nat} {x : Int32} {tgt : Nat} (hd : decode cc pc = .ok (.tableswitch dflt lo hi offs, len)) (h1 : x.toInt < lo ∨ hi < x.toInt) (ht : (pc : Int) + dflt = (tgt : Int)) (k : Vx X D nL ws tgt ls st) : Vx X D nL ws pc ls (.int x :: st) :=
  fun H locs Ls h hP hS => lv_tableOut hX.1 hX.2.1 hd h1 ht (k H locs Ls h hP hS)
theorem vx_lookup (hX : Okx X D cc nL own tys) {dflt : Int} {ps : Array (Int × Int)} {len : Nat} {x : Int32} {off : Int} {tgt : Nat} (hd : decode cc pc = .ok (.lookupswitch dflt ps, len)) (hp : (ps.toList.zip (ps.toList.drop 1)).all (fun (a, next) => a.1 < next.1) = true) (ho : Op.lookupswitch.offset ps.toList dflt x.toInt = off) (ht : (pc : Int) + off = (tgt : Int)) (k : Vx X D nL ws tgt ls st) : Vx X D nL ws pc ls (.int x :: st) :=
  fun H locs Ls h hP hS => lv_lookup hX.1 hX.2.1 hd hp ho ht (k H locs Ls h hP hS)
/-- an index in its row -/
def inb (i : Int32) (n : Nat) : Bool := decide (¬ (i < 0 ∨ n ≤ i.toNatClampNeg))
theorem inb_in {i : Int32} {n : Nat} (h : inb i n = true) : vp_in i n := show ¬ (i < 0 ∨ n ≤ i.toNatClampNeg) from of_decide_eq_true h
theorem vx_get (hX : Okx X D cc nL own tys) {a : Nat} {C : String} {T : u_T} {N ci i : Nat} {fs : List Value} {v : Value} (q0 : Nat) (he : ws[q0]? = some (a, .inr (ci, fs))) (hc : vwCl[ci]? = some (C, T, N)) (hin : ∀ w ∈ u_ws C T N, w ∈ wsG) (j : Nat) (hj : j < N) (hv : fs[j]? = some v) (hw : Cond.fieldLink own i (T j).1 (T j).2.1 (T j).2.2.1 ∈ wsG) (hd : decode cc pc = .ok (.getfield i, 3)) (k : Vx X D nL ws (pc + 3) ls (v :: st)) : Vx X D nL ws pc ls (.ref a :: st) :=
  fun H locs Ls h hP hS => va_get (D := D) (cl := vwCl) (tys := tys) hX.1 hX.2.1 hX.2.2.2.2.1 hin hX.2.2.2.1 hX.2.2.2.2.2.1 hP q0 he hc j hj (hX.2.2.2.2.1 _ hw) (fun _ h => h) hv hd (k H locs Ls h hP hS)
theorem vx_put (hX : Okx X D cc nL own tys) {a : Nat} {C : String} {T : u_T} {N ci i : Nat} {fs : List Value} {x : Int32} {ws' : va_W} (q0 : Nat) (he : ws[q0]? = some (a, .inr (ci, fs))) (hc : vwCl[ci]? = some (C, T, N)) (hin : ∀ w ∈ u_ws C T N, w ∈ wsG) (ty0 : Nat → FieldType) (hty : ∀ k, k < N → parseFieldDescriptor (T k).2.2.1 = some (ty0 k)) (hnm : ∀ a, a < N → ∀ b, b < N → a ≠ b → (T a).2.1 ≠ (T b).2.1) (hD : va_D (bA X) ws) (j : Nat) (hj : j < N) (hl : j < fs.length) (hfin : (T j).2.2.2 = false) (hty1 : parseFieldDescriptor (T j).2.2.1 = some .int) (hw : Cond.fieldLink own i (T j).1 (T j).2.1 (T j).2.2.1 ∈ wsG) (hd : decode cc pc = .ok (.putfield i, 3)) (hs : ws.set q0 (a, .inr (ci, fs.set j (.int x))) = ws') (k : Vx X D nL ws' (pc + 3) ls st) : Vx X D nL ws pc ls (.int x :: .ref a :: st) :=
  fun H locs Ls h hP hS => va_put (D := D) (cl := vwCl) (tys := tys) hX.1 hX.2.1 hX.2.2.2.2.1 hin ty0 hty hnm hX.2.2.2.1 hX.2.2.2.2.2.1 hP hD hS q0 he hc j hj (hX.2.2.2.2.1 _ hw) (fun _ h => h) hfin hty1 rfl rfl hl hd (fun H1 locs1 hP1 _ hS1 => k H1 locs1 Ls h (hs ▸ hP1) hS1)
theorem vx_iald (hX : Okx X D cc nL own tys) {a : Nat} {cA : ClassId} {n : Nat} {f : Nat → Int32} {i : Int32} (q0 t0 : Nat) (ha : ws[q0]? = some (a, .inl (cA, n, .inl f))) (ht : tys[t0]? = some (cA, .int)) (hin : inb i n = true) (hd : decode cc pc = .ok (.iaload, 1)) (k : Vx X D nL ws (pc + 1) ls (.int (f i.toNatClampNeg) :: st)) : Vx X D nL ws pc ls (.int i :: .ref a :: st) :=
  fun H locs Ls h hP hS => va_iald hX.1 hX.2.1 hX.2.2.2.2.2.1 hP q0 t0 ha ht (inb_in hin) hd (k H locs Ls h hP hS)
theorem vx_zald (hX : Okx X D cc nL own tys) {a : Nat} {cA : ClassId} {n : Nat} {f : Nat → Int32} {i : Int32} (q0 t0 : Nat) (ha : ws[q0]? = some (a, .inl (cA, n, .inl f))) (ht : tys[t0]? = some (cA, .boolean)) (hin : inb i n = true) (hd : decode cc pc = .ok (.baload, 1)) (k : Vx X D nL ws (pc + 1) ls (.int (f i.toNatClampNeg) :: st)) : Vx X D nL ws pc ls (.int i :: .ref a :: st) :=
  fun H locs Ls h hP hS => va_zald hX.1 hX.2.1 hX.2.2.2.2.2.1 hP q0 t0 ha ht (inb_in hin) hd (k H locs Ls h hP hS)
theorem vx_lald (hX : Okx X D cc nL own tys) {a : Nat} {cA : ClassId} {n : Nat} {f : Nat → Int64} {i : Int32} (q0 t0 : Nat) (ha : ws[q0]? = some (a, .inl (cA, n, .inr (.inl f)))) (ht : tys[t0]? = some (cA, .long)) (hin : inb i n = true) (hd : decode cc pc = .ok (.laload, 1)) (k : Vx X D nL ws (pc + 1) ls (.long (f i.toNatClampNeg) :: st)) : Vx X D nL ws pc ls (.int i :: .ref a :: st) :=
  fun H locs Ls h hP hS => va_lald hX.1 hX.2.1 hX.2.2.2.2.2.1 hP q0 t0 ha ht (inb_in hin) hd (k H locs Ls h hP hS)
theorem vx_iast (hX : Okx X D cc nL own tys) {a : Nat} {cA : ClassId} {n : Nat} {f : Nat → Int32} {i x : Int32} {ws' : va_W} (hD : va_D (bA X) ws) (q0 t0 : Nat) (ha : ws[q0]? = some (a, .inl (cA, n, .inl f))) (ht : tys[t0]? = some (cA, .int)) (hin : inb i n = true) (hd : decode cc pc = .ok (.iastore, 1)) (hs : ws.set q0 (a, .inl (cA, n, .inl (upd f i.toNatClampNeg x))) = ws') (k : Vx X D nL ws' (pc + 1) ls st) : Vx X D nL ws pc ls (.int x :: .int i :: .ref a :: st) :=
  fun H locs Ls h hP hS => va_iast hX.1 hX.2.1 hX.2.2.2.2.2.1 hP hD hS q0 t0 ha ht (inb_in hin) hd (fun H1 locs1 hP1 _ hS1 => k H1 locs1 Ls h (hs ▸ hP1) hS1)
theorem vx_zast (hX : Okx X D cc nL own tys) {a : Nat} {cA : ClassId} {n : Nat} {f : Nat → Int32} {i x : Int32} {ws' : va_W} (hD : va_D (bA X) ws) (q0 t0 : Nat) (ha : ws[q0]? = some (a, .inl (cA, n, .inl f))) (ht : tys[t0]? = some (cA, .boolean)) (hin : inb i n = true) (hn : vp_nar .boolean x = x) (hd : decode cc pc = .ok (.bastore, 1)) (hs : ws.set q0 (a, .inl (cA, n, .inl (upd f i.toNatClampNeg x))) = ws') (k : Vx X D nL ws' (pc + 1) ls st) : Vx X D nL ws pc ls (.int x :: .int i :: .ref a :: st) :=
  fun H locs Ls h hP hS => va_zast hX.1 hX.2.1 hX.2.2.2.2.2.1 hP hD hS q0 t0 ha ht (inb_in hin) hd (fun H1 locs1 hP1 _ hS1 => k H1 locs1 Ls h (by rw [hn] at hP1; exact hs ▸ hP1) hS1)
theorem vx_last (hX : Okx X D cc nL own tys) {a : Nat} {cA : ClassId} {n : Nat} {f : Nat → Int64} {i : Int32} {x : Int64} {ws' : va_W} (hD : va_D (bA X) ws) (q0 t0 : Nat) (ha : ws[q0]? = some (a, .inl (cA, n, .inr (.inl f)))) (ht : tys[t0]? = some (cA, .long)) (hin : inb i n = true) (hd : decode cc pc = .ok (.lastore, 1)) (hs : ws.set q0 (a, .inl (cA, n, .inr (.inl (vp_updL f i.toNatClampNeg x)))) = ws') (k : Vx X D nL ws' (pc + 1) ls st) : Vx X D nL ws pc ls (.long x :: .int i :: .ref a :: st) :=
  fun H locs Ls h hP hS => va_last hX.1 hX.2.1 hX.2.2.2.2.2.1 hP hD hS q0 t0 ha ht (inb_in hin) hd (fun H1 locs1 hP1 _ hS1 => k H1 locs1 Ls h (hs ▸ hP1) hS1)
/-- System.arraycopy of ints, of longs: constants for places and length, tested by a program -/
def cpOk (sp dp n : Int32) (n0 n1 : Nat) : Bool := decide (¬ sp < 0) && decide (¬ dp < 0) && decide (¬ n < 0) && decide (sp.toNatClampNeg + n.toNatClampNeg ≤ n0) && decide (dp.toNatClampNeg + n.toNatClampNeg ≤ n1)
theorem vx_copyi (hX : Okx X D cc nL own tys) {a a0 : Nat} {cA : ClassId} {n0 n1 : Nat} {f f1 : Nat → Int32} {sp dp n : Int32} {i : Nat} {ws' : va_W} (hD : va_D (bA X) ws) (q0 q1 t0 : Nat) (ha0 : ws[q0]? = some (a0, .inl (cA, n0, .inl f))) (ha1 : ws[q1]? = some (a, .inl (cA, n1, .inl f1))) (ht : tys[t0]? = some (cA, .int)) (hok : cpOk sp dp n n0 n1 = true) (w1 : Cond.methodLink own i arraycopyName ∈ wsG) (w2 : Cond.native arraycopyName ∈ wsG) (w3 : Cond.static arraycopyName ∈ wsG) (w4 : Cond.initialized "java/lang/System" ∈ wsG) (hR : 1 ≤ X.2.2.2.1.frames ∧ (st.map fun v => v.category).sum + 18 ≤ X.2.2.2.1.locals) (hd : decode cc pc = .ok (.invokestatic i, 3)) (hs : ws.set q1 (a, .inl (cA, n1, .inl (va_cpy f f1 sp.toNatClampNeg dp.toNatClampNeg n.toNatClampNeg))) = ws') (k : Vx X D nL ws' (pc + 3) ls st) : Vx X D nL ws pc ls (.int n :: .int dp :: .ref a :: .int sp :: .ref a0 :: st) := by
  simp only [cpOk, Bool.and_eq_true, decide_eq_true_eq] at hok
  obtain ⟨⟨⟨⟨h1, h2⟩, h3⟩, h4⟩, h5⟩ := hok
  intro H locs Ls h hP hS
  exact va_copyi hX.1 hX.2.1 (hX.2.2.1.trans h.1.symm) hX.2.2.2.1 (hX.2.2.2.2.1 _ w1) (hX.2.2.2.2.1 _ w2) (hX.2.2.2.2.1 _ w3) (hX.2.2.2.2.1 _ w4) hX.2.2.2.2.2.1 hP hD hS q0 q1 t0 t0 ha0 ha1 ht ht rfl h1 h2 h3 h4 h5 (fun _ _ => rfl) hR.1 hR.2 hd (fun H1 locs1 hP1 _ hS1 => k H1 locs1 Ls h (hs ▸ hP1) hS1)
theorem vx_copyl (hX : Okx X D cc nL own tys) {a a0 : Nat} {cA : ClassId} {n0 n1 : Nat} {f f1 : Nat → Int64} {sp dp n : Int32} {i : Nat} {ws' : va_W} (hD : va_D (bA X) ws) (q0 q1 t0 : Nat) (ha0 : ws[q0]? = some (a0, .inl (cA, n0, .inr (.inl f)))) (ha1 : ws[q1]? = some (a, .inl (cA, n1, .inr (.inl f1)))) (ht : tys[t0]? = some (cA, .long)) (hok : cpOk sp dp n n0 n1 = true) (w1 : Cond.methodLink own i arraycopyName ∈ wsG) (w2 : Cond.native arraycopyName ∈ wsG) (w3 : Cond.static arraycopyName ∈ wsG) (w4 : Cond.initialized "java/lang/System" ∈ wsG) (hR : 1 ≤ X.2.2.2.1.frames ∧ (st.map fun v => v.category).sum + 18 ≤ X.2.2.2.1.locals) (hd : decode cc pc = .ok (.invokestatic i, 3)) (hs : ws.set q1 (a, .inl (cA, n1, .inr (.inl (va_cpy f f1 sp.toNatClampNeg dp.toNatClampNeg n.toNatClampNeg)))) = ws') (k : Vx X D nL ws' (pc + 3) ls st) : Vx X D nL ws pc ls (.int n :: .int dp :: .ref a :: .int sp :: .ref a0 :: st) := by
  simp only [cpOk, Bool.and_eq_true, decide_eq_true_eq] at hok
  obtain ⟨⟨⟨⟨h1, h2⟩, h3⟩, h4⟩, h5⟩ := hok
  intro H locs Ls h hP hS
  exact va_copyl hX.1 hX.2.1 (hX.2.2.1.trans h.1.symm) hX.2.2.2.1 (hX.2.2.2.2.1 _ w1) (hX.2.2.2.2.1 _ w2) (hX.2.2.2.2.1 _ w3) (hX.2.2.2.2.1 _ w4) hX.2.2.2.2.2.1 hP hD hS q0 q1 t0 t0 ha0 ha1 ht ht rfl h1 h2 h3 h4 h5 (fun _ _ => rfl) hR.1 hR.2 hd (fun H1 locs1 hP1 _ hS1 => k H1 locs1 Ls h (hs ▸ hP1) hS1)
end VX
end
section
/-! worlds whose cells are fixed: contracts that carry a state of numbers -/
abbrev Gx : Type := va_G × (Nat → Nat) × ClassId × ClassId × ClassId × Nat
abbrev SS : Type := (Nat → Int32) × (Nat → Nat → Int32) × (Nat → Nat → Int64)
def gI (σ : SS) (k : Nat) : Int32 := σ.1 k
def gA (σ : SS) (k : Nat) : Nat → Int32 := σ.2.1 k
def gL (σ : SS) (k : Nat) : Nat → Int64 := σ.2.2 k
def sI (σ : SS) (k : Nat) (v : Int32) : SS := (fun j => if j = k then v else σ.1 j, σ.2)
def sA (σ : SS) (k : Nat) (f : Nat → Int32) : SS := (σ.1, fun j => if j = k then f else σ.2.1 j, σ.2.2)
def sL (σ : SS) (k : Nat) (f : Nat → Int64) : SS := (σ.1, σ.2.1, fun j => if j = k then f else σ.2.2 j)
abbrev tysG (g : Gx) : List (ClassId × FieldType) := [(g.2.2.1, .int), (g.2.2.2.1, .long), (g.2.2.2.2.1, .boolean)]
abbrev Wf : Type := Gx → SS → va_W
def wA (w : Wf) (g : Gx) (sz : Nat) : Nat → Prop := fun q => (∃ (σ : SS) (k : Nat) (e : va_E), (w g σ)[k]? = some (q, e)) ∨ sz ≤ q
/-- the addresses hang on no number -/
def wFix (w : Wf) : Prop := ∀ (g : Gx) (σ σ' : SS), (w g σ).map Prod.fst = (w g σ').map Prod.fst
theorem map_fst_at {a b : va_W} (h : a.map Prod.fst = b.map Prod.fst) {k q : Nat} {e : va_E} (hk : a[k]? = some (q, e)) : ∃ e', b[k]? = some (q, e') := by
  have h1 : (a.map Prod.fst)[k]? = some q := by rw [List.getElem?_map, hk]; rfl
  rw [h, List.getElem?_map] at h1
  cases hb : b[k]? with
  | none => rw [hb] at h1; cases h1
  | some x =>
    rw [hb] at h1
    obtain ⟨x1, x2⟩ := x
    have e1 : x1 = q := Option.some.inj h1
    subst e1
    exact ⟨x2, rfl⟩
theorem va_D.fix {A : Nat → Prop} {a b : va_W} (h : a.map Prod.fst = b.map Prod.fst) (hD : va_D A a) : va_D A b := by
  refine ⟨fun i j p q hi hj hpq => ?_, fun k q hk => ?_⟩
  · obtain ⟨p1, p2⟩ := p
    obtain ⟨q1, q2⟩ := q
    obtain ⟨e1, h1⟩ := map_fst_at h.symm hi
    obtain ⟨e2, h2⟩ := map_fst_at h.symm hj
    exact hD.1 i j _ _ h1 h2 hpq
  · obtain ⟨q1, q2⟩ := q
    obtain ⟨e1, h1⟩ := map_fst_at h.symm hk
    exact hD.2 k (q1, e1) h1
/-- the words of private members of nest mates -/
def isNest (w : Cond) : Bool := match w with | .methodLinkNest _ _ _ _ => true | .fieldLinkNest _ _ _ _ _ _ => true | _ => false
def nestW : List Cond := lw_tbl.filter isNest
def NwG (U : State) : Prop := ∀ w ∈ nestW, va_Nw w U
theorem nest_in {w : Cond} (i : Nat) (h : lw_tbl[i]? = some w) (hg : isNest w = true) : w ∈ nestW := List.mem_filter.mpr ⟨List.mem_of_getElem? h, hg⟩
theorem NwG.warm {s U : State} (hW : s.WarmedH U.vm) (h : NwG s) : NwG U := by
  intro w hw
  have h1 := h w hw
  have h2 := (List.mem_filter.mp hw).2
  cases w with
  | methodLinkNest a i x b => exact va_Nw.warmM hW h1
  | fieldLinkNest a i b n d c => exact va_Nw.warmF hW h1
  | _ => cases h2
theorem NwG.same {s U : State} (hW : s.vm = U.vm) (h : NwG s) : NwG U := by
  intro w hw
  have h1 := h w hw
  have h2 := (List.mem_filter.mp hw).2
  cases w with
  | methodLinkNest a i x b => exact va_Nw.same rfl hW h1
  | fieldLinkNest a i b n d c => exact va_Nw.same rfl hW h1
  | _ => cases h2
def yesT (j : Nat) : Int64 := match j with
  | 0 => -6148914691236517206 | 1 => -3689348814741910324 | 2 => -1085102592571150096 | 3 => -71777214294589696 | 4 => -281470681808896 | _ => -4294967296
/-- what stands beside a world: the nest's words, the static table -/
def Exg (g : Gx) (A : Nat → Prop) (U : State) (H : Heap) : Prop := NwG U ∧ va_Z "ContractDesk" "YES_TO" "[J" (.ref g.2.2.2.2.2) A U H ∧ va_T .long g.2.2.2.2.2 6 (fun j => .long (yesT j)) A U H
theorem Exg.same {g : Gx} {A : Nat → Prop} {u U : State} {H : Heap} (h : u.vm = U.vm) (hE : Exg g A u H) : Exg g A U H :=
  have ha : u.vm.Alike U.vm := by rw [h]; exact Vm.Alike.refl _
  ⟨hE.1.same h, hE.2.1.moved ha, hE.2.2.moved ha⟩
theorem Exg.warm {g : Gx} {A : Nat → Prop} {s U : State} {H : Heap} (h : s.WarmedH U.vm) (hE : Exg g A s H) : Exg g A U H := ⟨hE.1.warm h, hE.2.1.moved h.alike, hE.2.2.moved h.alike⟩
theorem Exg.kept {g : Gx} {A : Nat → Prop} {U : State} {H H1 : Heap} (hE : Exg g A U H) (hq : ∀ a : Nat, a < H.size → ¬ A a → H1[a]? = H[a]?) : Exg g A U H1 := ⟨hE.1, hE.2.1.kept hq, hE.2.2.kept hq⟩
theorem Exg.narrow {g : Gx} {A B : Nat → Prop} {U : State} {H : Heap} (hE : Exg g A U H) (hAB : ∀ q, B q → A q) : Exg g B U H := ⟨hE.1, hE.2.1.narrow hAB, hE.2.2.narrow hAB⟩
def InW (w : Wf) (g : Gx) (σ : SS) (sz : Nat) (U : State) : Prop :=
  U.heap.size = sz ∧ va_P g.1 vwCl (w g σ) U.heap ∧ va_K g.1 vwCl (tysG g) U ∧ va_D (fun _ => True) (w g σ) ∧ Exg g (wA w g sz) U U.heap
/-- the end of a method: its answer, the world, what isn't its own stays -/
def xQ (w : Wf) (g : Gx) (r : Option Value) (σ : SS) (A : Nat → Prop) : Array Value → State → Outcome → State → Prop := fun _ st oc t => oc = .returned r ∧ va_P g.1 vwCl (w g σ) t.heap ∧ va_F A st t
def Mcw (w : Wf) (y : MethodName) (cc : ByteArray) (nL : Nat) (ret : Option FieldType) (rm : Room) (av : Gx → List Value) (σ : SS) (r : Gx → Option Value) (σ' : SS) : Prop :=
  ∀ (l : Launch) (g : Gx) (sz : Nat), Met l y (Cond.code y cc nL ret :: wsG) rm (va_Pc (av g) (InW w g σ sz)) (xQ w g (r g) σ' (wA w g sz)) 0 0 (wA w g sz)
/-- what a walk in a world stands on -/
def Okw (w : Wf) (X : Bx) (g : Gx) (cc : ByteArray) (nL : Nat) (own : String) (ret : Option FieldType) (rm : Room) (r : Gx → Option Value) (σ' : SS) : Prop :=
  Okx X g.1 cc nL own (tysG g) ∧ (∀ σ, va_D (bA X) (w g σ)) ∧ bA X = wA w g (bS X).heap.size ∧ Exg g (bA X) (bS X) (bS X).heap ∧ (bMe X).sig.returnType = ret ∧ X.2.2.2.1 = rm ∧ bQ X = MQ X.2.2.2.2.2.2.2.1 (xQ w g (r g) σ' (bA X)) (bAr X) (bS X) 0 0 (bA X)
theorem InW.blind {w : Wf} {g : Gx} {σ : SS} {sz : Nat} {av : List Value} : FrameBlind (va_Pc av (InW w g σ sz)) := by
  intro a U fr mk h
  obtain ⟨h0, h1, h2, h3, h4, h5⟩ := h
  exact ⟨h0, h1, h2, va_K.moved (u := U) (U := U.calling fr mk a) (Vm.Alike.refl U.vm) h3, h4, h5.same (u := U) (U := U.calling fr mk a) rfl⟩
theorem w_enter {w : Wf} {y : MethodName} {cc : ByteArray} {nL : Nat} {ret : Option FieldType} {rm : Room} {av : Gx → List Value} {σ σ' : SS} {r : Gx → Option Value} (hfix : wFix w) (hy : plainName y.cls = true) (hlen : ∀ g, (lg_sl (av g)).length ≤ nL)
    (body : ∀ (X : Bx) (g : Gx), Okw w X g cc nL y.cls ret rm r σ' → Vx X g.1 nL (w g σ) 0 (lv_args 0 (av g)) []) : Mcw w y cc nL ret rm av σ r σ' := by
  intro l g sz
  refine Met.ofW (cc := cc) (maxL := nL) (ret := ret) hy rfl ?_
  intro p e s m args below meth c s₁ B hml hv
  obtain ⟨rfl, hsz, hP, hK, hD, hE⟩ := hv
  subst hsz
  have hts := atoms_spec (ws := Cond.code y cc nL ret :: wsG) B.pre
  have hAw : ∀ σ1, va_D (wA w g s.heap.size) (w g σ1) := fun σ1 => (hD.fix (hfix g σ σ1)).weaken (fun k q hk _ => Or.inl ⟨σ1, k, q.2, hk⟩)
  have ok : Okw w (p, l, e, rm, s, m, (av g).toArray, below, meth, c, MQ below (xQ w g (r g) σ' (wA w g s.heap.size)) (av g).toArray s 0 0 (wA w g s.heap.size), wA w g s.heap.size) g cc nL y.cls ret rm r σ' :=
    ⟨⟨B.exec, B.bytes, hml, findClass_of_methodNamed B.named, fun w hw => hts w (List.mem_cons_of_mem _ hw), hK, fun q h => Or.inr h, B.notSynchronized⟩, hAw, rfl, hE, B.returns, rfl, rfl⟩
  have hb := body _ g ok s.heap [] _ (lv_entry (av g) (n := nL) (hlen g)) hP va_S.rf
  rw [lg_entry_eq]
  exact hb
section WX
variable {w : Wf} {X : Bx} {g : Gx} {cc : ByteArray} {nL : Nat} {own : String} {rm : Room} {ret : Option FieldType} {r : Gx → Option Value} {σ σ' : SS} {pc : Nat} {ls : List (Nat × Value)} {st : List Value}
theorem w_iret {v : Int32} (hX : Okw w X g cc nL own (some .int) rm r σ') (hr : r g = some (.int v)) (hd : decode cc pc = .ok (.ireturn, 1)) : Vx X g.1 nL (w g σ') pc ls [.int v] := by
  obtain ⟨hx, hD, hA, hE, hrt, hrm, hq⟩ := hX
  intro H locs Ls h hP hS
  rw [hq]
  exact W.iret hx.1 hx.2.1 hrt (fun t ht hW => ⟨by rw [hr], by rw [ht]; exact hP, hS.F ht⟩) hS.2.2 hd hx.2.2.2.2.2.2.2
def isb (v : Int32) : Bool := decide (vp_nar .boolean v = v)
theorem isb_nar {v : Int32} (h : isb v = true) : narrow .boolean (.int v) = .int v := by
  have h1 : vp_nar .boolean v = v := of_decide_eq_true h
  unfold vp_nar at h1
  cases hn : narrow .boolean (.int v) with
  | int y => rw [hn] at h1; exact congrArg Value.int h1
  | _ => simp [narrow] at hn
theorem w_zret {v : Int32} (hX : Okw w X g cc nL own (some .boolean) rm r σ') (hr : r g = some (.int v)) (hv : isb v = true) (hd : decode cc pc = .ok (.ireturn, 1)) : Vx X g.1 nL (w g σ') pc ls [.int v] := by
  obtain ⟨hx, hD, hA, hE, hrt, hrm, hq⟩ := hX
  intro H locs Ls h hP hS
  rw [hq]
  exact W.zret hx.1 hx.2.1 hrt (isb_nar hv) (fun t ht hW => ⟨by rw [hr], by rw [ht]; exact hP, hS.F ht⟩) hS.2.2 hd hx.2.2.2.2.2.2.2
theorem w_lret {v : Int64} (hX : Okw w X g cc nL own (some .long) rm r σ') (hr : r g = some (.long v)) (hd : decode cc pc = .ok (.lreturn, 1)) : Vx X g.1 nL (w g σ') pc ls [.long v] := by
  obtain ⟨hx, hD, hA, hE, hrt, hrm, hq⟩ := hX
  intro H locs Ls h hP hS
  rw [hq]
  exact W.lret hx.1 hx.2.1 hrt (fun t ht hW => ⟨by rw [hr], by rw [ht]; exact hP, hS.F ht⟩) hS.2.2 hd hx.2.2.2.2.2.2.2
theorem w_vret (hX : Okw w X g cc nL own none rm r σ') (hr : r g = none) (hd : decode cc pc = .ok (.return_, 1)) : Vx X g.1 nL (w g σ') pc ls [] := by
  obtain ⟨hx, hD, hA, hE, hrt, hrm, hq⟩ := hX
  intro H locs Ls h hP hS
  rw [hq]
  exact W.vret hx.1 hx.2.1 hrt (fun t ht hW => ⟨by rw [hr], by rw [ht]; exact hP, hS.F ht⟩) hS.2.2 hd hx.2.2.2.2.2.2.2
theorem w_aret {a : Nat} {C : String} (hX : Okw w X g cc nL own (some (.object C)) rm r σ') (hr : r g = some (.ref a)) (hd : decode cc pc = .ok (.areturn, 1)) : Vx X g.1 nL (w g σ') pc ls [.ref a] := by
  obtain ⟨hx, hD, hA, hE, hrt, hrm, hq⟩ := hX
  intro H locs Ls h hP hS
  rw [hq]
  exact W.aret hx.1 hx.2.1 hrt (Or.inl ⟨C, rfl⟩) (Or.inr ⟨a, rfl⟩) (fun t ht hW => ⟨by rw [hr], by rw [ht]; exact hP, hS.F ht⟩) hS.2.2 hd hx.2.2.2.2.2.2.2
theorem w_gets (hX : Okw w X g cc nL own ret rm r σ') {i : Nat} {ws : va_W} (hw : Cond.fieldLink own i "ContractDesk" "YES_TO" "[J" ∈ wsG) (hd : decode cc pc = .ok (.getstatic i, 3)) (k : Vx X g.1 nL ws (pc + 3) ls (.ref g.2.2.2.2.2 :: st)) : Vx X g.1 nL ws pc ls st :=
  fun H locs Ls h hP hS => va_gets hX.1.1 hX.1.2.1 hX.2.2.2.1.2.1 hS hX.1.2.2.2.1 (hX.1.2.2.2.2.1 _ hw) (fun _ h => h) hd (k H locs Ls h hP hS)
theorem w_getsN (hX : Okw w X g cc nL own ret rm r σ') {i : Nat} {ws : va_W} {host : String} (hw : Cond.fieldLinkNest own i "ContractDesk" "YES_TO" "[J" host ∈ nestW) (hd : decode cc pc = .ok (.getstatic i, 3)) (k : Vx X g.1 nL ws (pc + 3) ls (.ref g.2.2.2.2.2 :: st)) : Vx X g.1 nL ws pc ls st :=
  fun H locs Ls h hP hS => va_getsN hX.1.1 hX.1.2.1 hX.2.2.2.1.2.1 hS hX.1.2.2.2.1 (va_Nw.use rfl (hX.2.2.2.1.1 _ hw)) (fun _ h => h) hd (k H locs Ls h hP hS)
theorem w_tl (hX : Okw w X g cc nL own ret rm r σ') {i : Int32} {ws : va_W} (hin : inb i 6 = true) (hd : decode cc pc = .ok (.laload, 1)) (k : Vx X g.1 nL ws (pc + 1) ls (.long (yesT i.toNatClampNeg) :: st)) : Vx X g.1 nL ws pc ls (.int i :: .ref g.2.2.2.2.2 :: st) :=
  fun H locs Ls h hP hS => va_tl hX.1.1 hX.1.2.1 hX.2.2.2.1.2.2 hS (inb_in hin) rfl hd (k H locs Ls h hP hS)
/-- a callee's words and names -/
def CeB (y : MethodName) (bytes : ByteArray) (maxL : Nat) (rt : Option FieldType) (n : Nat) : Prop :=
  Cond.code y bytes maxL rt ∈ wsG ∧ Cond.initialized y.cls ∈ wsG ∧ (y.cls ≠ "java/lang/invoke/MethodHandle" ∧ y.cls ≠ "java/lang/invoke/VarHandle" ∧ (parseMethodDescriptor y.desc).map (fun d => d.parameters.length) = some n)
def CeV (y : MethodName) (bytes : ByteArray) (maxL : Nat) (rt : Option FieldType) (n : Nat) : Prop := CeB y bytes maxL rt n ∧ Cond.instanceMethod y ∈ wsG ∧ Cond.selects y.cls y y ∈ wsG
def CeS (y : MethodName) (bytes : ByteArray) (maxL : Nat) (rt : Option FieldType) (n : Nat) : Prop := CeB y bytes maxL rt n ∧ Cond.static y ∈ wsG
theorem w_goes (hX : Okw w X g cc nL own ret rm r σ') {H : Heap} {locs : List Loc} {Ls : Array Slot} {st0 : List Value} {rr : Option Value} {σ1 : SS} {A1 : Nat → Prop} {a : Array Value} (hA : ∀ q, A1 q → bA X q)
    (hr : va_Run X.1 X.2.1 X.2.2.1 X.2.2.2.1 (bS X) (bM X) (bAr X) X.2.2.2.2.2.2.2.1 (bMe X) (bC X) H locs 0 0 0 0 (F0 (bM X) pc Ls st0) st (xQ w g rr σ1 A1 a) A1)
    (hl : lv_has Ls nL ls) (hS : va_S (bA X) (bS X).heap H locs) (k : Vx X g.1 nL (w g σ1) (pc + 3) ls (rr.toList ++ st)) :
    W X.1 X.2.1 X.2.2.1 X.2.2.2.1 (bS X) (bM X) (bAr X) X.2.2.2.2.2.2.2.1 (bMe X) (bC X) H locs 0 0 (bQ X) (F0 (bM X) pc Ls st0) := by
  intro T hT Y
  obtain ⟨v, st₀, t, T', L, h0, Y', hL, e1, e2, ⟨hv, hP1, hz, hk⟩, go⟩ := hr T hT Y
  cases hv
  rw [h0] at hz hk
  have hS1 : va_S (bA X) (bS X).heap T'.heap (locs ++ L) := ⟨Nat.le_trans hS.1 (by rw [e1]; exact hz), fun q h1 h2 => by rw [e1, hk q (Nat.lt_of_lt_of_le h1 hS.1) (fun z => h2 (hA q z))]; exact hS.2.1 q h1 h2, fun q hq => by
      rcases List.mem_append.mp hq with h | h
      · exact hS.2.2 q h
      · exact hA _ (hL q h)⟩
  obtain ⟨t2, a1, b1⟩ := k T'.heap (locs ++ L) Ls hl (by rw [e1]; exact hP1) hS1 T' rfl Y'
  exact ⟨t2, go t2 a1, b1⟩
theorem w_in (hX : Okw w X g cc nL own ret rm r σ') {H : Heap} {locs : List Loc} (hP : va_P g.1 vwCl (w g σ) H) (hS : va_S (bA X) (bS X).heap H locs) : (∀ q, wA w g H.size q → bA X q) ∧ ∀ U : State, U.heap = H → (bS X).WarmedH U.vm → InW w g σ H.size U := by
  obtain ⟨hx, hD, hA, hE, hrt, hrm, hq⟩ := hX
  have hsub : ∀ q, wA w g H.size q → bA X q := by
    intro q h
    rw [hA]
    rcases h with h | h
    · exact Or.inl h
    · exact Or.inr (Nat.le_trans hS.1 h)
  refine ⟨hsub, fun U hU hW => ⟨by rw [hU], by rw [hU]; exact hP, va_K.moved hW.alike hx.2.2.2.2.2.1, (hD σ).weaken (fun _ _ _ _ => trivial), ?_⟩⟩
  rw [hU]
  exact ((hE.kept (fun a h1 h2 => hS.2.1 a h1 h2)).narrow hsub).warm hW
theorem w_callB (hX : Okw w X g cc nL own ret rm r σ') {y : MethodName} {bytes : ByteArray} {maxL n i : Nat} {rt : Option FieldType} {rm1 : Room} (hC : CeB y bytes maxL rt n) (hlk : Cond.methodLink own i y ∈ wsG) (h0 : rm1.cells = 0 ∧ rm1.slots = 0) (hR : rm1.frames + 1 ≤ rm.frames ∧ 8 + (maxL + 11) + rm1.locals ≤ rm.locals) :
    CallB X.2.2.2.1 (bS X) (bAr X) own i y bytes maxL rt (Cond.code y bytes maxL rt :: wsG) rm1 0 0 n := by
  obtain ⟨hx, hD, hA, hE, hrt, hrm, hq⟩ := hX
  rw [hrm]
  exact callB_of n hx.2.2.2.2.1 (goodC hC.1) rfl h0.1 h0.2 (hx.2.2.2.2.1 _ hC.2.1) (hx.2.2.2.2.1 _ hlk) hC.2.2 hR
theorem w_callV (hX : Okw w X g cc nL own ret rm r σ') {y : MethodName} {bytes : ByteArray} {maxL n i b ci q0 : Nat} {rt : Option FieldType} {rm1 : Room} {av : Gx → List Value} {rr : Gx → Option Value} {σ1 : SS} {As st0 fs : List Value} {q : vw_C} (hM : Mcw w y bytes maxL rt rm1 av σ rr σ1) (hC : CeV y bytes maxL rt n) (hlk : Cond.methodLink own i y ∈ wsG) (h0 : rm1.cells = 0 ∧ rm1.slots = 0) (hR : rm1.frames + 1 ≤ rm.frames ∧ 8 + (maxL + 11) + rm1.locals ≤ rm.locals)
    (hav : av g = .ref b :: As) (hn : As.length = n) (hcl : vwCl[ci]? = some q) (hq : q.1 = y.cls) (hb : (w g σ)[q0]? = some (b, .inr (ci, fs))) (hst : As.reverse ++ .ref b :: st = st0) (hW : (st.map fun v => v.category).sum ≤ 8) (hd : decode cc pc = .ok (.invokevirtual i, 3)) (k : Vx X g.1 nL (w g σ1) (pc + 3) ls ((rr g).toList ++ st)) : Vx X g.1 nL (w g σ) pc ls st0 := by
  intro H locs Ls h hP hS
  obtain ⟨hsub, hin⟩ := w_in hX hP hS
  subst hst
  have hx := hX.1
  refine w_goes hX hsub (va_runV (C := y.cls) (As := As) (rest := st) (b := b) (Ts := wsG) ⟨hx.1, hx.2.1, hx.2.2.1, hx.2.2.2.1, hx.2.2.2.2.1⟩ (hM X.2.1 g H.size) ⟨w_callB hX hC.1 hlk h0 hR, hx.2.2.2.2.1 _ hC.2.1, hx.2.2.2.2.1 _ hC.2.2⟩ ⟨InW.blind, ?_, fun U hU hW => ⟨by rw [hav], hin U hU hW⟩⟩ rfl hn h.1 rfl (lv_room hW) hd ⟨Nat.zero_le _, Nat.zero_le _⟩) h hS k
  rw [← hq]
  exact va_recv hx.2.2.2.2.2.1 hP hcl hb
theorem w_callS (hX : Okw w X g cc nL own ret rm r σ') {y : MethodName} {bytes : ByteArray} {maxL n i : Nat} {rt : Option FieldType} {rm1 : Room} {av : Gx → List Value} {rr : Gx → Option Value} {σ1 : SS} {As st0 : List Value} (hM : Mcw w y bytes maxL rt rm1 av σ rr σ1) (hC : CeS y bytes maxL rt n) (hlk : Cond.methodLink own i y ∈ wsG) (h0 : rm1.cells = 0 ∧ rm1.slots = 0) (hR : rm1.frames + 1 ≤ rm.frames ∧ 8 + (maxL + 11) + rm1.locals ≤ rm.locals)
    (hav : av g = As) (hn : As.length = n) (hst : As.reverse ++ st = st0) (hW : (st.map fun v => v.category).sum ≤ 8) (hd : decode cc pc = .ok (.invokestatic i, 3)) (k : Vx X g.1 nL (w g σ1) (pc + 3) ls ((rr g).toList ++ st)) : Vx X g.1 nL (w g σ) pc ls st0 := by
  intro H locs Ls h hP hS
  obtain ⟨hsub, hin⟩ := w_in hX hP hS
  subst hst
  have hx := hX.1
  exact w_goes hX hsub (va_runS (As := As) (rest := st) (Ts := wsG) ⟨hx.1, hx.2.1, hx.2.2.1, hx.2.2.2.1, hx.2.2.2.2.1⟩ (hM X.2.1 g H.size) ⟨w_callB hX hC.1 hlk h0 hR, hx.2.2.2.2.1 _ hC.2⟩ ⟨InW.blind, fun U hU hW => ⟨by rw [hav], hin U hU hW⟩⟩ rfl hn h.1 rfl (lv_room hW) hd ⟨Nat.zero_le _, Nat.zero_le _⟩) h hS k
theorem w_callSN (hX : Okw w X g cc nL own ret rm r σ') {y : MethodName} {bytes : ByteArray} {maxL n i : Nat} {host : String} {rt : Option FieldType} {rm1 : Room} {av : Gx → List Value} {rr : Gx → Option Value} {σ1 : SS} {As st0 : List Value} (hM : Mcw w y bytes maxL rt rm1 av σ rr σ1) (hC : CeS y bytes maxL rt n) (hlk : Cond.methodLinkNest own i y host ∈ nestW) (h0 : rm1.cells = 0 ∧ rm1.slots = 0) (hR : rm1.frames + 1 ≤ rm.frames ∧ 8 + (maxL + 11) + rm1.locals ≤ rm.locals)
    (hav : av g = As) (hn : As.length = n) (hst : As.reverse ++ st = st0) (hW : (st.map fun v => v.category).sum ≤ 8) (hd : decode cc pc = .ok (.invokestatic i, 3)) (k : Vx X g.1 nL (w g σ1) (pc + 3) ls ((rr g).toList ++ st)) : Vx X g.1 nL (w g σ) pc ls st0 := by
  intro H locs Ls h hP hS
  obtain ⟨hsub, hin⟩ := w_in hX hP hS
  subst hst
  have hx := hX.1
  have hcn : va_CN X.2.2.2.1 (bS X) (bAr X) own i y host bytes maxL rt (Cond.code y bytes maxL rt :: wsG) rm1 0 0 n := by
    rw [hX.2.2.2.2.2.1]
    exact va_cnB n hx.2.2.2.2.1 (goodC hC.1.1) rfl h0.1 h0.2 (hX.2.2.2.1.1 _ hlk) (hx.2.2.2.2.1 _ hC.1.2.1) hC.1.2.2 hR
  exact w_goes hX hsub (va_runSN (As := As) (rest := st) (Ts := wsG) ⟨hx.1, hx.2.1, hx.2.2.1, hx.2.2.2.1, hx.2.2.2.2.1⟩ (hM X.2.1 g H.size) ⟨hcn, hx.2.2.2.2.1 _ hC.2, trivial⟩ ⟨InW.blind, fun U hU hW => ⟨by rw [hav], hin U hU hW⟩⟩ rfl hn h.1 rfl (lv_room hW) hd ⟨Nat.zero_le _, Nat.zero_le _⟩) h hS k
end WX
/-! the walk's functions: guards, calls -/
def bd {α β : Type} (x : α) (f : α → β) : β := f x
theorem bd_h {α β : Type} {x : α} {f : α → β} {r : β} (h : bd x f = r) : f x = r := h
section WR
variable {w : Wf} {X : Bx} {g : Gx} {cc : ByteArray} {nL : Nat} {own : String} {rm : Room} {σ σ' : SS} {pc : Nat} {ls : List (Nat × Value)} {st : List Value}
theorem w_iretP {v r : Int32} (hX : Okw w X g cc nL own (some .int) rm (fun _ => some (.int r)) σ) (hf : some v = some r) (hd : decode cc pc = .ok (.ireturn, 1)) : Vx X g.1 nL (w g σ) pc ls [.int v] := by
  cases hf; exact w_iret hX rfl hd
theorem w_iretE {v r : Int32} (hX : Okw w X g cc nL own (some .int) rm (fun _ => some (.int r)) σ') (hf : some (v, σ) = some (r, σ')) (hd : decode cc pc = .ok (.ireturn, 1)) : Vx X g.1 nL (w g σ) pc ls [.int v] := by
  cases hf; exact w_iret hX rfl hd
theorem w_zretP {v r : Int32} (hX : Okw w X g cc nL own (some .boolean) rm (fun _ => some (.int r)) σ) (hf : some v = some r) (hb : isb v = true) (hd : decode cc pc = .ok (.ireturn, 1)) : Vx X g.1 nL (w g σ) pc ls [.int v] := by
  cases hf; exact w_zret hX rfl hb hd
theorem w_zretE {v r : Int32} (hX : Okw w X g cc nL own (some .boolean) rm (fun _ => some (.int r)) σ') (hf : some (v, σ) = some (r, σ')) (hb : isb v = true) (hd : decode cc pc = .ok (.ireturn, 1)) : Vx X g.1 nL (w g σ) pc ls [.int v] := by
  cases hf; exact w_zret hX rfl hb hd
theorem w_lretP {v r : Int64} (hX : Okw w X g cc nL own (some .long) rm (fun _ => some (.long r)) σ) (hf : some v = some r) (hd : decode cc pc = .ok (.lreturn, 1)) : Vx X g.1 nL (w g σ) pc ls [.long v] := by
  cases hf; exact w_lret hX rfl hd
theorem w_vretE (hX : Okw w X g cc nL own none rm (fun _ => none) σ') (hf : some σ = some σ') (hd : decode cc pc = .ok (.return_, 1)) : Vx X g.1 nL (w g σ) pc ls [] := by
  cases hf; exact w_vret hX rfl hd
theorem w_aretE {C : String} {k : Nat} (hX : Okw w X g cc nL own (some (.object C)) rm (fun g => some (.ref (g.2.1 k))) σ') (hf : some σ = some σ') (hd : decode cc pc = .ok (.areturn, 1)) : Vx X g.1 nL (w g σ) pc ls [.ref (g.2.1 k)] := by
  cases hf; exact w_aret hX rfl hd
theorem vx_tabK {D : va_G} {tys : List (ClassId × FieldType)} {ws : va_W} (hX : Okx X D cc nL own tys) {dflt lo hi : Int} {offs : Array Int} {len : Nat} {x : Int32} {off : Int} {tgt : Nat} (kv : Int32) (hk : x = kv) (hd : decode cc pc = .ok (.tableswitch dflt lo hi offs, len)) (h1 : ¬ kv.toInt < lo) (h2 : ¬ hi < kv.toInt) (ho : offs[(kv.toInt - lo).toNat]? = some off) (ht : (pc : Int) + off = (tgt : Int)) (k : Vx X D nL ws tgt ls st) : Vx X D nL ws pc ls (.int x :: st) := by
  subst hk; exact vx_tabIn hX hd h1 h2 ho ht k
end WR
def gd {α : Type} (b : Bool) (x : Option α) : Option α := match b with
  | true => x
  | false => none
theorem gd_some {α : Type} {b : Bool} {x : Option α} {r : α} (h : gd b x = some r) : b = true ∧ x = some r := by
  cases b with
  | true => exact ⟨rfl, h⟩
  | false => cases h
def ob {α β : Type} (x : Option α) (f : α → Option β) : Option β := match x with
  | some a => f a
  | none => none
theorem ob_some {α β : Type} {x : Option α} {f : α → Option β} {r : β} (h : ob x f = some r) : ∃ a, x = some a ∧ f a = some r := by
  cases x with
  | some a => exact ⟨a, rfl, h⟩
  | none => cases h
end
section
/-! printed by wip/whole/gen.py: words of the tables, the worlds, rows of fields and arrays -/
theorem q0 : Cond.selects RX7 yX7_forgetImages yX7_forgetImages ∈ wsG := inG 0 (by decide +kernel) rfl
theorem q1 : Cond.selects RX4 yX4_skipBlanks yX4_skipBlanks ∈ wsG := inG 1 (by decide +kernel) rfl
theorem q2 : Cond.selects RX4 yX4_readWord yX4_readWord ∈ wsG := inG 2 (by decide +kernel) rfl
theorem q3 : Cond.selects RX4 yX4_letterHere yX4_letterHere ∈ wsG := inG 3 (by decide +kernel) rfl
theorem q4 : Cond.selects RX4 yX4_readClauseHead yX4_readClauseHead ∈ wsG := inG 4 (by decide +kernel) rfl
theorem q5 : Cond.selects RX4 yX4_fail yX4_fail ∈ wsG := inG 5 (by decide +kernel) rfl
theorem q6 : Cond.selects RX4 yX4_isWantHere yX4_isWantHere ∈ wsG := inG 6 (by decide +kernel) rfl
theorem q7 : Cond.selects RX4 yX4_readWant yX4_readWant ∈ wsG := inG 7 (by decide +kernel) rfl
theorem q8 : Cond.selects RX4 yX4_readFigure yX4_readFigure ∈ wsG := inG 8 (by decide +kernel) rfl
theorem q9 : Cond.selects RX4 yX4_figureHere yX4_figureHere ∈ wsG := inG 9 (by decide +kernel) rfl
theorem q10 : Cond.selects RX4 yX4_readPart yX4_readPart ∈ wsG := inG 10 (by decide +kernel) rfl
theorem q11 : Cond.selects RX4 yX4_readReference yX4_readReference ∈ wsG := inG 11 (by decide +kernel) rfl
theorem q12 : Cond.selects RX4 yX4_checkReferences yX4_checkReferences ∈ wsG := inG 12 (by decide +kernel) rfl
theorem q13 : Cond.selects RX2 yX2_reckonForce yX2_reckonForce ∈ wsG := inG 13 (by decide +kernel) rfl
theorem q14 : Cond.selects RX2 yX2_forceSoFar yX2_forceSoFar ∈ wsG := inG 14 (by decide +kernel) rfl
theorem q15 : Cond.selects RX2 yX2_anyForce yX2_anyForce ∈ wsG := inG 15 (by decide +kernel) rfl
theorem q16 : Cond.selects RX2 yX2_reckonAmiss yX2_reckonAmiss ∈ wsG := inG 16 (by decide +kernel) rfl
theorem q17 : Cond.selects RX2 yX2_reckonHang yX2_reckonHang ∈ wsG := inG 17 (by decide +kernel) rfl
theorem q18 : Cond.selects RX2 yX2_hangOnAll yX2_hangOnAll ∈ wsG := inG 18 (by decide +kernel) rfl
theorem q19 : Cond.selects RX2 yX2_reckonReach yX2_reckonReach ∈ wsG := inG 19 (by decide +kernel) rfl
theorem q20 : Cond.selects RX7 yX7_isClause yX7_isClause ∈ wsG := inG 20 (by decide +kernel) rfl
theorem q21 : Cond.selects RX7 yX7_inForceNow yX7_inForceNow ∈ wsG := inG 21 (by decide +kernel) rfl
theorem q22 : Cond.selects RX7 yX7_restore yX7_restore ∈ wsG := inG 22 (by decide +kernel) rfl
theorem q23 : Cond.selects RX3 yX3_clausesOf yX3_clausesOf ∈ wsG := inG 23 (by decide +kernel) rfl
theorem q24 : Cond.selects RX3 yX3_possible yX3_possible ∈ wsG := inG 24 (by decide +kernel) rfl
theorem q25 : Cond.selects RX3 yX3_suretyAmong yX3_suretyAmong ∈ wsG := inG 25 (by decide +kernel) rfl
theorem q26 : Cond.selects RX5 yX5_writeClause yX5_writeClause ∈ wsG := inG 26 (by decide +kernel) rfl
theorem q27 : Cond.selects RX5 yX5_writeNumber yX5_writeNumber ∈ wsG := inG 27 (by decide +kernel) rfl
theorem q28 : Cond.selects RX5 yX5_put yX5_put ∈ wsG := inG 28 (by decide +kernel) rfl
theorem q29 : Cond.selects RX5 yX5_writeFigures yX5_writeFigures ∈ wsG := inG 29 (by decide +kernel) rfl
theorem q30 : Cond.selects RX5 yX5_writePart yX5_writePart ∈ wsG := inG 30 (by decide +kernel) rfl
theorem q31 : Cond.selects RX2 yX2_isInForce yX2_isInForce ∈ wsG := inG 31 (by decide +kernel) rfl
theorem q32 : Cond.selects RX3 yX3_couldSettle yX3_couldSettle ∈ wsG := inG 32 (by decide +kernel) rfl
theorem q33 : Cond.selects RX8 yX8_reads yX8_reads ∈ wsG := inG 33 (by decide +kernel) rfl
theorem q34 : Cond.selects RX8 yX8_sign yX8_sign ∈ wsG := inG 34 (by decide +kernel) rfl
theorem q35 : Cond.selects RX8 yX8_opens yX8_opens ∈ wsG := inG 35 (by decide +kernel) rfl
theorem q36 : Cond.selects RX8 yX8_fails yX8_fails ∈ wsG := inG 36 (by decide +kernel) rfl
theorem q37 : Cond.selects RX8 yX8_figure yX8_figure ∈ wsG := inG 37 (by decide +kernel) rfl
theorem q38 : Cond.selects RX8 yX8_takesPart yX8_takesPart ∈ wsG := inG 38 (by decide +kernel) rfl
theorem q39 : Cond.selects RX8 yX8_clauseNumber yX8_clauseNumber ∈ wsG := inG 39 (by decide +kernel) rfl
theorem q40 : Cond.selects RX8 yX8_notes yX8_notes ∈ wsG := inG 40 (by decide +kernel) rfl
theorem q41 : Cond.selects RX8 yX8_isClause yX8_isClause ∈ wsG := inG 41 (by decide +kernel) rfl
theorem q42 : Cond.selects RX8 yX8_now yX8_now ∈ wsG := inG 42 (by decide +kernel) rfl
theorem q43 : Cond.selects RX8 yX8_forceBy yX8_forceBy ∈ wsG := inG 43 (by decide +kernel) rfl
theorem q44 : Cond.selects RX8 yX8_holds yX8_holds ∈ wsG := inG 44 (by decide +kernel) rfl
theorem q45 : Cond.selects RX8 yX8_isCalled yX8_isCalled ∈ wsG := inG 45 (by decide +kernel) rfl
theorem q46 : Cond.selects RX8 yX8_surely yX8_surely ∈ wsG := inG 46 (by decide +kernel) rfl
theorem q47 : Cond.selects RX8 yX8_forces yX8_forces ∈ wsG := inG 47 (by decide +kernel) rfl
theorem q48 : Cond.selects RX8 yX8_canBe yX8_canBe ∈ wsG := inG 48 (by decide +kernel) rfl
theorem q49 : Cond.selects RX8 yX8_wrongBy yX8_wrongBy ∈ wsG := inG 49 (by decide +kernel) rfl
theorem q50 : Cond.selects RX8 yX8_count yX8_count ∈ wsG := inG 50 (by decide +kernel) rfl
theorem q51 : Cond.selects RX8 yX8_isWrong yX8_isWrong ∈ wsG := inG 51 (by decide +kernel) rfl
theorem q52 : Cond.selects RX8 yX8_often yX8_often ∈ wsG := inG 52 (by decide +kernel) rfl
theorem q53 : Cond.selects RX8 yX8_roundOf yX8_roundOf ∈ wsG := inG 53 (by decide +kernel) rfl
theorem q54 : Cond.selects RX8 yX8_hangsOn yX8_hangsOn ∈ wsG := inG 54 (by decide +kernel) rfl
theorem q55 : Cond.selects RX8 yX8_matters yX8_matters ∈ wsG := inG 55 (by decide +kernel) rfl
theorem q56 : Cond.selects RX8 yX8_ways yX8_ways ∈ wsG := inG 56 (by decide +kernel) rfl
theorem q57 : Cond.selects RX8 yX8_writesAll yX8_writesAll ∈ wsG := inG 57 (by decide +kernel) rfl
theorem q58 : Cond.selects RX8 yX8_writesNumber yX8_writesNumber ∈ wsG := inG 58 (by decide +kernel) rfl
theorem q59 : Cond.selects RX8 yX8_depthOf yX8_depthOf ∈ wsG := inG 59 (by decide +kernel) rfl
theorem q60 : Cond.selects RX8 yX8_writes yX8_writes ∈ wsG := inG 60 (by decide +kernel) rfl
theorem q61 : Cond.selects RX8 yX8_upTo yX8_upTo ∈ wsG := inG 61 (by decide +kernel) rfl
theorem q62 : Cond.selects RX8 yX8_placeOf yX8_placeOf ∈ wsG := inG 62 (by decide +kernel) rfl
theorem q63 : Cond.selects RX8 yX8_firstWrong yX8_firstWrong ∈ wsG := inG 63 (by decide +kernel) rfl
theorem q64 : Cond.selects RX8 yX8_idle yX8_idle ∈ wsG := inG 64 (by decide +kernel) rfl
theorem q65 : Cond.selects RX8 yX8_settles yX8_settles ∈ wsG := inG 65 (by decide +kernel) rfl
theorem q66 : Cond.selects RX8 yX8_brings yX8_brings ∈ wsG := inG 66 (by decide +kernel) rfl
theorem q68 : Cond.initialized RX7 ∈ wsG := inG 68 (by decide +kernel) rfl
theorem q69 : Cond.initialized RX4 ∈ wsG := inG 69 (by decide +kernel) rfl
theorem q70 : Cond.initialized RX0 ∈ wsG := inG 70 (by decide +kernel) rfl
theorem q71 : Cond.initialized RX6 ∈ wsG := inG 71 (by decide +kernel) rfl
theorem q72 : Cond.initialized RX1 ∈ wsG := inG 72 (by decide +kernel) rfl
theorem q73 : Cond.initialized RX2 ∈ wsG := inG 73 (by decide +kernel) rfl
theorem q74 : Cond.initialized RX3 ∈ wsG := inG 74 (by decide +kernel) rfl
theorem q75 : Cond.initialized RX5 ∈ wsG := inG 75 (by decide +kernel) rfl
theorem q76 : Cond.initialized RX8 ∈ wsG := inG 76 (by decide +kernel) rfl
theorem q77 : Cond.initialized RJ10 ∈ wsG := inG 77 (by decide +kernel) rfl
theorem q78 : Cond.initialized RJ6 ∈ wsG := inG 78 (by decide +kernel) rfl
theorem q79 : Cond.initialized RJ13 ∈ wsG := inG 79 (by decide +kernel) rfl
theorem q100 : Cond.fieldLink RX0 (39) "ContractDesk$Deed" "clauses" "I" ∈ wsG := inG 100 (by decide +kernel) rfl
theorem q101 : Cond.fieldLink RX5 (28) "ContractDesk$Deed" "clauses" "I" ∈ wsG := inG 101 (by decide +kernel) rfl
theorem q102 : Cond.fieldLink RX2 (44) "ContractDesk$Deed" "clauses" "I" ∈ wsG := inG 102 (by decide +kernel) rfl
theorem q103 : Cond.fieldLink RX7 (99) "ContractDesk$Deed" "clauses" "I" ∈ wsG := inG 103 (by decide +kernel) rfl
theorem q104 : Cond.fieldLink RX3 (40) "ContractDesk$Deed" "clauses" "I" ∈ wsG := inG 104 (by decide +kernel) rfl
theorem q105 : Cond.fieldLink RX4 (64) "ContractDesk$Deed" "clauses" "I" ∈ wsG := inG 105 (by decide +kernel) rfl
theorem q106 : Cond.fieldLink RX0 (43) "ContractDesk$Deed" "parts" "I" ∈ wsG := inG 106 (by decide +kernel) rfl
theorem q107 : Cond.fieldLink RX5 (47) "ContractDesk$Deed" "parts" "I" ∈ wsG := inG 107 (by decide +kernel) rfl
theorem q108 : Cond.fieldLink RX2 (77) "ContractDesk$Deed" "parts" "I" ∈ wsG := inG 108 (by decide +kernel) rfl
theorem q109 : Cond.fieldLink RX7 (155) "ContractDesk$Deed" "parts" "I" ∈ wsG := inG 109 (by decide +kernel) rfl
theorem q110 : Cond.fieldLink RX4 (101) "ContractDesk$Deed" "parts" "I" ∈ wsG := inG 110 (by decide +kernel) rfl
theorem q111 : Cond.fieldLink RX0 (46) "ContractDesk$Deed" "called" "I" ∈ wsG := inG 111 (by decide +kernel) rfl
theorem q112 : Cond.fieldLink RX2 (68) "ContractDesk$Deed" "called" "I" ∈ wsG := inG 112 (by decide +kernel) rfl
theorem q113 : Cond.fieldLink RX4 (85) "ContractDesk$Deed" "called" "I" ∈ wsG := inG 113 (by decide +kernel) rfl
theorem q114 : Cond.fieldLink RX7 (223) "ContractDesk$Deed" "called" "I" ∈ wsG := inG 114 (by decide +kernel) rfl
theorem q115 : Cond.fieldLink RX0 (9) "ContractDesk$Deed" "around" "[I" ∈ wsG := inG 115 (by decide +kernel) rfl
theorem q116 : Cond.fieldLink RX2 (61) "ContractDesk$Deed" "around" "[I" ∈ wsG := inG 116 (by decide +kernel) rfl
theorem q117 : Cond.fieldLink RX4 (67) "ContractDesk$Deed" "around" "[I" ∈ wsG := inG 117 (by decide +kernel) rfl
theorem q118 : Cond.fieldLink RX7 (208) "ContractDesk$Deed" "around" "[I" ∈ wsG := inG 118 (by decide +kernel) rfl
theorem q119 : Cond.fieldLink RX0 (15) "ContractDesk$Deed" "depth" "[I" ∈ wsG := inG 119 (by decide +kernel) rfl
theorem q120 : Cond.fieldLink RX5 (64) "ContractDesk$Deed" "depth" "[I" ∈ wsG := inG 120 (by decide +kernel) rfl
theorem q121 : Cond.fieldLink RX7 (211) "ContractDesk$Deed" "depth" "[I" ∈ wsG := inG 121 (by decide +kernel) rfl
theorem q122 : Cond.fieldLink RX0 (18) "ContractDesk$Deed" "wantsYes" "[I" ∈ wsG := inG 122 (by decide +kernel) rfl
theorem q123 : Cond.fieldLink RX4 (91) "ContractDesk$Deed" "wantsYes" "[I" ∈ wsG := inG 123 (by decide +kernel) rfl
theorem q124 : Cond.fieldLink RX7 (217) "ContractDesk$Deed" "wantsYes" "[I" ∈ wsG := inG 124 (by decide +kernel) rfl
theorem q125 : Cond.fieldLink RX0 (21) "ContractDesk$Deed" "wantsNo" "[I" ∈ wsG := inG 125 (by decide +kernel) rfl
theorem q126 : Cond.fieldLink RX4 (94) "ContractDesk$Deed" "wantsNo" "[I" ∈ wsG := inG 126 (by decide +kernel) rfl
theorem q127 : Cond.fieldLink RX7 (220) "ContractDesk$Deed" "wantsNo" "[I" ∈ wsG := inG 127 (by decide +kernel) rfl
theorem q128 : Cond.fieldLink RX0 (24) "ContractDesk$Deed" "referring" "[I" ∈ wsG := inG 128 (by decide +kernel) rfl
theorem q129 : Cond.fieldLink RX2 (71) "ContractDesk$Deed" "referring" "[I" ∈ wsG := inG 129 (by decide +kernel) rfl
theorem q130 : Cond.fieldLink RX7 (237) "ContractDesk$Deed" "referring" "[I" ∈ wsG := inG 130 (by decide +kernel) rfl
theorem q131 : Cond.fieldLink RX0 (27) "ContractDesk$Deed" "termsUsed" "[I" ∈ wsG := inG 131 (by decide +kernel) rfl
theorem q132 : Cond.fieldLink RX2 (91) "ContractDesk$Deed" "termsUsed" "[I" ∈ wsG := inG 132 (by decide +kernel) rfl
theorem q133 : Cond.fieldLink RX0 (30) "ContractDesk$Deed" "kind" "[I" ∈ wsG := inG 133 (by decide +kernel) rfl
theorem q134 : Cond.fieldLink RX5 (54) "ContractDesk$Deed" "kind" "[I" ∈ wsG := inG 134 (by decide +kernel) rfl
theorem q135 : Cond.fieldLink RX2 (86) "ContractDesk$Deed" "kind" "[I" ∈ wsG := inG 135 (by decide +kernel) rfl
theorem q136 : Cond.fieldLink RX7 (243) "ContractDesk$Deed" "kind" "[I" ∈ wsG := inG 136 (by decide +kernel) rfl
theorem q137 : Cond.fieldLink RX4 (114) "ContractDesk$Deed" "kind" "[I" ∈ wsG := inG 137 (by decide +kernel) rfl
theorem q138 : Cond.fieldLink RX0 (33) "ContractDesk$Deed" "value" "[I" ∈ wsG := inG 138 (by decide +kernel) rfl
theorem q139 : Cond.fieldLink RX5 (57) "ContractDesk$Deed" "value" "[I" ∈ wsG := inG 139 (by decide +kernel) rfl
theorem q140 : Cond.fieldLink RX2 (83) "ContractDesk$Deed" "value" "[I" ∈ wsG := inG 140 (by decide +kernel) rfl
theorem q141 : Cond.fieldLink RX7 (246) "ContractDesk$Deed" "value" "[I" ∈ wsG := inG 141 (by decide +kernel) rfl
theorem q142 : Cond.fieldLink RX4 (117) "ContractDesk$Deed" "value" "[I" ∈ wsG := inG 142 (by decide +kernel) rfl
theorem q143 : Cond.fieldLink RX0 (36) "ContractDesk$Deed" "owner" "[I" ∈ wsG := inG 143 (by decide +kernel) rfl
theorem q144 : Cond.fieldLink RX5 (50) "ContractDesk$Deed" "owner" "[I" ∈ wsG := inG 144 (by decide +kernel) rfl
theorem q145 : Cond.fieldLink RX2 (80) "ContractDesk$Deed" "owner" "[I" ∈ wsG := inG 145 (by decide +kernel) rfl
theorem q172 : Cond.fieldLink RX4 (29) "ContractDesk$Reader" "length" "I" ∈ wsG := inG 172 (by decide +kernel) rfl
theorem q173 : Cond.fieldLink RX7 (74) "ContractDesk$Reader" "length" "I" ∈ wsG := inG 173 (by decide +kernel) rfl
theorem q174 : Cond.fieldLink RX4 (9) "ContractDesk$Reader" "faultAt" "I" ∈ wsG := inG 174 (by decide +kernel) rfl
theorem q175 : Cond.fieldLink RX7 (102) "ContractDesk$Reader" "faultAt" "I" ∈ wsG := inG 175 (by decide +kernel) rfl
theorem q176 : Cond.fieldLink RX4 (18) "ContractDesk$Reader" "draft" "LContractDesk$Deed;" ∈ wsG := inG 176 (by decide +kernel) rfl
theorem q177 : Cond.fieldLink RX7 (83) "ContractDesk$Reader" "draft" "LContractDesk$Deed;" ∈ wsG := inG 177 (by decide +kernel) rfl
theorem q178 : Cond.fieldLink RX4 (22) "ContractDesk$Reader" "letters" "[I" ∈ wsG := inG 178 (by decide +kernel) rfl
theorem q179 : Cond.fieldLink RX4 (26) "ContractDesk$Reader" "valueAt" "[I" ∈ wsG := inG 179 (by decide +kernel) rfl
theorem q180 : Cond.fieldLink RX4 (35) "ContractDesk$Reader" "faultNumber" "I" ∈ wsG := inG 180 (by decide +kernel) rfl
theorem q181 : Cond.fieldLink RX4 (38) "ContractDesk$Reader" "at" "I" ∈ wsG := inG 181 (by decide +kernel) rfl
theorem q182 : Cond.fieldLink RX4 (41) "ContractDesk$Reader" "inside" "I" ∈ wsG := inG 182 (by decide +kernel) rfl
theorem q208 : Cond.fieldLink RX6 (9) "ContractDesk$Standing" "answered" "I" ∈ wsG := inG 208 (by decide +kernel) rfl
theorem q209 : Cond.fieldLink RX3 (23) "ContractDesk$Standing" "answered" "I" ∈ wsG := inG 209 (by decide +kernel) rfl
theorem q210 : Cond.fieldLink RX7 (158) "ContractDesk$Standing" "answered" "I" ∈ wsG := inG 210 (by decide +kernel) rfl
theorem q211 : Cond.fieldLink RX3 (29) "ContractDesk$Standing" "yes" "I" ∈ wsG := inG 211 (by decide +kernel) rfl
theorem q212 : Cond.fieldLink RX6 (19) "ContractDesk$Standing" "yes" "I" ∈ wsG := inG 212 (by decide +kernel) rfl
theorem q213 : Cond.fieldLink RX7 (170) "ContractDesk$Standing" "yes" "I" ∈ wsG := inG 213 (by decide +kernel) rfl
theorem q214 : Cond.fieldLink RX7 (89) "ContractDesk$Standing" "struck" "I" ∈ wsG := inG 214 (by decide +kernel) rfl
theorem q215 : Cond.fieldLink RX6 (22) "ContractDesk$Standing" "struck" "I" ∈ wsG := inG 215 (by decide +kernel) rfl
theorem q229 : Cond.fieldLink RX1 (15) "ContractDesk$History" "size" "I" ∈ wsG := inG 229 (by decide +kernel) rfl
theorem q230 : Cond.fieldLink RX7 (146) "ContractDesk$History" "size" "I" ∈ wsG := inG 230 (by decide +kernel) rfl
theorem q231 : Cond.fieldLink RX1 (9) "ContractDesk$History" "standings" "[I" ∈ wsG := inG 231 (by decide +kernel) rfl
theorem q237 : Cond.methodLink RX7 (41) yX7_forgetImages ∈ wsG := inG 237 (by decide +kernel) rfl
theorem q239 : Cond.instanceMethod yX7_forgetImages ∈ wsG := inG 239 (by decide +kernel) rfl
theorem q240 : Cond.code yX7_forgetImages cX7_forgetImages 2 none ∈ wsG := inG 240 (by decide +kernel) rfl
theorem q247 : Cond.fieldLink RX2 (27) "ContractDesk$Outcomes" "deed" "LContractDesk$Deed;" ∈ wsG := inG 247 (by decide +kernel) rfl
theorem q248 : Cond.fieldLink RX2 (9) "ContractDesk$Outcomes" "force" "[J" ∈ wsG := inG 248 (by decide +kernel) rfl
theorem q249 : Cond.fieldLink RX2 (15) "ContractDesk$Outcomes" "amiss" "[J" ∈ wsG := inG 249 (by decide +kernel) rfl
theorem q250 : Cond.fieldLink RX2 (18) "ContractDesk$Outcomes" "defined" "[J" ∈ wsG := inG 250 (by decide +kernel) rfl
theorem q251 : Cond.fieldLink RX2 (21) "ContractDesk$Outcomes" "hang" "[J" ∈ wsG := inG 251 (by decide +kernel) rfl
theorem q252 : Cond.fieldLink RX2 (24) "ContractDesk$Outcomes" "reach" "[J" ∈ wsG := inG 252 (by decide +kernel) rfl
theorem q273 : Cond.fieldLink RX3 (9) "ContractDesk$Outlook" "deed" "LContractDesk$Deed;" ∈ wsG := inG 273 (by decide +kernel) rfl
theorem q274 : Cond.fieldLink RX3 (15) "ContractDesk$Outlook" "outcomes" "LContractDesk$Outcomes;" ∈ wsG := inG 274 (by decide +kernel) rfl
theorem q275 : Cond.fieldLink RX3 (19) "ContractDesk$Outlook" "standing" "LContractDesk$Standing;" ∈ wsG := inG 275 (by decide +kernel) rfl
theorem q289 : Cond.fieldLink RX5 (9) "ContractDesk$Script" "deed" "LContractDesk$Deed;" ∈ wsG := inG 289 (by decide +kernel) rfl
theorem q290 : Cond.fieldLink RX5 (22) "ContractDesk$Script" "signs" "I" ∈ wsG := inG 290 (by decide +kernel) rfl
theorem q291 : Cond.fieldLink RX7 (189) "ContractDesk$Script" "signs" "I" ∈ wsG := inG 291 (by decide +kernel) rfl
theorem q292 : Cond.fieldLink RX5 (25) "ContractDesk$Script" "found" "I" ∈ wsG := inG 292 (by decide +kernel) rfl
theorem q293 : Cond.fieldLink RX7 (280) "ContractDesk$Script" "found" "I" ∈ wsG := inG 293 (by decide +kernel) rfl
theorem q294 : Cond.fieldLink RX5 (15) "ContractDesk$Script" "inForce" "I" ∈ wsG := inG 294 (by decide +kernel) rfl
theorem q295 : Cond.fieldLink RX5 (19) "ContractDesk$Script" "wanted" "I" ∈ wsG := inG 295 (by decide +kernel) rfl
theorem q307 : Cond.fieldLink RX7 (10) "ContractDesk" "reader" "LContractDesk$Reader;" ∈ wsG := inG 307 (by decide +kernel) rfl
theorem q308 : Cond.fieldLink RX7 (19) "ContractDesk" "deed" "LContractDesk$Deed;" ∈ wsG := inG 308 (by decide +kernel) rfl
theorem q309 : Cond.fieldLink RX7 (26) "ContractDesk" "standing" "LContractDesk$Standing;" ∈ wsG := inG 309 (by decide +kernel) rfl
theorem q310 : Cond.fieldLink RX7 (33) "ContractDesk" "history" "LContractDesk$History;" ∈ wsG := inG 310 (by decide +kernel) rfl
theorem q311 : Cond.fieldLink RX7 (37) "ContractDesk" "images" "[I" ∈ wsG := inG 311 (by decide +kernel) rfl
theorem q312 : Cond.fieldLink RX7 (49) "ContractDesk" "outcomes" "LContractDesk$Outcomes;" ∈ wsG := inG 312 (by decide +kernel) rfl
theorem q313 : Cond.fieldLink RX7 (58) "ContractDesk" "outlook" "LContractDesk$Outlook;" ∈ wsG := inG 313 (by decide +kernel) rfl
theorem q314 : Cond.fieldLink RX7 (65) "ContractDesk" "script" "LContractDesk$Script;" ∈ wsG := inG 314 (by decide +kernel) rfl
theorem q333 : Cond.instanceMethod yX7_feed ∈ wsG := inG 333 (by decide +kernel) rfl
theorem q334 : Cond.selects RX7 yX7_feed yX7_feed ∈ wsG := inG 334 (by decide +kernel) rfl
theorem q335 : Cond.code yX7_feed cX7_feed 2 (some .int) ∈ wsG := inG 335 (by decide +kernel) rfl
theorem q336 : Cond.constant RX7 (69) (-1000000002) ∈ wsG := inG 336 (by decide +kernel) rfl
theorem q337 : Cond.methodLink RX7 (70) yX4_takeLetter ∈ wsG := inG 337 (by decide +kernel) rfl
theorem q338 : Cond.instanceMethod yX4_takeLetter ∈ wsG := inG 338 (by decide +kernel) rfl
theorem q339 : Cond.selects RX4 yX4_takeLetter yX4_takeLetter ∈ wsG := inG 339 (by decide +kernel) rfl
theorem q340 : Cond.code yX4_takeLetter cX4_takeLetter 2 (some .boolean) ∈ wsG := inG 340 (by decide +kernel) rfl
theorem q341 : Cond.constant RX7 (78) (-1000000004) ∈ wsG := inG 341 (by decide +kernel) rfl
theorem q343 : Cond.instanceMethod yX7_contract ∈ wsG := inG 343 (by decide +kernel) rfl
theorem q344 : Cond.selects RX7 yX7_contract yX7_contract ∈ wsG := inG 344 (by decide +kernel) rfl
theorem q345 : Cond.code yX7_contract cX7_contract 2 (some .int) ∈ wsG := inG 345 (by decide +kernel) rfl
theorem q346 : Cond.methodLink RX7 (79) yX4_readText ∈ wsG := inG 346 (by decide +kernel) rfl
theorem q347 : Cond.instanceMethod yX4_readText ∈ wsG := inG 347 (by decide +kernel) rfl
theorem q348 : Cond.selects RX4 yX4_readText yX4_readText ∈ wsG := inG 348 (by decide +kernel) rfl
theorem q349 : Cond.code yX4_readText cX4_readText 2 (some .int) ∈ wsG := inG 349 (by decide +kernel) rfl
theorem q350 : Cond.methodLink RX4 (32) yX0_clear ∈ wsG := inG 350 (by decide +kernel) rfl
theorem q351 : Cond.instanceMethod yX0_clear ∈ wsG := inG 351 (by decide +kernel) rfl
theorem q352 : Cond.selects RX0 yX0_clear yX0_clear ∈ wsG := inG 352 (by decide +kernel) rfl
theorem q353 : Cond.code yX0_clear cX0_clear 2 none ∈ wsG := inG 353 (by decide +kernel) rfl
theorem q354 : Cond.methodLink RX4 (44) yX4_skipBlanks ∈ wsG := inG 354 (by decide +kernel) rfl
theorem q356 : Cond.instanceMethod yX4_skipBlanks ∈ wsG := inG 356 (by decide +kernel) rfl
theorem q357 : Cond.code yX4_skipBlanks cX4_skipBlanks 1 none ∈ wsG := inG 357 (by decide +kernel) rfl
theorem q358 : Cond.methodLink RX4 (47) yX4_readWord ∈ wsG := inG 358 (by decide +kernel) rfl
theorem q360 : Cond.instanceMethod yX4_readWord ∈ wsG := inG 360 (by decide +kernel) rfl
theorem q361 : Cond.code yX4_readWord cX4_readWord 2 none ∈ wsG := inG 361 (by decide +kernel) rfl
theorem q362 : Cond.methodLink RX4 (57) yX4_letterHere ∈ wsG := inG 362 (by decide +kernel) rfl
theorem q364 : Cond.instanceMethod yX4_letterHere ∈ wsG := inG 364 (by decide +kernel) rfl
theorem q365 : Cond.code yX4_letterHere cX4_letterHere 1 (some .int) ∈ wsG := inG 365 (by decide +kernel) rfl
theorem q366 : Cond.methodLink RX4 (61) yX4_readClauseHead ∈ wsG := inG 366 (by decide +kernel) rfl
theorem q368 : Cond.instanceMethod yX4_readClauseHead ∈ wsG := inG 368 (by decide +kernel) rfl
theorem q369 : Cond.code yX4_readClauseHead cX4_readClauseHead 3 none ∈ wsG := inG 369 (by decide +kernel) rfl
theorem q370 : Cond.methodLink RX4 (74) yX0_addClause ∈ wsG := inG 370 (by decide +kernel) rfl
theorem q371 : Cond.instanceMethod yX0_addClause ∈ wsG := inG 371 (by decide +kernel) rfl
theorem q372 : Cond.selects RX0 yX0_addClause yX0_addClause ∈ wsG := inG 372 (by decide +kernel) rfl
theorem q373 : Cond.code yX0_addClause cX0_addClause 3 (some .int) ∈ wsG := inG 373 (by decide +kernel) rfl
theorem q374 : Cond.methodLink RX4 (50) yX4_fail ∈ wsG := inG 374 (by decide +kernel) rfl
theorem q376 : Cond.instanceMethod yX4_fail ∈ wsG := inG 376 (by decide +kernel) rfl
theorem q377 : Cond.code yX4_fail cX4_fail 3 none ∈ wsG := inG 377 (by decide +kernel) rfl
theorem q378 : Cond.methodLink RX4 (78) yX4_isWantHere ∈ wsG := inG 378 (by decide +kernel) rfl
theorem q380 : Cond.instanceMethod yX4_isWantHere ∈ wsG := inG 380 (by decide +kernel) rfl
theorem q381 : Cond.code yX4_isWantHere cX4_isWantHere 2 (some .boolean) ∈ wsG := inG 381 (by decide +kernel) rfl
theorem q382 : Cond.methodLink RX4 (82) yX4_readWant ∈ wsG := inG 382 (by decide +kernel) rfl
theorem q384 : Cond.instanceMethod yX4_readWant ∈ wsG := inG 384 (by decide +kernel) rfl
theorem q385 : Cond.code yX4_readWant cX4_readWant 4 none ∈ wsG := inG 385 (by decide +kernel) rfl
theorem q386 : Cond.methodLink RX4 (88) yX4_readFigure ∈ wsG := inG 386 (by decide +kernel) rfl
theorem q388 : Cond.instanceMethod yX4_readFigure ∈ wsG := inG 388 (by decide +kernel) rfl
theorem q389 : Cond.code yX4_readFigure cX4_readFigure 3 (some .int) ∈ wsG := inG 389 (by decide +kernel) rfl
theorem q390 : Cond.methodLink RX4 (111) yX4_figureHere ∈ wsG := inG 390 (by decide +kernel) rfl
theorem q392 : Cond.instanceMethod yX4_figureHere ∈ wsG := inG 392 (by decide +kernel) rfl
theorem q393 : Cond.code yX4_figureHere cX4_figureHere 2 (some .int) ∈ wsG := inG 393 (by decide +kernel) rfl
theorem q394 : Cond.methodLinkNest RX4 (97) yX7_has "ContractDesk" ∈ nestW := nest_in 394 (by decide +kernel) rfl
theorem q395 : Cond.static yX7_has ∈ wsG := inG 395 (by decide +kernel) rfl
theorem q396 : Cond.code yX7_has cX7_has 2 (some .boolean) ∈ wsG := inG 396 (by decide +kernel) rfl
theorem q397 : Cond.methodLink RX4 (70) yX4_readPart ∈ wsG := inG 397 (by decide +kernel) rfl
theorem q399 : Cond.instanceMethod yX4_readPart ∈ wsG := inG 399 (by decide +kernel) rfl
theorem q400 : Cond.code yX4_readPart cX4_readPart 3 none ∈ wsG := inG 400 (by decide +kernel) rfl
theorem q401 : Cond.methodLink RX4 (104) yX4_readReference ∈ wsG := inG 401 (by decide +kernel) rfl
theorem q403 : Cond.instanceMethod yX4_readReference ∈ wsG := inG 403 (by decide +kernel) rfl
theorem q404 : Cond.code yX4_readReference cX4_readReference 4 none ∈ wsG := inG 404 (by decide +kernel) rfl
theorem q405 : Cond.methodLink RX4 (107) yX0_addPart ∈ wsG := inG 405 (by decide +kernel) rfl
theorem q406 : Cond.instanceMethod yX0_addPart ∈ wsG := inG 406 (by decide +kernel) rfl
theorem q407 : Cond.selects RX0 yX0_addPart yX0_addPart ∈ wsG := inG 407 (by decide +kernel) rfl
theorem q408 : Cond.code yX0_addPart cX0_addPart 4 none ∈ wsG := inG 408 (by decide +kernel) rfl
theorem q409 : Cond.methodLink RX4 (54) yX4_checkReferences ∈ wsG := inG 409 (by decide +kernel) rfl
theorem q411 : Cond.instanceMethod yX4_checkReferences ∈ wsG := inG 411 (by decide +kernel) rfl
theorem q412 : Cond.code yX4_checkReferences cX4_checkReferences 2 none ∈ wsG := inG 412 (by decide +kernel) rfl
theorem q413 : Cond.methodLink RX7 (86) yX0_takeOver ∈ wsG := inG 413 (by decide +kernel) rfl
theorem q414 : Cond.instanceMethod yX0_takeOver ∈ wsG := inG 414 (by decide +kernel) rfl
theorem q415 : Cond.selects RX0 yX0_takeOver yX0_takeOver ∈ wsG := inG 415 (by decide +kernel) rfl
theorem q416 : Cond.code yX0_takeOver cX0_takeOver 2 none ∈ wsG := inG 416 (by decide +kernel) rfl
theorem q417 : Cond.methodLink RX0 (49) arraycopyName ∈ wsG := inG 417 (by decide +kernel) rfl
theorem q418 : Cond.static arraycopyName ∈ wsG := inG 418 (by decide +kernel) rfl
theorem q419 : Cond.native arraycopyName ∈ wsG := inG 419 (by decide +kernel) rfl
theorem q420 : Cond.methodLink RX7 (92) yX1_clear ∈ wsG := inG 420 (by decide +kernel) rfl
theorem q421 : Cond.instanceMethod yX1_clear ∈ wsG := inG 421 (by decide +kernel) rfl
theorem q422 : Cond.selects RX1 yX1_clear yX1_clear ∈ wsG := inG 422 (by decide +kernel) rfl
theorem q423 : Cond.code yX1_clear cX1_clear 1 none ∈ wsG := inG 423 (by decide +kernel) rfl
theorem q424 : Cond.methodLink RX7 (95) yX2_reckon ∈ wsG := inG 424 (by decide +kernel) rfl
theorem q425 : Cond.instanceMethod yX2_reckon ∈ wsG := inG 425 (by decide +kernel) rfl
theorem q426 : Cond.selects RX2 yX2_reckon yX2_reckon ∈ wsG := inG 426 (by decide +kernel) rfl
theorem q427 : Cond.code yX2_reckon cX2_reckon 2 none ∈ wsG := inG 427 (by decide +kernel) rfl
theorem q428 : Cond.methodLink RX2 (31) yX2_reckonForce ∈ wsG := inG 428 (by decide +kernel) rfl
theorem q430 : Cond.instanceMethod yX2_reckonForce ∈ wsG := inG 430 (by decide +kernel) rfl
theorem q431 : Cond.code yX2_reckonForce cX2_reckonForce 7 none ∈ wsG := inG 431 (by decide +kernel) rfl
theorem q432 : Cond.methodLinkNest RX2 (50) yX7_has "ContractDesk" ∈ nestW := nest_in 432 (by decide +kernel) rfl
theorem q433 : Cond.methodLink RX2 (54) yX2_forceSoFar ∈ wsG := inG 433 (by decide +kernel) rfl
theorem q435 : Cond.instanceMethod yX2_forceSoFar ∈ wsG := inG 435 (by decide +kernel) rfl
theorem q436 : Cond.code yX2_forceSoFar cX2_forceSoFar 4 (some .long) ∈ wsG := inG 436 (by decide +kernel) rfl
theorem q437 : Cond.methodLink RX2 (58) yX0_holds ∈ wsG := inG 437 (by decide +kernel) rfl
theorem q438 : Cond.instanceMethod yX0_holds ∈ wsG := inG 438 (by decide +kernel) rfl
theorem q439 : Cond.selects RX0 yX0_holds yX0_holds ∈ wsG := inG 439 (by decide +kernel) rfl
theorem q440 : Cond.code yX0_holds cX0_holds 2 (some .long) ∈ wsG := inG 440 (by decide +kernel) rfl
theorem q441 : Cond.methodLinkNest RX0 (55) yX7_agreeing "ContractDesk" ∈ nestW := nest_in 441 (by decide +kernel) rfl
theorem q442 : Cond.static yX7_agreeing ∈ wsG := inG 442 (by decide +kernel) rfl
theorem q443 : Cond.code yX7_agreeing cX7_agreeing 6 (some .long) ∈ wsG := inG 443 (by decide +kernel) rfl
theorem q444 : Cond.constantLong RX7 (289) (-1) ∈ wsG := inG 444 (by decide +kernel) rfl
theorem q445 : Cond.fieldLink RX7 (291) "ContractDesk" "YES_TO" "[J" ∈ wsG := inG 445 (by decide +kernel) rfl
theorem q447 : Cond.methodLink RX2 (65) yX2_forceOf ∈ wsG := inG 447 (by decide +kernel) rfl
theorem q448 : Cond.instanceMethod yX2_forceOf ∈ wsG := inG 448 (by decide +kernel) rfl
theorem q449 : Cond.selects RX2 yX2_forceOf yX2_forceOf ∈ wsG := inG 449 (by decide +kernel) rfl
theorem q450 : Cond.code yX2_forceOf cX2_forceOf 2 (some .long) ∈ wsG := inG 450 (by decide +kernel) rfl
theorem q451 : Cond.methodLink RX2 (74) yX2_anyForce ∈ wsG := inG 451 (by decide +kernel) rfl
theorem q453 : Cond.instanceMethod yX2_anyForce ∈ wsG := inG 453 (by decide +kernel) rfl
theorem q454 : Cond.code yX2_anyForce cX2_anyForce 5 (some .long) ∈ wsG := inG 454 (by decide +kernel) rfl
theorem q455 : Cond.methodLink RX2 (35) yX2_reckonAmiss ∈ wsG := inG 455 (by decide +kernel) rfl
theorem q457 : Cond.instanceMethod yX2_reckonAmiss ∈ wsG := inG 457 (by decide +kernel) rfl
theorem q458 : Cond.code yX2_reckonAmiss cX2_reckonAmiss 6 none ∈ wsG := inG 458 (by decide +kernel) rfl
theorem q459 : Cond.constantLong RX2 (89) (-1) ∈ wsG := inG 459 (by decide +kernel) rfl
theorem q460 : Cond.methodLink RX2 (38) yX2_reckonHang ∈ wsG := inG 460 (by decide +kernel) rfl
theorem q462 : Cond.instanceMethod yX2_reckonHang ∈ wsG := inG 462 (by decide +kernel) rfl
theorem q463 : Cond.code yX2_reckonHang cX2_reckonHang 4 none ∈ wsG := inG 463 (by decide +kernel) rfl
theorem q464 : Cond.methodLink RX2 (94) yX2_hangOnAll ∈ wsG := inG 464 (by decide +kernel) rfl
theorem q466 : Cond.instanceMethod yX2_hangOnAll ∈ wsG := inG 466 (by decide +kernel) rfl
theorem q467 : Cond.code yX2_hangOnAll cX2_hangOnAll 6 none ∈ wsG := inG 467 (by decide +kernel) rfl
theorem q468 : Cond.methodLink RX2 (41) yX2_reckonReach ∈ wsG := inG 468 (by decide +kernel) rfl
theorem q470 : Cond.instanceMethod yX2_reckonReach ∈ wsG := inG 470 (by decide +kernel) rfl
theorem q471 : Cond.code yX2_reckonReach cX2_reckonReach 6 none ∈ wsG := inG 471 (by decide +kernel) rfl
theorem q472 : Cond.methodLink RX2 (98) arraycopyName ∈ wsG := inG 472 (by decide +kernel) rfl
theorem q474 : Cond.instanceMethod yX7_fault ∈ wsG := inG 474 (by decide +kernel) rfl
theorem q475 : Cond.selects RX7 yX7_fault yX7_fault ∈ wsG := inG 475 (by decide +kernel) rfl
theorem q476 : Cond.code yX7_fault cX7_fault 1 (some .int) ∈ wsG := inG 476 (by decide +kernel) rfl
theorem q478 : Cond.instanceMethod yX7_answer ∈ wsG := inG 478 (by decide +kernel) rfl
theorem q479 : Cond.selects RX7 yX7_answer yX7_answer ∈ wsG := inG 479 (by decide +kernel) rfl
theorem q480 : Cond.code yX7_answer cX7_answer 5 (some .int) ∈ wsG := inG 480 (by decide +kernel) rfl
theorem q481 : Cond.methodLink RX7 (105) yX7_isQuestion ∈ wsG := inG 481 (by decide +kernel) rfl
theorem q482 : Cond.static yX7_isQuestion ∈ wsG := inG 482 (by decide +kernel) rfl
theorem q483 : Cond.code yX7_isQuestion cX7_isQuestion 1 (some .boolean) ∈ wsG := inG 483 (by decide +kernel) rfl
theorem q484 : Cond.constant RX7 (108) (-1000000001) ∈ wsG := inG 484 (by decide +kernel) rfl
theorem q485 : Cond.methodLink RX7 (109) yX6_answerTo ∈ wsG := inG 485 (by decide +kernel) rfl
theorem q486 : Cond.instanceMethod yX6_answerTo ∈ wsG := inG 486 (by decide +kernel) rfl
theorem q487 : Cond.selects RX6 yX6_answerTo yX6_answerTo ∈ wsG := inG 487 (by decide +kernel) rfl
theorem q488 : Cond.code yX6_answerTo cX6_answerTo 2 (some .int) ∈ wsG := inG 488 (by decide +kernel) rfl
theorem q489 : Cond.methodLinkNest RX6 (15) yX7_has "ContractDesk" ∈ nestW := nest_in 489 (by decide +kernel) rfl
theorem q490 : Cond.constant RX7 (113) (-1000000003) ∈ wsG := inG 490 (by decide +kernel) rfl
theorem q491 : Cond.methodLink RX7 (114) yX6_packed ∈ wsG := inG 491 (by decide +kernel) rfl
theorem q492 : Cond.instanceMethod yX6_packed ∈ wsG := inG 492 (by decide +kernel) rfl
theorem q493 : Cond.selects RX6 yX6_packed yX6_packed ∈ wsG := inG 493 (by decide +kernel) rfl
theorem q494 : Cond.code yX6_packed cX6_packed 1 (some .int) ∈ wsG := inG 494 (by decide +kernel) rfl
theorem q495 : Cond.methodLink RX7 (117) yX1_push ∈ wsG := inG 495 (by decide +kernel) rfl
theorem q496 : Cond.instanceMethod yX1_push ∈ wsG := inG 496 (by decide +kernel) rfl
theorem q497 : Cond.selects RX1 yX1_push yX1_push ∈ wsG := inG 497 (by decide +kernel) rfl
theorem q498 : Cond.code yX1_push cX1_push 2 none ∈ wsG := inG 498 (by decide +kernel) rfl
theorem q499 : Cond.methodLink RX1 (19) arraycopyName ∈ wsG := inG 499 (by decide +kernel) rfl
theorem q500 : Cond.methodLink RX7 (120) yX6_setAnswer ∈ wsG := inG 500 (by decide +kernel) rfl
theorem q501 : Cond.instanceMethod yX6_setAnswer ∈ wsG := inG 501 (by decide +kernel) rfl
theorem q502 : Cond.selects RX6 yX6_setAnswer yX6_setAnswer ∈ wsG := inG 502 (by decide +kernel) rfl
theorem q503 : Cond.code yX6_setAnswer cX6_setAnswer 4 none ∈ wsG := inG 503 (by decide +kernel) rfl
theorem q505 : Cond.instanceMethod yX7_forget ∈ wsG := inG 505 (by decide +kernel) rfl
theorem q506 : Cond.selects RX7 yX7_forget yX7_forget ∈ wsG := inG 506 (by decide +kernel) rfl
theorem q507 : Cond.code yX7_forget cX7_forget 3 (some .int) ∈ wsG := inG 507 (by decide +kernel) rfl
theorem q509 : Cond.instanceMethod yX7_strike ∈ wsG := inG 509 (by decide +kernel) rfl
theorem q510 : Cond.selects RX7 yX7_strike yX7_strike ∈ wsG := inG 510 (by decide +kernel) rfl
theorem q511 : Cond.code yX7_strike cX7_strike 3 (some .int) ∈ wsG := inG 511 (by decide +kernel) rfl
theorem q512 : Cond.methodLink RX7 (124) yX7_isClause ∈ wsG := inG 512 (by decide +kernel) rfl
theorem q514 : Cond.instanceMethod yX7_isClause ∈ wsG := inG 514 (by decide +kernel) rfl
theorem q515 : Cond.code yX7_isClause cX7_isClause 2 (some .boolean) ∈ wsG := inG 515 (by decide +kernel) rfl
theorem q516 : Cond.methodLink RX7 (127) yX7_has ∈ wsG := inG 516 (by decide +kernel) rfl
theorem q517 : Cond.methodLink RX7 (131) yX7_inForceNow ∈ wsG := inG 517 (by decide +kernel) rfl
theorem q519 : Cond.instanceMethod yX7_inForceNow ∈ wsG := inG 519 (by decide +kernel) rfl
theorem q520 : Cond.code yX7_inForceNow cX7_inForceNow 1 (some .int) ∈ wsG := inG 520 (by decide +kernel) rfl
theorem q521 : Cond.methodLink RX7 (277) yX2_inForce ∈ wsG := inG 521 (by decide +kernel) rfl
theorem q522 : Cond.instanceMethod yX2_inForce ∈ wsG := inG 522 (by decide +kernel) rfl
theorem q523 : Cond.selects RX2 yX2_inForce yX2_inForce ∈ wsG := inG 523 (by decide +kernel) rfl
theorem q524 : Cond.code yX2_inForce cX2_inForce 4 (some .int) ∈ wsG := inG 524 (by decide +kernel) rfl
theorem q525 : Cond.methodLinkNest RX2 (104) yX7_isSo "ContractDesk" ∈ nestW := nest_in 525 (by decide +kernel) rfl
theorem q526 : Cond.static yX7_isSo ∈ wsG := inG 526 (by decide +kernel) rfl
theorem q527 : Cond.code yX7_isSo cX7_isSo 3 (some .boolean) ∈ wsG := inG 527 (by decide +kernel) rfl
theorem q528 : Cond.methodLink RX7 (134) yJ6_bitCount_0f7a4 ∈ wsG := inG 528 (by decide +kernel) rfl
theorem q529 : Cond.static yJ6_bitCount_0f7a4 ∈ wsG := inG 529 (by decide +kernel) rfl
theorem q530 : Cond.code yJ6_bitCount_0f7a4 cJ6_bitCount_0f7a4 1 (some .int) ∈ wsG := inG 530 (by decide +kernel) rfl
theorem q531 : Cond.constant RJ6 (265) (1431655765) ∈ wsG := inG 531 (by decide +kernel) rfl
theorem q532 : Cond.constant RJ6 (266) (858993459) ∈ wsG := inG 532 (by decide +kernel) rfl
theorem q533 : Cond.constant RJ6 (267) (252645135) ∈ wsG := inG 533 (by decide +kernel) rfl
theorem q535 : Cond.instanceMethod yX7_drift ∈ wsG := inG 535 (by decide +kernel) rfl
theorem q536 : Cond.selects RX7 yX7_drift yX7_drift ∈ wsG := inG 536 (by decide +kernel) rfl
theorem q537 : Cond.code yX7_drift cX7_drift 6 (some .int) ∈ wsG := inG 537 (by decide +kernel) rfl
theorem q538 : Cond.constant RX7 (139) (999999) ∈ wsG := inG 538 (by decide +kernel) rfl
theorem q539 : Cond.constantLong RX7 (140) (16807) ∈ wsG := inG 539 (by decide +kernel) rfl
theorem q540 : Cond.constantLong RX7 (142) (2147483647) ∈ wsG := inG 540 (by decide +kernel) rfl
theorem q541 : Cond.constantLong RX7 (144) (3) ∈ wsG := inG 541 (by decide +kernel) rfl
theorem q543 : Cond.instanceMethod yX7_undo ∈ wsG := inG 543 (by decide +kernel) rfl
theorem q544 : Cond.selects RX7 yX7_undo yX7_undo ∈ wsG := inG 544 (by decide +kernel) rfl
theorem q545 : Cond.code yX7_undo cX7_undo 1 (some .int) ∈ wsG := inG 545 (by decide +kernel) rfl
theorem q546 : Cond.methodLink RX7 (149) yX1_pop ∈ wsG := inG 546 (by decide +kernel) rfl
theorem q547 : Cond.instanceMethod yX1_pop ∈ wsG := inG 547 (by decide +kernel) rfl
theorem q548 : Cond.selects RX1 yX1_pop yX1_pop ∈ wsG := inG 548 (by decide +kernel) rfl
theorem q549 : Cond.code yX1_pop cX1_pop 1 (some .int) ∈ wsG := inG 549 (by decide +kernel) rfl
theorem q550 : Cond.methodLink RX7 (152) yX7_restore ∈ wsG := inG 550 (by decide +kernel) rfl
theorem q552 : Cond.instanceMethod yX7_restore ∈ wsG := inG 552 (by decide +kernel) rfl
theorem q553 : Cond.code yX7_restore cX7_restore 3 none ∈ wsG := inG 553 (by decide +kernel) rfl
theorem q554 : Cond.methodLink RX7 (286) yX6_unpack ∈ wsG := inG 554 (by decide +kernel) rfl
theorem q555 : Cond.instanceMethod yX6_unpack ∈ wsG := inG 555 (by decide +kernel) rfl
theorem q556 : Cond.selects RX6 yX6_unpack yX6_unpack ∈ wsG := inG 556 (by decide +kernel) rfl
theorem q557 : Cond.code yX6_unpack cX6_unpack 2 none ∈ wsG := inG 557 (by decide +kernel) rfl
theorem q559 : Cond.instanceMethod yX7_answerOf ∈ wsG := inG 559 (by decide +kernel) rfl
theorem q560 : Cond.selects RX7 yX7_answerOf yX7_answerOf ∈ wsG := inG 560 (by decide +kernel) rfl
theorem q561 : Cond.code yX7_answerOf cX7_answerOf 2 (some .int) ∈ wsG := inG 561 (by decide +kernel) rfl
theorem q563 : Cond.instanceMethod yX7_told ∈ wsG := inG 563 (by decide +kernel) rfl
theorem q564 : Cond.selects RX7 yX7_told yX7_told ∈ wsG := inG 564 (by decide +kernel) rfl
theorem q565 : Cond.code yX7_told cX7_told 2 (some .int) ∈ wsG := inG 565 (by decide +kernel) rfl
theorem q566 : Cond.methodLink RX7 (161) yX3_sure ∈ wsG := inG 566 (by decide +kernel) rfl
theorem q567 : Cond.instanceMethod yX3_sure ∈ wsG := inG 567 (by decide +kernel) rfl
theorem q568 : Cond.selects RX3 yX3_sure yX3_sure ∈ wsG := inG 568 (by decide +kernel) rfl
theorem q569 : Cond.code yX3_sure cX3_sure 1 (some .int) ∈ wsG := inG 569 (by decide +kernel) rfl
theorem q570 : Cond.methodLink RX3 (36) yX3_clausesOf ∈ wsG := inG 570 (by decide +kernel) rfl
theorem q572 : Cond.instanceMethod yX3_clausesOf ∈ wsG := inG 572 (by decide +kernel) rfl
theorem q573 : Cond.code yX3_clausesOf cX3_clausesOf 4 (some .int) ∈ wsG := inG 573 (by decide +kernel) rfl
theorem q574 : Cond.methodLink RX3 (45) yX3_surety ∈ wsG := inG 574 (by decide +kernel) rfl
theorem q575 : Cond.instanceMethod yX3_surety ∈ wsG := inG 575 (by decide +kernel) rfl
theorem q576 : Cond.selects RX3 yX3_surety yX3_surety ∈ wsG := inG 576 (by decide +kernel) rfl
theorem q577 : Cond.code yX3_surety cX3_surety 2 (some .int) ∈ wsG := inG 577 (by decide +kernel) rfl
theorem q578 : Cond.methodLink RX3 (48) yX3_possible ∈ wsG := inG 578 (by decide +kernel) rfl
theorem q580 : Cond.instanceMethod yX3_possible ∈ wsG := inG 580 (by decide +kernel) rfl
theorem q581 : Cond.code yX3_possible cX3_possible 1 (some .long) ∈ wsG := inG 581 (by decide +kernel) rfl
theorem q582 : Cond.methodLinkNest RX3 (32) yX7_agreeing "ContractDesk" ∈ nestW := nest_in 582 (by decide +kernel) rfl
theorem q583 : Cond.methodLink RX3 (52) yX3_suretyAmong ∈ wsG := inG 583 (by decide +kernel) rfl
theorem q585 : Cond.instanceMethod yX3_suretyAmong ∈ wsG := inG 585 (by decide +kernel) rfl
theorem q586 : Cond.code yX3_suretyAmong cX3_suretyAmong 6 (some .int) ∈ wsG := inG 586 (by decide +kernel) rfl
theorem q587 : Cond.methodLink RX3 (56) yX2_forceOf ∈ wsG := inG 587 (by decide +kernel) rfl
theorem q588 : Cond.methodLink RX7 (164) yX3_never ∈ wsG := inG 588 (by decide +kernel) rfl
theorem q589 : Cond.instanceMethod yX3_never ∈ wsG := inG 589 (by decide +kernel) rfl
theorem q590 : Cond.selects RX3 yX3_never yX3_never ∈ wsG := inG 590 (by decide +kernel) rfl
theorem q591 : Cond.code yX3_never cX3_never 1 (some .int) ∈ wsG := inG 591 (by decide +kernel) rfl
theorem q592 : Cond.methodLink RX7 (167) yX3_open ∈ wsG := inG 592 (by decide +kernel) rfl
theorem q593 : Cond.instanceMethod yX3_open ∈ wsG := inG 593 (by decide +kernel) rfl
theorem q594 : Cond.selects RX3 yX3_open yX3_open ∈ wsG := inG 594 (by decide +kernel) rfl
theorem q595 : Cond.code yX3_open cX3_open 1 (some .int) ∈ wsG := inG 595 (by decide +kernel) rfl
theorem q596 : Cond.methodLink RX7 (173) yX2_countWrong ∈ wsG := inG 596 (by decide +kernel) rfl
theorem q597 : Cond.instanceMethod yX2_countWrong ∈ wsG := inG 597 (by decide +kernel) rfl
theorem q598 : Cond.selects RX2 yX2_countWrong yX2_countWrong ∈ wsG := inG 598 (by decide +kernel) rfl
theorem q599 : Cond.code yX2_countWrong cX2_countWrong 2 (some .int) ∈ wsG := inG 599 (by decide +kernel) rfl
theorem q600 : Cond.methodLink RX2 (108) yX2_countAmiss ∈ wsG := inG 600 (by decide +kernel) rfl
theorem q601 : Cond.instanceMethod yX2_countAmiss ∈ wsG := inG 601 (by decide +kernel) rfl
theorem q602 : Cond.selects RX2 yX2_countAmiss yX2_countAmiss ∈ wsG := inG 602 (by decide +kernel) rfl
theorem q603 : Cond.code yX2_countAmiss cX2_countAmiss 5 (some .int) ∈ wsG := inG 603 (by decide +kernel) rfl
theorem q604 : Cond.methodLink RX2 (112) yX2_roundTerms ∈ wsG := inG 604 (by decide +kernel) rfl
theorem q605 : Cond.instanceMethod yX2_roundTerms ∈ wsG := inG 605 (by decide +kernel) rfl
theorem q606 : Cond.selects RX2 yX2_roundTerms yX2_roundTerms ∈ wsG := inG 606 (by decide +kernel) rfl
theorem q607 : Cond.code yX2_roundTerms cX2_roundTerms 4 (some .int) ∈ wsG := inG 607 (by decide +kernel) rfl
theorem q608 : Cond.methodLink RX2 (116) yJ6_bitCount_0f7a4 ∈ wsG := inG 608 (by decide +kernel) rfl
theorem q609 : Cond.methodLink RX7 (176) yX3_matters ∈ wsG := inG 609 (by decide +kernel) rfl
theorem q610 : Cond.instanceMethod yX3_matters ∈ wsG := inG 610 (by decide +kernel) rfl
theorem q611 : Cond.selects RX3 yX3_matters yX3_matters ∈ wsG := inG 611 (by decide +kernel) rfl
theorem q612 : Cond.code yX3_matters cX3_matters 3 (some .int) ∈ wsG := inG 612 (by decide +kernel) rfl
theorem q613 : Cond.methodLink RX3 (75) yX3_mattersFor ∈ wsG := inG 613 (by decide +kernel) rfl
theorem q614 : Cond.instanceMethod yX3_mattersFor ∈ wsG := inG 614 (by decide +kernel) rfl
theorem q615 : Cond.selects RX3 yX3_mattersFor yX3_mattersFor ∈ wsG := inG 615 (by decide +kernel) rfl
theorem q616 : Cond.code yX3_mattersFor cX3_mattersFor 10 (some .int) ∈ wsG := inG 616 (by decide +kernel) rfl
theorem q617 : Cond.fieldLinkNest RX3 (78) "ContractDesk" "YES_TO" "[J" "ContractDesk" ∈ nestW := nest_in 617 (by decide +kernel) rfl
theorem q618 : Cond.constantLong RX3 (82) (-1) ∈ wsG := inG 618 (by decide +kernel) rfl
theorem q619 : Cond.methodLinkNest RX3 (84) yX7_has "ContractDesk" ∈ nestW := nest_in 619 (by decide +kernel) rfl
theorem q620 : Cond.methodLink RX7 (179) yX3_ways ∈ wsG := inG 620 (by decide +kernel) rfl
theorem q621 : Cond.instanceMethod yX3_ways ∈ wsG := inG 621 (by decide +kernel) rfl
theorem q622 : Cond.selects RX3 yX3_ways yX3_ways ∈ wsG := inG 622 (by decide +kernel) rfl
theorem q623 : Cond.code yX3_ways cX3_ways 1 (some .int) ∈ wsG := inG 623 (by decide +kernel) rfl
theorem q624 : Cond.methodLink RX3 (68) yX2_faultless ∈ wsG := inG 624 (by decide +kernel) rfl
theorem q625 : Cond.instanceMethod yX2_faultless ∈ wsG := inG 625 (by decide +kernel) rfl
theorem q626 : Cond.selects RX2 yX2_faultless yX2_faultless ∈ wsG := inG 626 (by decide +kernel) rfl
theorem q627 : Cond.code yX2_faultless cX2_faultless 4 (some .long) ∈ wsG := inG 627 (by decide +kernel) rfl
theorem q628 : Cond.methodLink RX3 (62) yJ13_bitCount_95d88 ∈ wsG := inG 628 (by decide +kernel) rfl
theorem q629 : Cond.static yJ13_bitCount_95d88 ∈ wsG := inG 629 (by decide +kernel) rfl
theorem q630 : Cond.code yJ13_bitCount_95d88 cJ13_bitCount_95d88 2 (some .int) ∈ wsG := inG 630 (by decide +kernel) rfl
theorem q631 : Cond.constantLong RJ13 (314) (6148914691236517205) ∈ wsG := inG 631 (by decide +kernel) rfl
theorem q632 : Cond.constantLong RJ13 (316) (3689348814741910323) ∈ wsG := inG 632 (by decide +kernel) rfl
theorem q633 : Cond.constantLong RJ13 (318) (1085102592571150095) ∈ wsG := inG 633 (by decide +kernel) rfl
theorem q634 : Cond.methodLink RX7 (182) yX3_firstWay ∈ wsG := inG 634 (by decide +kernel) rfl
theorem q635 : Cond.instanceMethod yX3_firstWay ∈ wsG := inG 635 (by decide +kernel) rfl
theorem q636 : Cond.selects RX3 yX3_firstWay yX3_firstWay ∈ wsG := inG 636 (by decide +kernel) rfl
theorem q637 : Cond.code yX3_firstWay cX3_firstWay 4 (some .int) ∈ wsG := inG 637 (by decide +kernel) rfl
theorem q638 : Cond.methodLinkNest RX3 (71) yX7_isSo "ContractDesk" ∈ nestW := nest_in 638 (by decide +kernel) rfl
theorem q639 : Cond.methodLink RX7 (185) yX5_write ∈ wsG := inG 639 (by decide +kernel) rfl
theorem q640 : Cond.instanceMethod yX5_write ∈ wsG := inG 640 (by decide +kernel) rfl
theorem q641 : Cond.selects RX5 yX5_write yX5_write ∈ wsG := inG 641 (by decide +kernel) rfl
theorem q642 : Cond.code yX5_write cX5_write 4 (some (.object "ContractDesk$Script")) ∈ wsG := inG 642 (by decide +kernel) rfl
theorem q643 : Cond.methodLinkNest RX5 (33) yX7_has "ContractDesk" ∈ nestW := nest_in 643 (by decide +kernel) rfl
theorem q644 : Cond.methodLink RX5 (37) yX5_writeClause ∈ wsG := inG 644 (by decide +kernel) rfl
theorem q646 : Cond.instanceMethod yX5_writeClause ∈ wsG := inG 646 (by decide +kernel) rfl
theorem q647 : Cond.code yX5_writeClause cX5_writeClause 3 none ∈ wsG := inG 647 (by decide +kernel) rfl
theorem q648 : Cond.methodLink RX5 (41) yX5_writeNumber ∈ wsG := inG 648 (by decide +kernel) rfl
theorem q650 : Cond.instanceMethod yX5_writeNumber ∈ wsG := inG 650 (by decide +kernel) rfl
theorem q651 : Cond.code yX5_writeNumber cX5_writeNumber 3 none ∈ wsG := inG 651 (by decide +kernel) rfl
theorem q652 : Cond.methodLink RX5 (44) yX5_put ∈ wsG := inG 652 (by decide +kernel) rfl
theorem q654 : Cond.instanceMethod yX5_put ∈ wsG := inG 654 (by decide +kernel) rfl
theorem q655 : Cond.code yX5_put cX5_put 2 none ∈ wsG := inG 655 (by decide +kernel) rfl
theorem q656 : Cond.methodLink RX5 (67) yX0_aroundAt ∈ wsG := inG 656 (by decide +kernel) rfl
theorem q657 : Cond.instanceMethod yX0_aroundAt ∈ wsG := inG 657 (by decide +kernel) rfl
theorem q658 : Cond.selects RX0 yX0_aroundAt yX0_aroundAt ∈ wsG := inG 658 (by decide +kernel) rfl
theorem q659 : Cond.code yX0_aroundAt cX0_aroundAt 5 (some .int) ∈ wsG := inG 659 (by decide +kernel) rfl
theorem q660 : Cond.methodLink RX5 (71) yX0_place ∈ wsG := inG 660 (by decide +kernel) rfl
theorem q661 : Cond.instanceMethod yX0_place ∈ wsG := inG 661 (by decide +kernel) rfl
theorem q662 : Cond.selects RX0 yX0_place yX0_place ∈ wsG := inG 662 (by decide +kernel) rfl
theorem q663 : Cond.code yX0_place cX0_place 5 (some .int) ∈ wsG := inG 663 (by decide +kernel) rfl
theorem q664 : Cond.methodLinkNest RX0 (59) yX7_has "ContractDesk" ∈ nestW := nest_in 664 (by decide +kernel) rfl
theorem q665 : Cond.methodLink RX5 (74) yX5_writeFigures ∈ wsG := inG 665 (by decide +kernel) rfl
theorem q667 : Cond.instanceMethod yX5_writeFigures ∈ wsG := inG 667 (by decide +kernel) rfl
theorem q668 : Cond.code yX5_writeFigures cX5_writeFigures 2 none ∈ wsG := inG 668 (by decide +kernel) rfl
theorem q669 : Cond.methodLink RX5 (60) yX5_writePart ∈ wsG := inG 669 (by decide +kernel) rfl
theorem q671 : Cond.instanceMethod yX5_writePart ∈ wsG := inG 671 (by decide +kernel) rfl
theorem q672 : Cond.code yX5_writePart cX5_writePart 3 none ∈ wsG := inG 672 (by decide +kernel) rfl
theorem q674 : Cond.instanceMethod yX7_wrong ∈ wsG := inG 674 (by decide +kernel) rfl
theorem q675 : Cond.selects RX7 yX7_wrong yX7_wrong ∈ wsG := inG 675 (by decide +kernel) rfl
theorem q676 : Cond.code yX7_wrong cX7_wrong 3 (some .int) ∈ wsG := inG 676 (by decide +kernel) rfl
theorem q677 : Cond.methodLink RX7 (192) yX2_countAmiss ∈ wsG := inG 677 (by decide +kernel) rfl
theorem q678 : Cond.methodLink RX7 (196) yX2_countIdle ∈ wsG := inG 678 (by decide +kernel) rfl
theorem q679 : Cond.instanceMethod yX2_countIdle ∈ wsG := inG 679 (by decide +kernel) rfl
theorem q680 : Cond.selects RX2 yX2_countIdle yX2_countIdle ∈ wsG := inG 680 (by decide +kernel) rfl
theorem q681 : Cond.code yX2_countIdle cX2_countIdle 4 (some .int) ∈ wsG := inG 681 (by decide +kernel) rfl
theorem q682 : Cond.methodLink RX2 (125) yX2_countParts ∈ wsG := inG 682 (by decide +kernel) rfl
theorem q683 : Cond.instanceMethod yX2_countParts ∈ wsG := inG 683 (by decide +kernel) rfl
theorem q684 : Cond.selects RX2 yX2_countParts yX2_countParts ∈ wsG := inG 684 (by decide +kernel) rfl
theorem q685 : Cond.code yX2_countParts cX2_countParts 6 (some .int) ∈ wsG := inG 685 (by decide +kernel) rfl
theorem q686 : Cond.methodLink RX2 (121) yX2_isInForce ∈ wsG := inG 686 (by decide +kernel) rfl
theorem q688 : Cond.instanceMethod yX2_isInForce ∈ wsG := inG 688 (by decide +kernel) rfl
theorem q689 : Cond.code yX2_isInForce cX2_isInForce 5 (some .boolean) ∈ wsG := inG 689 (by decide +kernel) rfl
theorem q690 : Cond.methodLink RX7 (199) yX2_roundTerms ∈ wsG := inG 690 (by decide +kernel) rfl
theorem q691 : Cond.methodLink RX7 (202) yX2_firstAmiss ∈ wsG := inG 691 (by decide +kernel) rfl
theorem q692 : Cond.instanceMethod yX2_firstAmiss ∈ wsG := inG 692 (by decide +kernel) rfl
theorem q693 : Cond.selects RX2 yX2_firstAmiss yX2_firstAmiss ∈ wsG := inG 693 (by decide +kernel) rfl
theorem q694 : Cond.code yX2_firstAmiss cX2_firstAmiss 3 (some .int) ∈ wsG := inG 694 (by decide +kernel) rfl
theorem q695 : Cond.methodLink RX7 (205) yX0_ownerOf ∈ wsG := inG 695 (by decide +kernel) rfl
theorem q696 : Cond.instanceMethod yX0_ownerOf ∈ wsG := inG 696 (by decide +kernel) rfl
theorem q697 : Cond.selects RX0 yX0_ownerOf yX0_ownerOf ∈ wsG := inG 697 (by decide +kernel) rfl
theorem q698 : Cond.code yX0_ownerOf cX0_ownerOf 2 (some .int) ∈ wsG := inG 698 (by decide +kernel) rfl
theorem q700 : Cond.instanceMethod yX7_clause ∈ wsG := inG 700 (by decide +kernel) rfl
theorem q701 : Cond.selects RX7 yX7_clause yX7_clause ∈ wsG := inG 701 (by decide +kernel) rfl
theorem q702 : Cond.code yX7_clause cX7_clause 3 (some .int) ∈ wsG := inG 702 (by decide +kernel) rfl
theorem q703 : Cond.methodLink RX7 (214) yX0_within ∈ wsG := inG 703 (by decide +kernel) rfl
theorem q704 : Cond.instanceMethod yX0_within ∈ wsG := inG 704 (by decide +kernel) rfl
theorem q705 : Cond.selects RX0 yX0_within yX0_within ∈ wsG := inG 705 (by decide +kernel) rfl
theorem q706 : Cond.code yX0_within cX0_within 4 (some .int) ∈ wsG := inG 706 (by decide +kernel) rfl
theorem q707 : Cond.methodLink RX7 (226) yX0_countOwnParts ∈ wsG := inG 707 (by decide +kernel) rfl
theorem q708 : Cond.instanceMethod yX0_countOwnParts ∈ wsG := inG 708 (by decide +kernel) rfl
theorem q709 : Cond.selects RX0 yX0_countOwnParts yX0_countOwnParts ∈ wsG := inG 709 (by decide +kernel) rfl
theorem q710 : Cond.code yX0_countOwnParts cX0_countOwnParts 4 (some .int) ∈ wsG := inG 710 (by decide +kernel) rfl
theorem q711 : Cond.methodLink RX7 (229) yX0_holds ∈ wsG := inG 711 (by decide +kernel) rfl
theorem q712 : Cond.methodLink RX7 (233) yX7_isSo ∈ wsG := inG 712 (by decide +kernel) rfl
theorem q714 : Cond.instanceMethod yX7_part ∈ wsG := inG 714 (by decide +kernel) rfl
theorem q715 : Cond.selects RX7 yX7_part yX7_part ∈ wsG := inG 715 (by decide +kernel) rfl
theorem q716 : Cond.code yX7_part cX7_part 5 (some .int) ∈ wsG := inG 716 (by decide +kernel) rfl
theorem q717 : Cond.methodLink RX7 (240) yX0_ownPart ∈ wsG := inG 717 (by decide +kernel) rfl
theorem q718 : Cond.instanceMethod yX0_ownPart ∈ wsG := inG 718 (by decide +kernel) rfl
theorem q719 : Cond.selects RX0 yX0_ownPart yX0_ownPart ∈ wsG := inG 719 (by decide +kernel) rfl
theorem q720 : Cond.code yX0_ownPart cX0_ownPart 5 (some .int) ∈ wsG := inG 720 (by decide +kernel) rfl
theorem q722 : Cond.instanceMethod yX7_number ∈ wsG := inG 722 (by decide +kernel) rfl
theorem q723 : Cond.selects RX7 yX7_number yX7_number ∈ wsG := inG 723 (by decide +kernel) rfl
theorem q724 : Cond.code yX7_number cX7_number 4 (some .int) ∈ wsG := inG 724 (by decide +kernel) rfl
theorem q725 : Cond.methodLink RX7 (249) yX0_aroundAt ∈ wsG := inG 725 (by decide +kernel) rfl
theorem q726 : Cond.methodLink RX7 (252) yX0_place ∈ wsG := inG 726 (by decide +kernel) rfl
theorem q728 : Cond.instanceMethod yX7_hangs ∈ wsG := inG 728 (by decide +kernel) rfl
theorem q729 : Cond.selects RX7 yX7_hangs yX7_hangs ∈ wsG := inG 729 (by decide +kernel) rfl
theorem q730 : Cond.code yX7_hangs cX7_hangs 3 (some .int) ∈ wsG := inG 730 (by decide +kernel) rfl
theorem q731 : Cond.methodLink RX7 (255) yX3_mattersFor ∈ wsG := inG 731 (by decide +kernel) rfl
theorem q732 : Cond.methodLink RX7 (258) yX3_settles ∈ wsG := inG 732 (by decide +kernel) rfl
theorem q733 : Cond.instanceMethod yX3_settles ∈ wsG := inG 733 (by decide +kernel) rfl
theorem q734 : Cond.selects RX3 yX3_settles yX3_settles ∈ wsG := inG 734 (by decide +kernel) rfl
theorem q735 : Cond.code yX3_settles cX3_settles 5 (some .int) ∈ wsG := inG 735 (by decide +kernel) rfl
theorem q736 : Cond.methodLink RX3 (88) yJ6_bitCount_0f7a4 ∈ wsG := inG 736 (by decide +kernel) rfl
theorem q737 : Cond.methodLink RX3 (92) yX3_couldSettle ∈ wsG := inG 737 (by decide +kernel) rfl
theorem q739 : Cond.instanceMethod yX3_couldSettle ∈ wsG := inG 739 (by decide +kernel) rfl
theorem q740 : Cond.code yX3_couldSettle cX3_couldSettle 6 (some .boolean) ∈ wsG := inG 740 (by decide +kernel) rfl
theorem q741 : Cond.methodLink RX7 (261) yX3_brings ∈ wsG := inG 741 (by decide +kernel) rfl
theorem q742 : Cond.instanceMethod yX3_brings ∈ wsG := inG 742 (by decide +kernel) rfl
theorem q743 : Cond.selects RX3 yX3_brings yX3_brings ∈ wsG := inG 743 (by decide +kernel) rfl
theorem q744 : Cond.code yX3_brings cX3_brings 2 (some .int) ∈ wsG := inG 744 (by decide +kernel) rfl
theorem q745 : Cond.methodLink RX7 (264) yX3_surety ∈ wsG := inG 745 (by decide +kernel) rfl
theorem q747 : Cond.instanceMethod yX7_term ∈ wsG := inG 747 (by decide +kernel) rfl
theorem q748 : Cond.selects RX7 yX7_term yX7_term ∈ wsG := inG 748 (by decide +kernel) rfl
theorem q749 : Cond.code yX7_term cX7_term 4 (some .int) ∈ wsG := inG 749 (by decide +kernel) rfl
theorem q750 : Cond.methodLink RX7 (267) yX2_countParts ∈ wsG := inG 750 (by decide +kernel) rfl
theorem q751 : Cond.methodLink RX7 (271) yX2_firstDefinition ∈ wsG := inG 751 (by decide +kernel) rfl
theorem q752 : Cond.instanceMethod yX2_firstDefinition ∈ wsG := inG 752 (by decide +kernel) rfl
theorem q753 : Cond.selects RX2 yX2_firstDefinition yX2_firstDefinition ∈ wsG := inG 753 (by decide +kernel) rfl
theorem q754 : Cond.code yX2_firstDefinition cX2_firstDefinition 4 (some .int) ∈ wsG := inG 754 (by decide +kernel) rfl
theorem q755 : Cond.methodLink RX7 (274) yX2_hangsOn ∈ wsG := inG 755 (by decide +kernel) rfl
theorem q756 : Cond.instanceMethod yX2_hangsOn ∈ wsG := inG 756 (by decide +kernel) rfl
theorem q757 : Cond.selects RX2 yX2_hangsOn yX2_hangsOn ∈ wsG := inG 757 (by decide +kernel) rfl
theorem q758 : Cond.code yX2_hangsOn cX2_hangsOn 5 (some .int) ∈ wsG := inG 758 (by decide +kernel) rfl
theorem q760 : Cond.instanceMethod yX7_by ∈ wsG := inG 760 (by decide +kernel) rfl
theorem q761 : Cond.selects RX7 yX7_by yX7_by ∈ wsG := inG 761 (by decide +kernel) rfl
theorem q762 : Cond.code yX7_by cX7_by 3 (some .int) ∈ wsG := inG 762 (by decide +kernel) rfl
theorem q764 : Cond.instanceMethod yX7_sign ∈ wsG := inG 764 (by decide +kernel) rfl
theorem q765 : Cond.selects RX7 yX7_sign yX7_sign ∈ wsG := inG 765 (by decide +kernel) rfl
theorem q766 : Cond.code yX7_sign cX7_sign 2 (some .int) ∈ wsG := inG 766 (by decide +kernel) rfl
theorem q768 : Cond.instanceMethod yX7_keep ∈ wsG := inG 768 (by decide +kernel) rfl
theorem q769 : Cond.selects RX7 yX7_keep yX7_keep ∈ wsG := inG 769 (by decide +kernel) rfl
theorem q770 : Cond.code yX7_keep cX7_keep 2 (some .int) ∈ wsG := inG 770 (by decide +kernel) rfl
theorem q771 : Cond.methodLink RX7 (283) yX7_isImage ∈ wsG := inG 771 (by decide +kernel) rfl
theorem q772 : Cond.static yX7_isImage ∈ wsG := inG 772 (by decide +kernel) rfl
theorem q773 : Cond.code yX7_isImage cX7_isImage 1 (some .boolean) ∈ wsG := inG 773 (by decide +kernel) rfl
theorem q775 : Cond.instanceMethod yX7_goBack ∈ wsG := inG 775 (by decide +kernel) rfl
theorem q776 : Cond.selects RX7 yX7_goBack yX7_goBack ∈ wsG := inG 776 (by decide +kernel) rfl
theorem q777 : Cond.code yX7_goBack cX7_goBack 2 (some .int) ∈ wsG := inG 777 (by decide +kernel) rfl
theorem q784 : Cond.fieldLink RX8 (7) "ContractDeskModel" "text" "[I" ∈ wsG := inG 784 (by decide +kernel) rfl
theorem q785 : Cond.fieldLink RX8 (89) "ContractDeskModel" "fed" "I" ∈ wsG := inG 785 (by decide +kernel) rfl
theorem q786 : Cond.fieldLink RX8 (13) "ContractDeskModel" "faultPlace" "I" ∈ wsG := inG 786 (by decide +kernel) rfl
theorem q787 : Cond.fieldLink RX8 (81) "ContractDeskModel" "clauses" "I" ∈ wsG := inG 787 (by decide +kernel) rfl
theorem q788 : Cond.fieldLink RX8 (17) "ContractDeskModel" "around" "[I" ∈ wsG := inG 788 (by decide +kernel) rfl
theorem q789 : Cond.fieldLink RX8 (20) "ContractDeskModel" "yes" "[I" ∈ wsG := inG 789 (by decide +kernel) rfl
theorem q790 : Cond.fieldLink RX8 (23) "ContractDeskModel" "no" "[I" ∈ wsG := inG 790 (by decide +kernel) rfl
theorem q791 : Cond.fieldLink RX8 (26) "ContractDeskModel" "called" "[I" ∈ wsG := inG 791 (by decide +kernel) rfl
theorem q792 : Cond.fieldLink RX8 (138) "ContractDeskModel" "parts" "I" ∈ wsG := inG 792 (by decide +kernel) rfl
theorem q793 : Cond.fieldLink RX8 (29) "ContractDeskModel" "of" "[I" ∈ wsG := inG 793 (by decide +kernel) rfl
theorem q794 : Cond.fieldLink RX8 (32) "ContractDeskModel" "sort" "[I" ∈ wsG := inG 794 (by decide +kernel) rfl
theorem q795 : Cond.fieldLink RX8 (35) "ContractDeskModel" "num" "[I" ∈ wsG := inG 795 (by decide +kernel) rfl
theorem q796 : Cond.fieldLink RX8 (111) "ContractDeskModel" "newClauses" "I" ∈ wsG := inG 796 (by decide +kernel) rfl
theorem q797 : Cond.fieldLink RX8 (38) "ContractDeskModel" "newAround" "[I" ∈ wsG := inG 797 (by decide +kernel) rfl
theorem q798 : Cond.fieldLink RX8 (41) "ContractDeskModel" "newYes" "[I" ∈ wsG := inG 798 (by decide +kernel) rfl
theorem q799 : Cond.fieldLink RX8 (44) "ContractDeskModel" "newNo" "[I" ∈ wsG := inG 799 (by decide +kernel) rfl
theorem q800 : Cond.fieldLink RX8 (47) "ContractDeskModel" "newCalled" "[I" ∈ wsG := inG 800 (by decide +kernel) rfl
theorem q801 : Cond.fieldLink RX8 (122) "ContractDeskModel" "newParts" "I" ∈ wsG := inG 801 (by decide +kernel) rfl
theorem q802 : Cond.fieldLink RX8 (50) "ContractDeskModel" "newOf" "[I" ∈ wsG := inG 802 (by decide +kernel) rfl
theorem q803 : Cond.fieldLink RX8 (53) "ContractDeskModel" "newSort" "[I" ∈ wsG := inG 803 (by decide +kernel) rfl
theorem q804 : Cond.fieldLink RX8 (56) "ContractDeskModel" "newNum" "[I" ∈ wsG := inG 804 (by decide +kernel) rfl
theorem q805 : Cond.fieldLink RX8 (59) "ContractDeskModel" "newPlace" "[I" ∈ wsG := inG 805 (by decide +kernel) rfl
theorem q806 : Cond.fieldLink RX8 (93) "ContractDeskModel" "at" "I" ∈ wsG := inG 806 (by decide +kernel) rfl
theorem q807 : Cond.fieldLink RX8 (96) "ContractDeskModel" "fault" "I" ∈ wsG := inG 807 (by decide +kernel) rfl
theorem q808 : Cond.fieldLink RX8 (159) "ContractDeskModel" "known" "I" ∈ wsG := inG 808 (by decide +kernel) rfl
theorem q809 : Cond.fieldLink RX8 (153) "ContractDeskModel" "said" "I" ∈ wsG := inG 809 (by decide +kernel) rfl
theorem q810 : Cond.fieldLink RX8 (141) "ContractDeskModel" "struck" "I" ∈ wsG := inG 810 (by decide +kernel) rfl
theorem q811 : Cond.fieldLink RX8 (62) "ContractDeskModel" "past" "[I" ∈ wsG := inG 811 (by decide +kernel) rfl
theorem q812 : Cond.fieldLink RX8 (144) "ContractDeskModel" "acts" "I" ∈ wsG := inG 812 (by decide +kernel) rfl
theorem q813 : Cond.fieldLink RX8 (65) "ContractDeskModel" "images" "[I" ∈ wsG := inG 813 (by decide +kernel) rfl
theorem q814 : Cond.fieldLink RX8 (68) "ContractDeskModel" "kept" "[Z" ∈ wsG := inG 814 (by decide +kernel) rfl
theorem q815 : Cond.fieldLink RX8 (72) "ContractDeskModel" "force" "[I" ∈ wsG := inG 815 (by decide +kernel) rfl
theorem q816 : Cond.fieldLink RX8 (75) "ContractDeskModel" "hang" "[I" ∈ wsG := inG 816 (by decide +kernel) rfl
theorem q817 : Cond.fieldLink RX8 (78) "ContractDeskModel" "signs" "[I" ∈ wsG := inG 817 (by decide +kernel) rfl
theorem q818 : Cond.fieldLink RX8 (217) "ContractDeskModel" "written" "I" ∈ wsG := inG 818 (by decide +kernel) rfl
theorem q892 : Cond.instanceMethod yX8_feed ∈ wsG := inG 892 (by decide +kernel) rfl
theorem q893 : Cond.selects RX8 yX8_feed yX8_feed ∈ wsG := inG 893 (by decide +kernel) rfl
theorem q894 : Cond.code yX8_feed cX8_feed 2 (some .int) ∈ wsG := inG 894 (by decide +kernel) rfl
theorem q895 : Cond.methodLink RX8 (84) yX8_in ∈ wsG := inG 895 (by decide +kernel) rfl
theorem q896 : Cond.static yX8_in ∈ wsG := inG 896 (by decide +kernel) rfl
theorem q897 : Cond.code yX8_in cX8_in 3 (some .boolean) ∈ wsG := inG 897 (by decide +kernel) rfl
theorem q898 : Cond.constant RX8 (88) (-1000000002) ∈ wsG := inG 898 (by decide +kernel) rfl
theorem q899 : Cond.constant RX8 (92) (-1000000004) ∈ wsG := inG 899 (by decide +kernel) rfl
theorem q901 : Cond.instanceMethod yX8_contract ∈ wsG := inG 901 (by decide +kernel) rfl
theorem q902 : Cond.selects RX8 yX8_contract yX8_contract ∈ wsG := inG 902 (by decide +kernel) rfl
theorem q903 : Cond.code yX8_contract cX8_contract 2 (some .int) ∈ wsG := inG 903 (by decide +kernel) rfl
theorem q904 : Cond.methodLink RX8 (135) yX8_reads ∈ wsG := inG 904 (by decide +kernel) rfl
theorem q906 : Cond.instanceMethod yX8_reads ∈ wsG := inG 906 (by decide +kernel) rfl
theorem q907 : Cond.code yX8_reads cX8_reads 3 none ∈ wsG := inG 907 (by decide +kernel) rfl
theorem q908 : Cond.methodLink RX8 (99) yX8_sign ∈ wsG := inG 908 (by decide +kernel) rfl
theorem q910 : Cond.instanceMethod yX8_sign ∈ wsG := inG 910 (by decide +kernel) rfl
theorem q911 : Cond.code yX8_sign cX8_sign 1 (some .int) ∈ wsG := inG 911 (by decide +kernel) rfl
theorem q912 : Cond.methodLink RX8 (128) yX8_opens ∈ wsG := inG 912 (by decide +kernel) rfl
theorem q914 : Cond.instanceMethod yX8_opens ∈ wsG := inG 914 (by decide +kernel) rfl
theorem q915 : Cond.code yX8_opens cX8_opens 5 none ∈ wsG := inG 915 (by decide +kernel) rfl
theorem q916 : Cond.methodLink RX8 (107) yX8_fails ∈ wsG := inG 916 (by decide +kernel) rfl
theorem q918 : Cond.instanceMethod yX8_fails ∈ wsG := inG 918 (by decide +kernel) rfl
theorem q919 : Cond.code yX8_fails cX8_fails 2 none ∈ wsG := inG 919 (by decide +kernel) rfl
theorem q920 : Cond.methodLink RX8 (114) yX8_figure ∈ wsG := inG 920 (by decide +kernel) rfl
theorem q922 : Cond.instanceMethod yX8_figure ∈ wsG := inG 922 (by decide +kernel) rfl
theorem q923 : Cond.code yX8_figure cX8_figure 3 (some .int) ∈ wsG := inG 923 (by decide +kernel) rfl
theorem q924 : Cond.methodLink RX8 (103) yX8_isFigure ∈ wsG := inG 924 (by decide +kernel) rfl
theorem q925 : Cond.static yX8_isFigure ∈ wsG := inG 925 (by decide +kernel) rfl
theorem q926 : Cond.code yX8_isFigure cX8_isFigure 1 (some .boolean) ∈ wsG := inG 926 (by decide +kernel) rfl
theorem q927 : Cond.methodLink RX8 (118) yX8_has ∈ wsG := inG 927 (by decide +kernel) rfl
theorem q928 : Cond.static yX8_has ∈ wsG := inG 928 (by decide +kernel) rfl
theorem q929 : Cond.code yX8_has cX8_has 2 (some .boolean) ∈ wsG := inG 929 (by decide +kernel) rfl
theorem q930 : Cond.methodLink RX8 (131) yX8_takesPart ∈ wsG := inG 930 (by decide +kernel) rfl
theorem q932 : Cond.instanceMethod yX8_takesPart ∈ wsG := inG 932 (by decide +kernel) rfl
theorem q933 : Cond.code yX8_takesPart cX8_takesPart 5 none ∈ wsG := inG 933 (by decide +kernel) rfl
theorem q934 : Cond.methodLink RX8 (125) yX8_clauseNumber ∈ wsG := inG 934 (by decide +kernel) rfl
theorem q936 : Cond.instanceMethod yX8_clauseNumber ∈ wsG := inG 936 (by decide +kernel) rfl
theorem q937 : Cond.code yX8_clauseNumber cX8_clauseNumber 3 (some .int) ∈ wsG := inG 937 (by decide +kernel) rfl
theorem q939 : Cond.instanceMethod yX8_fault ∈ wsG := inG 939 (by decide +kernel) rfl
theorem q940 : Cond.selects RX8 yX8_fault yX8_fault ∈ wsG := inG 940 (by decide +kernel) rfl
theorem q941 : Cond.code yX8_fault cX8_fault 1 (some .int) ∈ wsG := inG 941 (by decide +kernel) rfl
theorem q943 : Cond.instanceMethod yX8_answerOf ∈ wsG := inG 943 (by decide +kernel) rfl
theorem q944 : Cond.selects RX8 yX8_answerOf yX8_answerOf ∈ wsG := inG 944 (by decide +kernel) rfl
theorem q945 : Cond.code yX8_answerOf cX8_answerOf 2 (some .int) ∈ wsG := inG 945 (by decide +kernel) rfl
theorem q946 : Cond.constant RX8 (182) (-1000000001) ∈ wsG := inG 946 (by decide +kernel) rfl
theorem q948 : Cond.instanceMethod yX8_answer ∈ wsG := inG 948 (by decide +kernel) rfl
theorem q949 : Cond.selects RX8 yX8_answer yX8_answer ∈ wsG := inG 949 (by decide +kernel) rfl
theorem q950 : Cond.code yX8_answer cX8_answer 4 (some .int) ∈ wsG := inG 950 (by decide +kernel) rfl
theorem q951 : Cond.methodLink RX8 (183) yX8_answerOf ∈ wsG := inG 951 (by decide +kernel) rfl
theorem q952 : Cond.constant RX8 (186) (-1000000003) ∈ wsG := inG 952 (by decide +kernel) rfl
theorem q953 : Cond.methodLink RX8 (187) yX8_notes ∈ wsG := inG 953 (by decide +kernel) rfl
theorem q955 : Cond.instanceMethod yX8_notes ∈ wsG := inG 955 (by decide +kernel) rfl
theorem q956 : Cond.code yX8_notes cX8_notes 2 none ∈ wsG := inG 956 (by decide +kernel) rfl
theorem q958 : Cond.instanceMethod yX8_forget ∈ wsG := inG 958 (by decide +kernel) rfl
theorem q959 : Cond.selects RX8 yX8_forget yX8_forget ∈ wsG := inG 959 (by decide +kernel) rfl
theorem q960 : Cond.code yX8_forget cX8_forget 3 (some .int) ∈ wsG := inG 960 (by decide +kernel) rfl
theorem q962 : Cond.instanceMethod yX8_strike ∈ wsG := inG 962 (by decide +kernel) rfl
theorem q963 : Cond.selects RX8 yX8_strike yX8_strike ∈ wsG := inG 963 (by decide +kernel) rfl
theorem q964 : Cond.code yX8_strike cX8_strike 3 (some .int) ∈ wsG := inG 964 (by decide +kernel) rfl
theorem q965 : Cond.methodLink RX8 (190) yX8_isClause ∈ wsG := inG 965 (by decide +kernel) rfl
theorem q967 : Cond.instanceMethod yX8_isClause ∈ wsG := inG 967 (by decide +kernel) rfl
theorem q968 : Cond.code yX8_isClause cX8_isClause 2 (some .boolean) ∈ wsG := inG 968 (by decide +kernel) rfl
theorem q969 : Cond.methodLink RX8 (193) yX8_now ∈ wsG := inG 969 (by decide +kernel) rfl
theorem q971 : Cond.instanceMethod yX8_now ∈ wsG := inG 971 (by decide +kernel) rfl
theorem q972 : Cond.code yX8_now cX8_now 1 (some .int) ∈ wsG := inG 972 (by decide +kernel) rfl
theorem q973 : Cond.methodLink RX8 (156) yX8_forceBy ∈ wsG := inG 973 (by decide +kernel) rfl
theorem q975 : Cond.instanceMethod yX8_forceBy ∈ wsG := inG 975 (by decide +kernel) rfl
theorem q976 : Cond.code yX8_forceBy cX8_forceBy 6 (some .int) ∈ wsG := inG 976 (by decide +kernel) rfl
theorem q977 : Cond.methodLink RX8 (147) yX8_holds ∈ wsG := inG 977 (by decide +kernel) rfl
theorem q979 : Cond.instanceMethod yX8_holds ∈ wsG := inG 979 (by decide +kernel) rfl
theorem q980 : Cond.code yX8_holds cX8_holds 3 (some .boolean) ∈ wsG := inG 980 (by decide +kernel) rfl
theorem q981 : Cond.methodLink RX8 (150) yX8_isCalled ∈ wsG := inG 981 (by decide +kernel) rfl
theorem q983 : Cond.instanceMethod yX8_isCalled ∈ wsG := inG 983 (by decide +kernel) rfl
theorem q984 : Cond.code yX8_isCalled cX8_isCalled 5 (some .boolean) ∈ wsG := inG 984 (by decide +kernel) rfl
theorem q985 : Cond.methodLink RX8 (179) yX8_ones ∈ wsG := inG 985 (by decide +kernel) rfl
theorem q986 : Cond.static yX8_ones ∈ wsG := inG 986 (by decide +kernel) rfl
theorem q987 : Cond.code yX8_ones cX8_ones 3 (some .int) ∈ wsG := inG 987 (by decide +kernel) rfl
theorem q989 : Cond.instanceMethod yX8_drift ∈ wsG := inG 989 (by decide +kernel) rfl
theorem q990 : Cond.selects RX8 yX8_drift yX8_drift ∈ wsG := inG 990 (by decide +kernel) rfl
theorem q991 : Cond.code yX8_drift cX8_drift 5 (some .int) ∈ wsG := inG 991 (by decide +kernel) rfl
theorem q992 : Cond.constant RX8 (196) (999999) ∈ wsG := inG 992 (by decide +kernel) rfl
theorem q993 : Cond.constantLong RX8 (197) (16807) ∈ wsG := inG 993 (by decide +kernel) rfl
theorem q994 : Cond.constantLong RX8 (199) (2147483647) ∈ wsG := inG 994 (by decide +kernel) rfl
theorem q995 : Cond.constantLong RX8 (201) (3) ∈ wsG := inG 995 (by decide +kernel) rfl
theorem q996 : Cond.constantLong RX8 (203) (2) ∈ wsG := inG 996 (by decide +kernel) rfl
theorem q998 : Cond.instanceMethod yX8_undo ∈ wsG := inG 998 (by decide +kernel) rfl
theorem q999 : Cond.selects RX8 yX8_undo yX8_undo ∈ wsG := inG 999 (by decide +kernel) rfl
theorem q1000 : Cond.code yX8_undo cX8_undo 1 (some .int) ∈ wsG := inG 1000 (by decide +kernel) rfl
theorem q1002 : Cond.instanceMethod yX8_told ∈ wsG := inG 1002 (by decide +kernel) rfl
theorem q1003 : Cond.selects RX8 yX8_told yX8_told ∈ wsG := inG 1003 (by decide +kernel) rfl
theorem q1004 : Cond.code yX8_told cX8_told 2 (some .int) ∈ wsG := inG 1004 (by decide +kernel) rfl
theorem q1005 : Cond.methodLink RX8 (232) yX8_surely ∈ wsG := inG 1005 (by decide +kernel) rfl
theorem q1007 : Cond.instanceMethod yX8_surely ∈ wsG := inG 1007 (by decide +kernel) rfl
theorem q1008 : Cond.code yX8_surely cX8_surely 5 (some .int) ∈ wsG := inG 1008 (by decide +kernel) rfl
theorem q1009 : Cond.methodLink RX8 (205) yX8_forces ∈ wsG := inG 1009 (by decide +kernel) rfl
theorem q1011 : Cond.instanceMethod yX8_forces ∈ wsG := inG 1011 (by decide +kernel) rfl
theorem q1012 : Cond.code yX8_forces cX8_forces 2 none ∈ wsG := inG 1012 (by decide +kernel) rfl
theorem q1013 : Cond.methodLink RX8 (208) yX8_canBe ∈ wsG := inG 1013 (by decide +kernel) rfl
theorem q1015 : Cond.instanceMethod yX8_canBe ∈ wsG := inG 1015 (by decide +kernel) rfl
theorem q1016 : Cond.code yX8_canBe cX8_canBe 2 (some .boolean) ∈ wsG := inG 1016 (by decide +kernel) rfl
theorem q1017 : Cond.methodLink RX8 (211) yX8_wrongBy ∈ wsG := inG 1017 (by decide +kernel) rfl
theorem q1019 : Cond.instanceMethod yX8_wrongBy ∈ wsG := inG 1019 (by decide +kernel) rfl
theorem q1020 : Cond.code yX8_wrongBy cX8_wrongBy 2 (some .int) ∈ wsG := inG 1020 (by decide +kernel) rfl
theorem q1021 : Cond.methodLink RX8 (173) yX8_count ∈ wsG := inG 1021 (by decide +kernel) rfl
theorem q1023 : Cond.instanceMethod yX8_count ∈ wsG := inG 1023 (by decide +kernel) rfl
theorem q1024 : Cond.code yX8_count cX8_count 5 (some .int) ∈ wsG := inG 1024 (by decide +kernel) rfl
theorem q1025 : Cond.methodLink RX8 (170) yX8_isWrong ∈ wsG := inG 1025 (by decide +kernel) rfl
theorem q1027 : Cond.instanceMethod yX8_isWrong ∈ wsG := inG 1027 (by decide +kernel) rfl
theorem q1028 : Cond.code yX8_isWrong cX8_isWrong 4 (some .boolean) ∈ wsG := inG 1028 (by decide +kernel) rfl
theorem q1029 : Cond.methodLink RX8 (162) yX8_often ∈ wsG := inG 1029 (by decide +kernel) rfl
theorem q1031 : Cond.instanceMethod yX8_often ∈ wsG := inG 1031 (by decide +kernel) rfl
theorem q1032 : Cond.code yX8_often cX8_often 7 (some .int) ∈ wsG := inG 1032 (by decide +kernel) rfl
theorem q1033 : Cond.methodLink RX8 (176) yX8_roundOf ∈ wsG := inG 1033 (by decide +kernel) rfl
theorem q1035 : Cond.instanceMethod yX8_roundOf ∈ wsG := inG 1035 (by decide +kernel) rfl
theorem q1036 : Cond.code yX8_roundOf cX8_roundOf 7 (some .int) ∈ wsG := inG 1036 (by decide +kernel) rfl
theorem q1037 : Cond.methodLink RX8 (166) yX8_hangsOn ∈ wsG := inG 1037 (by decide +kernel) rfl
theorem q1039 : Cond.instanceMethod yX8_hangsOn ∈ wsG := inG 1039 (by decide +kernel) rfl
theorem q1040 : Cond.code yX8_hangsOn cX8_hangsOn 7 (some .int) ∈ wsG := inG 1040 (by decide +kernel) rfl
theorem q1041 : Cond.methodLink RX8 (235) yX8_matters ∈ wsG := inG 1041 (by decide +kernel) rfl
theorem q1043 : Cond.instanceMethod yX8_matters ∈ wsG := inG 1043 (by decide +kernel) rfl
theorem q1044 : Cond.code yX8_matters cX8_matters 6 (some .int) ∈ wsG := inG 1044 (by decide +kernel) rfl
theorem q1045 : Cond.methodLink RX8 (238) yX8_ways ∈ wsG := inG 1045 (by decide +kernel) rfl
theorem q1047 : Cond.instanceMethod yX8_ways ∈ wsG := inG 1047 (by decide +kernel) rfl
theorem q1048 : Cond.code yX8_ways cX8_ways 4 (some .int) ∈ wsG := inG 1048 (by decide +kernel) rfl
theorem q1049 : Cond.methodLink RX8 (242) yX8_writesAll ∈ wsG := inG 1049 (by decide +kernel) rfl
theorem q1051 : Cond.instanceMethod yX8_writesAll ∈ wsG := inG 1051 (by decide +kernel) rfl
theorem q1052 : Cond.code yX8_writesAll cX8_writesAll 4 (some .int) ∈ wsG := inG 1052 (by decide +kernel) rfl
theorem q1053 : Cond.methodLink RX8 (229) yX8_writesNumber ∈ wsG := inG 1053 (by decide +kernel) rfl
theorem q1055 : Cond.instanceMethod yX8_writesNumber ∈ wsG := inG 1055 (by decide +kernel) rfl
theorem q1056 : Cond.code yX8_writesNumber cX8_writesNumber 5 none ∈ wsG := inG 1056 (by decide +kernel) rfl
theorem q1057 : Cond.methodLink RX8 (214) yX8_depthOf ∈ wsG := inG 1057 (by decide +kernel) rfl
theorem q1059 : Cond.instanceMethod yX8_depthOf ∈ wsG := inG 1059 (by decide +kernel) rfl
theorem q1060 : Cond.code yX8_depthOf cX8_depthOf 4 (some .int) ∈ wsG := inG 1060 (by decide +kernel) rfl
theorem q1061 : Cond.methodLink RX8 (220) yX8_writes ∈ wsG := inG 1061 (by decide +kernel) rfl
theorem q1063 : Cond.instanceMethod yX8_writes ∈ wsG := inG 1063 (by decide +kernel) rfl
theorem q1064 : Cond.code yX8_writes cX8_writes 2 none ∈ wsG := inG 1064 (by decide +kernel) rfl
theorem q1065 : Cond.methodLink RX8 (223) yX8_upTo ∈ wsG := inG 1065 (by decide +kernel) rfl
theorem q1067 : Cond.instanceMethod yX8_upTo ∈ wsG := inG 1067 (by decide +kernel) rfl
theorem q1068 : Cond.code yX8_upTo cX8_upTo 5 (some .int) ∈ wsG := inG 1068 (by decide +kernel) rfl
theorem q1069 : Cond.methodLink RX8 (226) yX8_placeOf ∈ wsG := inG 1069 (by decide +kernel) rfl
theorem q1071 : Cond.instanceMethod yX8_placeOf ∈ wsG := inG 1071 (by decide +kernel) rfl
theorem q1072 : Cond.code yX8_placeOf cX8_placeOf 5 (some .int) ∈ wsG := inG 1072 (by decide +kernel) rfl
theorem q1074 : Cond.instanceMethod yX8_wrong ∈ wsG := inG 1074 (by decide +kernel) rfl
theorem q1075 : Cond.selects RX8 yX8_wrong yX8_wrong ∈ wsG := inG 1075 (by decide +kernel) rfl
theorem q1076 : Cond.code yX8_wrong cX8_wrong 4 (some .int) ∈ wsG := inG 1076 (by decide +kernel) rfl
theorem q1077 : Cond.methodLink RX8 (245) yX8_firstWrong ∈ wsG := inG 1077 (by decide +kernel) rfl
theorem q1079 : Cond.instanceMethod yX8_firstWrong ∈ wsG := inG 1079 (by decide +kernel) rfl
theorem q1080 : Cond.code yX8_firstWrong cX8_firstWrong 3 (some .int) ∈ wsG := inG 1080 (by decide +kernel) rfl
theorem q1081 : Cond.methodLink RX8 (248) yX8_idle ∈ wsG := inG 1081 (by decide +kernel) rfl
theorem q1083 : Cond.instanceMethod yX8_idle ∈ wsG := inG 1083 (by decide +kernel) rfl
theorem q1084 : Cond.code yX8_idle cX8_idle 4 (some .int) ∈ wsG := inG 1084 (by decide +kernel) rfl
theorem q1086 : Cond.instanceMethod yX8_clause ∈ wsG := inG 1086 (by decide +kernel) rfl
theorem q1087 : Cond.selects RX8 yX8_clause yX8_clause ∈ wsG := inG 1087 (by decide +kernel) rfl
theorem q1088 : Cond.code yX8_clause cX8_clause 5 (some .int) ∈ wsG := inG 1088 (by decide +kernel) rfl
theorem q1090 : Cond.instanceMethod yX8_part ∈ wsG := inG 1090 (by decide +kernel) rfl
theorem q1091 : Cond.selects RX8 yX8_part yX8_part ∈ wsG := inG 1091 (by decide +kernel) rfl
theorem q1092 : Cond.code yX8_part cX8_part 6 (some .int) ∈ wsG := inG 1092 (by decide +kernel) rfl
theorem q1094 : Cond.instanceMethod yX8_number ∈ wsG := inG 1094 (by decide +kernel) rfl
theorem q1095 : Cond.selects RX8 yX8_number yX8_number ∈ wsG := inG 1095 (by decide +kernel) rfl
theorem q1096 : Cond.code yX8_number cX8_number 4 (some .int) ∈ wsG := inG 1096 (by decide +kernel) rfl
theorem q1098 : Cond.instanceMethod yX8_hangs ∈ wsG := inG 1098 (by decide +kernel) rfl
theorem q1099 : Cond.selects RX8 yX8_hangs yX8_hangs ∈ wsG := inG 1099 (by decide +kernel) rfl
theorem q1100 : Cond.code yX8_hangs cX8_hangs 3 (some .int) ∈ wsG := inG 1100 (by decide +kernel) rfl
theorem q1101 : Cond.methodLink RX8 (251) yX8_settles ∈ wsG := inG 1101 (by decide +kernel) rfl
theorem q1103 : Cond.instanceMethod yX8_settles ∈ wsG := inG 1103 (by decide +kernel) rfl
theorem q1104 : Cond.code yX8_settles cX8_settles 9 (some .int) ∈ wsG := inG 1104 (by decide +kernel) rfl
theorem q1105 : Cond.methodLink RX8 (254) yX8_brings ∈ wsG := inG 1105 (by decide +kernel) rfl
theorem q1107 : Cond.instanceMethod yX8_brings ∈ wsG := inG 1107 (by decide +kernel) rfl
theorem q1108 : Cond.code yX8_brings cX8_brings 4 (some .int) ∈ wsG := inG 1108 (by decide +kernel) rfl
theorem q1110 : Cond.instanceMethod yX8_term ∈ wsG := inG 1110 (by decide +kernel) rfl
theorem q1111 : Cond.selects RX8 yX8_term yX8_term ∈ wsG := inG 1111 (by decide +kernel) rfl
theorem q1112 : Cond.code yX8_term cX8_term 5 (some .int) ∈ wsG := inG 1112 (by decide +kernel) rfl
theorem q1114 : Cond.instanceMethod yX8_by ∈ wsG := inG 1114 (by decide +kernel) rfl
theorem q1115 : Cond.selects RX8 yX8_by yX8_by ∈ wsG := inG 1115 (by decide +kernel) rfl
theorem q1116 : Cond.code yX8_by cX8_by 4 (some .int) ∈ wsG := inG 1116 (by decide +kernel) rfl
theorem q1118 : Cond.instanceMethod yX8_sign_ ∈ wsG := inG 1118 (by decide +kernel) rfl
theorem q1119 : Cond.selects RX8 yX8_sign_ yX8_sign_ ∈ wsG := inG 1119 (by decide +kernel) rfl
theorem q1120 : Cond.code yX8_sign_ cX8_sign_ 2 (some .int) ∈ wsG := inG 1120 (by decide +kernel) rfl
theorem q1122 : Cond.instanceMethod yX8_keep ∈ wsG := inG 1122 (by decide +kernel) rfl
theorem q1123 : Cond.selects RX8 yX8_keep yX8_keep ∈ wsG := inG 1123 (by decide +kernel) rfl
theorem q1124 : Cond.code yX8_keep cX8_keep 2 (some .int) ∈ wsG := inG 1124 (by decide +kernel) rfl
theorem q1126 : Cond.instanceMethod yX8_goBack ∈ wsG := inG 1126 (by decide +kernel) rfl
theorem q1127 : Cond.selects RX8 yX8_goBack yX8_goBack ∈ wsG := inG 1127 (by decide +kernel) rfl
theorem q1128 : Cond.code yX8_goBack cX8_goBack 2 (some .int) ∈ wsG := inG 1128 (by decide +kernel) rfl
theorem ce_X0_clear : CeV yX0_clear cX0_clear 2 none 0 := ⟨⟨q353, q70, by decide, by decide, by decide⟩, q351, q352⟩
theorem ce_X0_takeOver : CeV yX0_takeOver cX0_takeOver 2 none 1 := ⟨⟨q416, q70, by decide, by decide, by decide⟩, q414, q415⟩
theorem ce_X0_addClause : CeV yX0_addClause cX0_addClause 3 (some .int) 1 := ⟨⟨q373, q70, by decide, by decide, by decide⟩, q371, q372⟩
theorem ce_X0_addPart : CeV yX0_addPart cX0_addPart 4 none 3 := ⟨⟨q408, q70, by decide, by decide, by decide⟩, q406, q407⟩
theorem ce_X0_ownerOf : CeV yX0_ownerOf cX0_ownerOf 2 (some .int) 1 := ⟨⟨q698, q70, by decide, by decide, by decide⟩, q696, q697⟩
theorem ce_X0_within : CeV yX0_within cX0_within 4 (some .int) 1 := ⟨⟨q706, q70, by decide, by decide, by decide⟩, q704, q705⟩
theorem ce_X0_countOwnParts : CeV yX0_countOwnParts cX0_countOwnParts 4 (some .int) 1 := ⟨⟨q710, q70, by decide, by decide, by decide⟩, q708, q709⟩
theorem ce_X0_ownPart : CeV yX0_ownPart cX0_ownPart 5 (some .int) 2 := ⟨⟨q720, q70, by decide, by decide, by decide⟩, q718, q719⟩
theorem ce_X7_agreeing : CeS yX7_agreeing cX7_agreeing 6 (some .long) 2 := ⟨⟨q443, q68, by decide, by decide, by decide⟩, q442⟩
theorem ce_X0_holds : CeV yX0_holds cX0_holds 2 (some .long) 1 := ⟨⟨q440, q70, by decide, by decide, by decide⟩, q438, q439⟩
theorem ce_X0_aroundAt : CeV yX0_aroundAt cX0_aroundAt 5 (some .int) 2 := ⟨⟨q659, q70, by decide, by decide, by decide⟩, q657, q658⟩
theorem ce_X7_has : CeS yX7_has cX7_has 2 (some .boolean) 2 := ⟨⟨q396, q68, by decide, by decide, by decide⟩, q395⟩
theorem ce_X0_place : CeV yX0_place cX0_place 5 (some .int) 2 := ⟨⟨q663, q70, by decide, by decide, by decide⟩, q661, q662⟩
theorem ce_X1_clear : CeV yX1_clear cX1_clear 1 none 0 := ⟨⟨q423, q72, by decide, by decide, by decide⟩, q421, q422⟩
theorem ce_X1_push : CeV yX1_push cX1_push 2 none 1 := ⟨⟨q498, q72, by decide, by decide, by decide⟩, q496, q497⟩
theorem ce_X1_pop : CeV yX1_pop cX1_pop 1 (some .int) 0 := ⟨⟨q549, q72, by decide, by decide, by decide⟩, q547, q548⟩
theorem ce_X2_forceOf : CeV yX2_forceOf cX2_forceOf 2 (some .long) 1 := ⟨⟨q450, q73, by decide, by decide, by decide⟩, q448, q449⟩
theorem ce_X2_anyForce : CeV yX2_anyForce cX2_anyForce 5 (some .long) 1 := ⟨⟨q454, q73, by decide, by decide, by decide⟩, q453, q15⟩
theorem ce_X2_forceSoFar : CeV yX2_forceSoFar cX2_forceSoFar 4 (some .long) 1 := ⟨⟨q436, q73, by decide, by decide, by decide⟩, q435, q14⟩
theorem ce_X2_reckonForce : CeV yX2_reckonForce cX2_reckonForce 7 none 1 := ⟨⟨q431, q73, by decide, by decide, by decide⟩, q430, q13⟩
theorem ce_X2_reckonAmiss : CeV yX2_reckonAmiss cX2_reckonAmiss 6 none 0 := ⟨⟨q458, q73, by decide, by decide, by decide⟩, q457, q16⟩
theorem ce_X2_hangOnAll : CeV yX2_hangOnAll cX2_hangOnAll 6 none 3 := ⟨⟨q467, q73, by decide, by decide, by decide⟩, q466, q18⟩
theorem ce_X2_reckonHang : CeV yX2_reckonHang cX2_reckonHang 4 none 0 := ⟨⟨q463, q73, by decide, by decide, by decide⟩, q462, q17⟩
theorem ce_X2_reckonReach : CeV yX2_reckonReach cX2_reckonReach 6 none 0 := ⟨⟨q471, q73, by decide, by decide, by decide⟩, q470, q19⟩
theorem ce_X2_reckon : CeV yX2_reckon cX2_reckon 2 none 1 := ⟨⟨q427, q73, by decide, by decide, by decide⟩, q425, q426⟩
theorem ce_X7_isSo : CeS yX7_isSo cX7_isSo 3 (some .boolean) 2 := ⟨⟨q527, q68, by decide, by decide, by decide⟩, q526⟩
theorem ce_X2_inForce : CeV yX2_inForce cX2_inForce 4 (some .int) 1 := ⟨⟨q524, q73, by decide, by decide, by decide⟩, q522, q523⟩
theorem ce_X2_roundTerms : CeV yX2_roundTerms cX2_roundTerms 4 (some .int) 1 := ⟨⟨q607, q73, by decide, by decide, by decide⟩, q605, q606⟩
theorem ce_X2_hangsOn : CeV yX2_hangsOn cX2_hangsOn 5 (some .int) 2 := ⟨⟨q758, q73, by decide, by decide, by decide⟩, q756, q757⟩
theorem ce_X2_countAmiss : CeV yX2_countAmiss cX2_countAmiss 5 (some .int) 2 := ⟨⟨q603, q73, by decide, by decide, by decide⟩, q601, q602⟩
theorem ce_X2_firstAmiss : CeV yX2_firstAmiss cX2_firstAmiss 3 (some .int) 1 := ⟨⟨q694, q73, by decide, by decide, by decide⟩, q692, q693⟩
theorem ce_J6_bitCount_0f7a4 : CeS yJ6_bitCount_0f7a4 cJ6_bitCount_0f7a4 1 (some .int) 1 := ⟨⟨q530, q78, by decide, by decide, by decide⟩, q529⟩
theorem ce_X2_countWrong : CeV yX2_countWrong cX2_countWrong 2 (some .int) 1 := ⟨⟨q599, q73, by decide, by decide, by decide⟩, q597, q598⟩
theorem ce_X2_faultless : CeV yX2_faultless cX2_faultless 4 (some .long) 0 := ⟨⟨q627, q73, by decide, by decide, by decide⟩, q625, q626⟩
theorem ce_X2_isInForce : CeV yX2_isInForce cX2_isInForce 5 (some .boolean) 4 := ⟨⟨q689, q73, by decide, by decide, by decide⟩, q688, q31⟩
theorem ce_X2_countParts : CeV yX2_countParts cX2_countParts 6 (some .int) 3 := ⟨⟨q685, q73, by decide, by decide, by decide⟩, q683, q684⟩
theorem ce_X2_firstDefinition : CeV yX2_firstDefinition cX2_firstDefinition 4 (some .int) 2 := ⟨⟨q754, q73, by decide, by decide, by decide⟩, q752, q753⟩
theorem ce_X2_countIdle : CeV yX2_countIdle cX2_countIdle 4 (some .int) 1 := ⟨⟨q681, q73, by decide, by decide, by decide⟩, q679, q680⟩
theorem ce_X3_possible : CeV yX3_possible cX3_possible 1 (some .long) 0 := ⟨⟨q581, q74, by decide, by decide, by decide⟩, q580, q24⟩
theorem ce_X3_suretyAmong : CeV yX3_suretyAmong cX3_suretyAmong 6 (some .int) 2 := ⟨⟨q586, q74, by decide, by decide, by decide⟩, q585, q25⟩
theorem ce_X3_surety : CeV yX3_surety cX3_surety 2 (some .int) 1 := ⟨⟨q577, q74, by decide, by decide, by decide⟩, q575, q576⟩
theorem ce_X3_clausesOf : CeV yX3_clausesOf cX3_clausesOf 4 (some .int) 1 := ⟨⟨q573, q74, by decide, by decide, by decide⟩, q572, q23⟩
theorem ce_X3_sure : CeV yX3_sure cX3_sure 1 (some .int) 0 := ⟨⟨q569, q74, by decide, by decide, by decide⟩, q567, q568⟩
theorem ce_X3_open : CeV yX3_open cX3_open 1 (some .int) 0 := ⟨⟨q595, q74, by decide, by decide, by decide⟩, q593, q594⟩
theorem ce_X3_never : CeV yX3_never cX3_never 1 (some .int) 0 := ⟨⟨q591, q74, by decide, by decide, by decide⟩, q589, q590⟩
theorem ce_J13_bitCount_95d88 : CeS yJ13_bitCount_95d88 cJ13_bitCount_95d88 2 (some .int) 1 := ⟨⟨q630, q79, by decide, by decide, by decide⟩, q629⟩
theorem ce_X3_brings : CeV yX3_brings cX3_brings 2 (some .int) 1 := ⟨⟨q744, q74, by decide, by decide, by decide⟩, q742, q743⟩
theorem ce_X3_ways : CeV yX3_ways cX3_ways 1 (some .int) 0 := ⟨⟨q623, q74, by decide, by decide, by decide⟩, q621, q622⟩
theorem ce_X3_firstWay : CeV yX3_firstWay cX3_firstWay 4 (some .int) 0 := ⟨⟨q637, q74, by decide, by decide, by decide⟩, q635, q636⟩
theorem ce_X3_mattersFor : CeV yX3_mattersFor cX3_mattersFor 10 (some .int) 1 := ⟨⟨q616, q74, by decide, by decide, by decide⟩, q614, q615⟩
theorem ce_X3_matters : CeV yX3_matters cX3_matters 3 (some .int) 0 := ⟨⟨q612, q74, by decide, by decide, by decide⟩, q610, q611⟩
theorem ce_X3_couldSettle : CeV yX3_couldSettle cX3_couldSettle 6 (some .boolean) 2 := ⟨⟨q740, q74, by decide, by decide, by decide⟩, q739, q32⟩
theorem ce_X3_settles : CeV yX3_settles cX3_settles 5 (some .int) 1 := ⟨⟨q735, q74, by decide, by decide, by decide⟩, q733, q734⟩
theorem ce_X4_takeLetter : CeV yX4_takeLetter cX4_takeLetter 2 (some .boolean) 1 := ⟨⟨q340, q69, by decide, by decide, by decide⟩, q338, q339⟩
theorem ce_X4_skipBlanks : CeV yX4_skipBlanks cX4_skipBlanks 1 none 0 := ⟨⟨q357, q69, by decide, by decide, by decide⟩, q356, q1⟩
theorem ce_X4_letterHere : CeV yX4_letterHere cX4_letterHere 1 (some .int) 0 := ⟨⟨q365, q69, by decide, by decide, by decide⟩, q364, q3⟩
theorem ce_X4_fail : CeV yX4_fail cX4_fail 3 none 2 := ⟨⟨q377, q69, by decide, by decide, by decide⟩, q376, q5⟩
theorem ce_X4_isWantHere : CeV yX4_isWantHere cX4_isWantHere 2 (some .boolean) 0 := ⟨⟨q381, q69, by decide, by decide, by decide⟩, q380, q6⟩
theorem ce_X4_figureHere : CeV yX4_figureHere cX4_figureHere 2 (some .int) 0 := ⟨⟨q393, q69, by decide, by decide, by decide⟩, q392, q9⟩
theorem ce_X4_readFigure : CeV yX4_readFigure cX4_readFigure 3 (some .int) 1 := ⟨⟨q389, q69, by decide, by decide, by decide⟩, q388, q8⟩
theorem ce_X4_readWant : CeV yX4_readWant cX4_readWant 4 none 1 := ⟨⟨q385, q69, by decide, by decide, by decide⟩, q384, q7⟩
theorem ce_X4_readClauseHead : CeV yX4_readClauseHead cX4_readClauseHead 3 none 0 := ⟨⟨q369, q69, by decide, by decide, by decide⟩, q368, q4⟩
theorem ce_X4_readReference : CeV yX4_readReference cX4_readReference 4 none 0 := ⟨⟨q404, q69, by decide, by decide, by decide⟩, q403, q11⟩
theorem ce_X4_readPart : CeV yX4_readPart cX4_readPart 3 none 1 := ⟨⟨q400, q69, by decide, by decide, by decide⟩, q399, q10⟩
theorem ce_X4_readWord : CeV yX4_readWord cX4_readWord 2 none 0 := ⟨⟨q361, q69, by decide, by decide, by decide⟩, q360, q2⟩
theorem ce_X4_checkReferences : CeV yX4_checkReferences cX4_checkReferences 2 none 0 := ⟨⟨q412, q69, by decide, by decide, by decide⟩, q411, q12⟩
theorem ce_X4_readText : CeV yX4_readText cX4_readText 2 (some .int) 0 := ⟨⟨q349, q69, by decide, by decide, by decide⟩, q347, q348⟩
theorem ce_X5_put : CeV yX5_put cX5_put 2 none 1 := ⟨⟨q655, q75, by decide, by decide, by decide⟩, q654, q28⟩
theorem ce_X5_writeFigures : CeV yX5_writeFigures cX5_writeFigures 2 none 1 := ⟨⟨q668, q75, by decide, by decide, by decide⟩, q667, q29⟩
theorem ce_X5_writeNumber : CeV yX5_writeNumber cX5_writeNumber 3 none 1 := ⟨⟨q651, q75, by decide, by decide, by decide⟩, q650, q27⟩
theorem ce_X5_writePart : CeV yX5_writePart cX5_writePart 3 none 2 := ⟨⟨q672, q75, by decide, by decide, by decide⟩, q671, q30⟩
theorem ce_X5_writeClause : CeV yX5_writeClause cX5_writeClause 3 none 1 := ⟨⟨q647, q75, by decide, by decide, by decide⟩, q646, q26⟩
theorem ce_X5_write : CeV yX5_write cX5_write 4 (some (.object "ContractDesk$Script")) 2 := ⟨⟨q642, q75, by decide, by decide, by decide⟩, q640, q641⟩
theorem ce_X6_answerTo : CeV yX6_answerTo cX6_answerTo 2 (some .int) 1 := ⟨⟨q488, q71, by decide, by decide, by decide⟩, q486, q487⟩
theorem ce_X6_setAnswer : CeV yX6_setAnswer cX6_setAnswer 4 none 2 := ⟨⟨q503, q71, by decide, by decide, by decide⟩, q501, q502⟩
theorem ce_X6_packed : CeV yX6_packed cX6_packed 1 (some .int) 0 := ⟨⟨q494, q71, by decide, by decide, by decide⟩, q492, q493⟩
theorem ce_X6_unpack : CeV yX6_unpack cX6_unpack 2 none 1 := ⟨⟨q557, q71, by decide, by decide, by decide⟩, q555, q556⟩
theorem ce_X7_feed : CeV yX7_feed cX7_feed 2 (some .int) 1 := ⟨⟨q335, q68, by decide, by decide, by decide⟩, q333, q334⟩
theorem ce_X7_forgetImages : CeV yX7_forgetImages cX7_forgetImages 2 none 0 := ⟨⟨q240, q68, by decide, by decide, by decide⟩, q239, q0⟩
theorem ce_X7_contract : CeV yX7_contract cX7_contract 2 (some .int) 0 := ⟨⟨q345, q68, by decide, by decide, by decide⟩, q343, q344⟩
theorem ce_X7_fault : CeV yX7_fault cX7_fault 1 (some .int) 0 := ⟨⟨q476, q68, by decide, by decide, by decide⟩, q474, q475⟩
theorem ce_X7_isQuestion : CeS yX7_isQuestion cX7_isQuestion 1 (some .boolean) 1 := ⟨⟨q483, q68, by decide, by decide, by decide⟩, q482⟩
theorem ce_X7_answer : CeV yX7_answer cX7_answer 5 (some .int) 2 := ⟨⟨q480, q68, by decide, by decide, by decide⟩, q478, q479⟩
theorem ce_X7_forget : CeV yX7_forget cX7_forget 3 (some .int) 1 := ⟨⟨q507, q68, by decide, by decide, by decide⟩, q505, q506⟩
theorem ce_X7_isClause : CeV yX7_isClause cX7_isClause 2 (some .boolean) 1 := ⟨⟨q515, q68, by decide, by decide, by decide⟩, q514, q20⟩
theorem ce_X7_inForceNow : CeV yX7_inForceNow cX7_inForceNow 1 (some .int) 0 := ⟨⟨q520, q68, by decide, by decide, by decide⟩, q519, q21⟩
theorem ce_X7_strike : CeV yX7_strike cX7_strike 3 (some .int) 2 := ⟨⟨q511, q68, by decide, by decide, by decide⟩, q509, q510⟩
theorem ce_X7_drift : CeV yX7_drift cX7_drift 6 (some .int) 1 := ⟨⟨q537, q68, by decide, by decide, by decide⟩, q535, q536⟩
theorem ce_X7_restore : CeV yX7_restore cX7_restore 3 none 1 := ⟨⟨q553, q68, by decide, by decide, by decide⟩, q552, q22⟩
theorem ce_X7_undo : CeV yX7_undo cX7_undo 1 (some .int) 0 := ⟨⟨q545, q68, by decide, by decide, by decide⟩, q543, q544⟩
theorem ce_X7_answerOf : CeV yX7_answerOf cX7_answerOf 2 (some .int) 1 := ⟨⟨q561, q68, by decide, by decide, by decide⟩, q559, q560⟩
theorem ce_X7_told : CeV yX7_told cX7_told 2 (some .int) 1 := ⟨⟨q565, q68, by decide, by decide, by decide⟩, q563, q564⟩
theorem ce_X7_wrong : CeV yX7_wrong cX7_wrong 3 (some .int) 1 := ⟨⟨q676, q68, by decide, by decide, by decide⟩, q674, q675⟩
theorem ce_X7_clause : CeV yX7_clause cX7_clause 3 (some .int) 2 := ⟨⟨q702, q68, by decide, by decide, by decide⟩, q700, q701⟩
theorem ce_X7_part : CeV yX7_part cX7_part 5 (some .int) 3 := ⟨⟨q716, q68, by decide, by decide, by decide⟩, q714, q715⟩
theorem ce_X7_number : CeV yX7_number cX7_number 4 (some .int) 2 := ⟨⟨q724, q68, by decide, by decide, by decide⟩, q722, q723⟩
theorem ce_X7_hangs : CeV yX7_hangs cX7_hangs 3 (some .int) 2 := ⟨⟨q730, q68, by decide, by decide, by decide⟩, q728, q729⟩
theorem ce_X7_term : CeV yX7_term cX7_term 4 (some .int) 2 := ⟨⟨q749, q68, by decide, by decide, by decide⟩, q747, q748⟩
theorem ce_X7_by : CeV yX7_by cX7_by 3 (some .int) 2 := ⟨⟨q762, q68, by decide, by decide, by decide⟩, q760, q761⟩
theorem ce_X7_sign : CeV yX7_sign cX7_sign 2 (some .int) 1 := ⟨⟨q766, q68, by decide, by decide, by decide⟩, q764, q765⟩
theorem ce_X7_isImage : CeS yX7_isImage cX7_isImage 1 (some .boolean) 1 := ⟨⟨q773, q68, by decide, by decide, by decide⟩, q772⟩
theorem ce_X7_keep : CeV yX7_keep cX7_keep 2 (some .int) 1 := ⟨⟨q770, q68, by decide, by decide, by decide⟩, q768, q769⟩
theorem ce_X7_goBack : CeV yX7_goBack cX7_goBack 2 (some .int) 1 := ⟨⟨q777, q68, by decide, by decide, by decide⟩, q775, q776⟩
theorem ce_X8_in : CeS yX8_in cX8_in 3 (some .boolean) 3 := ⟨⟨q897, q76, by decide, by decide, by decide⟩, q896⟩
theorem ce_X8_has : CeS yX8_has cX8_has 2 (some .boolean) 2 := ⟨⟨q929, q76, by decide, by decide, by decide⟩, q928⟩
theorem ce_X8_ones : CeS yX8_ones cX8_ones 3 (some .int) 1 := ⟨⟨q987, q76, by decide, by decide, by decide⟩, q986⟩
theorem ce_X8_isClause : CeV yX8_isClause cX8_isClause 2 (some .boolean) 1 := ⟨⟨q968, q76, by decide, by decide, by decide⟩, q967, q41⟩
theorem ce_X8_feed : CeV yX8_feed cX8_feed 2 (some .int) 1 := ⟨⟨q894, q76, by decide, by decide, by decide⟩, q892, q893⟩
theorem ce_X8_sign : CeV yX8_sign cX8_sign 1 (some .int) 0 := ⟨⟨q911, q76, by decide, by decide, by decide⟩, q910, q34⟩
theorem ce_X8_fails : CeV yX8_fails cX8_fails 2 none 1 := ⟨⟨q919, q76, by decide, by decide, by decide⟩, q918, q36⟩
theorem ce_X8_isFigure : CeS yX8_isFigure cX8_isFigure 1 (some .boolean) 1 := ⟨⟨q926, q76, by decide, by decide, by decide⟩, q925⟩
theorem ce_X8_figure : CeV yX8_figure cX8_figure 3 (some .int) 1 := ⟨⟨q923, q76, by decide, by decide, by decide⟩, q922, q37⟩
theorem ce_X8_clauseNumber : CeV yX8_clauseNumber cX8_clauseNumber 3 (some .int) 0 := ⟨⟨q937, q76, by decide, by decide, by decide⟩, q936, q39⟩
theorem ce_X8_opens : CeV yX8_opens cX8_opens 5 none 1 := ⟨⟨q915, q76, by decide, by decide, by decide⟩, q914, q35⟩
theorem ce_X8_takesPart : CeV yX8_takesPart cX8_takesPart 5 none 2 := ⟨⟨q933, q76, by decide, by decide, by decide⟩, q932, q38⟩
theorem ce_X8_reads : CeV yX8_reads cX8_reads 3 none 0 := ⟨⟨q907, q76, by decide, by decide, by decide⟩, q906, q33⟩
theorem ce_X8_contract : CeV yX8_contract cX8_contract 2 (some .int) 0 := ⟨⟨q903, q76, by decide, by decide, by decide⟩, q901, q902⟩
theorem ce_X8_fault : CeV yX8_fault cX8_fault 1 (some .int) 0 := ⟨⟨q941, q76, by decide, by decide, by decide⟩, q939, q940⟩
theorem ce_X8_holds : CeV yX8_holds cX8_holds 3 (some .boolean) 2 := ⟨⟨q980, q76, by decide, by decide, by decide⟩, q979, q44⟩
theorem ce_X8_isCalled : CeV yX8_isCalled cX8_isCalled 5 (some .boolean) 2 := ⟨⟨q984, q76, by decide, by decide, by decide⟩, q983, q45⟩
theorem ce_X8_forceBy : CeV yX8_forceBy cX8_forceBy 6 (some .int) 1 := ⟨⟨q976, q76, by decide, by decide, by decide⟩, q975, q43⟩
theorem ce_X8_now : CeV yX8_now cX8_now 1 (some .int) 0 := ⟨⟨q972, q76, by decide, by decide, by decide⟩, q971, q42⟩
theorem ce_X8_forces : CeV yX8_forces cX8_forces 2 none 0 := ⟨⟨q1012, q76, by decide, by decide, by decide⟩, q1011, q47⟩
theorem ce_X8_canBe : CeV yX8_canBe cX8_canBe 2 (some .boolean) 1 := ⟨⟨q1016, q76, by decide, by decide, by decide⟩, q1015, q48⟩
theorem ce_X8_often : CeV yX8_often cX8_often 7 (some .int) 4 := ⟨⟨q1032, q76, by decide, by decide, by decide⟩, q1031, q52⟩
theorem ce_X8_isWrong : CeV yX8_isWrong cX8_isWrong 4 (some .boolean) 3 := ⟨⟨q1028, q76, by decide, by decide, by decide⟩, q1027, q51⟩
theorem ce_X8_hangsOn : CeV yX8_hangsOn cX8_hangsOn 7 (some .int) 2 := ⟨⟨q1040, q76, by decide, by decide, by decide⟩, q1039, q54⟩
theorem ce_X8_roundOf : CeV yX8_roundOf cX8_roundOf 7 (some .int) 1 := ⟨⟨q1036, q76, by decide, by decide, by decide⟩, q1035, q53⟩
theorem ce_X8_count : CeV yX8_count cX8_count 5 (some .int) 2 := ⟨⟨q1024, q76, by decide, by decide, by decide⟩, q1023, q50⟩
theorem ce_X8_wrongBy : CeV yX8_wrongBy cX8_wrongBy 2 (some .int) 1 := ⟨⟨q1020, q76, by decide, by decide, by decide⟩, q1019, q49⟩
theorem ce_X8_notes : CeV yX8_notes cX8_notes 2 none 0 := ⟨⟨q956, q76, by decide, by decide, by decide⟩, q955, q40⟩
theorem ce_X8_answerOf : CeV yX8_answerOf cX8_answerOf 2 (some .int) 1 := ⟨⟨q945, q76, by decide, by decide, by decide⟩, q943, q944⟩
theorem ce_X8_answer : CeV yX8_answer cX8_answer 4 (some .int) 2 := ⟨⟨q950, q76, by decide, by decide, by decide⟩, q948, q949⟩
theorem ce_X8_forget : CeV yX8_forget cX8_forget 3 (some .int) 1 := ⟨⟨q960, q76, by decide, by decide, by decide⟩, q958, q959⟩
theorem ce_X8_strike : CeV yX8_strike cX8_strike 3 (some .int) 2 := ⟨⟨q964, q76, by decide, by decide, by decide⟩, q962, q963⟩
theorem ce_X8_drift : CeV yX8_drift cX8_drift 5 (some .int) 1 := ⟨⟨q991, q76, by decide, by decide, by decide⟩, q989, q990⟩
theorem ce_X8_undo : CeV yX8_undo cX8_undo 1 (some .int) 0 := ⟨⟨q1000, q76, by decide, by decide, by decide⟩, q998, q999⟩
theorem ce_X8_surely : CeV yX8_surely cX8_surely 5 (some .int) 1 := ⟨⟨q1008, q76, by decide, by decide, by decide⟩, q1007, q46⟩
theorem ce_X8_matters : CeV yX8_matters cX8_matters 6 (some .int) 1 := ⟨⟨q1044, q76, by decide, by decide, by decide⟩, q1043, q55⟩
theorem ce_X8_ways : CeV yX8_ways cX8_ways 4 (some .int) 1 := ⟨⟨q1048, q76, by decide, by decide, by decide⟩, q1047, q56⟩
theorem ce_X8_brings : CeV yX8_brings cX8_brings 4 (some .int) 1 := ⟨⟨q1108, q76, by decide, by decide, by decide⟩, q1107, q66⟩
theorem ce_X8_settles : CeV yX8_settles cX8_settles 9 (some .int) 1 := ⟨⟨q1104, q76, by decide, by decide, by decide⟩, q1103, q65⟩
theorem ce_X8_depthOf : CeV yX8_depthOf cX8_depthOf 4 (some .int) 1 := ⟨⟨q1060, q76, by decide, by decide, by decide⟩, q1059, q59⟩
theorem ce_X8_placeOf : CeV yX8_placeOf cX8_placeOf 5 (some .int) 2 := ⟨⟨q1072, q76, by decide, by decide, by decide⟩, q1071, q62⟩
theorem ce_X8_upTo : CeV yX8_upTo cX8_upTo 5 (some .int) 2 := ⟨⟨q1068, q76, by decide, by decide, by decide⟩, q1067, q61⟩
theorem ce_X8_writes : CeV yX8_writes cX8_writes 2 none 1 := ⟨⟨q1064, q76, by decide, by decide, by decide⟩, q1063, q60⟩
theorem ce_X8_writesNumber : CeV yX8_writesNumber cX8_writesNumber 5 none 2 := ⟨⟨q1056, q76, by decide, by decide, by decide⟩, q1055, q58⟩
theorem ce_X8_writesAll : CeV yX8_writesAll cX8_writesAll 4 (some .int) 0 := ⟨⟨q1052, q76, by decide, by decide, by decide⟩, q1051, q57⟩
theorem ce_X8_told : CeV yX8_told cX8_told 2 (some .int) 1 := ⟨⟨q1004, q76, by decide, by decide, by decide⟩, q1002, q1003⟩
theorem ce_X8_idle : CeV yX8_idle cX8_idle 4 (some .int) 1 := ⟨⟨q1084, q76, by decide, by decide, by decide⟩, q1083, q64⟩
theorem ce_X8_firstWrong : CeV yX8_firstWrong cX8_firstWrong 3 (some .int) 1 := ⟨⟨q1080, q76, by decide, by decide, by decide⟩, q1079, q63⟩
theorem ce_X8_wrong : CeV yX8_wrong cX8_wrong 4 (some .int) 1 := ⟨⟨q1076, q76, by decide, by decide, by decide⟩, q1074, q1075⟩
theorem ce_X8_clause : CeV yX8_clause cX8_clause 5 (some .int) 2 := ⟨⟨q1088, q76, by decide, by decide, by decide⟩, q1086, q1087⟩
theorem ce_X8_part : CeV yX8_part cX8_part 6 (some .int) 3 := ⟨⟨q1092, q76, by decide, by decide, by decide⟩, q1090, q1091⟩
theorem ce_X8_number : CeV yX8_number cX8_number 4 (some .int) 2 := ⟨⟨q1096, q76, by decide, by decide, by decide⟩, q1094, q1095⟩
theorem ce_X8_hangs : CeV yX8_hangs cX8_hangs 3 (some .int) 2 := ⟨⟨q1100, q76, by decide, by decide, by decide⟩, q1098, q1099⟩
theorem ce_X8_term : CeV yX8_term cX8_term 5 (some .int) 2 := ⟨⟨q1112, q76, by decide, by decide, by decide⟩, q1110, q1111⟩
theorem ce_X8_by : CeV yX8_by cX8_by 4 (some .int) 2 := ⟨⟨q1116, q76, by decide, by decide, by decide⟩, q1114, q1115⟩
theorem ce_X8_sign_ : CeV yX8_sign_ cX8_sign_ 2 (some .int) 1 := ⟨⟨q1120, q76, by decide, by decide, by decide⟩, q1118, q1119⟩
theorem ce_X8_keep : CeV yX8_keep cX8_keep 2 (some .int) 1 := ⟨⟨q1124, q76, by decide, by decide, by decide⟩, q1122, q1123⟩
theorem ce_X8_goBack : CeV yX8_goBack cX8_goBack 2 (some .int) 1 := ⟨⟨q1128, q76, by decide, by decide, by decide⟩, q1126, q1127⟩
theorem inG_X0 : ∀ w ∈ u_ws RX0 TX0 12, w ∈ wsG := inGs _ [146, 148, 150, 152, 154, 156, 158, 160, 162, 164, 166, 168] (by decide +kernel) (by decide +kernel)
theorem inG_X1 : ∀ w ∈ u_ws RX1 TX1 2, w ∈ wsG := inGs _ [232, 234] (by decide +kernel) (by decide +kernel)
theorem inG_X2 : ∀ w ∈ u_ws RX2 TX2 6, w ∈ wsG := inGs _ [253, 255, 257, 259, 261, 263] (by decide +kernel) (by decide +kernel)
theorem inG_X3 : ∀ w ∈ u_ws RX3 TX3 3, w ∈ wsG := inGs _ [276, 278, 280] (by decide +kernel) (by decide +kernel)
theorem inG_X4 : ∀ w ∈ u_ws RX4 TX4 8, w ∈ wsG := inGs _ [183, 185, 187, 189, 191, 193, 195, 197] (by decide +kernel) (by decide +kernel)
theorem inG_X5 : ∀ w ∈ u_ws RX5 TX5 5, w ∈ wsG := inGs _ [296, 298, 300, 302, 304] (by decide +kernel) (by decide +kernel)
theorem inG_X6 : ∀ w ∈ u_ws RX6 TX6 3, w ∈ wsG := inGs _ [216, 218, 220] (by decide +kernel) (by decide +kernel)
theorem inG_X7 : ∀ w ∈ u_ws RX7 TX7 8, w ∈ wsG := inGs _ [315, 317, 319, 321, 323, 325, 327, 329] (by decide +kernel) (by decide +kernel)
theorem inG_X8 : ∀ w ∈ u_ws RX8 TX8 35, w ∈ wsG := inGs _ [819, 821, 823, 825, 827, 829, 831, 833, 835, 837, 839, 841, 843, 845, 847, 849, 851, 853, 855, 857, 859, 861, 863, 865, 867, 869, 871, 873, 875, 877, 879, 881, 883, 885, 887] (by decide +kernel) (by decide +kernel)
end
section
/-! printed by wip/whole/gen.py: the two worlds, rows of their fields and arrays -/
def wsX (g : Gx) (σ : SS) : va_W :=
  [(g.2.1 0, .inr (7, [.ref (g.2.1 1), .ref (g.2.1 14), .ref (g.2.1 24), .ref (g.2.1 25), .ref (g.2.1 27), .ref (g.2.1 28), .ref (g.2.1 34), .ref (g.2.1 35)])),
   (g.2.1 1, .inr (4, [.int (gI σ 10), .int (gI σ 11), .ref (g.2.1 2), .ref (g.2.1 12), .ref (g.2.1 13), .int (gI σ 15), .int (gI σ 16), .int (gI σ 17)])),
   (g.2.1 2, .inr (0, [.int (gI σ 20), .int (gI σ 21), .int (gI σ 22), .ref (g.2.1 3), .ref (g.2.1 4), .ref (g.2.1 5), .ref (g.2.1 6), .ref (g.2.1 7), .ref (g.2.1 8), .ref (g.2.1 9), .ref (g.2.1 10), .ref (g.2.1 11)])),
   (g.2.1 3, .inl (g.2.2.1, 16, .inl (gA σ 23))),
   (g.2.1 4, .inl (g.2.2.1, 16, .inl (gA σ 24))),
   (g.2.1 5, .inl (g.2.2.1, 16, .inl (gA σ 25))),
   (g.2.1 6, .inl (g.2.2.1, 16, .inl (gA σ 26))),
   (g.2.1 7, .inl (g.2.2.1, 16, .inl (gA σ 27))),
   (g.2.1 8, .inl (g.2.2.1, 16, .inl (gA σ 28))),
   (g.2.1 9, .inl (g.2.2.1, 30, .inl (gA σ 29))),
   (g.2.1 10, .inl (g.2.2.1, 30, .inl (gA σ 30))),
   (g.2.1 11, .inl (g.2.2.1, 30, .inl (gA σ 31))),
   (g.2.1 12, .inl (g.2.2.1, 240, .inl (gA σ 13))),
   (g.2.1 13, .inl (g.2.2.1, 30, .inl (gA σ 14))),
   (g.2.1 14, .inr (0, [.int (gI σ 40), .int (gI σ 41), .int (gI σ 42), .ref (g.2.1 15), .ref (g.2.1 16), .ref (g.2.1 17), .ref (g.2.1 18), .ref (g.2.1 19), .ref (g.2.1 20), .ref (g.2.1 21), .ref (g.2.1 22), .ref (g.2.1 23)])),
   (g.2.1 15, .inl (g.2.2.1, 16, .inl (gA σ 43))),
   (g.2.1 16, .inl (g.2.2.1, 16, .inl (gA σ 44))),
   (g.2.1 17, .inl (g.2.2.1, 16, .inl (gA σ 45))),
   (g.2.1 18, .inl (g.2.2.1, 16, .inl (gA σ 46))),
   (g.2.1 19, .inl (g.2.2.1, 16, .inl (gA σ 47))),
   (g.2.1 20, .inl (g.2.2.1, 16, .inl (gA σ 48))),
   (g.2.1 21, .inl (g.2.2.1, 30, .inl (gA σ 49))),
   (g.2.1 22, .inl (g.2.2.1, 30, .inl (gA σ 50))),
   (g.2.1 23, .inl (g.2.2.1, 30, .inl (gA σ 51))),
   (g.2.1 24, .inr (6, [.int (gI σ 60), .int (gI σ 61), .int (gI σ 62)])),
   (g.2.1 25, .inr (1, [.int (gI σ 70), .ref (g.2.1 26)])),
   (g.2.1 26, .inl (g.2.2.1, 8, .inl (gA σ 71))),
   (g.2.1 27, .inl (g.2.2.1, 2, .inl (gA σ 74))),
   (g.2.1 28, .inr (2, [.ref (g.2.1 14), .ref (g.2.1 29), .ref (g.2.1 30), .ref (g.2.1 31), .ref (g.2.1 32), .ref (g.2.1 33)])),
   (g.2.1 29, .inl (g.2.2.2.1, 16, .inr (.inl (gL σ 81)))),
   (g.2.1 30, .inl (g.2.2.2.1, 30, .inr (.inl (gL σ 82)))),
   (g.2.1 31, .inl (g.2.2.2.1, 8, .inr (.inl (gL σ 83)))),
   (g.2.1 32, .inl (g.2.2.2.1, 64, .inr (.inl (gL σ 84)))),
   (g.2.1 33, .inl (g.2.2.2.1, 64, .inr (.inl (gL σ 85)))),
   (g.2.1 34, .inr (3, [.ref (g.2.1 14), .ref (g.2.1 28), .ref (g.2.1 24)])),
   (g.2.1 35, .inr (5, [.ref (g.2.1 14), .int (gI σ 91), .int (gI σ 92), .int (gI σ 93), .int (gI σ 94)]))]
theorem wsX_fix : wFix wsX := fun _ _ _ => rfl
theorem xo_0 (g : Gx) (σ : SS) : (wsX g σ)[0]? = some (g.2.1 0, .inr (7, [.ref (g.2.1 1), .ref (g.2.1 14), .ref (g.2.1 24), .ref (g.2.1 25), .ref (g.2.1 27), .ref (g.2.1 28), .ref (g.2.1 34), .ref (g.2.1 35)])) := rfl
theorem xg_0_0 {X : Bx} {g : Gx} {cc : ByteArray} {nL : Nat} {own : String} {ret : Option FieldType} {rm : Room} {r : Gx → Option Value} {σ σ' : SS} {pc : Nat} {ls : List (Nat × Value)} {st : List Value} (hX : Okw wsX X g cc nL own ret rm r σ') {i : Nat} (hw : Cond.fieldLink own i "ContractDesk" "reader" "LContractDesk$Reader;" ∈ wsG) (hd : decode cc pc = .ok (.getfield i, 3)) (k : Vx X g.1 nL (wsX g σ) (pc + 3) ls (.ref (g.2.1 1) :: st)) : Vx X g.1 nL (wsX g σ) pc ls (.ref (g.2.1 0) :: st) :=
  vx_get hX.1 0 (xo_0 g σ) (C := RX7) (T := TX7) (N := 8) rfl inG_X7 0 (by decide) rfl hw hd k
theorem xg_0_1 {X : Bx} {g : Gx} {cc : ByteArray} {nL : Nat} {own : String} {ret : Option FieldType} {rm : Room} {r : Gx → Option Value} {σ σ' : SS} {pc : Nat} {ls : List (Nat × Value)} {st : List Value} (hX : Okw wsX X g cc nL own ret rm r σ') {i : Nat} (hw : Cond.fieldLink own i "ContractDesk" "deed" "LContractDesk$Deed;" ∈ wsG) (hd : decode cc pc = .ok (.getfield i, 3)) (k : Vx X g.1 nL (wsX g σ) (pc + 3) ls (.ref (g.2.1 14) :: st)) : Vx X g.1 nL (wsX g σ) pc ls (.ref (g.2.1 0) :: st) :=
  vx_get hX.1 0 (xo_0 g σ) (C := RX7) (T := TX7) (N := 8) rfl inG_X7 1 (by decide) rfl hw hd k
theorem xg_0_2 {X : Bx} {g : Gx} {cc : ByteArray} {nL : Nat} {own : String} {ret : Option FieldType} {rm : Room} {r : Gx → Option Value} {σ σ' : SS} {pc : Nat} {ls : List (Nat × Value)} {st : List Value} (hX : Okw wsX X g cc nL own ret rm r σ') {i : Nat} (hw : Cond.fieldLink own i "ContractDesk" "standing" "LContractDesk$Standing;" ∈ wsG) (hd : decode cc pc = .ok (.getfield i, 3)) (k : Vx X g.1 nL (wsX g σ) (pc + 3) ls (.ref (g.2.1 24) :: st)) : Vx X g.1 nL (wsX g σ) pc ls (.ref (g.2.1 0) :: st) :=
  vx_get hX.1 0 (xo_0 g σ) (C := RX7) (T := TX7) (N := 8) rfl inG_X7 2 (by decide) rfl hw hd k
theorem xg_0_3 {X : Bx} {g : Gx} {cc : ByteArray} {nL : Nat} {own : String} {ret : Option FieldType} {rm : Room} {r : Gx → Option Value} {σ σ' : SS} {pc : Nat} {ls : List (Nat × Value)} {st : List Value} (hX : Okw wsX X g cc nL own ret rm r σ') {i : Nat} (hw : Cond.fieldLink own i "ContractDesk" "history" "LContractDesk$History;" ∈ wsG) (hd : decode cc pc = .ok (.getfield i, 3)) (k : Vx X g.1 nL (wsX g σ) (pc + 3) ls (.ref (g.2.1 25) :: st)) : Vx X g.1 nL (wsX g σ) pc ls (.ref (g.2.1 0) :: st) :=
  vx_get hX.1 0 (xo_0 g σ) (C := RX7) (T := TX7) (N := 8) rfl inG_X7 3 (by decide) rfl hw hd k
theorem xg_0_4 {X : Bx} {g : Gx} {cc : ByteArray} {nL : Nat} {own : String} {ret : Option FieldType} {rm : Room} {r : Gx → Option Value} {σ σ' : SS} {pc : Nat} {ls : List (Nat × Value)} {st : List Value} (hX : Okw wsX X g cc nL own ret rm r σ') {i : Nat} (hw : Cond.fieldLink own i "ContractDesk" "images" "[I" ∈ wsG) (hd : decode cc pc = .ok (.getfield i, 3)) (k : Vx X g.1 nL (wsX g σ) (pc + 3) ls (.ref (g.2.1 27) :: st)) : Vx X g.1 nL (wsX g σ) pc ls (.ref (g.2.1 0) :: st) :=
  vx_get hX.1 0 (xo_0 g σ) (C := RX7) (T := TX7) (N := 8) rfl inG_X7 4 (by decide) rfl hw hd k
theorem xg_0_5 {X : Bx} {g : Gx} {cc : ByteArray} {nL : Nat} {own : String} {ret : Option FieldType} {rm : Room} {r : Gx → Option Value} {σ σ' : SS} {pc : Nat} {ls : List (Nat × Value)} {st : List Value} (hX : Okw wsX X g cc nL own ret rm r σ') {i : Nat} (hw : Cond.fieldLink own i "ContractDesk" "outcomes" "LContractDesk$Outcomes;" ∈ wsG) (hd : decode cc pc = .ok (.getfield i, 3)) (k : Vx X g.1 nL (wsX g σ) (pc + 3) ls (.ref (g.2.1 28) :: st)) : Vx X g.1 nL (wsX g σ) pc ls (.ref (g.2.1 0) :: st) :=
  vx_get hX.1 0 (xo_0 g σ) (C := RX7) (T := TX7) (N := 8) rfl inG_X7 5 (by decide) rfl hw hd k
theorem xg_0_6 {X : Bx} {g : Gx} {cc : ByteArray} {nL : Nat} {own : String} {ret : Option FieldType} {rm : Room} {r : Gx → Option Value} {σ σ' : SS} {pc : Nat} {ls : List (Nat × Value)} {st : List Value} (hX : Okw wsX X g cc nL own ret rm r σ') {i : Nat} (hw : Cond.fieldLink own i "ContractDesk" "outlook" "LContractDesk$Outlook;" ∈ wsG) (hd : decode cc pc = .ok (.getfield i, 3)) (k : Vx X g.1 nL (wsX g σ) (pc + 3) ls (.ref (g.2.1 34) :: st)) : Vx X g.1 nL (wsX g σ) pc ls (.ref (g.2.1 0) :: st) :=
  vx_get hX.1 0 (xo_0 g σ) (C := RX7) (T := TX7) (N := 8) rfl inG_X7 6 (by decide) rfl hw hd k
theorem xg_0_7 {X : Bx} {g : Gx} {cc : ByteArray} {nL : Nat} {own : String} {ret : Option FieldType} {rm : Room} {r : Gx → Option Value} {σ σ' : SS} {pc : Nat} {ls : List (Nat × Value)} {st : List Value} (hX : Okw wsX X g cc nL own ret rm r σ') {i : Nat} (hw : Cond.fieldLink own i "ContractDesk" "script" "LContractDesk$Script;" ∈ wsG) (hd : decode cc pc = .ok (.getfield i, 3)) (k : Vx X g.1 nL (wsX g σ) (pc + 3) ls (.ref (g.2.1 35) :: st)) : Vx X g.1 nL (wsX g σ) pc ls (.ref (g.2.1 0) :: st) :=
  vx_get hX.1 0 (xo_0 g σ) (C := RX7) (T := TX7) (N := 8) rfl inG_X7 7 (by decide) rfl hw hd k
theorem xo_1 (g : Gx) (σ : SS) : (wsX g σ)[1]? = some (g.2.1 1, .inr (4, [.int (gI σ 10), .int (gI σ 11), .ref (g.2.1 2), .ref (g.2.1 12), .ref (g.2.1 13), .int (gI σ 15), .int (gI σ 16), .int (gI σ 17)])) := rfl
theorem xg_1_0 {X : Bx} {g : Gx} {cc : ByteArray} {nL : Nat} {own : String} {ret : Option FieldType} {rm : Room} {r : Gx → Option Value} {σ σ' : SS} {pc : Nat} {ls : List (Nat × Value)} {st : List Value} (hX : Okw wsX X g cc nL own ret rm r σ') {i : Nat} (hw : Cond.fieldLink own i "ContractDesk$Reader" "length" "I" ∈ wsG) (hd : decode cc pc = .ok (.getfield i, 3)) (k : Vx X g.1 nL (wsX g σ) (pc + 3) ls (.int (gI σ 10) :: st)) : Vx X g.1 nL (wsX g σ) pc ls (.ref (g.2.1 1) :: st) :=
  vx_get hX.1 1 (xo_1 g σ) (C := RX4) (T := TX4) (N := 8) rfl inG_X4 0 (by decide) rfl hw hd k
theorem xp_1_0 {X : Bx} {g : Gx} {cc : ByteArray} {nL : Nat} {own : String} {ret : Option FieldType} {rm : Room} {r : Gx → Option Value} {σ σ' : SS} {pc : Nat} {ls : List (Nat × Value)} {st : List Value} (hX : Okw wsX X g cc nL own ret rm r σ') {i : Nat} {v : Int32} (hw : Cond.fieldLink own i "ContractDesk$Reader" "length" "I" ∈ wsG) (hd : decode cc pc = .ok (.putfield i, 3)) (k : Vx X g.1 nL (wsX g (sI σ 10 v)) (pc + 3) ls st) : Vx X g.1 nL (wsX g σ) pc ls (.int v :: .ref (g.2.1 1) :: st) :=
  vx_put hX.1 1 (xo_1 g σ) (C := RX4) (T := TX4) (N := 8) rfl inG_X4 tyX4 tyX4_ok nmX4 (hX.2.1 σ) 0 (by decide) (Nat.le_of_ble_eq_true rfl) rfl (by decide) hw hd rfl k
theorem xg_1_1 {X : Bx} {g : Gx} {cc : ByteArray} {nL : Nat} {own : String} {ret : Option FieldType} {rm : Room} {r : Gx → Option Value} {σ σ' : SS} {pc : Nat} {ls : List (Nat × Value)} {st : List Value} (hX : Okw wsX X g cc nL own ret rm r σ') {i : Nat} (hw : Cond.fieldLink own i "ContractDesk$Reader" "faultAt" "I" ∈ wsG) (hd : decode cc pc = .ok (.getfield i, 3)) (k : Vx X g.1 nL (wsX g σ) (pc + 3) ls (.int (gI σ 11) :: st)) : Vx X g.1 nL (wsX g σ) pc ls (.ref (g.2.1 1) :: st) :=
  vx_get hX.1 1 (xo_1 g σ) (C := RX4) (T := TX4) (N := 8) rfl inG_X4 1 (by decide) rfl hw hd k
theorem xp_1_1 {X : Bx} {g : Gx} {cc : ByteArray} {nL : Nat} {own : String} {ret : Option FieldType} {rm : Room} {r : Gx → Option Value} {σ σ' : SS} {pc : Nat} {ls : List (Nat × Value)} {st : List Value} (hX : Okw wsX X g cc nL own ret rm r σ') {i : Nat} {v : Int32} (hw : Cond.fieldLink own i "ContractDesk$Reader" "faultAt" "I" ∈ wsG) (hd : decode cc pc = .ok (.putfield i, 3)) (k : Vx X g.1 nL (wsX g (sI σ 11 v)) (pc + 3) ls st) : Vx X g.1 nL (wsX g σ) pc ls (.int v :: .ref (g.2.1 1) :: st) :=
  vx_put hX.1 1 (xo_1 g σ) (C := RX4) (T := TX4) (N := 8) rfl inG_X4 tyX4 tyX4_ok nmX4 (hX.2.1 σ) 1 (by decide) (Nat.le_of_ble_eq_true rfl) rfl (by decide) hw hd rfl k
theorem xg_1_2 {X : Bx} {g : Gx} {cc : ByteArray} {nL : Nat} {own : String} {ret : Option FieldType} {rm : Room} {r : Gx → Option Value} {σ σ' : SS} {pc : Nat} {ls : List (Nat × Value)} {st : List Value} (hX : Okw wsX X g cc nL own ret rm r σ') {i : Nat} (hw : Cond.fieldLink own i "ContractDesk$Reader" "draft" "LContractDesk$Deed;" ∈ wsG) (hd : decode cc pc = .ok (.getfield i, 3)) (k : Vx X g.1 nL (wsX g σ) (pc + 3) ls (.ref (g.2.1 2) :: st)) : Vx X g.1 nL (wsX g σ) pc ls (.ref (g.2.1 1) :: st) :=
  vx_get hX.1 1 (xo_1 g σ) (C := RX4) (T := TX4) (N := 8) rfl inG_X4 2 (by decide) rfl hw hd k
theorem xg_1_3 {X : Bx} {g : Gx} {cc : ByteArray} {nL : Nat} {own : String} {ret : Option FieldType} {rm : Room} {r : Gx → Option Value} {σ σ' : SS} {pc : Nat} {ls : List (Nat × Value)} {st : List Value} (hX : Okw wsX X g cc nL own ret rm r σ') {i : Nat} (hw : Cond.fieldLink own i "ContractDesk$Reader" "letters" "[I" ∈ wsG) (hd : decode cc pc = .ok (.getfield i, 3)) (k : Vx X g.1 nL (wsX g σ) (pc + 3) ls (.ref (g.2.1 12) :: st)) : Vx X g.1 nL (wsX g σ) pc ls (.ref (g.2.1 1) :: st) :=
  vx_get hX.1 1 (xo_1 g σ) (C := RX4) (T := TX4) (N := 8) rfl inG_X4 3 (by decide) rfl hw hd k
theorem xg_1_4 {X : Bx} {g : Gx} {cc : ByteArray} {nL : Nat} {own : String} {ret : Option FieldType} {rm : Room} {r : Gx → Option Value} {σ σ' : SS} {pc : Nat} {ls : List (Nat × Value)} {st : List Value} (hX : Okw wsX X g cc nL own ret rm r σ') {i : Nat} (hw : Cond.fieldLink own i "ContractDesk$Reader" "valueAt" "[I" ∈ wsG) (hd : decode cc pc = .ok (.getfield i, 3)) (k : Vx X g.1 nL (wsX g σ) (pc + 3) ls (.ref (g.2.1 13) :: st)) : Vx X g.1 nL (wsX g σ) pc ls (.ref (g.2.1 1) :: st) :=
  vx_get hX.1 1 (xo_1 g σ) (C := RX4) (T := TX4) (N := 8) rfl inG_X4 4 (by decide) rfl hw hd k
theorem xg_1_5 {X : Bx} {g : Gx} {cc : ByteArray} {nL : Nat} {own : String} {ret : Option FieldType} {rm : Room} {r : Gx → Option Value} {σ σ' : SS} {pc : Nat} {ls : List (Nat × Value)} {st : List Value} (hX : Okw wsX X g cc nL own ret rm r σ') {i : Nat} (hw : Cond.fieldLink own i "ContractDesk$Reader" "faultNumber" "I" ∈ wsG) (hd : decode cc pc = .ok (.getfield i, 3)) (k : Vx X g.1 nL (wsX g σ) (pc + 3) ls (.int (gI σ 15) :: st)) : Vx X g.1 nL (wsX g σ) pc ls (.ref (g.2.1 1) :: st) :=
  vx_get hX.1 1 (xo_1 g σ) (C := RX4) (T := TX4) (N := 8) rfl inG_X4 5 (by decide) rfl hw hd k
theorem xp_1_5 {X : Bx} {g : Gx} {cc : ByteArray} {nL : Nat} {own : String} {ret : Option FieldType} {rm : Room} {r : Gx → Option Value} {σ σ' : SS} {pc : Nat} {ls : List (Nat × Value)} {st : List Value} (hX : Okw wsX X g cc nL own ret rm r σ') {i : Nat} {v : Int32} (hw : Cond.fieldLink own i "ContractDesk$Reader" "faultNumber" "I" ∈ wsG) (hd : decode cc pc = .ok (.putfield i, 3)) (k : Vx X g.1 nL (wsX g (sI σ 15 v)) (pc + 3) ls st) : Vx X g.1 nL (wsX g σ) pc ls (.int v :: .ref (g.2.1 1) :: st) :=
  vx_put hX.1 1 (xo_1 g σ) (C := RX4) (T := TX4) (N := 8) rfl inG_X4 tyX4 tyX4_ok nmX4 (hX.2.1 σ) 5 (by decide) (Nat.le_of_ble_eq_true rfl) rfl (by decide) hw hd rfl k
theorem xg_1_6 {X : Bx} {g : Gx} {cc : ByteArray} {nL : Nat} {own : String} {ret : Option FieldType} {rm : Room} {r : Gx → Option Value} {σ σ' : SS} {pc : Nat} {ls : List (Nat × Value)} {st : List Value} (hX : Okw wsX X g cc nL own ret rm r σ') {i : Nat} (hw : Cond.fieldLink own i "ContractDesk$Reader" "at" "I" ∈ wsG) (hd : decode cc pc = .ok (.getfield i, 3)) (k : Vx X g.1 nL (wsX g σ) (pc + 3) ls (.int (gI σ 16) :: st)) : Vx X g.1 nL (wsX g σ) pc ls (.ref (g.2.1 1) :: st) :=
  vx_get hX.1 1 (xo_1 g σ) (C := RX4) (T := TX4) (N := 8) rfl inG_X4 6 (by decide) rfl hw hd k
theorem xp_1_6 {X : Bx} {g : Gx} {cc : ByteArray} {nL : Nat} {own : String} {ret : Option FieldType} {rm : Room} {r : Gx → Option Value} {σ σ' : SS} {pc : Nat} {ls : List (Nat × Value)} {st : List Value} (hX : Okw wsX X g cc nL own ret rm r σ') {i : Nat} {v : Int32} (hw : Cond.fieldLink own i "ContractDesk$Reader" "at" "I" ∈ wsG) (hd : decode cc pc = .ok (.putfield i, 3)) (k : Vx X g.1 nL (wsX g (sI σ 16 v)) (pc + 3) ls st) : Vx X g.1 nL (wsX g σ) pc ls (.int v :: .ref (g.2.1 1) :: st) :=
  vx_put hX.1 1 (xo_1 g σ) (C := RX4) (T := TX4) (N := 8) rfl inG_X4 tyX4 tyX4_ok nmX4 (hX.2.1 σ) 6 (by decide) (Nat.le_of_ble_eq_true rfl) rfl (by decide) hw hd rfl k
theorem xg_1_7 {X : Bx} {g : Gx} {cc : ByteArray} {nL : Nat} {own : String} {ret : Option FieldType} {rm : Room} {r : Gx → Option Value} {σ σ' : SS} {pc : Nat} {ls : List (Nat × Value)} {st : List Value} (hX : Okw wsX X g cc nL own ret rm r σ') {i : Nat} (hw : Cond.fieldLink own i "ContractDesk$Reader" "inside" "I" ∈ wsG) (hd : decode cc pc = .ok (.getfield i, 3)) (k : Vx X g.1 nL (wsX g σ) (pc + 3) ls (.int (gI σ 17) :: st)) : Vx X g.1 nL (wsX g σ) pc ls (.ref (g.2.1 1) :: st) :=
  vx_get hX.1 1 (xo_1 g σ) (C := RX4) (T := TX4) (N := 8) rfl inG_X4 7 (by decide) rfl hw hd k
theorem xp_1_7 {X : Bx} {g : Gx} {cc : ByteArray} {nL : Nat} {own : String} {ret : Option FieldType} {rm : Room} {r : Gx → Option Value} {σ σ' : SS} {pc : Nat} {ls : List (Nat × Value)} {st : List Value} (hX : Okw wsX X g cc nL own ret rm r σ') {i : Nat} {v : Int32} (hw : Cond.fieldLink own i "ContractDesk$Reader" "inside" "I" ∈ wsG) (hd : decode cc pc = .ok (.putfield i, 3)) (k : Vx X g.1 nL (wsX g (sI σ 17 v)) (pc + 3) ls st) : Vx X g.1 nL (wsX g σ) pc ls (.int v :: .ref (g.2.1 1) :: st) :=
  vx_put hX.1 1 (xo_1 g σ) (C := RX4) (T := TX4) (N := 8) rfl inG_X4 tyX4 tyX4_ok nmX4 (hX.2.1 σ) 7 (by decide) (Nat.le_of_ble_eq_true rfl) rfl (by decide) hw hd rfl k
theorem xo_2 (g : Gx) (σ : SS) : (wsX g σ)[2]? = some (g.2.1 2, .inr (0, [.int (gI σ 20), .int (gI σ 21), .int (gI σ 22), .ref (g.2.1 3), .ref (g.2.1 4), .ref (g.2.1 5), .ref (g.2.1 6), .ref (g.2.1 7), .ref (g.2.1 8), .ref (g.2.1 9), .ref (g.2.1 10), .ref (g.2.1 11)])) := rfl
theorem xg_2_0 {X : Bx} {g : Gx} {cc : ByteArray} {nL : Nat} {own : String} {ret : Option FieldType} {rm : Room} {r : Gx → Option Value} {σ σ' : SS} {pc : Nat} {ls : List (Nat × Value)} {st : List Value} (hX : Okw wsX X g cc nL own ret rm r σ') {i : Nat} (hw : Cond.fieldLink own i "ContractDesk$Deed" "clauses" "I" ∈ wsG) (hd : decode cc pc = .ok (.getfield i, 3)) (k : Vx X g.1 nL (wsX g σ) (pc + 3) ls (.int (gI σ 20) :: st)) : Vx X g.1 nL (wsX g σ) pc ls (.ref (g.2.1 2) :: st) :=
  vx_get hX.1 2 (xo_2 g σ) (C := RX0) (T := TX0) (N := 12) rfl inG_X0 0 (by decide) rfl hw hd k
theorem xp_2_0 {X : Bx} {g : Gx} {cc : ByteArray} {nL : Nat} {own : String} {ret : Option FieldType} {rm : Room} {r : Gx → Option Value} {σ σ' : SS} {pc : Nat} {ls : List (Nat × Value)} {st : List Value} (hX : Okw wsX X g cc nL own ret rm r σ') {i : Nat} {v : Int32} (hw : Cond.fieldLink own i "ContractDesk$Deed" "clauses" "I" ∈ wsG) (hd : decode cc pc = .ok (.putfield i, 3)) (k : Vx X g.1 nL (wsX g (sI σ 20 v)) (pc + 3) ls st) : Vx X g.1 nL (wsX g σ) pc ls (.int v :: .ref (g.2.1 2) :: st) :=
  vx_put hX.1 2 (xo_2 g σ) (C := RX0) (T := TX0) (N := 12) rfl inG_X0 tyX0 tyX0_ok nmX0 (hX.2.1 σ) 0 (by decide) (Nat.le_of_ble_eq_true rfl) rfl (by decide) hw hd rfl k
theorem xg_2_1 {X : Bx} {g : Gx} {cc : ByteArray} {nL : Nat} {own : String} {ret : Option FieldType} {rm : Room} {r : Gx → Option Value} {σ σ' : SS} {pc : Nat} {ls : List (Nat × Value)} {st : List Value} (hX : Okw wsX X g cc nL own ret rm r σ') {i : Nat} (hw : Cond.fieldLink own i "ContractDesk$Deed" "parts" "I" ∈ wsG) (hd : decode cc pc = .ok (.getfield i, 3)) (k : Vx X g.1 nL (wsX g σ) (pc + 3) ls (.int (gI σ 21) :: st)) : Vx X g.1 nL (wsX g σ) pc ls (.ref (g.2.1 2) :: st) :=
  vx_get hX.1 2 (xo_2 g σ) (C := RX0) (T := TX0) (N := 12) rfl inG_X0 1 (by decide) rfl hw hd k
theorem xp_2_1 {X : Bx} {g : Gx} {cc : ByteArray} {nL : Nat} {own : String} {ret : Option FieldType} {rm : Room} {r : Gx → Option Value} {σ σ' : SS} {pc : Nat} {ls : List (Nat × Value)} {st : List Value} (hX : Okw wsX X g cc nL own ret rm r σ') {i : Nat} {v : Int32} (hw : Cond.fieldLink own i "ContractDesk$Deed" "parts" "I" ∈ wsG) (hd : decode cc pc = .ok (.putfield i, 3)) (k : Vx X g.1 nL (wsX g (sI σ 21 v)) (pc + 3) ls st) : Vx X g.1 nL (wsX g σ) pc ls (.int v :: .ref (g.2.1 2) :: st) :=
  vx_put hX.1 2 (xo_2 g σ) (C := RX0) (T := TX0) (N := 12) rfl inG_X0 tyX0 tyX0_ok nmX0 (hX.2.1 σ) 1 (by decide) (Nat.le_of_ble_eq_true rfl) rfl (by decide) hw hd rfl k
theorem xg_2_2 {X : Bx} {g : Gx} {cc : ByteArray} {nL : Nat} {own : String} {ret : Option FieldType} {rm : Room} {r : Gx → Option Value} {σ σ' : SS} {pc : Nat} {ls : List (Nat × Value)} {st : List Value} (hX : Okw wsX X g cc nL own ret rm r σ') {i : Nat} (hw : Cond.fieldLink own i "ContractDesk$Deed" "called" "I" ∈ wsG) (hd : decode cc pc = .ok (.getfield i, 3)) (k : Vx X g.1 nL (wsX g σ) (pc + 3) ls (.int (gI σ 22) :: st)) : Vx X g.1 nL (wsX g σ) pc ls (.ref (g.2.1 2) :: st) :=
  vx_get hX.1 2 (xo_2 g σ) (C := RX0) (T := TX0) (N := 12) rfl inG_X0 2 (by decide) rfl hw hd k
theorem xp_2_2 {X : Bx} {g : Gx} {cc : ByteArray} {nL : Nat} {own : String} {ret : Option FieldType} {rm : Room} {r : Gx → Option Value} {σ σ' : SS} {pc : Nat} {ls : List (Nat × Value)} {st : List Value} (hX : Okw wsX X g cc nL own ret rm r σ') {i : Nat} {v : Int32} (hw : Cond.fieldLink own i "ContractDesk$Deed" "called" "I" ∈ wsG) (hd : decode cc pc = .ok (.putfield i, 3)) (k : Vx X g.1 nL (wsX g (sI σ 22 v)) (pc + 3) ls st) : Vx X g.1 nL (wsX g σ) pc ls (.int v :: .ref (g.2.1 2) :: st) :=
  vx_put hX.1 2 (xo_2 g σ) (C := RX0) (T := TX0) (N := 12) rfl inG_X0 tyX0 tyX0_ok nmX0 (hX.2.1 σ) 2 (by decide) (Nat.le_of_ble_eq_true rfl) rfl (by decide) hw hd rfl k
theorem xg_2_3 {X : Bx} {g : Gx} {cc : ByteArray} {nL : Nat} {own : String} {ret : Option FieldType} {rm : Room} {r : Gx → Option Value} {σ σ' : SS} {pc : Nat} {ls : List (Nat × Value)} {st : List Value} (hX : Okw wsX X g cc nL own ret rm r σ') {i : Nat} (hw : Cond.fieldLink own i "ContractDesk$Deed" "around" "[I" ∈ wsG) (hd : decode cc pc = .ok (.getfield i, 3)) (k : Vx X g.1 nL (wsX g σ) (pc + 3) ls (.ref (g.2.1 3) :: st)) : Vx X g.1 nL (wsX g σ) pc ls (.ref (g.2.1 2) :: st) :=
  vx_get hX.1 2 (xo_2 g σ) (C := RX0) (T := TX0) (N := 12) rfl inG_X0 3 (by decide) rfl hw hd k
theorem xg_2_4 {X : Bx} {g : Gx} {cc : ByteArray} {nL : Nat} {own : String} {ret : Option FieldType} {rm : Room} {r : Gx → Option Value} {σ σ' : SS} {pc : Nat} {ls : List (Nat × Value)} {st : List Value} (hX : Okw wsX X g cc nL own ret rm r σ') {i : Nat} (hw : Cond.fieldLink own i "ContractDesk$Deed" "depth" "[I" ∈ wsG) (hd : decode cc pc = .ok (.getfield i, 3)) (k : Vx X g.1 nL (wsX g σ) (pc + 3) ls (.ref (g.2.1 4) :: st)) : Vx X g.1 nL (wsX g σ) pc ls (.ref (g.2.1 2) :: st) :=
  vx_get hX.1 2 (xo_2 g σ) (C := RX0) (T := TX0) (N := 12) rfl inG_X0 4 (by decide) rfl hw hd k
theorem xg_2_5 {X : Bx} {g : Gx} {cc : ByteArray} {nL : Nat} {own : String} {ret : Option FieldType} {rm : Room} {r : Gx → Option Value} {σ σ' : SS} {pc : Nat} {ls : List (Nat × Value)} {st : List Value} (hX : Okw wsX X g cc nL own ret rm r σ') {i : Nat} (hw : Cond.fieldLink own i "ContractDesk$Deed" "wantsYes" "[I" ∈ wsG) (hd : decode cc pc = .ok (.getfield i, 3)) (k : Vx X g.1 nL (wsX g σ) (pc + 3) ls (.ref (g.2.1 5) :: st)) : Vx X g.1 nL (wsX g σ) pc ls (.ref (g.2.1 2) :: st) :=
  vx_get hX.1 2 (xo_2 g σ) (C := RX0) (T := TX0) (N := 12) rfl inG_X0 5 (by decide) rfl hw hd k
theorem xg_2_6 {X : Bx} {g : Gx} {cc : ByteArray} {nL : Nat} {own : String} {ret : Option FieldType} {rm : Room} {r : Gx → Option Value} {σ σ' : SS} {pc : Nat} {ls : List (Nat × Value)} {st : List Value} (hX : Okw wsX X g cc nL own ret rm r σ') {i : Nat} (hw : Cond.fieldLink own i "ContractDesk$Deed" "wantsNo" "[I" ∈ wsG) (hd : decode cc pc = .ok (.getfield i, 3)) (k : Vx X g.1 nL (wsX g σ) (pc + 3) ls (.ref (g.2.1 6) :: st)) : Vx X g.1 nL (wsX g σ) pc ls (.ref (g.2.1 2) :: st) :=
  vx_get hX.1 2 (xo_2 g σ) (C := RX0) (T := TX0) (N := 12) rfl inG_X0 6 (by decide) rfl hw hd k
theorem xg_2_7 {X : Bx} {g : Gx} {cc : ByteArray} {nL : Nat} {own : String} {ret : Option FieldType} {rm : Room} {r : Gx → Option Value} {σ σ' : SS} {pc : Nat} {ls : List (Nat × Value)} {st : List Value} (hX : Okw wsX X g cc nL own ret rm r σ') {i : Nat} (hw : Cond.fieldLink own i "ContractDesk$Deed" "referring" "[I" ∈ wsG) (hd : decode cc pc = .ok (.getfield i, 3)) (k : Vx X g.1 nL (wsX g σ) (pc + 3) ls (.ref (g.2.1 7) :: st)) : Vx X g.1 nL (wsX g σ) pc ls (.ref (g.2.1 2) :: st) :=
  vx_get hX.1 2 (xo_2 g σ) (C := RX0) (T := TX0) (N := 12) rfl inG_X0 7 (by decide) rfl hw hd k
theorem xg_2_8 {X : Bx} {g : Gx} {cc : ByteArray} {nL : Nat} {own : String} {ret : Option FieldType} {rm : Room} {r : Gx → Option Value} {σ σ' : SS} {pc : Nat} {ls : List (Nat × Value)} {st : List Value} (hX : Okw wsX X g cc nL own ret rm r σ') {i : Nat} (hw : Cond.fieldLink own i "ContractDesk$Deed" "termsUsed" "[I" ∈ wsG) (hd : decode cc pc = .ok (.getfield i, 3)) (k : Vx X g.1 nL (wsX g σ) (pc + 3) ls (.ref (g.2.1 8) :: st)) : Vx X g.1 nL (wsX g σ) pc ls (.ref (g.2.1 2) :: st) :=
  vx_get hX.1 2 (xo_2 g σ) (C := RX0) (T := TX0) (N := 12) rfl inG_X0 8 (by decide) rfl hw hd k
theorem xg_2_9 {X : Bx} {g : Gx} {cc : ByteArray} {nL : Nat} {own : String} {ret : Option FieldType} {rm : Room} {r : Gx → Option Value} {σ σ' : SS} {pc : Nat} {ls : List (Nat × Value)} {st : List Value} (hX : Okw wsX X g cc nL own ret rm r σ') {i : Nat} (hw : Cond.fieldLink own i "ContractDesk$Deed" "kind" "[I" ∈ wsG) (hd : decode cc pc = .ok (.getfield i, 3)) (k : Vx X g.1 nL (wsX g σ) (pc + 3) ls (.ref (g.2.1 9) :: st)) : Vx X g.1 nL (wsX g σ) pc ls (.ref (g.2.1 2) :: st) :=
  vx_get hX.1 2 (xo_2 g σ) (C := RX0) (T := TX0) (N := 12) rfl inG_X0 9 (by decide) rfl hw hd k
theorem xg_2_10 {X : Bx} {g : Gx} {cc : ByteArray} {nL : Nat} {own : String} {ret : Option FieldType} {rm : Room} {r : Gx → Option Value} {σ σ' : SS} {pc : Nat} {ls : List (Nat × Value)} {st : List Value} (hX : Okw wsX X g cc nL own ret rm r σ') {i : Nat} (hw : Cond.fieldLink own i "ContractDesk$Deed" "value" "[I" ∈ wsG) (hd : decode cc pc = .ok (.getfield i, 3)) (k : Vx X g.1 nL (wsX g σ) (pc + 3) ls (.ref (g.2.1 10) :: st)) : Vx X g.1 nL (wsX g σ) pc ls (.ref (g.2.1 2) :: st) :=
  vx_get hX.1 2 (xo_2 g σ) (C := RX0) (T := TX0) (N := 12) rfl inG_X0 10 (by decide) rfl hw hd k
theorem xg_2_11 {X : Bx} {g : Gx} {cc : ByteArray} {nL : Nat} {own : String} {ret : Option FieldType} {rm : Room} {r : Gx → Option Value} {σ σ' : SS} {pc : Nat} {ls : List (Nat × Value)} {st : List Value} (hX : Okw wsX X g cc nL own ret rm r σ') {i : Nat} (hw : Cond.fieldLink own i "ContractDesk$Deed" "owner" "[I" ∈ wsG) (hd : decode cc pc = .ok (.getfield i, 3)) (k : Vx X g.1 nL (wsX g σ) (pc + 3) ls (.ref (g.2.1 11) :: st)) : Vx X g.1 nL (wsX g σ) pc ls (.ref (g.2.1 2) :: st) :=
  vx_get hX.1 2 (xo_2 g σ) (C := RX0) (T := TX0) (N := 12) rfl inG_X0 11 (by decide) rfl hw hd k
theorem xa_3 (g : Gx) (σ : SS) : (wsX g σ)[3]? = some (g.2.1 3, .inl (g.2.2.1, 16, .inl (gA σ 23))) := rfl
theorem xu_3 (g : Gx) (σ : SS) (f : Nat → Int32) : (wsX g σ).set 3 (g.2.1 3, .inl (g.2.2.1, 16, .inl f)) = wsX g (sA σ 23 f) := rfl
theorem xl_3 {X : Bx} {g : Gx} {cc : ByteArray} {nL : Nat} {own : String} {ret : Option FieldType} {rm : Room} {r : Gx → Option Value} {σ σ' : SS} {pc : Nat} {ls : List (Nat × Value)} {st : List Value} (hX : Okw wsX X g cc nL own ret rm r σ') {i : Int32} (hb : inb i 16 = true) (hd : decode cc pc = .ok (.iaload, 1)) (k : Vx X g.1 nL (wsX g σ) (pc + 1) ls (.int (gA σ 23 i.toNatClampNeg) :: st)) : Vx X g.1 nL (wsX g σ) pc ls (.int i :: .ref (g.2.1 3) :: st) :=
  vx_iald hX.1 3 0 (xa_3 g σ) rfl hb hd k
theorem xs_3 {X : Bx} {g : Gx} {cc : ByteArray} {nL : Nat} {own : String} {ret : Option FieldType} {rm : Room} {r : Gx → Option Value} {σ σ' : SS} {pc : Nat} {ls : List (Nat × Value)} {st : List Value} (hX : Okw wsX X g cc nL own ret rm r σ') {i : Int32} {v : Int32} (hb : inb i 16 = true) (hd : decode cc pc = .ok (.iastore, 1)) (k : Vx X g.1 nL (wsX g (sA σ 23 (upd (gA σ 23) i.toNatClampNeg v))) (pc + 1) ls st) : Vx X g.1 nL (wsX g σ) pc ls (.int v :: .int i :: .ref (g.2.1 3) :: st) :=
  vx_iast hX.1 (hX.2.1 σ) 3 0 (xa_3 g σ) rfl hb hd (xu_3 g σ _) k
theorem xa_4 (g : Gx) (σ : SS) : (wsX g σ)[4]? = some (g.2.1 4, .inl (g.2.2.1, 16, .inl (gA σ 24))) := rfl
theorem xu_4 (g : Gx) (σ : SS) (f : Nat → Int32) : (wsX g σ).set 4 (g.2.1 4, .inl (g.2.2.1, 16, .inl f)) = wsX g (sA σ 24 f) := rfl
theorem xl_4 {X : Bx} {g : Gx} {cc : ByteArray} {nL : Nat} {own : String} {ret : Option FieldType} {rm : Room} {r : Gx → Option Value} {σ σ' : SS} {pc : Nat} {ls : List (Nat × Value)} {st : List Value} (hX : Okw wsX X g cc nL own ret rm r σ') {i : Int32} (hb : inb i 16 = true) (hd : decode cc pc = .ok (.iaload, 1)) (k : Vx X g.1 nL (wsX g σ) (pc + 1) ls (.int (gA σ 24 i.toNatClampNeg) :: st)) : Vx X g.1 nL (wsX g σ) pc ls (.int i :: .ref (g.2.1 4) :: st) :=
  vx_iald hX.1 4 0 (xa_4 g σ) rfl hb hd k
theorem xs_4 {X : Bx} {g : Gx} {cc : ByteArray} {nL : Nat} {own : String} {ret : Option FieldType} {rm : Room} {r : Gx → Option Value} {σ σ' : SS} {pc : Nat} {ls : List (Nat × Value)} {st : List Value} (hX : Okw wsX X g cc nL own ret rm r σ') {i : Int32} {v : Int32} (hb : inb i 16 = true) (hd : decode cc pc = .ok (.iastore, 1)) (k : Vx X g.1 nL (wsX g (sA σ 24 (upd (gA σ 24) i.toNatClampNeg v))) (pc + 1) ls st) : Vx X g.1 nL (wsX g σ) pc ls (.int v :: .int i :: .ref (g.2.1 4) :: st) :=
  vx_iast hX.1 (hX.2.1 σ) 4 0 (xa_4 g σ) rfl hb hd (xu_4 g σ _) k
theorem xa_5 (g : Gx) (σ : SS) : (wsX g σ)[5]? = some (g.2.1 5, .inl (g.2.2.1, 16, .inl (gA σ 25))) := rfl
theorem xu_5 (g : Gx) (σ : SS) (f : Nat → Int32) : (wsX g σ).set 5 (g.2.1 5, .inl (g.2.2.1, 16, .inl f)) = wsX g (sA σ 25 f) := rfl
theorem xl_5 {X : Bx} {g : Gx} {cc : ByteArray} {nL : Nat} {own : String} {ret : Option FieldType} {rm : Room} {r : Gx → Option Value} {σ σ' : SS} {pc : Nat} {ls : List (Nat × Value)} {st : List Value} (hX : Okw wsX X g cc nL own ret rm r σ') {i : Int32} (hb : inb i 16 = true) (hd : decode cc pc = .ok (.iaload, 1)) (k : Vx X g.1 nL (wsX g σ) (pc + 1) ls (.int (gA σ 25 i.toNatClampNeg) :: st)) : Vx X g.1 nL (wsX g σ) pc ls (.int i :: .ref (g.2.1 5) :: st) :=
  vx_iald hX.1 5 0 (xa_5 g σ) rfl hb hd k
theorem xs_5 {X : Bx} {g : Gx} {cc : ByteArray} {nL : Nat} {own : String} {ret : Option FieldType} {rm : Room} {r : Gx → Option Value} {σ σ' : SS} {pc : Nat} {ls : List (Nat × Value)} {st : List Value} (hX : Okw wsX X g cc nL own ret rm r σ') {i : Int32} {v : Int32} (hb : inb i 16 = true) (hd : decode cc pc = .ok (.iastore, 1)) (k : Vx X g.1 nL (wsX g (sA σ 25 (upd (gA σ 25) i.toNatClampNeg v))) (pc + 1) ls st) : Vx X g.1 nL (wsX g σ) pc ls (.int v :: .int i :: .ref (g.2.1 5) :: st) :=
  vx_iast hX.1 (hX.2.1 σ) 5 0 (xa_5 g σ) rfl hb hd (xu_5 g σ _) k
theorem xa_6 (g : Gx) (σ : SS) : (wsX g σ)[6]? = some (g.2.1 6, .inl (g.2.2.1, 16, .inl (gA σ 26))) := rfl
theorem xu_6 (g : Gx) (σ : SS) (f : Nat → Int32) : (wsX g σ).set 6 (g.2.1 6, .inl (g.2.2.1, 16, .inl f)) = wsX g (sA σ 26 f) := rfl
theorem xl_6 {X : Bx} {g : Gx} {cc : ByteArray} {nL : Nat} {own : String} {ret : Option FieldType} {rm : Room} {r : Gx → Option Value} {σ σ' : SS} {pc : Nat} {ls : List (Nat × Value)} {st : List Value} (hX : Okw wsX X g cc nL own ret rm r σ') {i : Int32} (hb : inb i 16 = true) (hd : decode cc pc = .ok (.iaload, 1)) (k : Vx X g.1 nL (wsX g σ) (pc + 1) ls (.int (gA σ 26 i.toNatClampNeg) :: st)) : Vx X g.1 nL (wsX g σ) pc ls (.int i :: .ref (g.2.1 6) :: st) :=
  vx_iald hX.1 6 0 (xa_6 g σ) rfl hb hd k
theorem xs_6 {X : Bx} {g : Gx} {cc : ByteArray} {nL : Nat} {own : String} {ret : Option FieldType} {rm : Room} {r : Gx → Option Value} {σ σ' : SS} {pc : Nat} {ls : List (Nat × Value)} {st : List Value} (hX : Okw wsX X g cc nL own ret rm r σ') {i : Int32} {v : Int32} (hb : inb i 16 = true) (hd : decode cc pc = .ok (.iastore, 1)) (k : Vx X g.1 nL (wsX g (sA σ 26 (upd (gA σ 26) i.toNatClampNeg v))) (pc + 1) ls st) : Vx X g.1 nL (wsX g σ) pc ls (.int v :: .int i :: .ref (g.2.1 6) :: st) :=
  vx_iast hX.1 (hX.2.1 σ) 6 0 (xa_6 g σ) rfl hb hd (xu_6 g σ _) k
theorem xa_7 (g : Gx) (σ : SS) : (wsX g σ)[7]? = some (g.2.1 7, .inl (g.2.2.1, 16, .inl (gA σ 27))) := rfl
theorem xu_7 (g : Gx) (σ : SS) (f : Nat → Int32) : (wsX g σ).set 7 (g.2.1 7, .inl (g.2.2.1, 16, .inl f)) = wsX g (sA σ 27 f) := rfl
theorem xl_7 {X : Bx} {g : Gx} {cc : ByteArray} {nL : Nat} {own : String} {ret : Option FieldType} {rm : Room} {r : Gx → Option Value} {σ σ' : SS} {pc : Nat} {ls : List (Nat × Value)} {st : List Value} (hX : Okw wsX X g cc nL own ret rm r σ') {i : Int32} (hb : inb i 16 = true) (hd : decode cc pc = .ok (.iaload, 1)) (k : Vx X g.1 nL (wsX g σ) (pc + 1) ls (.int (gA σ 27 i.toNatClampNeg) :: st)) : Vx X g.1 nL (wsX g σ) pc ls (.int i :: .ref (g.2.1 7) :: st) :=
  vx_iald hX.1 7 0 (xa_7 g σ) rfl hb hd k
theorem xs_7 {X : Bx} {g : Gx} {cc : ByteArray} {nL : Nat} {own : String} {ret : Option FieldType} {rm : Room} {r : Gx → Option Value} {σ σ' : SS} {pc : Nat} {ls : List (Nat × Value)} {st : List Value} (hX : Okw wsX X g cc nL own ret rm r σ') {i : Int32} {v : Int32} (hb : inb i 16 = true) (hd : decode cc pc = .ok (.iastore, 1)) (k : Vx X g.1 nL (wsX g (sA σ 27 (upd (gA σ 27) i.toNatClampNeg v))) (pc + 1) ls st) : Vx X g.1 nL (wsX g σ) pc ls (.int v :: .int i :: .ref (g.2.1 7) :: st) :=
  vx_iast hX.1 (hX.2.1 σ) 7 0 (xa_7 g σ) rfl hb hd (xu_7 g σ _) k
theorem xa_8 (g : Gx) (σ : SS) : (wsX g σ)[8]? = some (g.2.1 8, .inl (g.2.2.1, 16, .inl (gA σ 28))) := rfl
theorem xu_8 (g : Gx) (σ : SS) (f : Nat → Int32) : (wsX g σ).set 8 (g.2.1 8, .inl (g.2.2.1, 16, .inl f)) = wsX g (sA σ 28 f) := rfl
theorem xl_8 {X : Bx} {g : Gx} {cc : ByteArray} {nL : Nat} {own : String} {ret : Option FieldType} {rm : Room} {r : Gx → Option Value} {σ σ' : SS} {pc : Nat} {ls : List (Nat × Value)} {st : List Value} (hX : Okw wsX X g cc nL own ret rm r σ') {i : Int32} (hb : inb i 16 = true) (hd : decode cc pc = .ok (.iaload, 1)) (k : Vx X g.1 nL (wsX g σ) (pc + 1) ls (.int (gA σ 28 i.toNatClampNeg) :: st)) : Vx X g.1 nL (wsX g σ) pc ls (.int i :: .ref (g.2.1 8) :: st) :=
  vx_iald hX.1 8 0 (xa_8 g σ) rfl hb hd k
theorem xs_8 {X : Bx} {g : Gx} {cc : ByteArray} {nL : Nat} {own : String} {ret : Option FieldType} {rm : Room} {r : Gx → Option Value} {σ σ' : SS} {pc : Nat} {ls : List (Nat × Value)} {st : List Value} (hX : Okw wsX X g cc nL own ret rm r σ') {i : Int32} {v : Int32} (hb : inb i 16 = true) (hd : decode cc pc = .ok (.iastore, 1)) (k : Vx X g.1 nL (wsX g (sA σ 28 (upd (gA σ 28) i.toNatClampNeg v))) (pc + 1) ls st) : Vx X g.1 nL (wsX g σ) pc ls (.int v :: .int i :: .ref (g.2.1 8) :: st) :=
  vx_iast hX.1 (hX.2.1 σ) 8 0 (xa_8 g σ) rfl hb hd (xu_8 g σ _) k
theorem xa_9 (g : Gx) (σ : SS) : (wsX g σ)[9]? = some (g.2.1 9, .inl (g.2.2.1, 30, .inl (gA σ 29))) := rfl
theorem xu_9 (g : Gx) (σ : SS) (f : Nat → Int32) : (wsX g σ).set 9 (g.2.1 9, .inl (g.2.2.1, 30, .inl f)) = wsX g (sA σ 29 f) := rfl
theorem xl_9 {X : Bx} {g : Gx} {cc : ByteArray} {nL : Nat} {own : String} {ret : Option FieldType} {rm : Room} {r : Gx → Option Value} {σ σ' : SS} {pc : Nat} {ls : List (Nat × Value)} {st : List Value} (hX : Okw wsX X g cc nL own ret rm r σ') {i : Int32} (hb : inb i 30 = true) (hd : decode cc pc = .ok (.iaload, 1)) (k : Vx X g.1 nL (wsX g σ) (pc + 1) ls (.int (gA σ 29 i.toNatClampNeg) :: st)) : Vx X g.1 nL (wsX g σ) pc ls (.int i :: .ref (g.2.1 9) :: st) :=
  vx_iald hX.1 9 0 (xa_9 g σ) rfl hb hd k
theorem xs_9 {X : Bx} {g : Gx} {cc : ByteArray} {nL : Nat} {own : String} {ret : Option FieldType} {rm : Room} {r : Gx → Option Value} {σ σ' : SS} {pc : Nat} {ls : List (Nat × Value)} {st : List Value} (hX : Okw wsX X g cc nL own ret rm r σ') {i : Int32} {v : Int32} (hb : inb i 30 = true) (hd : decode cc pc = .ok (.iastore, 1)) (k : Vx X g.1 nL (wsX g (sA σ 29 (upd (gA σ 29) i.toNatClampNeg v))) (pc + 1) ls st) : Vx X g.1 nL (wsX g σ) pc ls (.int v :: .int i :: .ref (g.2.1 9) :: st) :=
  vx_iast hX.1 (hX.2.1 σ) 9 0 (xa_9 g σ) rfl hb hd (xu_9 g σ _) k
theorem xa_10 (g : Gx) (σ : SS) : (wsX g σ)[10]? = some (g.2.1 10, .inl (g.2.2.1, 30, .inl (gA σ 30))) := rfl
theorem xu_10 (g : Gx) (σ : SS) (f : Nat → Int32) : (wsX g σ).set 10 (g.2.1 10, .inl (g.2.2.1, 30, .inl f)) = wsX g (sA σ 30 f) := rfl
theorem xl_10 {X : Bx} {g : Gx} {cc : ByteArray} {nL : Nat} {own : String} {ret : Option FieldType} {rm : Room} {r : Gx → Option Value} {σ σ' : SS} {pc : Nat} {ls : List (Nat × Value)} {st : List Value} (hX : Okw wsX X g cc nL own ret rm r σ') {i : Int32} (hb : inb i 30 = true) (hd : decode cc pc = .ok (.iaload, 1)) (k : Vx X g.1 nL (wsX g σ) (pc + 1) ls (.int (gA σ 30 i.toNatClampNeg) :: st)) : Vx X g.1 nL (wsX g σ) pc ls (.int i :: .ref (g.2.1 10) :: st) :=
  vx_iald hX.1 10 0 (xa_10 g σ) rfl hb hd k
theorem xs_10 {X : Bx} {g : Gx} {cc : ByteArray} {nL : Nat} {own : String} {ret : Option FieldType} {rm : Room} {r : Gx → Option Value} {σ σ' : SS} {pc : Nat} {ls : List (Nat × Value)} {st : List Value} (hX : Okw wsX X g cc nL own ret rm r σ') {i : Int32} {v : Int32} (hb : inb i 30 = true) (hd : decode cc pc = .ok (.iastore, 1)) (k : Vx X g.1 nL (wsX g (sA σ 30 (upd (gA σ 30) i.toNatClampNeg v))) (pc + 1) ls st) : Vx X g.1 nL (wsX g σ) pc ls (.int v :: .int i :: .ref (g.2.1 10) :: st) :=
  vx_iast hX.1 (hX.2.1 σ) 10 0 (xa_10 g σ) rfl hb hd (xu_10 g σ _) k
theorem xa_11 (g : Gx) (σ : SS) : (wsX g σ)[11]? = some (g.2.1 11, .inl (g.2.2.1, 30, .inl (gA σ 31))) := rfl
theorem xu_11 (g : Gx) (σ : SS) (f : Nat → Int32) : (wsX g σ).set 11 (g.2.1 11, .inl (g.2.2.1, 30, .inl f)) = wsX g (sA σ 31 f) := rfl
theorem xs_11 {X : Bx} {g : Gx} {cc : ByteArray} {nL : Nat} {own : String} {ret : Option FieldType} {rm : Room} {r : Gx → Option Value} {σ σ' : SS} {pc : Nat} {ls : List (Nat × Value)} {st : List Value} (hX : Okw wsX X g cc nL own ret rm r σ') {i : Int32} {v : Int32} (hb : inb i 30 = true) (hd : decode cc pc = .ok (.iastore, 1)) (k : Vx X g.1 nL (wsX g (sA σ 31 (upd (gA σ 31) i.toNatClampNeg v))) (pc + 1) ls st) : Vx X g.1 nL (wsX g σ) pc ls (.int v :: .int i :: .ref (g.2.1 11) :: st) :=
  vx_iast hX.1 (hX.2.1 σ) 11 0 (xa_11 g σ) rfl hb hd (xu_11 g σ _) k
theorem xa_12 (g : Gx) (σ : SS) : (wsX g σ)[12]? = some (g.2.1 12, .inl (g.2.2.1, 240, .inl (gA σ 13))) := rfl
theorem xu_12 (g : Gx) (σ : SS) (f : Nat → Int32) : (wsX g σ).set 12 (g.2.1 12, .inl (g.2.2.1, 240, .inl f)) = wsX g (sA σ 13 f) := rfl
theorem xl_12 {X : Bx} {g : Gx} {cc : ByteArray} {nL : Nat} {own : String} {ret : Option FieldType} {rm : Room} {r : Gx → Option Value} {σ σ' : SS} {pc : Nat} {ls : List (Nat × Value)} {st : List Value} (hX : Okw wsX X g cc nL own ret rm r σ') {i : Int32} (hb : inb i 240 = true) (hd : decode cc pc = .ok (.iaload, 1)) (k : Vx X g.1 nL (wsX g σ) (pc + 1) ls (.int (gA σ 13 i.toNatClampNeg) :: st)) : Vx X g.1 nL (wsX g σ) pc ls (.int i :: .ref (g.2.1 12) :: st) :=
  vx_iald hX.1 12 0 (xa_12 g σ) rfl hb hd k
theorem xs_12 {X : Bx} {g : Gx} {cc : ByteArray} {nL : Nat} {own : String} {ret : Option FieldType} {rm : Room} {r : Gx → Option Value} {σ σ' : SS} {pc : Nat} {ls : List (Nat × Value)} {st : List Value} (hX : Okw wsX X g cc nL own ret rm r σ') {i : Int32} {v : Int32} (hb : inb i 240 = true) (hd : decode cc pc = .ok (.iastore, 1)) (k : Vx X g.1 nL (wsX g (sA σ 13 (upd (gA σ 13) i.toNatClampNeg v))) (pc + 1) ls st) : Vx X g.1 nL (wsX g σ) pc ls (.int v :: .int i :: .ref (g.2.1 12) :: st) :=
  vx_iast hX.1 (hX.2.1 σ) 12 0 (xa_12 g σ) rfl hb hd (xu_12 g σ _) k
theorem xa_13 (g : Gx) (σ : SS) : (wsX g σ)[13]? = some (g.2.1 13, .inl (g.2.2.1, 30, .inl (gA σ 14))) := rfl
theorem xu_13 (g : Gx) (σ : SS) (f : Nat → Int32) : (wsX g σ).set 13 (g.2.1 13, .inl (g.2.2.1, 30, .inl f)) = wsX g (sA σ 14 f) := rfl
theorem xl_13 {X : Bx} {g : Gx} {cc : ByteArray} {nL : Nat} {own : String} {ret : Option FieldType} {rm : Room} {r : Gx → Option Value} {σ σ' : SS} {pc : Nat} {ls : List (Nat × Value)} {st : List Value} (hX : Okw wsX X g cc nL own ret rm r σ') {i : Int32} (hb : inb i 30 = true) (hd : decode cc pc = .ok (.iaload, 1)) (k : Vx X g.1 nL (wsX g σ) (pc + 1) ls (.int (gA σ 14 i.toNatClampNeg) :: st)) : Vx X g.1 nL (wsX g σ) pc ls (.int i :: .ref (g.2.1 13) :: st) :=
  vx_iald hX.1 13 0 (xa_13 g σ) rfl hb hd k
theorem xs_13 {X : Bx} {g : Gx} {cc : ByteArray} {nL : Nat} {own : String} {ret : Option FieldType} {rm : Room} {r : Gx → Option Value} {σ σ' : SS} {pc : Nat} {ls : List (Nat × Value)} {st : List Value} (hX : Okw wsX X g cc nL own ret rm r σ') {i : Int32} {v : Int32} (hb : inb i 30 = true) (hd : decode cc pc = .ok (.iastore, 1)) (k : Vx X g.1 nL (wsX g (sA σ 14 (upd (gA σ 14) i.toNatClampNeg v))) (pc + 1) ls st) : Vx X g.1 nL (wsX g σ) pc ls (.int v :: .int i :: .ref (g.2.1 13) :: st) :=
  vx_iast hX.1 (hX.2.1 σ) 13 0 (xa_13 g σ) rfl hb hd (xu_13 g σ _) k
theorem xo_14 (g : Gx) (σ : SS) : (wsX g σ)[14]? = some (g.2.1 14, .inr (0, [.int (gI σ 40), .int (gI σ 41), .int (gI σ 42), .ref (g.2.1 15), .ref (g.2.1 16), .ref (g.2.1 17), .ref (g.2.1 18), .ref (g.2.1 19), .ref (g.2.1 20), .ref (g.2.1 21), .ref (g.2.1 22), .ref (g.2.1 23)])) := rfl
theorem xg_14_0 {X : Bx} {g : Gx} {cc : ByteArray} {nL : Nat} {own : String} {ret : Option FieldType} {rm : Room} {r : Gx → Option Value} {σ σ' : SS} {pc : Nat} {ls : List (Nat × Value)} {st : List Value} (hX : Okw wsX X g cc nL own ret rm r σ') {i : Nat} (hw : Cond.fieldLink own i "ContractDesk$Deed" "clauses" "I" ∈ wsG) (hd : decode cc pc = .ok (.getfield i, 3)) (k : Vx X g.1 nL (wsX g σ) (pc + 3) ls (.int (gI σ 40) :: st)) : Vx X g.1 nL (wsX g σ) pc ls (.ref (g.2.1 14) :: st) :=
  vx_get hX.1 14 (xo_14 g σ) (C := RX0) (T := TX0) (N := 12) rfl inG_X0 0 (by decide) rfl hw hd k
theorem xp_14_0 {X : Bx} {g : Gx} {cc : ByteArray} {nL : Nat} {own : String} {ret : Option FieldType} {rm : Room} {r : Gx → Option Value} {σ σ' : SS} {pc : Nat} {ls : List (Nat × Value)} {st : List Value} (hX : Okw wsX X g cc nL own ret rm r σ') {i : Nat} {v : Int32} (hw : Cond.fieldLink own i "ContractDesk$Deed" "clauses" "I" ∈ wsG) (hd : decode cc pc = .ok (.putfield i, 3)) (k : Vx X g.1 nL (wsX g (sI σ 40 v)) (pc + 3) ls st) : Vx X g.1 nL (wsX g σ) pc ls (.int v :: .ref (g.2.1 14) :: st) :=
  vx_put hX.1 14 (xo_14 g σ) (C := RX0) (T := TX0) (N := 12) rfl inG_X0 tyX0 tyX0_ok nmX0 (hX.2.1 σ) 0 (by decide) (Nat.le_of_ble_eq_true rfl) rfl (by decide) hw hd rfl k
theorem xg_14_1 {X : Bx} {g : Gx} {cc : ByteArray} {nL : Nat} {own : String} {ret : Option FieldType} {rm : Room} {r : Gx → Option Value} {σ σ' : SS} {pc : Nat} {ls : List (Nat × Value)} {st : List Value} (hX : Okw wsX X g cc nL own ret rm r σ') {i : Nat} (hw : Cond.fieldLink own i "ContractDesk$Deed" "parts" "I" ∈ wsG) (hd : decode cc pc = .ok (.getfield i, 3)) (k : Vx X g.1 nL (wsX g σ) (pc + 3) ls (.int (gI σ 41) :: st)) : Vx X g.1 nL (wsX g σ) pc ls (.ref (g.2.1 14) :: st) :=
  vx_get hX.1 14 (xo_14 g σ) (C := RX0) (T := TX0) (N := 12) rfl inG_X0 1 (by decide) rfl hw hd k
theorem xp_14_1 {X : Bx} {g : Gx} {cc : ByteArray} {nL : Nat} {own : String} {ret : Option FieldType} {rm : Room} {r : Gx → Option Value} {σ σ' : SS} {pc : Nat} {ls : List (Nat × Value)} {st : List Value} (hX : Okw wsX X g cc nL own ret rm r σ') {i : Nat} {v : Int32} (hw : Cond.fieldLink own i "ContractDesk$Deed" "parts" "I" ∈ wsG) (hd : decode cc pc = .ok (.putfield i, 3)) (k : Vx X g.1 nL (wsX g (sI σ 41 v)) (pc + 3) ls st) : Vx X g.1 nL (wsX g σ) pc ls (.int v :: .ref (g.2.1 14) :: st) :=
  vx_put hX.1 14 (xo_14 g σ) (C := RX0) (T := TX0) (N := 12) rfl inG_X0 tyX0 tyX0_ok nmX0 (hX.2.1 σ) 1 (by decide) (Nat.le_of_ble_eq_true rfl) rfl (by decide) hw hd rfl k
theorem xg_14_2 {X : Bx} {g : Gx} {cc : ByteArray} {nL : Nat} {own : String} {ret : Option FieldType} {rm : Room} {r : Gx → Option Value} {σ σ' : SS} {pc : Nat} {ls : List (Nat × Value)} {st : List Value} (hX : Okw wsX X g cc nL own ret rm r σ') {i : Nat} (hw : Cond.fieldLink own i "ContractDesk$Deed" "called" "I" ∈ wsG) (hd : decode cc pc = .ok (.getfield i, 3)) (k : Vx X g.1 nL (wsX g σ) (pc + 3) ls (.int (gI σ 42) :: st)) : Vx X g.1 nL (wsX g σ) pc ls (.ref (g.2.1 14) :: st) :=
  vx_get hX.1 14 (xo_14 g σ) (C := RX0) (T := TX0) (N := 12) rfl inG_X0 2 (by decide) rfl hw hd k
theorem xp_14_2 {X : Bx} {g : Gx} {cc : ByteArray} {nL : Nat} {own : String} {ret : Option FieldType} {rm : Room} {r : Gx → Option Value} {σ σ' : SS} {pc : Nat} {ls : List (Nat × Value)} {st : List Value} (hX : Okw wsX X g cc nL own ret rm r σ') {i : Nat} {v : Int32} (hw : Cond.fieldLink own i "ContractDesk$Deed" "called" "I" ∈ wsG) (hd : decode cc pc = .ok (.putfield i, 3)) (k : Vx X g.1 nL (wsX g (sI σ 42 v)) (pc + 3) ls st) : Vx X g.1 nL (wsX g σ) pc ls (.int v :: .ref (g.2.1 14) :: st) :=
  vx_put hX.1 14 (xo_14 g σ) (C := RX0) (T := TX0) (N := 12) rfl inG_X0 tyX0 tyX0_ok nmX0 (hX.2.1 σ) 2 (by decide) (Nat.le_of_ble_eq_true rfl) rfl (by decide) hw hd rfl k
theorem xg_14_3 {X : Bx} {g : Gx} {cc : ByteArray} {nL : Nat} {own : String} {ret : Option FieldType} {rm : Room} {r : Gx → Option Value} {σ σ' : SS} {pc : Nat} {ls : List (Nat × Value)} {st : List Value} (hX : Okw wsX X g cc nL own ret rm r σ') {i : Nat} (hw : Cond.fieldLink own i "ContractDesk$Deed" "around" "[I" ∈ wsG) (hd : decode cc pc = .ok (.getfield i, 3)) (k : Vx X g.1 nL (wsX g σ) (pc + 3) ls (.ref (g.2.1 15) :: st)) : Vx X g.1 nL (wsX g σ) pc ls (.ref (g.2.1 14) :: st) :=
  vx_get hX.1 14 (xo_14 g σ) (C := RX0) (T := TX0) (N := 12) rfl inG_X0 3 (by decide) rfl hw hd k
theorem xg_14_4 {X : Bx} {g : Gx} {cc : ByteArray} {nL : Nat} {own : String} {ret : Option FieldType} {rm : Room} {r : Gx → Option Value} {σ σ' : SS} {pc : Nat} {ls : List (Nat × Value)} {st : List Value} (hX : Okw wsX X g cc nL own ret rm r σ') {i : Nat} (hw : Cond.fieldLink own i "ContractDesk$Deed" "depth" "[I" ∈ wsG) (hd : decode cc pc = .ok (.getfield i, 3)) (k : Vx X g.1 nL (wsX g σ) (pc + 3) ls (.ref (g.2.1 16) :: st)) : Vx X g.1 nL (wsX g σ) pc ls (.ref (g.2.1 14) :: st) :=
  vx_get hX.1 14 (xo_14 g σ) (C := RX0) (T := TX0) (N := 12) rfl inG_X0 4 (by decide) rfl hw hd k
theorem xg_14_5 {X : Bx} {g : Gx} {cc : ByteArray} {nL : Nat} {own : String} {ret : Option FieldType} {rm : Room} {r : Gx → Option Value} {σ σ' : SS} {pc : Nat} {ls : List (Nat × Value)} {st : List Value} (hX : Okw wsX X g cc nL own ret rm r σ') {i : Nat} (hw : Cond.fieldLink own i "ContractDesk$Deed" "wantsYes" "[I" ∈ wsG) (hd : decode cc pc = .ok (.getfield i, 3)) (k : Vx X g.1 nL (wsX g σ) (pc + 3) ls (.ref (g.2.1 17) :: st)) : Vx X g.1 nL (wsX g σ) pc ls (.ref (g.2.1 14) :: st) :=
  vx_get hX.1 14 (xo_14 g σ) (C := RX0) (T := TX0) (N := 12) rfl inG_X0 5 (by decide) rfl hw hd k
theorem xg_14_6 {X : Bx} {g : Gx} {cc : ByteArray} {nL : Nat} {own : String} {ret : Option FieldType} {rm : Room} {r : Gx → Option Value} {σ σ' : SS} {pc : Nat} {ls : List (Nat × Value)} {st : List Value} (hX : Okw wsX X g cc nL own ret rm r σ') {i : Nat} (hw : Cond.fieldLink own i "ContractDesk$Deed" "wantsNo" "[I" ∈ wsG) (hd : decode cc pc = .ok (.getfield i, 3)) (k : Vx X g.1 nL (wsX g σ) (pc + 3) ls (.ref (g.2.1 18) :: st)) : Vx X g.1 nL (wsX g σ) pc ls (.ref (g.2.1 14) :: st) :=
  vx_get hX.1 14 (xo_14 g σ) (C := RX0) (T := TX0) (N := 12) rfl inG_X0 6 (by decide) rfl hw hd k
theorem xg_14_7 {X : Bx} {g : Gx} {cc : ByteArray} {nL : Nat} {own : String} {ret : Option FieldType} {rm : Room} {r : Gx → Option Value} {σ σ' : SS} {pc : Nat} {ls : List (Nat × Value)} {st : List Value} (hX : Okw wsX X g cc nL own ret rm r σ') {i : Nat} (hw : Cond.fieldLink own i "ContractDesk$Deed" "referring" "[I" ∈ wsG) (hd : decode cc pc = .ok (.getfield i, 3)) (k : Vx X g.1 nL (wsX g σ) (pc + 3) ls (.ref (g.2.1 19) :: st)) : Vx X g.1 nL (wsX g σ) pc ls (.ref (g.2.1 14) :: st) :=
  vx_get hX.1 14 (xo_14 g σ) (C := RX0) (T := TX0) (N := 12) rfl inG_X0 7 (by decide) rfl hw hd k
theorem xg_14_8 {X : Bx} {g : Gx} {cc : ByteArray} {nL : Nat} {own : String} {ret : Option FieldType} {rm : Room} {r : Gx → Option Value} {σ σ' : SS} {pc : Nat} {ls : List (Nat × Value)} {st : List Value} (hX : Okw wsX X g cc nL own ret rm r σ') {i : Nat} (hw : Cond.fieldLink own i "ContractDesk$Deed" "termsUsed" "[I" ∈ wsG) (hd : decode cc pc = .ok (.getfield i, 3)) (k : Vx X g.1 nL (wsX g σ) (pc + 3) ls (.ref (g.2.1 20) :: st)) : Vx X g.1 nL (wsX g σ) pc ls (.ref (g.2.1 14) :: st) :=
  vx_get hX.1 14 (xo_14 g σ) (C := RX0) (T := TX0) (N := 12) rfl inG_X0 8 (by decide) rfl hw hd k
theorem xg_14_9 {X : Bx} {g : Gx} {cc : ByteArray} {nL : Nat} {own : String} {ret : Option FieldType} {rm : Room} {r : Gx → Option Value} {σ σ' : SS} {pc : Nat} {ls : List (Nat × Value)} {st : List Value} (hX : Okw wsX X g cc nL own ret rm r σ') {i : Nat} (hw : Cond.fieldLink own i "ContractDesk$Deed" "kind" "[I" ∈ wsG) (hd : decode cc pc = .ok (.getfield i, 3)) (k : Vx X g.1 nL (wsX g σ) (pc + 3) ls (.ref (g.2.1 21) :: st)) : Vx X g.1 nL (wsX g σ) pc ls (.ref (g.2.1 14) :: st) :=
  vx_get hX.1 14 (xo_14 g σ) (C := RX0) (T := TX0) (N := 12) rfl inG_X0 9 (by decide) rfl hw hd k
theorem xg_14_10 {X : Bx} {g : Gx} {cc : ByteArray} {nL : Nat} {own : String} {ret : Option FieldType} {rm : Room} {r : Gx → Option Value} {σ σ' : SS} {pc : Nat} {ls : List (Nat × Value)} {st : List Value} (hX : Okw wsX X g cc nL own ret rm r σ') {i : Nat} (hw : Cond.fieldLink own i "ContractDesk$Deed" "value" "[I" ∈ wsG) (hd : decode cc pc = .ok (.getfield i, 3)) (k : Vx X g.1 nL (wsX g σ) (pc + 3) ls (.ref (g.2.1 22) :: st)) : Vx X g.1 nL (wsX g σ) pc ls (.ref (g.2.1 14) :: st) :=
  vx_get hX.1 14 (xo_14 g σ) (C := RX0) (T := TX0) (N := 12) rfl inG_X0 10 (by decide) rfl hw hd k
theorem xg_14_11 {X : Bx} {g : Gx} {cc : ByteArray} {nL : Nat} {own : String} {ret : Option FieldType} {rm : Room} {r : Gx → Option Value} {σ σ' : SS} {pc : Nat} {ls : List (Nat × Value)} {st : List Value} (hX : Okw wsX X g cc nL own ret rm r σ') {i : Nat} (hw : Cond.fieldLink own i "ContractDesk$Deed" "owner" "[I" ∈ wsG) (hd : decode cc pc = .ok (.getfield i, 3)) (k : Vx X g.1 nL (wsX g σ) (pc + 3) ls (.ref (g.2.1 23) :: st)) : Vx X g.1 nL (wsX g σ) pc ls (.ref (g.2.1 14) :: st) :=
  vx_get hX.1 14 (xo_14 g σ) (C := RX0) (T := TX0) (N := 12) rfl inG_X0 11 (by decide) rfl hw hd k
theorem xa_15 (g : Gx) (σ : SS) : (wsX g σ)[15]? = some (g.2.1 15, .inl (g.2.2.1, 16, .inl (gA σ 43))) := rfl
theorem xu_15 (g : Gx) (σ : SS) (f : Nat → Int32) : (wsX g σ).set 15 (g.2.1 15, .inl (g.2.2.1, 16, .inl f)) = wsX g (sA σ 43 f) := rfl
theorem xl_15 {X : Bx} {g : Gx} {cc : ByteArray} {nL : Nat} {own : String} {ret : Option FieldType} {rm : Room} {r : Gx → Option Value} {σ σ' : SS} {pc : Nat} {ls : List (Nat × Value)} {st : List Value} (hX : Okw wsX X g cc nL own ret rm r σ') {i : Int32} (hb : inb i 16 = true) (hd : decode cc pc = .ok (.iaload, 1)) (k : Vx X g.1 nL (wsX g σ) (pc + 1) ls (.int (gA σ 43 i.toNatClampNeg) :: st)) : Vx X g.1 nL (wsX g σ) pc ls (.int i :: .ref (g.2.1 15) :: st) :=
  vx_iald hX.1 15 0 (xa_15 g σ) rfl hb hd k
theorem xa_16 (g : Gx) (σ : SS) : (wsX g σ)[16]? = some (g.2.1 16, .inl (g.2.2.1, 16, .inl (gA σ 44))) := rfl
theorem xu_16 (g : Gx) (σ : SS) (f : Nat → Int32) : (wsX g σ).set 16 (g.2.1 16, .inl (g.2.2.1, 16, .inl f)) = wsX g (sA σ 44 f) := rfl
theorem xl_16 {X : Bx} {g : Gx} {cc : ByteArray} {nL : Nat} {own : String} {ret : Option FieldType} {rm : Room} {r : Gx → Option Value} {σ σ' : SS} {pc : Nat} {ls : List (Nat × Value)} {st : List Value} (hX : Okw wsX X g cc nL own ret rm r σ') {i : Int32} (hb : inb i 16 = true) (hd : decode cc pc = .ok (.iaload, 1)) (k : Vx X g.1 nL (wsX g σ) (pc + 1) ls (.int (gA σ 44 i.toNatClampNeg) :: st)) : Vx X g.1 nL (wsX g σ) pc ls (.int i :: .ref (g.2.1 16) :: st) :=
  vx_iald hX.1 16 0 (xa_16 g σ) rfl hb hd k
theorem xa_17 (g : Gx) (σ : SS) : (wsX g σ)[17]? = some (g.2.1 17, .inl (g.2.2.1, 16, .inl (gA σ 45))) := rfl
theorem xu_17 (g : Gx) (σ : SS) (f : Nat → Int32) : (wsX g σ).set 17 (g.2.1 17, .inl (g.2.2.1, 16, .inl f)) = wsX g (sA σ 45 f) := rfl
theorem xl_17 {X : Bx} {g : Gx} {cc : ByteArray} {nL : Nat} {own : String} {ret : Option FieldType} {rm : Room} {r : Gx → Option Value} {σ σ' : SS} {pc : Nat} {ls : List (Nat × Value)} {st : List Value} (hX : Okw wsX X g cc nL own ret rm r σ') {i : Int32} (hb : inb i 16 = true) (hd : decode cc pc = .ok (.iaload, 1)) (k : Vx X g.1 nL (wsX g σ) (pc + 1) ls (.int (gA σ 45 i.toNatClampNeg) :: st)) : Vx X g.1 nL (wsX g σ) pc ls (.int i :: .ref (g.2.1 17) :: st) :=
  vx_iald hX.1 17 0 (xa_17 g σ) rfl hb hd k
theorem xa_18 (g : Gx) (σ : SS) : (wsX g σ)[18]? = some (g.2.1 18, .inl (g.2.2.1, 16, .inl (gA σ 46))) := rfl
theorem xu_18 (g : Gx) (σ : SS) (f : Nat → Int32) : (wsX g σ).set 18 (g.2.1 18, .inl (g.2.2.1, 16, .inl f)) = wsX g (sA σ 46 f) := rfl
theorem xl_18 {X : Bx} {g : Gx} {cc : ByteArray} {nL : Nat} {own : String} {ret : Option FieldType} {rm : Room} {r : Gx → Option Value} {σ σ' : SS} {pc : Nat} {ls : List (Nat × Value)} {st : List Value} (hX : Okw wsX X g cc nL own ret rm r σ') {i : Int32} (hb : inb i 16 = true) (hd : decode cc pc = .ok (.iaload, 1)) (k : Vx X g.1 nL (wsX g σ) (pc + 1) ls (.int (gA σ 46 i.toNatClampNeg) :: st)) : Vx X g.1 nL (wsX g σ) pc ls (.int i :: .ref (g.2.1 18) :: st) :=
  vx_iald hX.1 18 0 (xa_18 g σ) rfl hb hd k
theorem xa_19 (g : Gx) (σ : SS) : (wsX g σ)[19]? = some (g.2.1 19, .inl (g.2.2.1, 16, .inl (gA σ 47))) := rfl
theorem xu_19 (g : Gx) (σ : SS) (f : Nat → Int32) : (wsX g σ).set 19 (g.2.1 19, .inl (g.2.2.1, 16, .inl f)) = wsX g (sA σ 47 f) := rfl
theorem xl_19 {X : Bx} {g : Gx} {cc : ByteArray} {nL : Nat} {own : String} {ret : Option FieldType} {rm : Room} {r : Gx → Option Value} {σ σ' : SS} {pc : Nat} {ls : List (Nat × Value)} {st : List Value} (hX : Okw wsX X g cc nL own ret rm r σ') {i : Int32} (hb : inb i 16 = true) (hd : decode cc pc = .ok (.iaload, 1)) (k : Vx X g.1 nL (wsX g σ) (pc + 1) ls (.int (gA σ 47 i.toNatClampNeg) :: st)) : Vx X g.1 nL (wsX g σ) pc ls (.int i :: .ref (g.2.1 19) :: st) :=
  vx_iald hX.1 19 0 (xa_19 g σ) rfl hb hd k
theorem xa_20 (g : Gx) (σ : SS) : (wsX g σ)[20]? = some (g.2.1 20, .inl (g.2.2.1, 16, .inl (gA σ 48))) := rfl
theorem xu_20 (g : Gx) (σ : SS) (f : Nat → Int32) : (wsX g σ).set 20 (g.2.1 20, .inl (g.2.2.1, 16, .inl f)) = wsX g (sA σ 48 f) := rfl
theorem xl_20 {X : Bx} {g : Gx} {cc : ByteArray} {nL : Nat} {own : String} {ret : Option FieldType} {rm : Room} {r : Gx → Option Value} {σ σ' : SS} {pc : Nat} {ls : List (Nat × Value)} {st : List Value} (hX : Okw wsX X g cc nL own ret rm r σ') {i : Int32} (hb : inb i 16 = true) (hd : decode cc pc = .ok (.iaload, 1)) (k : Vx X g.1 nL (wsX g σ) (pc + 1) ls (.int (gA σ 48 i.toNatClampNeg) :: st)) : Vx X g.1 nL (wsX g σ) pc ls (.int i :: .ref (g.2.1 20) :: st) :=
  vx_iald hX.1 20 0 (xa_20 g σ) rfl hb hd k
theorem xa_21 (g : Gx) (σ : SS) : (wsX g σ)[21]? = some (g.2.1 21, .inl (g.2.2.1, 30, .inl (gA σ 49))) := rfl
theorem xu_21 (g : Gx) (σ : SS) (f : Nat → Int32) : (wsX g σ).set 21 (g.2.1 21, .inl (g.2.2.1, 30, .inl f)) = wsX g (sA σ 49 f) := rfl
theorem xl_21 {X : Bx} {g : Gx} {cc : ByteArray} {nL : Nat} {own : String} {ret : Option FieldType} {rm : Room} {r : Gx → Option Value} {σ σ' : SS} {pc : Nat} {ls : List (Nat × Value)} {st : List Value} (hX : Okw wsX X g cc nL own ret rm r σ') {i : Int32} (hb : inb i 30 = true) (hd : decode cc pc = .ok (.iaload, 1)) (k : Vx X g.1 nL (wsX g σ) (pc + 1) ls (.int (gA σ 49 i.toNatClampNeg) :: st)) : Vx X g.1 nL (wsX g σ) pc ls (.int i :: .ref (g.2.1 21) :: st) :=
  vx_iald hX.1 21 0 (xa_21 g σ) rfl hb hd k
theorem xa_22 (g : Gx) (σ : SS) : (wsX g σ)[22]? = some (g.2.1 22, .inl (g.2.2.1, 30, .inl (gA σ 50))) := rfl
theorem xu_22 (g : Gx) (σ : SS) (f : Nat → Int32) : (wsX g σ).set 22 (g.2.1 22, .inl (g.2.2.1, 30, .inl f)) = wsX g (sA σ 50 f) := rfl
theorem xl_22 {X : Bx} {g : Gx} {cc : ByteArray} {nL : Nat} {own : String} {ret : Option FieldType} {rm : Room} {r : Gx → Option Value} {σ σ' : SS} {pc : Nat} {ls : List (Nat × Value)} {st : List Value} (hX : Okw wsX X g cc nL own ret rm r σ') {i : Int32} (hb : inb i 30 = true) (hd : decode cc pc = .ok (.iaload, 1)) (k : Vx X g.1 nL (wsX g σ) (pc + 1) ls (.int (gA σ 50 i.toNatClampNeg) :: st)) : Vx X g.1 nL (wsX g σ) pc ls (.int i :: .ref (g.2.1 22) :: st) :=
  vx_iald hX.1 22 0 (xa_22 g σ) rfl hb hd k
theorem xa_23 (g : Gx) (σ : SS) : (wsX g σ)[23]? = some (g.2.1 23, .inl (g.2.2.1, 30, .inl (gA σ 51))) := rfl
theorem xu_23 (g : Gx) (σ : SS) (f : Nat → Int32) : (wsX g σ).set 23 (g.2.1 23, .inl (g.2.2.1, 30, .inl f)) = wsX g (sA σ 51 f) := rfl
theorem xl_23 {X : Bx} {g : Gx} {cc : ByteArray} {nL : Nat} {own : String} {ret : Option FieldType} {rm : Room} {r : Gx → Option Value} {σ σ' : SS} {pc : Nat} {ls : List (Nat × Value)} {st : List Value} (hX : Okw wsX X g cc nL own ret rm r σ') {i : Int32} (hb : inb i 30 = true) (hd : decode cc pc = .ok (.iaload, 1)) (k : Vx X g.1 nL (wsX g σ) (pc + 1) ls (.int (gA σ 51 i.toNatClampNeg) :: st)) : Vx X g.1 nL (wsX g σ) pc ls (.int i :: .ref (g.2.1 23) :: st) :=
  vx_iald hX.1 23 0 (xa_23 g σ) rfl hb hd k
theorem xo_24 (g : Gx) (σ : SS) : (wsX g σ)[24]? = some (g.2.1 24, .inr (6, [.int (gI σ 60), .int (gI σ 61), .int (gI σ 62)])) := rfl
theorem xg_24_0 {X : Bx} {g : Gx} {cc : ByteArray} {nL : Nat} {own : String} {ret : Option FieldType} {rm : Room} {r : Gx → Option Value} {σ σ' : SS} {pc : Nat} {ls : List (Nat × Value)} {st : List Value} (hX : Okw wsX X g cc nL own ret rm r σ') {i : Nat} (hw : Cond.fieldLink own i "ContractDesk$Standing" "answered" "I" ∈ wsG) (hd : decode cc pc = .ok (.getfield i, 3)) (k : Vx X g.1 nL (wsX g σ) (pc + 3) ls (.int (gI σ 60) :: st)) : Vx X g.1 nL (wsX g σ) pc ls (.ref (g.2.1 24) :: st) :=
  vx_get hX.1 24 (xo_24 g σ) (C := RX6) (T := TX6) (N := 3) rfl inG_X6 0 (by decide) rfl hw hd k
theorem xp_24_0 {X : Bx} {g : Gx} {cc : ByteArray} {nL : Nat} {own : String} {ret : Option FieldType} {rm : Room} {r : Gx → Option Value} {σ σ' : SS} {pc : Nat} {ls : List (Nat × Value)} {st : List Value} (hX : Okw wsX X g cc nL own ret rm r σ') {i : Nat} {v : Int32} (hw : Cond.fieldLink own i "ContractDesk$Standing" "answered" "I" ∈ wsG) (hd : decode cc pc = .ok (.putfield i, 3)) (k : Vx X g.1 nL (wsX g (sI σ 60 v)) (pc + 3) ls st) : Vx X g.1 nL (wsX g σ) pc ls (.int v :: .ref (g.2.1 24) :: st) :=
  vx_put hX.1 24 (xo_24 g σ) (C := RX6) (T := TX6) (N := 3) rfl inG_X6 tyX6 tyX6_ok nmX6 (hX.2.1 σ) 0 (by decide) (Nat.le_of_ble_eq_true rfl) rfl (by decide) hw hd rfl k
theorem xg_24_1 {X : Bx} {g : Gx} {cc : ByteArray} {nL : Nat} {own : String} {ret : Option FieldType} {rm : Room} {r : Gx → Option Value} {σ σ' : SS} {pc : Nat} {ls : List (Nat × Value)} {st : List Value} (hX : Okw wsX X g cc nL own ret rm r σ') {i : Nat} (hw : Cond.fieldLink own i "ContractDesk$Standing" "yes" "I" ∈ wsG) (hd : decode cc pc = .ok (.getfield i, 3)) (k : Vx X g.1 nL (wsX g σ) (pc + 3) ls (.int (gI σ 61) :: st)) : Vx X g.1 nL (wsX g σ) pc ls (.ref (g.2.1 24) :: st) :=
  vx_get hX.1 24 (xo_24 g σ) (C := RX6) (T := TX6) (N := 3) rfl inG_X6 1 (by decide) rfl hw hd k
theorem xp_24_1 {X : Bx} {g : Gx} {cc : ByteArray} {nL : Nat} {own : String} {ret : Option FieldType} {rm : Room} {r : Gx → Option Value} {σ σ' : SS} {pc : Nat} {ls : List (Nat × Value)} {st : List Value} (hX : Okw wsX X g cc nL own ret rm r σ') {i : Nat} {v : Int32} (hw : Cond.fieldLink own i "ContractDesk$Standing" "yes" "I" ∈ wsG) (hd : decode cc pc = .ok (.putfield i, 3)) (k : Vx X g.1 nL (wsX g (sI σ 61 v)) (pc + 3) ls st) : Vx X g.1 nL (wsX g σ) pc ls (.int v :: .ref (g.2.1 24) :: st) :=
  vx_put hX.1 24 (xo_24 g σ) (C := RX6) (T := TX6) (N := 3) rfl inG_X6 tyX6 tyX6_ok nmX6 (hX.2.1 σ) 1 (by decide) (Nat.le_of_ble_eq_true rfl) rfl (by decide) hw hd rfl k
theorem xg_24_2 {X : Bx} {g : Gx} {cc : ByteArray} {nL : Nat} {own : String} {ret : Option FieldType} {rm : Room} {r : Gx → Option Value} {σ σ' : SS} {pc : Nat} {ls : List (Nat × Value)} {st : List Value} (hX : Okw wsX X g cc nL own ret rm r σ') {i : Nat} (hw : Cond.fieldLink own i "ContractDesk$Standing" "struck" "I" ∈ wsG) (hd : decode cc pc = .ok (.getfield i, 3)) (k : Vx X g.1 nL (wsX g σ) (pc + 3) ls (.int (gI σ 62) :: st)) : Vx X g.1 nL (wsX g σ) pc ls (.ref (g.2.1 24) :: st) :=
  vx_get hX.1 24 (xo_24 g σ) (C := RX6) (T := TX6) (N := 3) rfl inG_X6 2 (by decide) rfl hw hd k
theorem xp_24_2 {X : Bx} {g : Gx} {cc : ByteArray} {nL : Nat} {own : String} {ret : Option FieldType} {rm : Room} {r : Gx → Option Value} {σ σ' : SS} {pc : Nat} {ls : List (Nat × Value)} {st : List Value} (hX : Okw wsX X g cc nL own ret rm r σ') {i : Nat} {v : Int32} (hw : Cond.fieldLink own i "ContractDesk$Standing" "struck" "I" ∈ wsG) (hd : decode cc pc = .ok (.putfield i, 3)) (k : Vx X g.1 nL (wsX g (sI σ 62 v)) (pc + 3) ls st) : Vx X g.1 nL (wsX g σ) pc ls (.int v :: .ref (g.2.1 24) :: st) :=
  vx_put hX.1 24 (xo_24 g σ) (C := RX6) (T := TX6) (N := 3) rfl inG_X6 tyX6 tyX6_ok nmX6 (hX.2.1 σ) 2 (by decide) (Nat.le_of_ble_eq_true rfl) rfl (by decide) hw hd rfl k
theorem xo_25 (g : Gx) (σ : SS) : (wsX g σ)[25]? = some (g.2.1 25, .inr (1, [.int (gI σ 70), .ref (g.2.1 26)])) := rfl
theorem xg_25_0 {X : Bx} {g : Gx} {cc : ByteArray} {nL : Nat} {own : String} {ret : Option FieldType} {rm : Room} {r : Gx → Option Value} {σ σ' : SS} {pc : Nat} {ls : List (Nat × Value)} {st : List Value} (hX : Okw wsX X g cc nL own ret rm r σ') {i : Nat} (hw : Cond.fieldLink own i "ContractDesk$History" "size" "I" ∈ wsG) (hd : decode cc pc = .ok (.getfield i, 3)) (k : Vx X g.1 nL (wsX g σ) (pc + 3) ls (.int (gI σ 70) :: st)) : Vx X g.1 nL (wsX g σ) pc ls (.ref (g.2.1 25) :: st) :=
  vx_get hX.1 25 (xo_25 g σ) (C := RX1) (T := TX1) (N := 2) rfl inG_X1 0 (by decide) rfl hw hd k
theorem xp_25_0 {X : Bx} {g : Gx} {cc : ByteArray} {nL : Nat} {own : String} {ret : Option FieldType} {rm : Room} {r : Gx → Option Value} {σ σ' : SS} {pc : Nat} {ls : List (Nat × Value)} {st : List Value} (hX : Okw wsX X g cc nL own ret rm r σ') {i : Nat} {v : Int32} (hw : Cond.fieldLink own i "ContractDesk$History" "size" "I" ∈ wsG) (hd : decode cc pc = .ok (.putfield i, 3)) (k : Vx X g.1 nL (wsX g (sI σ 70 v)) (pc + 3) ls st) : Vx X g.1 nL (wsX g σ) pc ls (.int v :: .ref (g.2.1 25) :: st) :=
  vx_put hX.1 25 (xo_25 g σ) (C := RX1) (T := TX1) (N := 2) rfl inG_X1 tyX1 tyX1_ok nmX1 (hX.2.1 σ) 0 (by decide) (Nat.le_of_ble_eq_true rfl) rfl (by decide) hw hd rfl k
theorem xg_25_1 {X : Bx} {g : Gx} {cc : ByteArray} {nL : Nat} {own : String} {ret : Option FieldType} {rm : Room} {r : Gx → Option Value} {σ σ' : SS} {pc : Nat} {ls : List (Nat × Value)} {st : List Value} (hX : Okw wsX X g cc nL own ret rm r σ') {i : Nat} (hw : Cond.fieldLink own i "ContractDesk$History" "standings" "[I" ∈ wsG) (hd : decode cc pc = .ok (.getfield i, 3)) (k : Vx X g.1 nL (wsX g σ) (pc + 3) ls (.ref (g.2.1 26) :: st)) : Vx X g.1 nL (wsX g σ) pc ls (.ref (g.2.1 25) :: st) :=
  vx_get hX.1 25 (xo_25 g σ) (C := RX1) (T := TX1) (N := 2) rfl inG_X1 1 (by decide) rfl hw hd k
theorem xa_26 (g : Gx) (σ : SS) : (wsX g σ)[26]? = some (g.2.1 26, .inl (g.2.2.1, 8, .inl (gA σ 71))) := rfl
theorem xu_26 (g : Gx) (σ : SS) (f : Nat → Int32) : (wsX g σ).set 26 (g.2.1 26, .inl (g.2.2.1, 8, .inl f)) = wsX g (sA σ 71 f) := rfl
theorem xl_26 {X : Bx} {g : Gx} {cc : ByteArray} {nL : Nat} {own : String} {ret : Option FieldType} {rm : Room} {r : Gx → Option Value} {σ σ' : SS} {pc : Nat} {ls : List (Nat × Value)} {st : List Value} (hX : Okw wsX X g cc nL own ret rm r σ') {i : Int32} (hb : inb i 8 = true) (hd : decode cc pc = .ok (.iaload, 1)) (k : Vx X g.1 nL (wsX g σ) (pc + 1) ls (.int (gA σ 71 i.toNatClampNeg) :: st)) : Vx X g.1 nL (wsX g σ) pc ls (.int i :: .ref (g.2.1 26) :: st) :=
  vx_iald hX.1 26 0 (xa_26 g σ) rfl hb hd k
theorem xs_26 {X : Bx} {g : Gx} {cc : ByteArray} {nL : Nat} {own : String} {ret : Option FieldType} {rm : Room} {r : Gx → Option Value} {σ σ' : SS} {pc : Nat} {ls : List (Nat × Value)} {st : List Value} (hX : Okw wsX X g cc nL own ret rm r σ') {i : Int32} {v : Int32} (hb : inb i 8 = true) (hd : decode cc pc = .ok (.iastore, 1)) (k : Vx X g.1 nL (wsX g (sA σ 71 (upd (gA σ 71) i.toNatClampNeg v))) (pc + 1) ls st) : Vx X g.1 nL (wsX g σ) pc ls (.int v :: .int i :: .ref (g.2.1 26) :: st) :=
  vx_iast hX.1 (hX.2.1 σ) 26 0 (xa_26 g σ) rfl hb hd (xu_26 g σ _) k
theorem xa_27 (g : Gx) (σ : SS) : (wsX g σ)[27]? = some (g.2.1 27, .inl (g.2.2.1, 2, .inl (gA σ 74))) := rfl
theorem xu_27 (g : Gx) (σ : SS) (f : Nat → Int32) : (wsX g σ).set 27 (g.2.1 27, .inl (g.2.2.1, 2, .inl f)) = wsX g (sA σ 74 f) := rfl
theorem xl_27 {X : Bx} {g : Gx} {cc : ByteArray} {nL : Nat} {own : String} {ret : Option FieldType} {rm : Room} {r : Gx → Option Value} {σ σ' : SS} {pc : Nat} {ls : List (Nat × Value)} {st : List Value} (hX : Okw wsX X g cc nL own ret rm r σ') {i : Int32} (hb : inb i 2 = true) (hd : decode cc pc = .ok (.iaload, 1)) (k : Vx X g.1 nL (wsX g σ) (pc + 1) ls (.int (gA σ 74 i.toNatClampNeg) :: st)) : Vx X g.1 nL (wsX g σ) pc ls (.int i :: .ref (g.2.1 27) :: st) :=
  vx_iald hX.1 27 0 (xa_27 g σ) rfl hb hd k
theorem xs_27 {X : Bx} {g : Gx} {cc : ByteArray} {nL : Nat} {own : String} {ret : Option FieldType} {rm : Room} {r : Gx → Option Value} {σ σ' : SS} {pc : Nat} {ls : List (Nat × Value)} {st : List Value} (hX : Okw wsX X g cc nL own ret rm r σ') {i : Int32} {v : Int32} (hb : inb i 2 = true) (hd : decode cc pc = .ok (.iastore, 1)) (k : Vx X g.1 nL (wsX g (sA σ 74 (upd (gA σ 74) i.toNatClampNeg v))) (pc + 1) ls st) : Vx X g.1 nL (wsX g σ) pc ls (.int v :: .int i :: .ref (g.2.1 27) :: st) :=
  vx_iast hX.1 (hX.2.1 σ) 27 0 (xa_27 g σ) rfl hb hd (xu_27 g σ _) k
theorem xo_28 (g : Gx) (σ : SS) : (wsX g σ)[28]? = some (g.2.1 28, .inr (2, [.ref (g.2.1 14), .ref (g.2.1 29), .ref (g.2.1 30), .ref (g.2.1 31), .ref (g.2.1 32), .ref (g.2.1 33)])) := rfl
theorem xg_28_0 {X : Bx} {g : Gx} {cc : ByteArray} {nL : Nat} {own : String} {ret : Option FieldType} {rm : Room} {r : Gx → Option Value} {σ σ' : SS} {pc : Nat} {ls : List (Nat × Value)} {st : List Value} (hX : Okw wsX X g cc nL own ret rm r σ') {i : Nat} (hw : Cond.fieldLink own i "ContractDesk$Outcomes" "deed" "LContractDesk$Deed;" ∈ wsG) (hd : decode cc pc = .ok (.getfield i, 3)) (k : Vx X g.1 nL (wsX g σ) (pc + 3) ls (.ref (g.2.1 14) :: st)) : Vx X g.1 nL (wsX g σ) pc ls (.ref (g.2.1 28) :: st) :=
  vx_get hX.1 28 (xo_28 g σ) (C := RX2) (T := TX2) (N := 6) rfl inG_X2 0 (by decide) rfl hw hd k
theorem xg_28_1 {X : Bx} {g : Gx} {cc : ByteArray} {nL : Nat} {own : String} {ret : Option FieldType} {rm : Room} {r : Gx → Option Value} {σ σ' : SS} {pc : Nat} {ls : List (Nat × Value)} {st : List Value} (hX : Okw wsX X g cc nL own ret rm r σ') {i : Nat} (hw : Cond.fieldLink own i "ContractDesk$Outcomes" "force" "[J" ∈ wsG) (hd : decode cc pc = .ok (.getfield i, 3)) (k : Vx X g.1 nL (wsX g σ) (pc + 3) ls (.ref (g.2.1 29) :: st)) : Vx X g.1 nL (wsX g σ) pc ls (.ref (g.2.1 28) :: st) :=
  vx_get hX.1 28 (xo_28 g σ) (C := RX2) (T := TX2) (N := 6) rfl inG_X2 1 (by decide) rfl hw hd k
theorem xg_28_2 {X : Bx} {g : Gx} {cc : ByteArray} {nL : Nat} {own : String} {ret : Option FieldType} {rm : Room} {r : Gx → Option Value} {σ σ' : SS} {pc : Nat} {ls : List (Nat × Value)} {st : List Value} (hX : Okw wsX X g cc nL own ret rm r σ') {i : Nat} (hw : Cond.fieldLink own i "ContractDesk$Outcomes" "amiss" "[J" ∈ wsG) (hd : decode cc pc = .ok (.getfield i, 3)) (k : Vx X g.1 nL (wsX g σ) (pc + 3) ls (.ref (g.2.1 30) :: st)) : Vx X g.1 nL (wsX g σ) pc ls (.ref (g.2.1 28) :: st) :=
  vx_get hX.1 28 (xo_28 g σ) (C := RX2) (T := TX2) (N := 6) rfl inG_X2 2 (by decide) rfl hw hd k
theorem xg_28_3 {X : Bx} {g : Gx} {cc : ByteArray} {nL : Nat} {own : String} {ret : Option FieldType} {rm : Room} {r : Gx → Option Value} {σ σ' : SS} {pc : Nat} {ls : List (Nat × Value)} {st : List Value} (hX : Okw wsX X g cc nL own ret rm r σ') {i : Nat} (hw : Cond.fieldLink own i "ContractDesk$Outcomes" "defined" "[J" ∈ wsG) (hd : decode cc pc = .ok (.getfield i, 3)) (k : Vx X g.1 nL (wsX g σ) (pc + 3) ls (.ref (g.2.1 31) :: st)) : Vx X g.1 nL (wsX g σ) pc ls (.ref (g.2.1 28) :: st) :=
  vx_get hX.1 28 (xo_28 g σ) (C := RX2) (T := TX2) (N := 6) rfl inG_X2 3 (by decide) rfl hw hd k
theorem xg_28_4 {X : Bx} {g : Gx} {cc : ByteArray} {nL : Nat} {own : String} {ret : Option FieldType} {rm : Room} {r : Gx → Option Value} {σ σ' : SS} {pc : Nat} {ls : List (Nat × Value)} {st : List Value} (hX : Okw wsX X g cc nL own ret rm r σ') {i : Nat} (hw : Cond.fieldLink own i "ContractDesk$Outcomes" "hang" "[J" ∈ wsG) (hd : decode cc pc = .ok (.getfield i, 3)) (k : Vx X g.1 nL (wsX g σ) (pc + 3) ls (.ref (g.2.1 32) :: st)) : Vx X g.1 nL (wsX g σ) pc ls (.ref (g.2.1 28) :: st) :=
  vx_get hX.1 28 (xo_28 g σ) (C := RX2) (T := TX2) (N := 6) rfl inG_X2 4 (by decide) rfl hw hd k
theorem xg_28_5 {X : Bx} {g : Gx} {cc : ByteArray} {nL : Nat} {own : String} {ret : Option FieldType} {rm : Room} {r : Gx → Option Value} {σ σ' : SS} {pc : Nat} {ls : List (Nat × Value)} {st : List Value} (hX : Okw wsX X g cc nL own ret rm r σ') {i : Nat} (hw : Cond.fieldLink own i "ContractDesk$Outcomes" "reach" "[J" ∈ wsG) (hd : decode cc pc = .ok (.getfield i, 3)) (k : Vx X g.1 nL (wsX g σ) (pc + 3) ls (.ref (g.2.1 33) :: st)) : Vx X g.1 nL (wsX g σ) pc ls (.ref (g.2.1 28) :: st) :=
  vx_get hX.1 28 (xo_28 g σ) (C := RX2) (T := TX2) (N := 6) rfl inG_X2 5 (by decide) rfl hw hd k
theorem xa_29 (g : Gx) (σ : SS) : (wsX g σ)[29]? = some (g.2.1 29, .inl (g.2.2.2.1, 16, .inr (.inl (gL σ 81)))) := rfl
theorem xu_29 (g : Gx) (σ : SS) (f : Nat → Int64) : (wsX g σ).set 29 (g.2.1 29, .inl (g.2.2.2.1, 16, .inr (.inl f))) = wsX g (sL σ 81 f) := rfl
theorem xl_29 {X : Bx} {g : Gx} {cc : ByteArray} {nL : Nat} {own : String} {ret : Option FieldType} {rm : Room} {r : Gx → Option Value} {σ σ' : SS} {pc : Nat} {ls : List (Nat × Value)} {st : List Value} (hX : Okw wsX X g cc nL own ret rm r σ') {i : Int32} (hb : inb i 16 = true) (hd : decode cc pc = .ok (.laload, 1)) (k : Vx X g.1 nL (wsX g σ) (pc + 1) ls (.long (gL σ 81 i.toNatClampNeg) :: st)) : Vx X g.1 nL (wsX g σ) pc ls (.int i :: .ref (g.2.1 29) :: st) :=
  vx_lald hX.1 29 1 (xa_29 g σ) rfl hb hd k
theorem xs_29 {X : Bx} {g : Gx} {cc : ByteArray} {nL : Nat} {own : String} {ret : Option FieldType} {rm : Room} {r : Gx → Option Value} {σ σ' : SS} {pc : Nat} {ls : List (Nat × Value)} {st : List Value} (hX : Okw wsX X g cc nL own ret rm r σ') {i : Int32} {v : Int64} (hb : inb i 16 = true) (hd : decode cc pc = .ok (.lastore, 1)) (k : Vx X g.1 nL (wsX g (sL σ 81 (vp_updL (gL σ 81) i.toNatClampNeg v))) (pc + 1) ls st) : Vx X g.1 nL (wsX g σ) pc ls (.long v :: .int i :: .ref (g.2.1 29) :: st) :=
  vx_last hX.1 (hX.2.1 σ) 29 1 (xa_29 g σ) rfl hb hd (xu_29 g σ _) k
theorem xa_30 (g : Gx) (σ : SS) : (wsX g σ)[30]? = some (g.2.1 30, .inl (g.2.2.2.1, 30, .inr (.inl (gL σ 82)))) := rfl
theorem xu_30 (g : Gx) (σ : SS) (f : Nat → Int64) : (wsX g σ).set 30 (g.2.1 30, .inl (g.2.2.2.1, 30, .inr (.inl f))) = wsX g (sL σ 82 f) := rfl
theorem xl_30 {X : Bx} {g : Gx} {cc : ByteArray} {nL : Nat} {own : String} {ret : Option FieldType} {rm : Room} {r : Gx → Option Value} {σ σ' : SS} {pc : Nat} {ls : List (Nat × Value)} {st : List Value} (hX : Okw wsX X g cc nL own ret rm r σ') {i : Int32} (hb : inb i 30 = true) (hd : decode cc pc = .ok (.laload, 1)) (k : Vx X g.1 nL (wsX g σ) (pc + 1) ls (.long (gL σ 82 i.toNatClampNeg) :: st)) : Vx X g.1 nL (wsX g σ) pc ls (.int i :: .ref (g.2.1 30) :: st) :=
  vx_lald hX.1 30 1 (xa_30 g σ) rfl hb hd k
theorem xs_30 {X : Bx} {g : Gx} {cc : ByteArray} {nL : Nat} {own : String} {ret : Option FieldType} {rm : Room} {r : Gx → Option Value} {σ σ' : SS} {pc : Nat} {ls : List (Nat × Value)} {st : List Value} (hX : Okw wsX X g cc nL own ret rm r σ') {i : Int32} {v : Int64} (hb : inb i 30 = true) (hd : decode cc pc = .ok (.lastore, 1)) (k : Vx X g.1 nL (wsX g (sL σ 82 (vp_updL (gL σ 82) i.toNatClampNeg v))) (pc + 1) ls st) : Vx X g.1 nL (wsX g σ) pc ls (.long v :: .int i :: .ref (g.2.1 30) :: st) :=
  vx_last hX.1 (hX.2.1 σ) 30 1 (xa_30 g σ) rfl hb hd (xu_30 g σ _) k
theorem xa_31 (g : Gx) (σ : SS) : (wsX g σ)[31]? = some (g.2.1 31, .inl (g.2.2.2.1, 8, .inr (.inl (gL σ 83)))) := rfl
theorem xu_31 (g : Gx) (σ : SS) (f : Nat → Int64) : (wsX g σ).set 31 (g.2.1 31, .inl (g.2.2.2.1, 8, .inr (.inl f))) = wsX g (sL σ 83 f) := rfl
theorem xl_31 {X : Bx} {g : Gx} {cc : ByteArray} {nL : Nat} {own : String} {ret : Option FieldType} {rm : Room} {r : Gx → Option Value} {σ σ' : SS} {pc : Nat} {ls : List (Nat × Value)} {st : List Value} (hX : Okw wsX X g cc nL own ret rm r σ') {i : Int32} (hb : inb i 8 = true) (hd : decode cc pc = .ok (.laload, 1)) (k : Vx X g.1 nL (wsX g σ) (pc + 1) ls (.long (gL σ 83 i.toNatClampNeg) :: st)) : Vx X g.1 nL (wsX g σ) pc ls (.int i :: .ref (g.2.1 31) :: st) :=
  vx_lald hX.1 31 1 (xa_31 g σ) rfl hb hd k
theorem xs_31 {X : Bx} {g : Gx} {cc : ByteArray} {nL : Nat} {own : String} {ret : Option FieldType} {rm : Room} {r : Gx → Option Value} {σ σ' : SS} {pc : Nat} {ls : List (Nat × Value)} {st : List Value} (hX : Okw wsX X g cc nL own ret rm r σ') {i : Int32} {v : Int64} (hb : inb i 8 = true) (hd : decode cc pc = .ok (.lastore, 1)) (k : Vx X g.1 nL (wsX g (sL σ 83 (vp_updL (gL σ 83) i.toNatClampNeg v))) (pc + 1) ls st) : Vx X g.1 nL (wsX g σ) pc ls (.long v :: .int i :: .ref (g.2.1 31) :: st) :=
  vx_last hX.1 (hX.2.1 σ) 31 1 (xa_31 g σ) rfl hb hd (xu_31 g σ _) k
theorem xa_32 (g : Gx) (σ : SS) : (wsX g σ)[32]? = some (g.2.1 32, .inl (g.2.2.2.1, 64, .inr (.inl (gL σ 84)))) := rfl
theorem xu_32 (g : Gx) (σ : SS) (f : Nat → Int64) : (wsX g σ).set 32 (g.2.1 32, .inl (g.2.2.2.1, 64, .inr (.inl f))) = wsX g (sL σ 84 f) := rfl
theorem xl_32 {X : Bx} {g : Gx} {cc : ByteArray} {nL : Nat} {own : String} {ret : Option FieldType} {rm : Room} {r : Gx → Option Value} {σ σ' : SS} {pc : Nat} {ls : List (Nat × Value)} {st : List Value} (hX : Okw wsX X g cc nL own ret rm r σ') {i : Int32} (hb : inb i 64 = true) (hd : decode cc pc = .ok (.laload, 1)) (k : Vx X g.1 nL (wsX g σ) (pc + 1) ls (.long (gL σ 84 i.toNatClampNeg) :: st)) : Vx X g.1 nL (wsX g σ) pc ls (.int i :: .ref (g.2.1 32) :: st) :=
  vx_lald hX.1 32 1 (xa_32 g σ) rfl hb hd k
theorem xs_32 {X : Bx} {g : Gx} {cc : ByteArray} {nL : Nat} {own : String} {ret : Option FieldType} {rm : Room} {r : Gx → Option Value} {σ σ' : SS} {pc : Nat} {ls : List (Nat × Value)} {st : List Value} (hX : Okw wsX X g cc nL own ret rm r σ') {i : Int32} {v : Int64} (hb : inb i 64 = true) (hd : decode cc pc = .ok (.lastore, 1)) (k : Vx X g.1 nL (wsX g (sL σ 84 (vp_updL (gL σ 84) i.toNatClampNeg v))) (pc + 1) ls st) : Vx X g.1 nL (wsX g σ) pc ls (.long v :: .int i :: .ref (g.2.1 32) :: st) :=
  vx_last hX.1 (hX.2.1 σ) 32 1 (xa_32 g σ) rfl hb hd (xu_32 g σ _) k
theorem xa_33 (g : Gx) (σ : SS) : (wsX g σ)[33]? = some (g.2.1 33, .inl (g.2.2.2.1, 64, .inr (.inl (gL σ 85)))) := rfl
theorem xu_33 (g : Gx) (σ : SS) (f : Nat → Int64) : (wsX g σ).set 33 (g.2.1 33, .inl (g.2.2.2.1, 64, .inr (.inl f))) = wsX g (sL σ 85 f) := rfl
theorem xl_33 {X : Bx} {g : Gx} {cc : ByteArray} {nL : Nat} {own : String} {ret : Option FieldType} {rm : Room} {r : Gx → Option Value} {σ σ' : SS} {pc : Nat} {ls : List (Nat × Value)} {st : List Value} (hX : Okw wsX X g cc nL own ret rm r σ') {i : Int32} (hb : inb i 64 = true) (hd : decode cc pc = .ok (.laload, 1)) (k : Vx X g.1 nL (wsX g σ) (pc + 1) ls (.long (gL σ 85 i.toNatClampNeg) :: st)) : Vx X g.1 nL (wsX g σ) pc ls (.int i :: .ref (g.2.1 33) :: st) :=
  vx_lald hX.1 33 1 (xa_33 g σ) rfl hb hd k
theorem xs_33 {X : Bx} {g : Gx} {cc : ByteArray} {nL : Nat} {own : String} {ret : Option FieldType} {rm : Room} {r : Gx → Option Value} {σ σ' : SS} {pc : Nat} {ls : List (Nat × Value)} {st : List Value} (hX : Okw wsX X g cc nL own ret rm r σ') {i : Int32} {v : Int64} (hb : inb i 64 = true) (hd : decode cc pc = .ok (.lastore, 1)) (k : Vx X g.1 nL (wsX g (sL σ 85 (vp_updL (gL σ 85) i.toNatClampNeg v))) (pc + 1) ls st) : Vx X g.1 nL (wsX g σ) pc ls (.long v :: .int i :: .ref (g.2.1 33) :: st) :=
  vx_last hX.1 (hX.2.1 σ) 33 1 (xa_33 g σ) rfl hb hd (xu_33 g σ _) k
theorem xo_34 (g : Gx) (σ : SS) : (wsX g σ)[34]? = some (g.2.1 34, .inr (3, [.ref (g.2.1 14), .ref (g.2.1 28), .ref (g.2.1 24)])) := rfl
theorem xg_34_0 {X : Bx} {g : Gx} {cc : ByteArray} {nL : Nat} {own : String} {ret : Option FieldType} {rm : Room} {r : Gx → Option Value} {σ σ' : SS} {pc : Nat} {ls : List (Nat × Value)} {st : List Value} (hX : Okw wsX X g cc nL own ret rm r σ') {i : Nat} (hw : Cond.fieldLink own i "ContractDesk$Outlook" "deed" "LContractDesk$Deed;" ∈ wsG) (hd : decode cc pc = .ok (.getfield i, 3)) (k : Vx X g.1 nL (wsX g σ) (pc + 3) ls (.ref (g.2.1 14) :: st)) : Vx X g.1 nL (wsX g σ) pc ls (.ref (g.2.1 34) :: st) :=
  vx_get hX.1 34 (xo_34 g σ) (C := RX3) (T := TX3) (N := 3) rfl inG_X3 0 (by decide) rfl hw hd k
theorem xg_34_1 {X : Bx} {g : Gx} {cc : ByteArray} {nL : Nat} {own : String} {ret : Option FieldType} {rm : Room} {r : Gx → Option Value} {σ σ' : SS} {pc : Nat} {ls : List (Nat × Value)} {st : List Value} (hX : Okw wsX X g cc nL own ret rm r σ') {i : Nat} (hw : Cond.fieldLink own i "ContractDesk$Outlook" "outcomes" "LContractDesk$Outcomes;" ∈ wsG) (hd : decode cc pc = .ok (.getfield i, 3)) (k : Vx X g.1 nL (wsX g σ) (pc + 3) ls (.ref (g.2.1 28) :: st)) : Vx X g.1 nL (wsX g σ) pc ls (.ref (g.2.1 34) :: st) :=
  vx_get hX.1 34 (xo_34 g σ) (C := RX3) (T := TX3) (N := 3) rfl inG_X3 1 (by decide) rfl hw hd k
theorem xg_34_2 {X : Bx} {g : Gx} {cc : ByteArray} {nL : Nat} {own : String} {ret : Option FieldType} {rm : Room} {r : Gx → Option Value} {σ σ' : SS} {pc : Nat} {ls : List (Nat × Value)} {st : List Value} (hX : Okw wsX X g cc nL own ret rm r σ') {i : Nat} (hw : Cond.fieldLink own i "ContractDesk$Outlook" "standing" "LContractDesk$Standing;" ∈ wsG) (hd : decode cc pc = .ok (.getfield i, 3)) (k : Vx X g.1 nL (wsX g σ) (pc + 3) ls (.ref (g.2.1 24) :: st)) : Vx X g.1 nL (wsX g σ) pc ls (.ref (g.2.1 34) :: st) :=
  vx_get hX.1 34 (xo_34 g σ) (C := RX3) (T := TX3) (N := 3) rfl inG_X3 2 (by decide) rfl hw hd k
theorem xo_35 (g : Gx) (σ : SS) : (wsX g σ)[35]? = some (g.2.1 35, .inr (5, [.ref (g.2.1 14), .int (gI σ 91), .int (gI σ 92), .int (gI σ 93), .int (gI σ 94)])) := rfl
theorem xg_35_0 {X : Bx} {g : Gx} {cc : ByteArray} {nL : Nat} {own : String} {ret : Option FieldType} {rm : Room} {r : Gx → Option Value} {σ σ' : SS} {pc : Nat} {ls : List (Nat × Value)} {st : List Value} (hX : Okw wsX X g cc nL own ret rm r σ') {i : Nat} (hw : Cond.fieldLink own i "ContractDesk$Script" "deed" "LContractDesk$Deed;" ∈ wsG) (hd : decode cc pc = .ok (.getfield i, 3)) (k : Vx X g.1 nL (wsX g σ) (pc + 3) ls (.ref (g.2.1 14) :: st)) : Vx X g.1 nL (wsX g σ) pc ls (.ref (g.2.1 35) :: st) :=
  vx_get hX.1 35 (xo_35 g σ) (C := RX5) (T := TX5) (N := 5) rfl inG_X5 0 (by decide) rfl hw hd k
theorem xg_35_1 {X : Bx} {g : Gx} {cc : ByteArray} {nL : Nat} {own : String} {ret : Option FieldType} {rm : Room} {r : Gx → Option Value} {σ σ' : SS} {pc : Nat} {ls : List (Nat × Value)} {st : List Value} (hX : Okw wsX X g cc nL own ret rm r σ') {i : Nat} (hw : Cond.fieldLink own i "ContractDesk$Script" "signs" "I" ∈ wsG) (hd : decode cc pc = .ok (.getfield i, 3)) (k : Vx X g.1 nL (wsX g σ) (pc + 3) ls (.int (gI σ 91) :: st)) : Vx X g.1 nL (wsX g σ) pc ls (.ref (g.2.1 35) :: st) :=
  vx_get hX.1 35 (xo_35 g σ) (C := RX5) (T := TX5) (N := 5) rfl inG_X5 1 (by decide) rfl hw hd k
theorem xp_35_1 {X : Bx} {g : Gx} {cc : ByteArray} {nL : Nat} {own : String} {ret : Option FieldType} {rm : Room} {r : Gx → Option Value} {σ σ' : SS} {pc : Nat} {ls : List (Nat × Value)} {st : List Value} (hX : Okw wsX X g cc nL own ret rm r σ') {i : Nat} {v : Int32} (hw : Cond.fieldLink own i "ContractDesk$Script" "signs" "I" ∈ wsG) (hd : decode cc pc = .ok (.putfield i, 3)) (k : Vx X g.1 nL (wsX g (sI σ 91 v)) (pc + 3) ls st) : Vx X g.1 nL (wsX g σ) pc ls (.int v :: .ref (g.2.1 35) :: st) :=
  vx_put hX.1 35 (xo_35 g σ) (C := RX5) (T := TX5) (N := 5) rfl inG_X5 tyX5 tyX5_ok nmX5 (hX.2.1 σ) 1 (by decide) (Nat.le_of_ble_eq_true rfl) rfl (by decide) hw hd rfl k
theorem xg_35_2 {X : Bx} {g : Gx} {cc : ByteArray} {nL : Nat} {own : String} {ret : Option FieldType} {rm : Room} {r : Gx → Option Value} {σ σ' : SS} {pc : Nat} {ls : List (Nat × Value)} {st : List Value} (hX : Okw wsX X g cc nL own ret rm r σ') {i : Nat} (hw : Cond.fieldLink own i "ContractDesk$Script" "found" "I" ∈ wsG) (hd : decode cc pc = .ok (.getfield i, 3)) (k : Vx X g.1 nL (wsX g σ) (pc + 3) ls (.int (gI σ 92) :: st)) : Vx X g.1 nL (wsX g σ) pc ls (.ref (g.2.1 35) :: st) :=
  vx_get hX.1 35 (xo_35 g σ) (C := RX5) (T := TX5) (N := 5) rfl inG_X5 2 (by decide) rfl hw hd k
theorem xp_35_2 {X : Bx} {g : Gx} {cc : ByteArray} {nL : Nat} {own : String} {ret : Option FieldType} {rm : Room} {r : Gx → Option Value} {σ σ' : SS} {pc : Nat} {ls : List (Nat × Value)} {st : List Value} (hX : Okw wsX X g cc nL own ret rm r σ') {i : Nat} {v : Int32} (hw : Cond.fieldLink own i "ContractDesk$Script" "found" "I" ∈ wsG) (hd : decode cc pc = .ok (.putfield i, 3)) (k : Vx X g.1 nL (wsX g (sI σ 92 v)) (pc + 3) ls st) : Vx X g.1 nL (wsX g σ) pc ls (.int v :: .ref (g.2.1 35) :: st) :=
  vx_put hX.1 35 (xo_35 g σ) (C := RX5) (T := TX5) (N := 5) rfl inG_X5 tyX5 tyX5_ok nmX5 (hX.2.1 σ) 2 (by decide) (Nat.le_of_ble_eq_true rfl) rfl (by decide) hw hd rfl k
theorem xg_35_3 {X : Bx} {g : Gx} {cc : ByteArray} {nL : Nat} {own : String} {ret : Option FieldType} {rm : Room} {r : Gx → Option Value} {σ σ' : SS} {pc : Nat} {ls : List (Nat × Value)} {st : List Value} (hX : Okw wsX X g cc nL own ret rm r σ') {i : Nat} (hw : Cond.fieldLink own i "ContractDesk$Script" "inForce" "I" ∈ wsG) (hd : decode cc pc = .ok (.getfield i, 3)) (k : Vx X g.1 nL (wsX g σ) (pc + 3) ls (.int (gI σ 93) :: st)) : Vx X g.1 nL (wsX g σ) pc ls (.ref (g.2.1 35) :: st) :=
  vx_get hX.1 35 (xo_35 g σ) (C := RX5) (T := TX5) (N := 5) rfl inG_X5 3 (by decide) rfl hw hd k
theorem xp_35_3 {X : Bx} {g : Gx} {cc : ByteArray} {nL : Nat} {own : String} {ret : Option FieldType} {rm : Room} {r : Gx → Option Value} {σ σ' : SS} {pc : Nat} {ls : List (Nat × Value)} {st : List Value} (hX : Okw wsX X g cc nL own ret rm r σ') {i : Nat} {v : Int32} (hw : Cond.fieldLink own i "ContractDesk$Script" "inForce" "I" ∈ wsG) (hd : decode cc pc = .ok (.putfield i, 3)) (k : Vx X g.1 nL (wsX g (sI σ 93 v)) (pc + 3) ls st) : Vx X g.1 nL (wsX g σ) pc ls (.int v :: .ref (g.2.1 35) :: st) :=
  vx_put hX.1 35 (xo_35 g σ) (C := RX5) (T := TX5) (N := 5) rfl inG_X5 tyX5 tyX5_ok nmX5 (hX.2.1 σ) 3 (by decide) (Nat.le_of_ble_eq_true rfl) rfl (by decide) hw hd rfl k
theorem xg_35_4 {X : Bx} {g : Gx} {cc : ByteArray} {nL : Nat} {own : String} {ret : Option FieldType} {rm : Room} {r : Gx → Option Value} {σ σ' : SS} {pc : Nat} {ls : List (Nat × Value)} {st : List Value} (hX : Okw wsX X g cc nL own ret rm r σ') {i : Nat} (hw : Cond.fieldLink own i "ContractDesk$Script" "wanted" "I" ∈ wsG) (hd : decode cc pc = .ok (.getfield i, 3)) (k : Vx X g.1 nL (wsX g σ) (pc + 3) ls (.int (gI σ 94) :: st)) : Vx X g.1 nL (wsX g σ) pc ls (.ref (g.2.1 35) :: st) :=
  vx_get hX.1 35 (xo_35 g σ) (C := RX5) (T := TX5) (N := 5) rfl inG_X5 4 (by decide) rfl hw hd k
theorem xp_35_4 {X : Bx} {g : Gx} {cc : ByteArray} {nL : Nat} {own : String} {ret : Option FieldType} {rm : Room} {r : Gx → Option Value} {σ σ' : SS} {pc : Nat} {ls : List (Nat × Value)} {st : List Value} (hX : Okw wsX X g cc nL own ret rm r σ') {i : Nat} {v : Int32} (hw : Cond.fieldLink own i "ContractDesk$Script" "wanted" "I" ∈ wsG) (hd : decode cc pc = .ok (.putfield i, 3)) (k : Vx X g.1 nL (wsX g (sI σ 94 v)) (pc + 3) ls st) : Vx X g.1 nL (wsX g σ) pc ls (.int v :: .ref (g.2.1 35) :: st) :=
  vx_put hX.1 35 (xo_35 g σ) (C := RX5) (T := TX5) (N := 5) rfl inG_X5 tyX5 tyX5_ok nmX5 (hX.2.1 σ) 4 (by decide) (Nat.le_of_ble_eq_true rfl) rfl (by decide) hw hd rfl k
def wsM (g : Gx) (σ : SS) : va_W :=
  [(g.2.1 0, .inr (8, [.ref (g.2.1 1), .int (gI σ 1), .int (gI σ 2), .int (gI σ 3), .ref (g.2.1 2), .ref (g.2.1 3), .ref (g.2.1 4), .ref (g.2.1 5), .int (gI σ 8), .ref (g.2.1 6), .ref (g.2.1 7), .ref (g.2.1 8), .int (gI σ 12), .ref (g.2.1 9), .ref (g.2.1 10), .ref (g.2.1 11), .ref (g.2.1 12), .int (gI σ 17), .ref (g.2.1 13), .ref (g.2.1 14), .ref (g.2.1 15), .ref (g.2.1 16), .int (gI σ 22), .int (gI σ 23), .int (gI σ 24), .int (gI σ 25), .int (gI σ 26), .ref (g.2.1 17), .int (gI σ 28), .ref (g.2.1 18), .ref (g.2.1 19), .ref (g.2.1 20), .ref (g.2.1 21), .ref (g.2.1 22), .int (gI σ 34)])),
   (g.2.1 1, .inl (g.2.2.1, 240, .inl (gA σ 0))),
   (g.2.1 2, .inl (g.2.2.1, 16, .inl (gA σ 4))),
   (g.2.1 3, .inl (g.2.2.1, 16, .inl (gA σ 5))),
   (g.2.1 4, .inl (g.2.2.1, 16, .inl (gA σ 6))),
   (g.2.1 5, .inl (g.2.2.1, 16, .inl (gA σ 7))),
   (g.2.1 6, .inl (g.2.2.1, 30, .inl (gA σ 9))),
   (g.2.1 7, .inl (g.2.2.1, 30, .inl (gA σ 10))),
   (g.2.1 8, .inl (g.2.2.1, 30, .inl (gA σ 11))),
   (g.2.1 9, .inl (g.2.2.1, 16, .inl (gA σ 13))),
   (g.2.1 10, .inl (g.2.2.1, 16, .inl (gA σ 14))),
   (g.2.1 11, .inl (g.2.2.1, 16, .inl (gA σ 15))),
   (g.2.1 12, .inl (g.2.2.1, 16, .inl (gA σ 16))),
   (g.2.1 13, .inl (g.2.2.1, 30, .inl (gA σ 18))),
   (g.2.1 14, .inl (g.2.2.1, 30, .inl (gA σ 19))),
   (g.2.1 15, .inl (g.2.2.1, 30, .inl (gA σ 20))),
   (g.2.1 16, .inl (g.2.2.1, 30, .inl (gA σ 21))),
   (g.2.1 17, .inl (g.2.2.1, 24, .inl (gA σ 27))),
   (g.2.1 18, .inl (g.2.2.1, 6, .inl (gA σ 29))),
   (g.2.1 19, .inl (g.2.2.2.2.1, 2, .inl (gA σ 30))),
   (g.2.1 20, .inl (g.2.2.1, 64, .inl (gA σ 31))),
   (g.2.1 21, .inl (g.2.2.1, 8, .inl (gA σ 32))),
   (g.2.1 22, .inl (g.2.2.1, 4000, .inl (gA σ 33)))]
theorem wsM_fix : wFix wsM := fun _ _ _ => rfl
theorem mo_0 (g : Gx) (σ : SS) : (wsM g σ)[0]? = some (g.2.1 0, .inr (8, [.ref (g.2.1 1), .int (gI σ 1), .int (gI σ 2), .int (gI σ 3), .ref (g.2.1 2), .ref (g.2.1 3), .ref (g.2.1 4), .ref (g.2.1 5), .int (gI σ 8), .ref (g.2.1 6), .ref (g.2.1 7), .ref (g.2.1 8), .int (gI σ 12), .ref (g.2.1 9), .ref (g.2.1 10), .ref (g.2.1 11), .ref (g.2.1 12), .int (gI σ 17), .ref (g.2.1 13), .ref (g.2.1 14), .ref (g.2.1 15), .ref (g.2.1 16), .int (gI σ 22), .int (gI σ 23), .int (gI σ 24), .int (gI σ 25), .int (gI σ 26), .ref (g.2.1 17), .int (gI σ 28), .ref (g.2.1 18), .ref (g.2.1 19), .ref (g.2.1 20), .ref (g.2.1 21), .ref (g.2.1 22), .int (gI σ 34)])) := rfl
theorem mg_0_0 {X : Bx} {g : Gx} {cc : ByteArray} {nL : Nat} {own : String} {ret : Option FieldType} {rm : Room} {r : Gx → Option Value} {σ σ' : SS} {pc : Nat} {ls : List (Nat × Value)} {st : List Value} (hX : Okw wsM X g cc nL own ret rm r σ') {i : Nat} (hw : Cond.fieldLink own i "ContractDeskModel" "text" "[I" ∈ wsG) (hd : decode cc pc = .ok (.getfield i, 3)) (k : Vx X g.1 nL (wsM g σ) (pc + 3) ls (.ref (g.2.1 1) :: st)) : Vx X g.1 nL (wsM g σ) pc ls (.ref (g.2.1 0) :: st) :=
  vx_get hX.1 0 (mo_0 g σ) (C := RX8) (T := TX8) (N := 35) rfl inG_X8 0 (by decide) rfl hw hd k
theorem mg_0_1 {X : Bx} {g : Gx} {cc : ByteArray} {nL : Nat} {own : String} {ret : Option FieldType} {rm : Room} {r : Gx → Option Value} {σ σ' : SS} {pc : Nat} {ls : List (Nat × Value)} {st : List Value} (hX : Okw wsM X g cc nL own ret rm r σ') {i : Nat} (hw : Cond.fieldLink own i "ContractDeskModel" "fed" "I" ∈ wsG) (hd : decode cc pc = .ok (.getfield i, 3)) (k : Vx X g.1 nL (wsM g σ) (pc + 3) ls (.int (gI σ 1) :: st)) : Vx X g.1 nL (wsM g σ) pc ls (.ref (g.2.1 0) :: st) :=
  vx_get hX.1 0 (mo_0 g σ) (C := RX8) (T := TX8) (N := 35) rfl inG_X8 1 (by decide) rfl hw hd k
theorem mp_0_1 {X : Bx} {g : Gx} {cc : ByteArray} {nL : Nat} {own : String} {ret : Option FieldType} {rm : Room} {r : Gx → Option Value} {σ σ' : SS} {pc : Nat} {ls : List (Nat × Value)} {st : List Value} (hX : Okw wsM X g cc nL own ret rm r σ') {i : Nat} {v : Int32} (hw : Cond.fieldLink own i "ContractDeskModel" "fed" "I" ∈ wsG) (hd : decode cc pc = .ok (.putfield i, 3)) (k : Vx X g.1 nL (wsM g (sI σ 1 v)) (pc + 3) ls st) : Vx X g.1 nL (wsM g σ) pc ls (.int v :: .ref (g.2.1 0) :: st) :=
  vx_put hX.1 0 (mo_0 g σ) (C := RX8) (T := TX8) (N := 35) rfl inG_X8 tyX8 tyX8_ok nmX8 (hX.2.1 σ) 1 (by decide) (Nat.le_of_ble_eq_true rfl) rfl (by decide) hw hd rfl k
theorem mg_0_2 {X : Bx} {g : Gx} {cc : ByteArray} {nL : Nat} {own : String} {ret : Option FieldType} {rm : Room} {r : Gx → Option Value} {σ σ' : SS} {pc : Nat} {ls : List (Nat × Value)} {st : List Value} (hX : Okw wsM X g cc nL own ret rm r σ') {i : Nat} (hw : Cond.fieldLink own i "ContractDeskModel" "faultPlace" "I" ∈ wsG) (hd : decode cc pc = .ok (.getfield i, 3)) (k : Vx X g.1 nL (wsM g σ) (pc + 3) ls (.int (gI σ 2) :: st)) : Vx X g.1 nL (wsM g σ) pc ls (.ref (g.2.1 0) :: st) :=
  vx_get hX.1 0 (mo_0 g σ) (C := RX8) (T := TX8) (N := 35) rfl inG_X8 2 (by decide) rfl hw hd k
theorem mp_0_2 {X : Bx} {g : Gx} {cc : ByteArray} {nL : Nat} {own : String} {ret : Option FieldType} {rm : Room} {r : Gx → Option Value} {σ σ' : SS} {pc : Nat} {ls : List (Nat × Value)} {st : List Value} (hX : Okw wsM X g cc nL own ret rm r σ') {i : Nat} {v : Int32} (hw : Cond.fieldLink own i "ContractDeskModel" "faultPlace" "I" ∈ wsG) (hd : decode cc pc = .ok (.putfield i, 3)) (k : Vx X g.1 nL (wsM g (sI σ 2 v)) (pc + 3) ls st) : Vx X g.1 nL (wsM g σ) pc ls (.int v :: .ref (g.2.1 0) :: st) :=
  vx_put hX.1 0 (mo_0 g σ) (C := RX8) (T := TX8) (N := 35) rfl inG_X8 tyX8 tyX8_ok nmX8 (hX.2.1 σ) 2 (by decide) (Nat.le_of_ble_eq_true rfl) rfl (by decide) hw hd rfl k
theorem mg_0_3 {X : Bx} {g : Gx} {cc : ByteArray} {nL : Nat} {own : String} {ret : Option FieldType} {rm : Room} {r : Gx → Option Value} {σ σ' : SS} {pc : Nat} {ls : List (Nat × Value)} {st : List Value} (hX : Okw wsM X g cc nL own ret rm r σ') {i : Nat} (hw : Cond.fieldLink own i "ContractDeskModel" "clauses" "I" ∈ wsG) (hd : decode cc pc = .ok (.getfield i, 3)) (k : Vx X g.1 nL (wsM g σ) (pc + 3) ls (.int (gI σ 3) :: st)) : Vx X g.1 nL (wsM g σ) pc ls (.ref (g.2.1 0) :: st) :=
  vx_get hX.1 0 (mo_0 g σ) (C := RX8) (T := TX8) (N := 35) rfl inG_X8 3 (by decide) rfl hw hd k
theorem mp_0_3 {X : Bx} {g : Gx} {cc : ByteArray} {nL : Nat} {own : String} {ret : Option FieldType} {rm : Room} {r : Gx → Option Value} {σ σ' : SS} {pc : Nat} {ls : List (Nat × Value)} {st : List Value} (hX : Okw wsM X g cc nL own ret rm r σ') {i : Nat} {v : Int32} (hw : Cond.fieldLink own i "ContractDeskModel" "clauses" "I" ∈ wsG) (hd : decode cc pc = .ok (.putfield i, 3)) (k : Vx X g.1 nL (wsM g (sI σ 3 v)) (pc + 3) ls st) : Vx X g.1 nL (wsM g σ) pc ls (.int v :: .ref (g.2.1 0) :: st) :=
  vx_put hX.1 0 (mo_0 g σ) (C := RX8) (T := TX8) (N := 35) rfl inG_X8 tyX8 tyX8_ok nmX8 (hX.2.1 σ) 3 (by decide) (Nat.le_of_ble_eq_true rfl) rfl (by decide) hw hd rfl k
theorem mg_0_4 {X : Bx} {g : Gx} {cc : ByteArray} {nL : Nat} {own : String} {ret : Option FieldType} {rm : Room} {r : Gx → Option Value} {σ σ' : SS} {pc : Nat} {ls : List (Nat × Value)} {st : List Value} (hX : Okw wsM X g cc nL own ret rm r σ') {i : Nat} (hw : Cond.fieldLink own i "ContractDeskModel" "around" "[I" ∈ wsG) (hd : decode cc pc = .ok (.getfield i, 3)) (k : Vx X g.1 nL (wsM g σ) (pc + 3) ls (.ref (g.2.1 2) :: st)) : Vx X g.1 nL (wsM g σ) pc ls (.ref (g.2.1 0) :: st) :=
  vx_get hX.1 0 (mo_0 g σ) (C := RX8) (T := TX8) (N := 35) rfl inG_X8 4 (by decide) rfl hw hd k
theorem mg_0_5 {X : Bx} {g : Gx} {cc : ByteArray} {nL : Nat} {own : String} {ret : Option FieldType} {rm : Room} {r : Gx → Option Value} {σ σ' : SS} {pc : Nat} {ls : List (Nat × Value)} {st : List Value} (hX : Okw wsM X g cc nL own ret rm r σ') {i : Nat} (hw : Cond.fieldLink own i "ContractDeskModel" "yes" "[I" ∈ wsG) (hd : decode cc pc = .ok (.getfield i, 3)) (k : Vx X g.1 nL (wsM g σ) (pc + 3) ls (.ref (g.2.1 3) :: st)) : Vx X g.1 nL (wsM g σ) pc ls (.ref (g.2.1 0) :: st) :=
  vx_get hX.1 0 (mo_0 g σ) (C := RX8) (T := TX8) (N := 35) rfl inG_X8 5 (by decide) rfl hw hd k
theorem mg_0_6 {X : Bx} {g : Gx} {cc : ByteArray} {nL : Nat} {own : String} {ret : Option FieldType} {rm : Room} {r : Gx → Option Value} {σ σ' : SS} {pc : Nat} {ls : List (Nat × Value)} {st : List Value} (hX : Okw wsM X g cc nL own ret rm r σ') {i : Nat} (hw : Cond.fieldLink own i "ContractDeskModel" "no" "[I" ∈ wsG) (hd : decode cc pc = .ok (.getfield i, 3)) (k : Vx X g.1 nL (wsM g σ) (pc + 3) ls (.ref (g.2.1 4) :: st)) : Vx X g.1 nL (wsM g σ) pc ls (.ref (g.2.1 0) :: st) :=
  vx_get hX.1 0 (mo_0 g σ) (C := RX8) (T := TX8) (N := 35) rfl inG_X8 6 (by decide) rfl hw hd k
theorem mg_0_7 {X : Bx} {g : Gx} {cc : ByteArray} {nL : Nat} {own : String} {ret : Option FieldType} {rm : Room} {r : Gx → Option Value} {σ σ' : SS} {pc : Nat} {ls : List (Nat × Value)} {st : List Value} (hX : Okw wsM X g cc nL own ret rm r σ') {i : Nat} (hw : Cond.fieldLink own i "ContractDeskModel" "called" "[I" ∈ wsG) (hd : decode cc pc = .ok (.getfield i, 3)) (k : Vx X g.1 nL (wsM g σ) (pc + 3) ls (.ref (g.2.1 5) :: st)) : Vx X g.1 nL (wsM g σ) pc ls (.ref (g.2.1 0) :: st) :=
  vx_get hX.1 0 (mo_0 g σ) (C := RX8) (T := TX8) (N := 35) rfl inG_X8 7 (by decide) rfl hw hd k
theorem mg_0_8 {X : Bx} {g : Gx} {cc : ByteArray} {nL : Nat} {own : String} {ret : Option FieldType} {rm : Room} {r : Gx → Option Value} {σ σ' : SS} {pc : Nat} {ls : List (Nat × Value)} {st : List Value} (hX : Okw wsM X g cc nL own ret rm r σ') {i : Nat} (hw : Cond.fieldLink own i "ContractDeskModel" "parts" "I" ∈ wsG) (hd : decode cc pc = .ok (.getfield i, 3)) (k : Vx X g.1 nL (wsM g σ) (pc + 3) ls (.int (gI σ 8) :: st)) : Vx X g.1 nL (wsM g σ) pc ls (.ref (g.2.1 0) :: st) :=
  vx_get hX.1 0 (mo_0 g σ) (C := RX8) (T := TX8) (N := 35) rfl inG_X8 8 (by decide) rfl hw hd k
theorem mp_0_8 {X : Bx} {g : Gx} {cc : ByteArray} {nL : Nat} {own : String} {ret : Option FieldType} {rm : Room} {r : Gx → Option Value} {σ σ' : SS} {pc : Nat} {ls : List (Nat × Value)} {st : List Value} (hX : Okw wsM X g cc nL own ret rm r σ') {i : Nat} {v : Int32} (hw : Cond.fieldLink own i "ContractDeskModel" "parts" "I" ∈ wsG) (hd : decode cc pc = .ok (.putfield i, 3)) (k : Vx X g.1 nL (wsM g (sI σ 8 v)) (pc + 3) ls st) : Vx X g.1 nL (wsM g σ) pc ls (.int v :: .ref (g.2.1 0) :: st) :=
  vx_put hX.1 0 (mo_0 g σ) (C := RX8) (T := TX8) (N := 35) rfl inG_X8 tyX8 tyX8_ok nmX8 (hX.2.1 σ) 8 (by decide) (Nat.le_of_ble_eq_true rfl) rfl (by decide) hw hd rfl k
theorem mg_0_9 {X : Bx} {g : Gx} {cc : ByteArray} {nL : Nat} {own : String} {ret : Option FieldType} {rm : Room} {r : Gx → Option Value} {σ σ' : SS} {pc : Nat} {ls : List (Nat × Value)} {st : List Value} (hX : Okw wsM X g cc nL own ret rm r σ') {i : Nat} (hw : Cond.fieldLink own i "ContractDeskModel" "of" "[I" ∈ wsG) (hd : decode cc pc = .ok (.getfield i, 3)) (k : Vx X g.1 nL (wsM g σ) (pc + 3) ls (.ref (g.2.1 6) :: st)) : Vx X g.1 nL (wsM g σ) pc ls (.ref (g.2.1 0) :: st) :=
  vx_get hX.1 0 (mo_0 g σ) (C := RX8) (T := TX8) (N := 35) rfl inG_X8 9 (by decide) rfl hw hd k
theorem mg_0_10 {X : Bx} {g : Gx} {cc : ByteArray} {nL : Nat} {own : String} {ret : Option FieldType} {rm : Room} {r : Gx → Option Value} {σ σ' : SS} {pc : Nat} {ls : List (Nat × Value)} {st : List Value} (hX : Okw wsM X g cc nL own ret rm r σ') {i : Nat} (hw : Cond.fieldLink own i "ContractDeskModel" "sort" "[I" ∈ wsG) (hd : decode cc pc = .ok (.getfield i, 3)) (k : Vx X g.1 nL (wsM g σ) (pc + 3) ls (.ref (g.2.1 7) :: st)) : Vx X g.1 nL (wsM g σ) pc ls (.ref (g.2.1 0) :: st) :=
  vx_get hX.1 0 (mo_0 g σ) (C := RX8) (T := TX8) (N := 35) rfl inG_X8 10 (by decide) rfl hw hd k
theorem mg_0_11 {X : Bx} {g : Gx} {cc : ByteArray} {nL : Nat} {own : String} {ret : Option FieldType} {rm : Room} {r : Gx → Option Value} {σ σ' : SS} {pc : Nat} {ls : List (Nat × Value)} {st : List Value} (hX : Okw wsM X g cc nL own ret rm r σ') {i : Nat} (hw : Cond.fieldLink own i "ContractDeskModel" "num" "[I" ∈ wsG) (hd : decode cc pc = .ok (.getfield i, 3)) (k : Vx X g.1 nL (wsM g σ) (pc + 3) ls (.ref (g.2.1 8) :: st)) : Vx X g.1 nL (wsM g σ) pc ls (.ref (g.2.1 0) :: st) :=
  vx_get hX.1 0 (mo_0 g σ) (C := RX8) (T := TX8) (N := 35) rfl inG_X8 11 (by decide) rfl hw hd k
theorem mg_0_12 {X : Bx} {g : Gx} {cc : ByteArray} {nL : Nat} {own : String} {ret : Option FieldType} {rm : Room} {r : Gx → Option Value} {σ σ' : SS} {pc : Nat} {ls : List (Nat × Value)} {st : List Value} (hX : Okw wsM X g cc nL own ret rm r σ') {i : Nat} (hw : Cond.fieldLink own i "ContractDeskModel" "newClauses" "I" ∈ wsG) (hd : decode cc pc = .ok (.getfield i, 3)) (k : Vx X g.1 nL (wsM g σ) (pc + 3) ls (.int (gI σ 12) :: st)) : Vx X g.1 nL (wsM g σ) pc ls (.ref (g.2.1 0) :: st) :=
  vx_get hX.1 0 (mo_0 g σ) (C := RX8) (T := TX8) (N := 35) rfl inG_X8 12 (by decide) rfl hw hd k
theorem mp_0_12 {X : Bx} {g : Gx} {cc : ByteArray} {nL : Nat} {own : String} {ret : Option FieldType} {rm : Room} {r : Gx → Option Value} {σ σ' : SS} {pc : Nat} {ls : List (Nat × Value)} {st : List Value} (hX : Okw wsM X g cc nL own ret rm r σ') {i : Nat} {v : Int32} (hw : Cond.fieldLink own i "ContractDeskModel" "newClauses" "I" ∈ wsG) (hd : decode cc pc = .ok (.putfield i, 3)) (k : Vx X g.1 nL (wsM g (sI σ 12 v)) (pc + 3) ls st) : Vx X g.1 nL (wsM g σ) pc ls (.int v :: .ref (g.2.1 0) :: st) :=
  vx_put hX.1 0 (mo_0 g σ) (C := RX8) (T := TX8) (N := 35) rfl inG_X8 tyX8 tyX8_ok nmX8 (hX.2.1 σ) 12 (by decide) (Nat.le_of_ble_eq_true rfl) rfl (by decide) hw hd rfl k
theorem mg_0_13 {X : Bx} {g : Gx} {cc : ByteArray} {nL : Nat} {own : String} {ret : Option FieldType} {rm : Room} {r : Gx → Option Value} {σ σ' : SS} {pc : Nat} {ls : List (Nat × Value)} {st : List Value} (hX : Okw wsM X g cc nL own ret rm r σ') {i : Nat} (hw : Cond.fieldLink own i "ContractDeskModel" "newAround" "[I" ∈ wsG) (hd : decode cc pc = .ok (.getfield i, 3)) (k : Vx X g.1 nL (wsM g σ) (pc + 3) ls (.ref (g.2.1 9) :: st)) : Vx X g.1 nL (wsM g σ) pc ls (.ref (g.2.1 0) :: st) :=
  vx_get hX.1 0 (mo_0 g σ) (C := RX8) (T := TX8) (N := 35) rfl inG_X8 13 (by decide) rfl hw hd k
theorem mg_0_14 {X : Bx} {g : Gx} {cc : ByteArray} {nL : Nat} {own : String} {ret : Option FieldType} {rm : Room} {r : Gx → Option Value} {σ σ' : SS} {pc : Nat} {ls : List (Nat × Value)} {st : List Value} (hX : Okw wsM X g cc nL own ret rm r σ') {i : Nat} (hw : Cond.fieldLink own i "ContractDeskModel" "newYes" "[I" ∈ wsG) (hd : decode cc pc = .ok (.getfield i, 3)) (k : Vx X g.1 nL (wsM g σ) (pc + 3) ls (.ref (g.2.1 10) :: st)) : Vx X g.1 nL (wsM g σ) pc ls (.ref (g.2.1 0) :: st) :=
  vx_get hX.1 0 (mo_0 g σ) (C := RX8) (T := TX8) (N := 35) rfl inG_X8 14 (by decide) rfl hw hd k
theorem mg_0_15 {X : Bx} {g : Gx} {cc : ByteArray} {nL : Nat} {own : String} {ret : Option FieldType} {rm : Room} {r : Gx → Option Value} {σ σ' : SS} {pc : Nat} {ls : List (Nat × Value)} {st : List Value} (hX : Okw wsM X g cc nL own ret rm r σ') {i : Nat} (hw : Cond.fieldLink own i "ContractDeskModel" "newNo" "[I" ∈ wsG) (hd : decode cc pc = .ok (.getfield i, 3)) (k : Vx X g.1 nL (wsM g σ) (pc + 3) ls (.ref (g.2.1 11) :: st)) : Vx X g.1 nL (wsM g σ) pc ls (.ref (g.2.1 0) :: st) :=
  vx_get hX.1 0 (mo_0 g σ) (C := RX8) (T := TX8) (N := 35) rfl inG_X8 15 (by decide) rfl hw hd k
theorem mg_0_16 {X : Bx} {g : Gx} {cc : ByteArray} {nL : Nat} {own : String} {ret : Option FieldType} {rm : Room} {r : Gx → Option Value} {σ σ' : SS} {pc : Nat} {ls : List (Nat × Value)} {st : List Value} (hX : Okw wsM X g cc nL own ret rm r σ') {i : Nat} (hw : Cond.fieldLink own i "ContractDeskModel" "newCalled" "[I" ∈ wsG) (hd : decode cc pc = .ok (.getfield i, 3)) (k : Vx X g.1 nL (wsM g σ) (pc + 3) ls (.ref (g.2.1 12) :: st)) : Vx X g.1 nL (wsM g σ) pc ls (.ref (g.2.1 0) :: st) :=
  vx_get hX.1 0 (mo_0 g σ) (C := RX8) (T := TX8) (N := 35) rfl inG_X8 16 (by decide) rfl hw hd k
theorem mg_0_17 {X : Bx} {g : Gx} {cc : ByteArray} {nL : Nat} {own : String} {ret : Option FieldType} {rm : Room} {r : Gx → Option Value} {σ σ' : SS} {pc : Nat} {ls : List (Nat × Value)} {st : List Value} (hX : Okw wsM X g cc nL own ret rm r σ') {i : Nat} (hw : Cond.fieldLink own i "ContractDeskModel" "newParts" "I" ∈ wsG) (hd : decode cc pc = .ok (.getfield i, 3)) (k : Vx X g.1 nL (wsM g σ) (pc + 3) ls (.int (gI σ 17) :: st)) : Vx X g.1 nL (wsM g σ) pc ls (.ref (g.2.1 0) :: st) :=
  vx_get hX.1 0 (mo_0 g σ) (C := RX8) (T := TX8) (N := 35) rfl inG_X8 17 (by decide) rfl hw hd k
theorem mp_0_17 {X : Bx} {g : Gx} {cc : ByteArray} {nL : Nat} {own : String} {ret : Option FieldType} {rm : Room} {r : Gx → Option Value} {σ σ' : SS} {pc : Nat} {ls : List (Nat × Value)} {st : List Value} (hX : Okw wsM X g cc nL own ret rm r σ') {i : Nat} {v : Int32} (hw : Cond.fieldLink own i "ContractDeskModel" "newParts" "I" ∈ wsG) (hd : decode cc pc = .ok (.putfield i, 3)) (k : Vx X g.1 nL (wsM g (sI σ 17 v)) (pc + 3) ls st) : Vx X g.1 nL (wsM g σ) pc ls (.int v :: .ref (g.2.1 0) :: st) :=
  vx_put hX.1 0 (mo_0 g σ) (C := RX8) (T := TX8) (N := 35) rfl inG_X8 tyX8 tyX8_ok nmX8 (hX.2.1 σ) 17 (by decide) (Nat.le_of_ble_eq_true rfl) rfl (by decide) hw hd rfl k
theorem mg_0_18 {X : Bx} {g : Gx} {cc : ByteArray} {nL : Nat} {own : String} {ret : Option FieldType} {rm : Room} {r : Gx → Option Value} {σ σ' : SS} {pc : Nat} {ls : List (Nat × Value)} {st : List Value} (hX : Okw wsM X g cc nL own ret rm r σ') {i : Nat} (hw : Cond.fieldLink own i "ContractDeskModel" "newOf" "[I" ∈ wsG) (hd : decode cc pc = .ok (.getfield i, 3)) (k : Vx X g.1 nL (wsM g σ) (pc + 3) ls (.ref (g.2.1 13) :: st)) : Vx X g.1 nL (wsM g σ) pc ls (.ref (g.2.1 0) :: st) :=
  vx_get hX.1 0 (mo_0 g σ) (C := RX8) (T := TX8) (N := 35) rfl inG_X8 18 (by decide) rfl hw hd k
theorem mg_0_19 {X : Bx} {g : Gx} {cc : ByteArray} {nL : Nat} {own : String} {ret : Option FieldType} {rm : Room} {r : Gx → Option Value} {σ σ' : SS} {pc : Nat} {ls : List (Nat × Value)} {st : List Value} (hX : Okw wsM X g cc nL own ret rm r σ') {i : Nat} (hw : Cond.fieldLink own i "ContractDeskModel" "newSort" "[I" ∈ wsG) (hd : decode cc pc = .ok (.getfield i, 3)) (k : Vx X g.1 nL (wsM g σ) (pc + 3) ls (.ref (g.2.1 14) :: st)) : Vx X g.1 nL (wsM g σ) pc ls (.ref (g.2.1 0) :: st) :=
  vx_get hX.1 0 (mo_0 g σ) (C := RX8) (T := TX8) (N := 35) rfl inG_X8 19 (by decide) rfl hw hd k
theorem mg_0_20 {X : Bx} {g : Gx} {cc : ByteArray} {nL : Nat} {own : String} {ret : Option FieldType} {rm : Room} {r : Gx → Option Value} {σ σ' : SS} {pc : Nat} {ls : List (Nat × Value)} {st : List Value} (hX : Okw wsM X g cc nL own ret rm r σ') {i : Nat} (hw : Cond.fieldLink own i "ContractDeskModel" "newNum" "[I" ∈ wsG) (hd : decode cc pc = .ok (.getfield i, 3)) (k : Vx X g.1 nL (wsM g σ) (pc + 3) ls (.ref (g.2.1 15) :: st)) : Vx X g.1 nL (wsM g σ) pc ls (.ref (g.2.1 0) :: st) :=
  vx_get hX.1 0 (mo_0 g σ) (C := RX8) (T := TX8) (N := 35) rfl inG_X8 20 (by decide) rfl hw hd k
theorem mg_0_21 {X : Bx} {g : Gx} {cc : ByteArray} {nL : Nat} {own : String} {ret : Option FieldType} {rm : Room} {r : Gx → Option Value} {σ σ' : SS} {pc : Nat} {ls : List (Nat × Value)} {st : List Value} (hX : Okw wsM X g cc nL own ret rm r σ') {i : Nat} (hw : Cond.fieldLink own i "ContractDeskModel" "newPlace" "[I" ∈ wsG) (hd : decode cc pc = .ok (.getfield i, 3)) (k : Vx X g.1 nL (wsM g σ) (pc + 3) ls (.ref (g.2.1 16) :: st)) : Vx X g.1 nL (wsM g σ) pc ls (.ref (g.2.1 0) :: st) :=
  vx_get hX.1 0 (mo_0 g σ) (C := RX8) (T := TX8) (N := 35) rfl inG_X8 21 (by decide) rfl hw hd k
theorem mg_0_22 {X : Bx} {g : Gx} {cc : ByteArray} {nL : Nat} {own : String} {ret : Option FieldType} {rm : Room} {r : Gx → Option Value} {σ σ' : SS} {pc : Nat} {ls : List (Nat × Value)} {st : List Value} (hX : Okw wsM X g cc nL own ret rm r σ') {i : Nat} (hw : Cond.fieldLink own i "ContractDeskModel" "at" "I" ∈ wsG) (hd : decode cc pc = .ok (.getfield i, 3)) (k : Vx X g.1 nL (wsM g σ) (pc + 3) ls (.int (gI σ 22) :: st)) : Vx X g.1 nL (wsM g σ) pc ls (.ref (g.2.1 0) :: st) :=
  vx_get hX.1 0 (mo_0 g σ) (C := RX8) (T := TX8) (N := 35) rfl inG_X8 22 (by decide) rfl hw hd k
theorem mp_0_22 {X : Bx} {g : Gx} {cc : ByteArray} {nL : Nat} {own : String} {ret : Option FieldType} {rm : Room} {r : Gx → Option Value} {σ σ' : SS} {pc : Nat} {ls : List (Nat × Value)} {st : List Value} (hX : Okw wsM X g cc nL own ret rm r σ') {i : Nat} {v : Int32} (hw : Cond.fieldLink own i "ContractDeskModel" "at" "I" ∈ wsG) (hd : decode cc pc = .ok (.putfield i, 3)) (k : Vx X g.1 nL (wsM g (sI σ 22 v)) (pc + 3) ls st) : Vx X g.1 nL (wsM g σ) pc ls (.int v :: .ref (g.2.1 0) :: st) :=
  vx_put hX.1 0 (mo_0 g σ) (C := RX8) (T := TX8) (N := 35) rfl inG_X8 tyX8 tyX8_ok nmX8 (hX.2.1 σ) 22 (by decide) (Nat.le_of_ble_eq_true rfl) rfl (by decide) hw hd rfl k
theorem mg_0_23 {X : Bx} {g : Gx} {cc : ByteArray} {nL : Nat} {own : String} {ret : Option FieldType} {rm : Room} {r : Gx → Option Value} {σ σ' : SS} {pc : Nat} {ls : List (Nat × Value)} {st : List Value} (hX : Okw wsM X g cc nL own ret rm r σ') {i : Nat} (hw : Cond.fieldLink own i "ContractDeskModel" "fault" "I" ∈ wsG) (hd : decode cc pc = .ok (.getfield i, 3)) (k : Vx X g.1 nL (wsM g σ) (pc + 3) ls (.int (gI σ 23) :: st)) : Vx X g.1 nL (wsM g σ) pc ls (.ref (g.2.1 0) :: st) :=
  vx_get hX.1 0 (mo_0 g σ) (C := RX8) (T := TX8) (N := 35) rfl inG_X8 23 (by decide) rfl hw hd k
theorem mp_0_23 {X : Bx} {g : Gx} {cc : ByteArray} {nL : Nat} {own : String} {ret : Option FieldType} {rm : Room} {r : Gx → Option Value} {σ σ' : SS} {pc : Nat} {ls : List (Nat × Value)} {st : List Value} (hX : Okw wsM X g cc nL own ret rm r σ') {i : Nat} {v : Int32} (hw : Cond.fieldLink own i "ContractDeskModel" "fault" "I" ∈ wsG) (hd : decode cc pc = .ok (.putfield i, 3)) (k : Vx X g.1 nL (wsM g (sI σ 23 v)) (pc + 3) ls st) : Vx X g.1 nL (wsM g σ) pc ls (.int v :: .ref (g.2.1 0) :: st) :=
  vx_put hX.1 0 (mo_0 g σ) (C := RX8) (T := TX8) (N := 35) rfl inG_X8 tyX8 tyX8_ok nmX8 (hX.2.1 σ) 23 (by decide) (Nat.le_of_ble_eq_true rfl) rfl (by decide) hw hd rfl k
theorem mg_0_24 {X : Bx} {g : Gx} {cc : ByteArray} {nL : Nat} {own : String} {ret : Option FieldType} {rm : Room} {r : Gx → Option Value} {σ σ' : SS} {pc : Nat} {ls : List (Nat × Value)} {st : List Value} (hX : Okw wsM X g cc nL own ret rm r σ') {i : Nat} (hw : Cond.fieldLink own i "ContractDeskModel" "known" "I" ∈ wsG) (hd : decode cc pc = .ok (.getfield i, 3)) (k : Vx X g.1 nL (wsM g σ) (pc + 3) ls (.int (gI σ 24) :: st)) : Vx X g.1 nL (wsM g σ) pc ls (.ref (g.2.1 0) :: st) :=
  vx_get hX.1 0 (mo_0 g σ) (C := RX8) (T := TX8) (N := 35) rfl inG_X8 24 (by decide) rfl hw hd k
theorem mp_0_24 {X : Bx} {g : Gx} {cc : ByteArray} {nL : Nat} {own : String} {ret : Option FieldType} {rm : Room} {r : Gx → Option Value} {σ σ' : SS} {pc : Nat} {ls : List (Nat × Value)} {st : List Value} (hX : Okw wsM X g cc nL own ret rm r σ') {i : Nat} {v : Int32} (hw : Cond.fieldLink own i "ContractDeskModel" "known" "I" ∈ wsG) (hd : decode cc pc = .ok (.putfield i, 3)) (k : Vx X g.1 nL (wsM g (sI σ 24 v)) (pc + 3) ls st) : Vx X g.1 nL (wsM g σ) pc ls (.int v :: .ref (g.2.1 0) :: st) :=
  vx_put hX.1 0 (mo_0 g σ) (C := RX8) (T := TX8) (N := 35) rfl inG_X8 tyX8 tyX8_ok nmX8 (hX.2.1 σ) 24 (by decide) (Nat.le_of_ble_eq_true rfl) rfl (by decide) hw hd rfl k
theorem mg_0_25 {X : Bx} {g : Gx} {cc : ByteArray} {nL : Nat} {own : String} {ret : Option FieldType} {rm : Room} {r : Gx → Option Value} {σ σ' : SS} {pc : Nat} {ls : List (Nat × Value)} {st : List Value} (hX : Okw wsM X g cc nL own ret rm r σ') {i : Nat} (hw : Cond.fieldLink own i "ContractDeskModel" "said" "I" ∈ wsG) (hd : decode cc pc = .ok (.getfield i, 3)) (k : Vx X g.1 nL (wsM g σ) (pc + 3) ls (.int (gI σ 25) :: st)) : Vx X g.1 nL (wsM g σ) pc ls (.ref (g.2.1 0) :: st) :=
  vx_get hX.1 0 (mo_0 g σ) (C := RX8) (T := TX8) (N := 35) rfl inG_X8 25 (by decide) rfl hw hd k
theorem mp_0_25 {X : Bx} {g : Gx} {cc : ByteArray} {nL : Nat} {own : String} {ret : Option FieldType} {rm : Room} {r : Gx → Option Value} {σ σ' : SS} {pc : Nat} {ls : List (Nat × Value)} {st : List Value} (hX : Okw wsM X g cc nL own ret rm r σ') {i : Nat} {v : Int32} (hw : Cond.fieldLink own i "ContractDeskModel" "said" "I" ∈ wsG) (hd : decode cc pc = .ok (.putfield i, 3)) (k : Vx X g.1 nL (wsM g (sI σ 25 v)) (pc + 3) ls st) : Vx X g.1 nL (wsM g σ) pc ls (.int v :: .ref (g.2.1 0) :: st) :=
  vx_put hX.1 0 (mo_0 g σ) (C := RX8) (T := TX8) (N := 35) rfl inG_X8 tyX8 tyX8_ok nmX8 (hX.2.1 σ) 25 (by decide) (Nat.le_of_ble_eq_true rfl) rfl (by decide) hw hd rfl k
theorem mg_0_26 {X : Bx} {g : Gx} {cc : ByteArray} {nL : Nat} {own : String} {ret : Option FieldType} {rm : Room} {r : Gx → Option Value} {σ σ' : SS} {pc : Nat} {ls : List (Nat × Value)} {st : List Value} (hX : Okw wsM X g cc nL own ret rm r σ') {i : Nat} (hw : Cond.fieldLink own i "ContractDeskModel" "struck" "I" ∈ wsG) (hd : decode cc pc = .ok (.getfield i, 3)) (k : Vx X g.1 nL (wsM g σ) (pc + 3) ls (.int (gI σ 26) :: st)) : Vx X g.1 nL (wsM g σ) pc ls (.ref (g.2.1 0) :: st) :=
  vx_get hX.1 0 (mo_0 g σ) (C := RX8) (T := TX8) (N := 35) rfl inG_X8 26 (by decide) rfl hw hd k
theorem mp_0_26 {X : Bx} {g : Gx} {cc : ByteArray} {nL : Nat} {own : String} {ret : Option FieldType} {rm : Room} {r : Gx → Option Value} {σ σ' : SS} {pc : Nat} {ls : List (Nat × Value)} {st : List Value} (hX : Okw wsM X g cc nL own ret rm r σ') {i : Nat} {v : Int32} (hw : Cond.fieldLink own i "ContractDeskModel" "struck" "I" ∈ wsG) (hd : decode cc pc = .ok (.putfield i, 3)) (k : Vx X g.1 nL (wsM g (sI σ 26 v)) (pc + 3) ls st) : Vx X g.1 nL (wsM g σ) pc ls (.int v :: .ref (g.2.1 0) :: st) :=
  vx_put hX.1 0 (mo_0 g σ) (C := RX8) (T := TX8) (N := 35) rfl inG_X8 tyX8 tyX8_ok nmX8 (hX.2.1 σ) 26 (by decide) (Nat.le_of_ble_eq_true rfl) rfl (by decide) hw hd rfl k
theorem mg_0_27 {X : Bx} {g : Gx} {cc : ByteArray} {nL : Nat} {own : String} {ret : Option FieldType} {rm : Room} {r : Gx → Option Value} {σ σ' : SS} {pc : Nat} {ls : List (Nat × Value)} {st : List Value} (hX : Okw wsM X g cc nL own ret rm r σ') {i : Nat} (hw : Cond.fieldLink own i "ContractDeskModel" "past" "[I" ∈ wsG) (hd : decode cc pc = .ok (.getfield i, 3)) (k : Vx X g.1 nL (wsM g σ) (pc + 3) ls (.ref (g.2.1 17) :: st)) : Vx X g.1 nL (wsM g σ) pc ls (.ref (g.2.1 0) :: st) :=
  vx_get hX.1 0 (mo_0 g σ) (C := RX8) (T := TX8) (N := 35) rfl inG_X8 27 (by decide) rfl hw hd k
theorem mg_0_28 {X : Bx} {g : Gx} {cc : ByteArray} {nL : Nat} {own : String} {ret : Option FieldType} {rm : Room} {r : Gx → Option Value} {σ σ' : SS} {pc : Nat} {ls : List (Nat × Value)} {st : List Value} (hX : Okw wsM X g cc nL own ret rm r σ') {i : Nat} (hw : Cond.fieldLink own i "ContractDeskModel" "acts" "I" ∈ wsG) (hd : decode cc pc = .ok (.getfield i, 3)) (k : Vx X g.1 nL (wsM g σ) (pc + 3) ls (.int (gI σ 28) :: st)) : Vx X g.1 nL (wsM g σ) pc ls (.ref (g.2.1 0) :: st) :=
  vx_get hX.1 0 (mo_0 g σ) (C := RX8) (T := TX8) (N := 35) rfl inG_X8 28 (by decide) rfl hw hd k
theorem mp_0_28 {X : Bx} {g : Gx} {cc : ByteArray} {nL : Nat} {own : String} {ret : Option FieldType} {rm : Room} {r : Gx → Option Value} {σ σ' : SS} {pc : Nat} {ls : List (Nat × Value)} {st : List Value} (hX : Okw wsM X g cc nL own ret rm r σ') {i : Nat} {v : Int32} (hw : Cond.fieldLink own i "ContractDeskModel" "acts" "I" ∈ wsG) (hd : decode cc pc = .ok (.putfield i, 3)) (k : Vx X g.1 nL (wsM g (sI σ 28 v)) (pc + 3) ls st) : Vx X g.1 nL (wsM g σ) pc ls (.int v :: .ref (g.2.1 0) :: st) :=
  vx_put hX.1 0 (mo_0 g σ) (C := RX8) (T := TX8) (N := 35) rfl inG_X8 tyX8 tyX8_ok nmX8 (hX.2.1 σ) 28 (by decide) (Nat.le_of_ble_eq_true rfl) rfl (by decide) hw hd rfl k
theorem mg_0_29 {X : Bx} {g : Gx} {cc : ByteArray} {nL : Nat} {own : String} {ret : Option FieldType} {rm : Room} {r : Gx → Option Value} {σ σ' : SS} {pc : Nat} {ls : List (Nat × Value)} {st : List Value} (hX : Okw wsM X g cc nL own ret rm r σ') {i : Nat} (hw : Cond.fieldLink own i "ContractDeskModel" "images" "[I" ∈ wsG) (hd : decode cc pc = .ok (.getfield i, 3)) (k : Vx X g.1 nL (wsM g σ) (pc + 3) ls (.ref (g.2.1 18) :: st)) : Vx X g.1 nL (wsM g σ) pc ls (.ref (g.2.1 0) :: st) :=
  vx_get hX.1 0 (mo_0 g σ) (C := RX8) (T := TX8) (N := 35) rfl inG_X8 29 (by decide) rfl hw hd k
theorem mg_0_30 {X : Bx} {g : Gx} {cc : ByteArray} {nL : Nat} {own : String} {ret : Option FieldType} {rm : Room} {r : Gx → Option Value} {σ σ' : SS} {pc : Nat} {ls : List (Nat × Value)} {st : List Value} (hX : Okw wsM X g cc nL own ret rm r σ') {i : Nat} (hw : Cond.fieldLink own i "ContractDeskModel" "kept" "[Z" ∈ wsG) (hd : decode cc pc = .ok (.getfield i, 3)) (k : Vx X g.1 nL (wsM g σ) (pc + 3) ls (.ref (g.2.1 19) :: st)) : Vx X g.1 nL (wsM g σ) pc ls (.ref (g.2.1 0) :: st) :=
  vx_get hX.1 0 (mo_0 g σ) (C := RX8) (T := TX8) (N := 35) rfl inG_X8 30 (by decide) rfl hw hd k
theorem mg_0_31 {X : Bx} {g : Gx} {cc : ByteArray} {nL : Nat} {own : String} {ret : Option FieldType} {rm : Room} {r : Gx → Option Value} {σ σ' : SS} {pc : Nat} {ls : List (Nat × Value)} {st : List Value} (hX : Okw wsM X g cc nL own ret rm r σ') {i : Nat} (hw : Cond.fieldLink own i "ContractDeskModel" "force" "[I" ∈ wsG) (hd : decode cc pc = .ok (.getfield i, 3)) (k : Vx X g.1 nL (wsM g σ) (pc + 3) ls (.ref (g.2.1 20) :: st)) : Vx X g.1 nL (wsM g σ) pc ls (.ref (g.2.1 0) :: st) :=
  vx_get hX.1 0 (mo_0 g σ) (C := RX8) (T := TX8) (N := 35) rfl inG_X8 31 (by decide) rfl hw hd k
theorem mg_0_32 {X : Bx} {g : Gx} {cc : ByteArray} {nL : Nat} {own : String} {ret : Option FieldType} {rm : Room} {r : Gx → Option Value} {σ σ' : SS} {pc : Nat} {ls : List (Nat × Value)} {st : List Value} (hX : Okw wsM X g cc nL own ret rm r σ') {i : Nat} (hw : Cond.fieldLink own i "ContractDeskModel" "hang" "[I" ∈ wsG) (hd : decode cc pc = .ok (.getfield i, 3)) (k : Vx X g.1 nL (wsM g σ) (pc + 3) ls (.ref (g.2.1 21) :: st)) : Vx X g.1 nL (wsM g σ) pc ls (.ref (g.2.1 0) :: st) :=
  vx_get hX.1 0 (mo_0 g σ) (C := RX8) (T := TX8) (N := 35) rfl inG_X8 32 (by decide) rfl hw hd k
theorem mg_0_33 {X : Bx} {g : Gx} {cc : ByteArray} {nL : Nat} {own : String} {ret : Option FieldType} {rm : Room} {r : Gx → Option Value} {σ σ' : SS} {pc : Nat} {ls : List (Nat × Value)} {st : List Value} (hX : Okw wsM X g cc nL own ret rm r σ') {i : Nat} (hw : Cond.fieldLink own i "ContractDeskModel" "signs" "[I" ∈ wsG) (hd : decode cc pc = .ok (.getfield i, 3)) (k : Vx X g.1 nL (wsM g σ) (pc + 3) ls (.ref (g.2.1 22) :: st)) : Vx X g.1 nL (wsM g σ) pc ls (.ref (g.2.1 0) :: st) :=
  vx_get hX.1 0 (mo_0 g σ) (C := RX8) (T := TX8) (N := 35) rfl inG_X8 33 (by decide) rfl hw hd k
theorem mg_0_34 {X : Bx} {g : Gx} {cc : ByteArray} {nL : Nat} {own : String} {ret : Option FieldType} {rm : Room} {r : Gx → Option Value} {σ σ' : SS} {pc : Nat} {ls : List (Nat × Value)} {st : List Value} (hX : Okw wsM X g cc nL own ret rm r σ') {i : Nat} (hw : Cond.fieldLink own i "ContractDeskModel" "written" "I" ∈ wsG) (hd : decode cc pc = .ok (.getfield i, 3)) (k : Vx X g.1 nL (wsM g σ) (pc + 3) ls (.int (gI σ 34) :: st)) : Vx X g.1 nL (wsM g σ) pc ls (.ref (g.2.1 0) :: st) :=
  vx_get hX.1 0 (mo_0 g σ) (C := RX8) (T := TX8) (N := 35) rfl inG_X8 34 (by decide) rfl hw hd k
theorem mp_0_34 {X : Bx} {g : Gx} {cc : ByteArray} {nL : Nat} {own : String} {ret : Option FieldType} {rm : Room} {r : Gx → Option Value} {σ σ' : SS} {pc : Nat} {ls : List (Nat × Value)} {st : List Value} (hX : Okw wsM X g cc nL own ret rm r σ') {i : Nat} {v : Int32} (hw : Cond.fieldLink own i "ContractDeskModel" "written" "I" ∈ wsG) (hd : decode cc pc = .ok (.putfield i, 3)) (k : Vx X g.1 nL (wsM g (sI σ 34 v)) (pc + 3) ls st) : Vx X g.1 nL (wsM g σ) pc ls (.int v :: .ref (g.2.1 0) :: st) :=
  vx_put hX.1 0 (mo_0 g σ) (C := RX8) (T := TX8) (N := 35) rfl inG_X8 tyX8 tyX8_ok nmX8 (hX.2.1 σ) 34 (by decide) (Nat.le_of_ble_eq_true rfl) rfl (by decide) hw hd rfl k
theorem ma_1 (g : Gx) (σ : SS) : (wsM g σ)[1]? = some (g.2.1 1, .inl (g.2.2.1, 240, .inl (gA σ 0))) := rfl
theorem mu_1 (g : Gx) (σ : SS) (f : Nat → Int32) : (wsM g σ).set 1 (g.2.1 1, .inl (g.2.2.1, 240, .inl f)) = wsM g (sA σ 0 f) := rfl
theorem ml_1 {X : Bx} {g : Gx} {cc : ByteArray} {nL : Nat} {own : String} {ret : Option FieldType} {rm : Room} {r : Gx → Option Value} {σ σ' : SS} {pc : Nat} {ls : List (Nat × Value)} {st : List Value} (hX : Okw wsM X g cc nL own ret rm r σ') {i : Int32} (hb : inb i 240 = true) (hd : decode cc pc = .ok (.iaload, 1)) (k : Vx X g.1 nL (wsM g σ) (pc + 1) ls (.int (gA σ 0 i.toNatClampNeg) :: st)) : Vx X g.1 nL (wsM g σ) pc ls (.int i :: .ref (g.2.1 1) :: st) :=
  vx_iald hX.1 1 0 (ma_1 g σ) rfl hb hd k
theorem ms_1 {X : Bx} {g : Gx} {cc : ByteArray} {nL : Nat} {own : String} {ret : Option FieldType} {rm : Room} {r : Gx → Option Value} {σ σ' : SS} {pc : Nat} {ls : List (Nat × Value)} {st : List Value} (hX : Okw wsM X g cc nL own ret rm r σ') {i : Int32} {v : Int32} (hb : inb i 240 = true) (hd : decode cc pc = .ok (.iastore, 1)) (k : Vx X g.1 nL (wsM g (sA σ 0 (upd (gA σ 0) i.toNatClampNeg v))) (pc + 1) ls st) : Vx X g.1 nL (wsM g σ) pc ls (.int v :: .int i :: .ref (g.2.1 1) :: st) :=
  vx_iast hX.1 (hX.2.1 σ) 1 0 (ma_1 g σ) rfl hb hd (mu_1 g σ _) k
theorem ma_2 (g : Gx) (σ : SS) : (wsM g σ)[2]? = some (g.2.1 2, .inl (g.2.2.1, 16, .inl (gA σ 4))) := rfl
theorem mu_2 (g : Gx) (σ : SS) (f : Nat → Int32) : (wsM g σ).set 2 (g.2.1 2, .inl (g.2.2.1, 16, .inl f)) = wsM g (sA σ 4 f) := rfl
theorem ml_2 {X : Bx} {g : Gx} {cc : ByteArray} {nL : Nat} {own : String} {ret : Option FieldType} {rm : Room} {r : Gx → Option Value} {σ σ' : SS} {pc : Nat} {ls : List (Nat × Value)} {st : List Value} (hX : Okw wsM X g cc nL own ret rm r σ') {i : Int32} (hb : inb i 16 = true) (hd : decode cc pc = .ok (.iaload, 1)) (k : Vx X g.1 nL (wsM g σ) (pc + 1) ls (.int (gA σ 4 i.toNatClampNeg) :: st)) : Vx X g.1 nL (wsM g σ) pc ls (.int i :: .ref (g.2.1 2) :: st) :=
  vx_iald hX.1 2 0 (ma_2 g σ) rfl hb hd k
theorem ms_2 {X : Bx} {g : Gx} {cc : ByteArray} {nL : Nat} {own : String} {ret : Option FieldType} {rm : Room} {r : Gx → Option Value} {σ σ' : SS} {pc : Nat} {ls : List (Nat × Value)} {st : List Value} (hX : Okw wsM X g cc nL own ret rm r σ') {i : Int32} {v : Int32} (hb : inb i 16 = true) (hd : decode cc pc = .ok (.iastore, 1)) (k : Vx X g.1 nL (wsM g (sA σ 4 (upd (gA σ 4) i.toNatClampNeg v))) (pc + 1) ls st) : Vx X g.1 nL (wsM g σ) pc ls (.int v :: .int i :: .ref (g.2.1 2) :: st) :=
  vx_iast hX.1 (hX.2.1 σ) 2 0 (ma_2 g σ) rfl hb hd (mu_2 g σ _) k
theorem ma_3 (g : Gx) (σ : SS) : (wsM g σ)[3]? = some (g.2.1 3, .inl (g.2.2.1, 16, .inl (gA σ 5))) := rfl
theorem mu_3 (g : Gx) (σ : SS) (f : Nat → Int32) : (wsM g σ).set 3 (g.2.1 3, .inl (g.2.2.1, 16, .inl f)) = wsM g (sA σ 5 f) := rfl
theorem ml_3 {X : Bx} {g : Gx} {cc : ByteArray} {nL : Nat} {own : String} {ret : Option FieldType} {rm : Room} {r : Gx → Option Value} {σ σ' : SS} {pc : Nat} {ls : List (Nat × Value)} {st : List Value} (hX : Okw wsM X g cc nL own ret rm r σ') {i : Int32} (hb : inb i 16 = true) (hd : decode cc pc = .ok (.iaload, 1)) (k : Vx X g.1 nL (wsM g σ) (pc + 1) ls (.int (gA σ 5 i.toNatClampNeg) :: st)) : Vx X g.1 nL (wsM g σ) pc ls (.int i :: .ref (g.2.1 3) :: st) :=
  vx_iald hX.1 3 0 (ma_3 g σ) rfl hb hd k
theorem ms_3 {X : Bx} {g : Gx} {cc : ByteArray} {nL : Nat} {own : String} {ret : Option FieldType} {rm : Room} {r : Gx → Option Value} {σ σ' : SS} {pc : Nat} {ls : List (Nat × Value)} {st : List Value} (hX : Okw wsM X g cc nL own ret rm r σ') {i : Int32} {v : Int32} (hb : inb i 16 = true) (hd : decode cc pc = .ok (.iastore, 1)) (k : Vx X g.1 nL (wsM g (sA σ 5 (upd (gA σ 5) i.toNatClampNeg v))) (pc + 1) ls st) : Vx X g.1 nL (wsM g σ) pc ls (.int v :: .int i :: .ref (g.2.1 3) :: st) :=
  vx_iast hX.1 (hX.2.1 σ) 3 0 (ma_3 g σ) rfl hb hd (mu_3 g σ _) k
theorem ma_4 (g : Gx) (σ : SS) : (wsM g σ)[4]? = some (g.2.1 4, .inl (g.2.2.1, 16, .inl (gA σ 6))) := rfl
theorem mu_4 (g : Gx) (σ : SS) (f : Nat → Int32) : (wsM g σ).set 4 (g.2.1 4, .inl (g.2.2.1, 16, .inl f)) = wsM g (sA σ 6 f) := rfl
theorem ml_4 {X : Bx} {g : Gx} {cc : ByteArray} {nL : Nat} {own : String} {ret : Option FieldType} {rm : Room} {r : Gx → Option Value} {σ σ' : SS} {pc : Nat} {ls : List (Nat × Value)} {st : List Value} (hX : Okw wsM X g cc nL own ret rm r σ') {i : Int32} (hb : inb i 16 = true) (hd : decode cc pc = .ok (.iaload, 1)) (k : Vx X g.1 nL (wsM g σ) (pc + 1) ls (.int (gA σ 6 i.toNatClampNeg) :: st)) : Vx X g.1 nL (wsM g σ) pc ls (.int i :: .ref (g.2.1 4) :: st) :=
  vx_iald hX.1 4 0 (ma_4 g σ) rfl hb hd k
theorem ms_4 {X : Bx} {g : Gx} {cc : ByteArray} {nL : Nat} {own : String} {ret : Option FieldType} {rm : Room} {r : Gx → Option Value} {σ σ' : SS} {pc : Nat} {ls : List (Nat × Value)} {st : List Value} (hX : Okw wsM X g cc nL own ret rm r σ') {i : Int32} {v : Int32} (hb : inb i 16 = true) (hd : decode cc pc = .ok (.iastore, 1)) (k : Vx X g.1 nL (wsM g (sA σ 6 (upd (gA σ 6) i.toNatClampNeg v))) (pc + 1) ls st) : Vx X g.1 nL (wsM g σ) pc ls (.int v :: .int i :: .ref (g.2.1 4) :: st) :=
  vx_iast hX.1 (hX.2.1 σ) 4 0 (ma_4 g σ) rfl hb hd (mu_4 g σ _) k
theorem ma_5 (g : Gx) (σ : SS) : (wsM g σ)[5]? = some (g.2.1 5, .inl (g.2.2.1, 16, .inl (gA σ 7))) := rfl
theorem mu_5 (g : Gx) (σ : SS) (f : Nat → Int32) : (wsM g σ).set 5 (g.2.1 5, .inl (g.2.2.1, 16, .inl f)) = wsM g (sA σ 7 f) := rfl
theorem ml_5 {X : Bx} {g : Gx} {cc : ByteArray} {nL : Nat} {own : String} {ret : Option FieldType} {rm : Room} {r : Gx → Option Value} {σ σ' : SS} {pc : Nat} {ls : List (Nat × Value)} {st : List Value} (hX : Okw wsM X g cc nL own ret rm r σ') {i : Int32} (hb : inb i 16 = true) (hd : decode cc pc = .ok (.iaload, 1)) (k : Vx X g.1 nL (wsM g σ) (pc + 1) ls (.int (gA σ 7 i.toNatClampNeg) :: st)) : Vx X g.1 nL (wsM g σ) pc ls (.int i :: .ref (g.2.1 5) :: st) :=
  vx_iald hX.1 5 0 (ma_5 g σ) rfl hb hd k
theorem ms_5 {X : Bx} {g : Gx} {cc : ByteArray} {nL : Nat} {own : String} {ret : Option FieldType} {rm : Room} {r : Gx → Option Value} {σ σ' : SS} {pc : Nat} {ls : List (Nat × Value)} {st : List Value} (hX : Okw wsM X g cc nL own ret rm r σ') {i : Int32} {v : Int32} (hb : inb i 16 = true) (hd : decode cc pc = .ok (.iastore, 1)) (k : Vx X g.1 nL (wsM g (sA σ 7 (upd (gA σ 7) i.toNatClampNeg v))) (pc + 1) ls st) : Vx X g.1 nL (wsM g σ) pc ls (.int v :: .int i :: .ref (g.2.1 5) :: st) :=
  vx_iast hX.1 (hX.2.1 σ) 5 0 (ma_5 g σ) rfl hb hd (mu_5 g σ _) k
theorem ma_6 (g : Gx) (σ : SS) : (wsM g σ)[6]? = some (g.2.1 6, .inl (g.2.2.1, 30, .inl (gA σ 9))) := rfl
theorem mu_6 (g : Gx) (σ : SS) (f : Nat → Int32) : (wsM g σ).set 6 (g.2.1 6, .inl (g.2.2.1, 30, .inl f)) = wsM g (sA σ 9 f) := rfl
theorem ml_6 {X : Bx} {g : Gx} {cc : ByteArray} {nL : Nat} {own : String} {ret : Option FieldType} {rm : Room} {r : Gx → Option Value} {σ σ' : SS} {pc : Nat} {ls : List (Nat × Value)} {st : List Value} (hX : Okw wsM X g cc nL own ret rm r σ') {i : Int32} (hb : inb i 30 = true) (hd : decode cc pc = .ok (.iaload, 1)) (k : Vx X g.1 nL (wsM g σ) (pc + 1) ls (.int (gA σ 9 i.toNatClampNeg) :: st)) : Vx X g.1 nL (wsM g σ) pc ls (.int i :: .ref (g.2.1 6) :: st) :=
  vx_iald hX.1 6 0 (ma_6 g σ) rfl hb hd k
theorem ms_6 {X : Bx} {g : Gx} {cc : ByteArray} {nL : Nat} {own : String} {ret : Option FieldType} {rm : Room} {r : Gx → Option Value} {σ σ' : SS} {pc : Nat} {ls : List (Nat × Value)} {st : List Value} (hX : Okw wsM X g cc nL own ret rm r σ') {i : Int32} {v : Int32} (hb : inb i 30 = true) (hd : decode cc pc = .ok (.iastore, 1)) (k : Vx X g.1 nL (wsM g (sA σ 9 (upd (gA σ 9) i.toNatClampNeg v))) (pc + 1) ls st) : Vx X g.1 nL (wsM g σ) pc ls (.int v :: .int i :: .ref (g.2.1 6) :: st) :=
  vx_iast hX.1 (hX.2.1 σ) 6 0 (ma_6 g σ) rfl hb hd (mu_6 g σ _) k
theorem ma_7 (g : Gx) (σ : SS) : (wsM g σ)[7]? = some (g.2.1 7, .inl (g.2.2.1, 30, .inl (gA σ 10))) := rfl
theorem mu_7 (g : Gx) (σ : SS) (f : Nat → Int32) : (wsM g σ).set 7 (g.2.1 7, .inl (g.2.2.1, 30, .inl f)) = wsM g (sA σ 10 f) := rfl
theorem ml_7 {X : Bx} {g : Gx} {cc : ByteArray} {nL : Nat} {own : String} {ret : Option FieldType} {rm : Room} {r : Gx → Option Value} {σ σ' : SS} {pc : Nat} {ls : List (Nat × Value)} {st : List Value} (hX : Okw wsM X g cc nL own ret rm r σ') {i : Int32} (hb : inb i 30 = true) (hd : decode cc pc = .ok (.iaload, 1)) (k : Vx X g.1 nL (wsM g σ) (pc + 1) ls (.int (gA σ 10 i.toNatClampNeg) :: st)) : Vx X g.1 nL (wsM g σ) pc ls (.int i :: .ref (g.2.1 7) :: st) :=
  vx_iald hX.1 7 0 (ma_7 g σ) rfl hb hd k
theorem ms_7 {X : Bx} {g : Gx} {cc : ByteArray} {nL : Nat} {own : String} {ret : Option FieldType} {rm : Room} {r : Gx → Option Value} {σ σ' : SS} {pc : Nat} {ls : List (Nat × Value)} {st : List Value} (hX : Okw wsM X g cc nL own ret rm r σ') {i : Int32} {v : Int32} (hb : inb i 30 = true) (hd : decode cc pc = .ok (.iastore, 1)) (k : Vx X g.1 nL (wsM g (sA σ 10 (upd (gA σ 10) i.toNatClampNeg v))) (pc + 1) ls st) : Vx X g.1 nL (wsM g σ) pc ls (.int v :: .int i :: .ref (g.2.1 7) :: st) :=
  vx_iast hX.1 (hX.2.1 σ) 7 0 (ma_7 g σ) rfl hb hd (mu_7 g σ _) k
theorem ma_8 (g : Gx) (σ : SS) : (wsM g σ)[8]? = some (g.2.1 8, .inl (g.2.2.1, 30, .inl (gA σ 11))) := rfl
theorem mu_8 (g : Gx) (σ : SS) (f : Nat → Int32) : (wsM g σ).set 8 (g.2.1 8, .inl (g.2.2.1, 30, .inl f)) = wsM g (sA σ 11 f) := rfl
theorem ml_8 {X : Bx} {g : Gx} {cc : ByteArray} {nL : Nat} {own : String} {ret : Option FieldType} {rm : Room} {r : Gx → Option Value} {σ σ' : SS} {pc : Nat} {ls : List (Nat × Value)} {st : List Value} (hX : Okw wsM X g cc nL own ret rm r σ') {i : Int32} (hb : inb i 30 = true) (hd : decode cc pc = .ok (.iaload, 1)) (k : Vx X g.1 nL (wsM g σ) (pc + 1) ls (.int (gA σ 11 i.toNatClampNeg) :: st)) : Vx X g.1 nL (wsM g σ) pc ls (.int i :: .ref (g.2.1 8) :: st) :=
  vx_iald hX.1 8 0 (ma_8 g σ) rfl hb hd k
theorem ms_8 {X : Bx} {g : Gx} {cc : ByteArray} {nL : Nat} {own : String} {ret : Option FieldType} {rm : Room} {r : Gx → Option Value} {σ σ' : SS} {pc : Nat} {ls : List (Nat × Value)} {st : List Value} (hX : Okw wsM X g cc nL own ret rm r σ') {i : Int32} {v : Int32} (hb : inb i 30 = true) (hd : decode cc pc = .ok (.iastore, 1)) (k : Vx X g.1 nL (wsM g (sA σ 11 (upd (gA σ 11) i.toNatClampNeg v))) (pc + 1) ls st) : Vx X g.1 nL (wsM g σ) pc ls (.int v :: .int i :: .ref (g.2.1 8) :: st) :=
  vx_iast hX.1 (hX.2.1 σ) 8 0 (ma_8 g σ) rfl hb hd (mu_8 g σ _) k
theorem ma_9 (g : Gx) (σ : SS) : (wsM g σ)[9]? = some (g.2.1 9, .inl (g.2.2.1, 16, .inl (gA σ 13))) := rfl
theorem mu_9 (g : Gx) (σ : SS) (f : Nat → Int32) : (wsM g σ).set 9 (g.2.1 9, .inl (g.2.2.1, 16, .inl f)) = wsM g (sA σ 13 f) := rfl
theorem ml_9 {X : Bx} {g : Gx} {cc : ByteArray} {nL : Nat} {own : String} {ret : Option FieldType} {rm : Room} {r : Gx → Option Value} {σ σ' : SS} {pc : Nat} {ls : List (Nat × Value)} {st : List Value} (hX : Okw wsM X g cc nL own ret rm r σ') {i : Int32} (hb : inb i 16 = true) (hd : decode cc pc = .ok (.iaload, 1)) (k : Vx X g.1 nL (wsM g σ) (pc + 1) ls (.int (gA σ 13 i.toNatClampNeg) :: st)) : Vx X g.1 nL (wsM g σ) pc ls (.int i :: .ref (g.2.1 9) :: st) :=
  vx_iald hX.1 9 0 (ma_9 g σ) rfl hb hd k
theorem ms_9 {X : Bx} {g : Gx} {cc : ByteArray} {nL : Nat} {own : String} {ret : Option FieldType} {rm : Room} {r : Gx → Option Value} {σ σ' : SS} {pc : Nat} {ls : List (Nat × Value)} {st : List Value} (hX : Okw wsM X g cc nL own ret rm r σ') {i : Int32} {v : Int32} (hb : inb i 16 = true) (hd : decode cc pc = .ok (.iastore, 1)) (k : Vx X g.1 nL (wsM g (sA σ 13 (upd (gA σ 13) i.toNatClampNeg v))) (pc + 1) ls st) : Vx X g.1 nL (wsM g σ) pc ls (.int v :: .int i :: .ref (g.2.1 9) :: st) :=
  vx_iast hX.1 (hX.2.1 σ) 9 0 (ma_9 g σ) rfl hb hd (mu_9 g σ _) k
theorem ma_10 (g : Gx) (σ : SS) : (wsM g σ)[10]? = some (g.2.1 10, .inl (g.2.2.1, 16, .inl (gA σ 14))) := rfl
theorem mu_10 (g : Gx) (σ : SS) (f : Nat → Int32) : (wsM g σ).set 10 (g.2.1 10, .inl (g.2.2.1, 16, .inl f)) = wsM g (sA σ 14 f) := rfl
theorem ml_10 {X : Bx} {g : Gx} {cc : ByteArray} {nL : Nat} {own : String} {ret : Option FieldType} {rm : Room} {r : Gx → Option Value} {σ σ' : SS} {pc : Nat} {ls : List (Nat × Value)} {st : List Value} (hX : Okw wsM X g cc nL own ret rm r σ') {i : Int32} (hb : inb i 16 = true) (hd : decode cc pc = .ok (.iaload, 1)) (k : Vx X g.1 nL (wsM g σ) (pc + 1) ls (.int (gA σ 14 i.toNatClampNeg) :: st)) : Vx X g.1 nL (wsM g σ) pc ls (.int i :: .ref (g.2.1 10) :: st) :=
  vx_iald hX.1 10 0 (ma_10 g σ) rfl hb hd k
theorem ms_10 {X : Bx} {g : Gx} {cc : ByteArray} {nL : Nat} {own : String} {ret : Option FieldType} {rm : Room} {r : Gx → Option Value} {σ σ' : SS} {pc : Nat} {ls : List (Nat × Value)} {st : List Value} (hX : Okw wsM X g cc nL own ret rm r σ') {i : Int32} {v : Int32} (hb : inb i 16 = true) (hd : decode cc pc = .ok (.iastore, 1)) (k : Vx X g.1 nL (wsM g (sA σ 14 (upd (gA σ 14) i.toNatClampNeg v))) (pc + 1) ls st) : Vx X g.1 nL (wsM g σ) pc ls (.int v :: .int i :: .ref (g.2.1 10) :: st) :=
  vx_iast hX.1 (hX.2.1 σ) 10 0 (ma_10 g σ) rfl hb hd (mu_10 g σ _) k
theorem ma_11 (g : Gx) (σ : SS) : (wsM g σ)[11]? = some (g.2.1 11, .inl (g.2.2.1, 16, .inl (gA σ 15))) := rfl
theorem mu_11 (g : Gx) (σ : SS) (f : Nat → Int32) : (wsM g σ).set 11 (g.2.1 11, .inl (g.2.2.1, 16, .inl f)) = wsM g (sA σ 15 f) := rfl
theorem ml_11 {X : Bx} {g : Gx} {cc : ByteArray} {nL : Nat} {own : String} {ret : Option FieldType} {rm : Room} {r : Gx → Option Value} {σ σ' : SS} {pc : Nat} {ls : List (Nat × Value)} {st : List Value} (hX : Okw wsM X g cc nL own ret rm r σ') {i : Int32} (hb : inb i 16 = true) (hd : decode cc pc = .ok (.iaload, 1)) (k : Vx X g.1 nL (wsM g σ) (pc + 1) ls (.int (gA σ 15 i.toNatClampNeg) :: st)) : Vx X g.1 nL (wsM g σ) pc ls (.int i :: .ref (g.2.1 11) :: st) :=
  vx_iald hX.1 11 0 (ma_11 g σ) rfl hb hd k
theorem ms_11 {X : Bx} {g : Gx} {cc : ByteArray} {nL : Nat} {own : String} {ret : Option FieldType} {rm : Room} {r : Gx → Option Value} {σ σ' : SS} {pc : Nat} {ls : List (Nat × Value)} {st : List Value} (hX : Okw wsM X g cc nL own ret rm r σ') {i : Int32} {v : Int32} (hb : inb i 16 = true) (hd : decode cc pc = .ok (.iastore, 1)) (k : Vx X g.1 nL (wsM g (sA σ 15 (upd (gA σ 15) i.toNatClampNeg v))) (pc + 1) ls st) : Vx X g.1 nL (wsM g σ) pc ls (.int v :: .int i :: .ref (g.2.1 11) :: st) :=
  vx_iast hX.1 (hX.2.1 σ) 11 0 (ma_11 g σ) rfl hb hd (mu_11 g σ _) k
theorem ma_12 (g : Gx) (σ : SS) : (wsM g σ)[12]? = some (g.2.1 12, .inl (g.2.2.1, 16, .inl (gA σ 16))) := rfl
theorem mu_12 (g : Gx) (σ : SS) (f : Nat → Int32) : (wsM g σ).set 12 (g.2.1 12, .inl (g.2.2.1, 16, .inl f)) = wsM g (sA σ 16 f) := rfl
theorem ml_12 {X : Bx} {g : Gx} {cc : ByteArray} {nL : Nat} {own : String} {ret : Option FieldType} {rm : Room} {r : Gx → Option Value} {σ σ' : SS} {pc : Nat} {ls : List (Nat × Value)} {st : List Value} (hX : Okw wsM X g cc nL own ret rm r σ') {i : Int32} (hb : inb i 16 = true) (hd : decode cc pc = .ok (.iaload, 1)) (k : Vx X g.1 nL (wsM g σ) (pc + 1) ls (.int (gA σ 16 i.toNatClampNeg) :: st)) : Vx X g.1 nL (wsM g σ) pc ls (.int i :: .ref (g.2.1 12) :: st) :=
  vx_iald hX.1 12 0 (ma_12 g σ) rfl hb hd k
theorem ms_12 {X : Bx} {g : Gx} {cc : ByteArray} {nL : Nat} {own : String} {ret : Option FieldType} {rm : Room} {r : Gx → Option Value} {σ σ' : SS} {pc : Nat} {ls : List (Nat × Value)} {st : List Value} (hX : Okw wsM X g cc nL own ret rm r σ') {i : Int32} {v : Int32} (hb : inb i 16 = true) (hd : decode cc pc = .ok (.iastore, 1)) (k : Vx X g.1 nL (wsM g (sA σ 16 (upd (gA σ 16) i.toNatClampNeg v))) (pc + 1) ls st) : Vx X g.1 nL (wsM g σ) pc ls (.int v :: .int i :: .ref (g.2.1 12) :: st) :=
  vx_iast hX.1 (hX.2.1 σ) 12 0 (ma_12 g σ) rfl hb hd (mu_12 g σ _) k
theorem ma_13 (g : Gx) (σ : SS) : (wsM g σ)[13]? = some (g.2.1 13, .inl (g.2.2.1, 30, .inl (gA σ 18))) := rfl
theorem mu_13 (g : Gx) (σ : SS) (f : Nat → Int32) : (wsM g σ).set 13 (g.2.1 13, .inl (g.2.2.1, 30, .inl f)) = wsM g (sA σ 18 f) := rfl
theorem ml_13 {X : Bx} {g : Gx} {cc : ByteArray} {nL : Nat} {own : String} {ret : Option FieldType} {rm : Room} {r : Gx → Option Value} {σ σ' : SS} {pc : Nat} {ls : List (Nat × Value)} {st : List Value} (hX : Okw wsM X g cc nL own ret rm r σ') {i : Int32} (hb : inb i 30 = true) (hd : decode cc pc = .ok (.iaload, 1)) (k : Vx X g.1 nL (wsM g σ) (pc + 1) ls (.int (gA σ 18 i.toNatClampNeg) :: st)) : Vx X g.1 nL (wsM g σ) pc ls (.int i :: .ref (g.2.1 13) :: st) :=
  vx_iald hX.1 13 0 (ma_13 g σ) rfl hb hd k
theorem ms_13 {X : Bx} {g : Gx} {cc : ByteArray} {nL : Nat} {own : String} {ret : Option FieldType} {rm : Room} {r : Gx → Option Value} {σ σ' : SS} {pc : Nat} {ls : List (Nat × Value)} {st : List Value} (hX : Okw wsM X g cc nL own ret rm r σ') {i : Int32} {v : Int32} (hb : inb i 30 = true) (hd : decode cc pc = .ok (.iastore, 1)) (k : Vx X g.1 nL (wsM g (sA σ 18 (upd (gA σ 18) i.toNatClampNeg v))) (pc + 1) ls st) : Vx X g.1 nL (wsM g σ) pc ls (.int v :: .int i :: .ref (g.2.1 13) :: st) :=
  vx_iast hX.1 (hX.2.1 σ) 13 0 (ma_13 g σ) rfl hb hd (mu_13 g σ _) k
theorem ma_14 (g : Gx) (σ : SS) : (wsM g σ)[14]? = some (g.2.1 14, .inl (g.2.2.1, 30, .inl (gA σ 19))) := rfl
theorem mu_14 (g : Gx) (σ : SS) (f : Nat → Int32) : (wsM g σ).set 14 (g.2.1 14, .inl (g.2.2.1, 30, .inl f)) = wsM g (sA σ 19 f) := rfl
theorem ml_14 {X : Bx} {g : Gx} {cc : ByteArray} {nL : Nat} {own : String} {ret : Option FieldType} {rm : Room} {r : Gx → Option Value} {σ σ' : SS} {pc : Nat} {ls : List (Nat × Value)} {st : List Value} (hX : Okw wsM X g cc nL own ret rm r σ') {i : Int32} (hb : inb i 30 = true) (hd : decode cc pc = .ok (.iaload, 1)) (k : Vx X g.1 nL (wsM g σ) (pc + 1) ls (.int (gA σ 19 i.toNatClampNeg) :: st)) : Vx X g.1 nL (wsM g σ) pc ls (.int i :: .ref (g.2.1 14) :: st) :=
  vx_iald hX.1 14 0 (ma_14 g σ) rfl hb hd k
theorem ms_14 {X : Bx} {g : Gx} {cc : ByteArray} {nL : Nat} {own : String} {ret : Option FieldType} {rm : Room} {r : Gx → Option Value} {σ σ' : SS} {pc : Nat} {ls : List (Nat × Value)} {st : List Value} (hX : Okw wsM X g cc nL own ret rm r σ') {i : Int32} {v : Int32} (hb : inb i 30 = true) (hd : decode cc pc = .ok (.iastore, 1)) (k : Vx X g.1 nL (wsM g (sA σ 19 (upd (gA σ 19) i.toNatClampNeg v))) (pc + 1) ls st) : Vx X g.1 nL (wsM g σ) pc ls (.int v :: .int i :: .ref (g.2.1 14) :: st) :=
  vx_iast hX.1 (hX.2.1 σ) 14 0 (ma_14 g σ) rfl hb hd (mu_14 g σ _) k
theorem ma_15 (g : Gx) (σ : SS) : (wsM g σ)[15]? = some (g.2.1 15, .inl (g.2.2.1, 30, .inl (gA σ 20))) := rfl
theorem mu_15 (g : Gx) (σ : SS) (f : Nat → Int32) : (wsM g σ).set 15 (g.2.1 15, .inl (g.2.2.1, 30, .inl f)) = wsM g (sA σ 20 f) := rfl
theorem ml_15 {X : Bx} {g : Gx} {cc : ByteArray} {nL : Nat} {own : String} {ret : Option FieldType} {rm : Room} {r : Gx → Option Value} {σ σ' : SS} {pc : Nat} {ls : List (Nat × Value)} {st : List Value} (hX : Okw wsM X g cc nL own ret rm r σ') {i : Int32} (hb : inb i 30 = true) (hd : decode cc pc = .ok (.iaload, 1)) (k : Vx X g.1 nL (wsM g σ) (pc + 1) ls (.int (gA σ 20 i.toNatClampNeg) :: st)) : Vx X g.1 nL (wsM g σ) pc ls (.int i :: .ref (g.2.1 15) :: st) :=
  vx_iald hX.1 15 0 (ma_15 g σ) rfl hb hd k
theorem ms_15 {X : Bx} {g : Gx} {cc : ByteArray} {nL : Nat} {own : String} {ret : Option FieldType} {rm : Room} {r : Gx → Option Value} {σ σ' : SS} {pc : Nat} {ls : List (Nat × Value)} {st : List Value} (hX : Okw wsM X g cc nL own ret rm r σ') {i : Int32} {v : Int32} (hb : inb i 30 = true) (hd : decode cc pc = .ok (.iastore, 1)) (k : Vx X g.1 nL (wsM g (sA σ 20 (upd (gA σ 20) i.toNatClampNeg v))) (pc + 1) ls st) : Vx X g.1 nL (wsM g σ) pc ls (.int v :: .int i :: .ref (g.2.1 15) :: st) :=
  vx_iast hX.1 (hX.2.1 σ) 15 0 (ma_15 g σ) rfl hb hd (mu_15 g σ _) k
theorem ma_16 (g : Gx) (σ : SS) : (wsM g σ)[16]? = some (g.2.1 16, .inl (g.2.2.1, 30, .inl (gA σ 21))) := rfl
theorem mu_16 (g : Gx) (σ : SS) (f : Nat → Int32) : (wsM g σ).set 16 (g.2.1 16, .inl (g.2.2.1, 30, .inl f)) = wsM g (sA σ 21 f) := rfl
theorem ml_16 {X : Bx} {g : Gx} {cc : ByteArray} {nL : Nat} {own : String} {ret : Option FieldType} {rm : Room} {r : Gx → Option Value} {σ σ' : SS} {pc : Nat} {ls : List (Nat × Value)} {st : List Value} (hX : Okw wsM X g cc nL own ret rm r σ') {i : Int32} (hb : inb i 30 = true) (hd : decode cc pc = .ok (.iaload, 1)) (k : Vx X g.1 nL (wsM g σ) (pc + 1) ls (.int (gA σ 21 i.toNatClampNeg) :: st)) : Vx X g.1 nL (wsM g σ) pc ls (.int i :: .ref (g.2.1 16) :: st) :=
  vx_iald hX.1 16 0 (ma_16 g σ) rfl hb hd k
theorem ms_16 {X : Bx} {g : Gx} {cc : ByteArray} {nL : Nat} {own : String} {ret : Option FieldType} {rm : Room} {r : Gx → Option Value} {σ σ' : SS} {pc : Nat} {ls : List (Nat × Value)} {st : List Value} (hX : Okw wsM X g cc nL own ret rm r σ') {i : Int32} {v : Int32} (hb : inb i 30 = true) (hd : decode cc pc = .ok (.iastore, 1)) (k : Vx X g.1 nL (wsM g (sA σ 21 (upd (gA σ 21) i.toNatClampNeg v))) (pc + 1) ls st) : Vx X g.1 nL (wsM g σ) pc ls (.int v :: .int i :: .ref (g.2.1 16) :: st) :=
  vx_iast hX.1 (hX.2.1 σ) 16 0 (ma_16 g σ) rfl hb hd (mu_16 g σ _) k
theorem ma_17 (g : Gx) (σ : SS) : (wsM g σ)[17]? = some (g.2.1 17, .inl (g.2.2.1, 24, .inl (gA σ 27))) := rfl
theorem mu_17 (g : Gx) (σ : SS) (f : Nat → Int32) : (wsM g σ).set 17 (g.2.1 17, .inl (g.2.2.1, 24, .inl f)) = wsM g (sA σ 27 f) := rfl
theorem ml_17 {X : Bx} {g : Gx} {cc : ByteArray} {nL : Nat} {own : String} {ret : Option FieldType} {rm : Room} {r : Gx → Option Value} {σ σ' : SS} {pc : Nat} {ls : List (Nat × Value)} {st : List Value} (hX : Okw wsM X g cc nL own ret rm r σ') {i : Int32} (hb : inb i 24 = true) (hd : decode cc pc = .ok (.iaload, 1)) (k : Vx X g.1 nL (wsM g σ) (pc + 1) ls (.int (gA σ 27 i.toNatClampNeg) :: st)) : Vx X g.1 nL (wsM g σ) pc ls (.int i :: .ref (g.2.1 17) :: st) :=
  vx_iald hX.1 17 0 (ma_17 g σ) rfl hb hd k
theorem ms_17 {X : Bx} {g : Gx} {cc : ByteArray} {nL : Nat} {own : String} {ret : Option FieldType} {rm : Room} {r : Gx → Option Value} {σ σ' : SS} {pc : Nat} {ls : List (Nat × Value)} {st : List Value} (hX : Okw wsM X g cc nL own ret rm r σ') {i : Int32} {v : Int32} (hb : inb i 24 = true) (hd : decode cc pc = .ok (.iastore, 1)) (k : Vx X g.1 nL (wsM g (sA σ 27 (upd (gA σ 27) i.toNatClampNeg v))) (pc + 1) ls st) : Vx X g.1 nL (wsM g σ) pc ls (.int v :: .int i :: .ref (g.2.1 17) :: st) :=
  vx_iast hX.1 (hX.2.1 σ) 17 0 (ma_17 g σ) rfl hb hd (mu_17 g σ _) k
theorem ma_18 (g : Gx) (σ : SS) : (wsM g σ)[18]? = some (g.2.1 18, .inl (g.2.2.1, 6, .inl (gA σ 29))) := rfl
theorem mu_18 (g : Gx) (σ : SS) (f : Nat → Int32) : (wsM g σ).set 18 (g.2.1 18, .inl (g.2.2.1, 6, .inl f)) = wsM g (sA σ 29 f) := rfl
theorem ml_18 {X : Bx} {g : Gx} {cc : ByteArray} {nL : Nat} {own : String} {ret : Option FieldType} {rm : Room} {r : Gx → Option Value} {σ σ' : SS} {pc : Nat} {ls : List (Nat × Value)} {st : List Value} (hX : Okw wsM X g cc nL own ret rm r σ') {i : Int32} (hb : inb i 6 = true) (hd : decode cc pc = .ok (.iaload, 1)) (k : Vx X g.1 nL (wsM g σ) (pc + 1) ls (.int (gA σ 29 i.toNatClampNeg) :: st)) : Vx X g.1 nL (wsM g σ) pc ls (.int i :: .ref (g.2.1 18) :: st) :=
  vx_iald hX.1 18 0 (ma_18 g σ) rfl hb hd k
theorem ms_18 {X : Bx} {g : Gx} {cc : ByteArray} {nL : Nat} {own : String} {ret : Option FieldType} {rm : Room} {r : Gx → Option Value} {σ σ' : SS} {pc : Nat} {ls : List (Nat × Value)} {st : List Value} (hX : Okw wsM X g cc nL own ret rm r σ') {i : Int32} {v : Int32} (hb : inb i 6 = true) (hd : decode cc pc = .ok (.iastore, 1)) (k : Vx X g.1 nL (wsM g (sA σ 29 (upd (gA σ 29) i.toNatClampNeg v))) (pc + 1) ls st) : Vx X g.1 nL (wsM g σ) pc ls (.int v :: .int i :: .ref (g.2.1 18) :: st) :=
  vx_iast hX.1 (hX.2.1 σ) 18 0 (ma_18 g σ) rfl hb hd (mu_18 g σ _) k
theorem ma_19 (g : Gx) (σ : SS) : (wsM g σ)[19]? = some (g.2.1 19, .inl (g.2.2.2.2.1, 2, .inl (gA σ 30))) := rfl
theorem mu_19 (g : Gx) (σ : SS) (f : Nat → Int32) : (wsM g σ).set 19 (g.2.1 19, .inl (g.2.2.2.2.1, 2, .inl f)) = wsM g (sA σ 30 f) := rfl
theorem ml_19 {X : Bx} {g : Gx} {cc : ByteArray} {nL : Nat} {own : String} {ret : Option FieldType} {rm : Room} {r : Gx → Option Value} {σ σ' : SS} {pc : Nat} {ls : List (Nat × Value)} {st : List Value} (hX : Okw wsM X g cc nL own ret rm r σ') {i : Int32} (hb : inb i 2 = true) (hd : decode cc pc = .ok (.baload, 1)) (k : Vx X g.1 nL (wsM g σ) (pc + 1) ls (.int (gA σ 30 i.toNatClampNeg) :: st)) : Vx X g.1 nL (wsM g σ) pc ls (.int i :: .ref (g.2.1 19) :: st) :=
  vx_zald hX.1 19 2 (ma_19 g σ) rfl hb hd k
theorem ms_19 {X : Bx} {g : Gx} {cc : ByteArray} {nL : Nat} {own : String} {ret : Option FieldType} {rm : Room} {r : Gx → Option Value} {σ σ' : SS} {pc : Nat} {ls : List (Nat × Value)} {st : List Value} (hX : Okw wsM X g cc nL own ret rm r σ') {i : Int32} {v : Int32} (hb : inb i 2 = true) (hn : vp_nar .boolean v = v) (hd : decode cc pc = .ok (.bastore, 1)) (k : Vx X g.1 nL (wsM g (sA σ 30 (upd (gA σ 30) i.toNatClampNeg v))) (pc + 1) ls st) : Vx X g.1 nL (wsM g σ) pc ls (.int v :: .int i :: .ref (g.2.1 19) :: st) :=
  vx_zast hX.1 (hX.2.1 σ) 19 2 (ma_19 g σ) rfl hb hn hd (mu_19 g σ _) k
theorem ma_20 (g : Gx) (σ : SS) : (wsM g σ)[20]? = some (g.2.1 20, .inl (g.2.2.1, 64, .inl (gA σ 31))) := rfl
theorem mu_20 (g : Gx) (σ : SS) (f : Nat → Int32) : (wsM g σ).set 20 (g.2.1 20, .inl (g.2.2.1, 64, .inl f)) = wsM g (sA σ 31 f) := rfl
theorem ml_20 {X : Bx} {g : Gx} {cc : ByteArray} {nL : Nat} {own : String} {ret : Option FieldType} {rm : Room} {r : Gx → Option Value} {σ σ' : SS} {pc : Nat} {ls : List (Nat × Value)} {st : List Value} (hX : Okw wsM X g cc nL own ret rm r σ') {i : Int32} (hb : inb i 64 = true) (hd : decode cc pc = .ok (.iaload, 1)) (k : Vx X g.1 nL (wsM g σ) (pc + 1) ls (.int (gA σ 31 i.toNatClampNeg) :: st)) : Vx X g.1 nL (wsM g σ) pc ls (.int i :: .ref (g.2.1 20) :: st) :=
  vx_iald hX.1 20 0 (ma_20 g σ) rfl hb hd k
theorem ms_20 {X : Bx} {g : Gx} {cc : ByteArray} {nL : Nat} {own : String} {ret : Option FieldType} {rm : Room} {r : Gx → Option Value} {σ σ' : SS} {pc : Nat} {ls : List (Nat × Value)} {st : List Value} (hX : Okw wsM X g cc nL own ret rm r σ') {i : Int32} {v : Int32} (hb : inb i 64 = true) (hd : decode cc pc = .ok (.iastore, 1)) (k : Vx X g.1 nL (wsM g (sA σ 31 (upd (gA σ 31) i.toNatClampNeg v))) (pc + 1) ls st) : Vx X g.1 nL (wsM g σ) pc ls (.int v :: .int i :: .ref (g.2.1 20) :: st) :=
  vx_iast hX.1 (hX.2.1 σ) 20 0 (ma_20 g σ) rfl hb hd (mu_20 g σ _) k
theorem ma_21 (g : Gx) (σ : SS) : (wsM g σ)[21]? = some (g.2.1 21, .inl (g.2.2.1, 8, .inl (gA σ 32))) := rfl
theorem mu_21 (g : Gx) (σ : SS) (f : Nat → Int32) : (wsM g σ).set 21 (g.2.1 21, .inl (g.2.2.1, 8, .inl f)) = wsM g (sA σ 32 f) := rfl
theorem ml_21 {X : Bx} {g : Gx} {cc : ByteArray} {nL : Nat} {own : String} {ret : Option FieldType} {rm : Room} {r : Gx → Option Value} {σ σ' : SS} {pc : Nat} {ls : List (Nat × Value)} {st : List Value} (hX : Okw wsM X g cc nL own ret rm r σ') {i : Int32} (hb : inb i 8 = true) (hd : decode cc pc = .ok (.iaload, 1)) (k : Vx X g.1 nL (wsM g σ) (pc + 1) ls (.int (gA σ 32 i.toNatClampNeg) :: st)) : Vx X g.1 nL (wsM g σ) pc ls (.int i :: .ref (g.2.1 21) :: st) :=
  vx_iald hX.1 21 0 (ma_21 g σ) rfl hb hd k
theorem ms_21 {X : Bx} {g : Gx} {cc : ByteArray} {nL : Nat} {own : String} {ret : Option FieldType} {rm : Room} {r : Gx → Option Value} {σ σ' : SS} {pc : Nat} {ls : List (Nat × Value)} {st : List Value} (hX : Okw wsM X g cc nL own ret rm r σ') {i : Int32} {v : Int32} (hb : inb i 8 = true) (hd : decode cc pc = .ok (.iastore, 1)) (k : Vx X g.1 nL (wsM g (sA σ 32 (upd (gA σ 32) i.toNatClampNeg v))) (pc + 1) ls st) : Vx X g.1 nL (wsM g σ) pc ls (.int v :: .int i :: .ref (g.2.1 21) :: st) :=
  vx_iast hX.1 (hX.2.1 σ) 21 0 (ma_21 g σ) rfl hb hd (mu_21 g σ _) k
theorem ma_22 (g : Gx) (σ : SS) : (wsM g σ)[22]? = some (g.2.1 22, .inl (g.2.2.1, 4000, .inl (gA σ 33))) := rfl
theorem mu_22 (g : Gx) (σ : SS) (f : Nat → Int32) : (wsM g σ).set 22 (g.2.1 22, .inl (g.2.2.1, 4000, .inl f)) = wsM g (sA σ 33 f) := rfl
theorem ml_22 {X : Bx} {g : Gx} {cc : ByteArray} {nL : Nat} {own : String} {ret : Option FieldType} {rm : Room} {r : Gx → Option Value} {σ σ' : SS} {pc : Nat} {ls : List (Nat × Value)} {st : List Value} (hX : Okw wsM X g cc nL own ret rm r σ') {i : Int32} (hb : inb i 4000 = true) (hd : decode cc pc = .ok (.iaload, 1)) (k : Vx X g.1 nL (wsM g σ) (pc + 1) ls (.int (gA σ 33 i.toNatClampNeg) :: st)) : Vx X g.1 nL (wsM g σ) pc ls (.int i :: .ref (g.2.1 22) :: st) :=
  vx_iald hX.1 22 0 (ma_22 g σ) rfl hb hd k
theorem ms_22 {X : Bx} {g : Gx} {cc : ByteArray} {nL : Nat} {own : String} {ret : Option FieldType} {rm : Room} {r : Gx → Option Value} {σ σ' : SS} {pc : Nat} {ls : List (Nat × Value)} {st : List Value} (hX : Okw wsM X g cc nL own ret rm r σ') {i : Int32} {v : Int32} (hb : inb i 4000 = true) (hd : decode cc pc = .ok (.iastore, 1)) (k : Vx X g.1 nL (wsM g (sA σ 33 (upd (gA σ 33) i.toNatClampNeg v))) (pc + 1) ls st) : Vx X g.1 nL (wsM g σ) pc ls (.int v :: .int i :: .ref (g.2.1 22) :: st) :=
  vx_iast hX.1 (hX.2.1 σ) 22 0 (ma_22 g σ) rfl hb hd (mu_22 g σ _) k
end
