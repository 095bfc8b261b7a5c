section
/-- a private method of a class that the tables say can be made, by its rows of tables_1 -/
def lw_okq (q : MethodName × Nat) : Prop := (q.1.cls ≠ "java/lang/invoke/MethodHandle" ∧ q.1.cls ≠ "java/lang/invoke/VarHandle") ∧ Cond.instantiable q.1.cls q.2 ∈ tables_1 ∧ Cond.privateMethod q.1 ∈ tables_1 ∧ Cond.instanceMethod q.1 ∈ tables_1
theorem lw_p0 : lw_okq (⟨"ContractDesk", "forgetImages", "()V"⟩, 8) := ⟨⟨by decide +kernel, by decide +kernel⟩, List.mem_of_getElem? (i := 14) (by decide +kernel), List.mem_of_getElem? (i := 171) (by decide +kernel), List.mem_of_getElem? (i := 172) (by decide +kernel)⟩
theorem lw_p1 : lw_okq (⟨"ContractDesk$Reader", "skipBlanks", "()V"⟩, 8) := ⟨⟨by decide +kernel, by decide +kernel⟩, List.mem_of_getElem? (i := 22) (by decide +kernel), List.mem_of_getElem? (i := 288) (by decide +kernel), List.mem_of_getElem? (i := 289) (by decide +kernel)⟩
theorem lw_p2 : lw_okq (⟨"ContractDesk$Reader", "readWord", "()V"⟩, 8) := ⟨⟨by decide +kernel, by decide +kernel⟩, List.mem_of_getElem? (i := 22) (by decide +kernel), List.mem_of_getElem? (i := 292) (by decide +kernel), List.mem_of_getElem? (i := 293) (by decide +kernel)⟩
theorem lw_p3 : lw_okq (⟨"ContractDesk$Reader", "letterHere", "()I"⟩, 8) := ⟨⟨by decide +kernel, by decide +kernel⟩, List.mem_of_getElem? (i := 22) (by decide +kernel), List.mem_of_getElem? (i := 296) (by decide +kernel), List.mem_of_getElem? (i := 297) (by decide +kernel)⟩
theorem lw_p4 : lw_okq (⟨"ContractDesk$Reader", "readClauseHead", "()V"⟩, 8) := ⟨⟨by decide +kernel, by decide +kernel⟩, List.mem_of_getElem? (i := 22) (by decide +kernel), List.mem_of_getElem? (i := 300) (by decide +kernel), List.mem_of_getElem? (i := 301) (by decide +kernel)⟩
theorem lw_p5 : lw_okq (⟨"ContractDesk$Reader", "fail", "(II)V"⟩, 8) := ⟨⟨by decide +kernel, by decide +kernel⟩, List.mem_of_getElem? (i := 22) (by decide +kernel), List.mem_of_getElem? (i := 308) (by decide +kernel), List.mem_of_getElem? (i := 309) (by decide +kernel)⟩
theorem lw_p6 : lw_okq (⟨"ContractDesk$Reader", "isWantHere", "()Z"⟩, 8) := ⟨⟨by decide +kernel, by decide +kernel⟩, List.mem_of_getElem? (i := 22) (by decide +kernel), List.mem_of_getElem? (i := 312) (by decide +kernel), List.mem_of_getElem? (i := 313) (by decide +kernel)⟩
theorem lw_p7 : lw_okq (⟨"ContractDesk$Reader", "readWant", "(I)V"⟩, 8) := ⟨⟨by decide +kernel, by decide +kernel⟩, List.mem_of_getElem? (i := 22) (by decide +kernel), List.mem_of_getElem? (i := 316) (by decide +kernel), List.mem_of_getElem? (i := 317) (by decide +kernel)⟩
theorem lw_p8 : lw_okq (⟨"ContractDesk$Reader", "readFigure", "(I)I"⟩, 8) := ⟨⟨by decide +kernel, by decide +kernel⟩, List.mem_of_getElem? (i := 22) (by decide +kernel), List.mem_of_getElem? (i := 320) (by decide +kernel), List.mem_of_getElem? (i := 321) (by decide +kernel)⟩
theorem lw_p9 : lw_okq (⟨"ContractDesk$Reader", "figureHere", "()I"⟩, 8) := ⟨⟨by decide +kernel, by decide +kernel⟩, List.mem_of_getElem? (i := 22) (by decide +kernel), List.mem_of_getElem? (i := 324) (by decide +kernel), List.mem_of_getElem? (i := 325) (by decide +kernel)⟩
theorem lw_p10 : lw_okq (⟨"ContractDesk$Reader", "readPart", "(I)V"⟩, 8) := ⟨⟨by decide +kernel, by decide +kernel⟩, List.mem_of_getElem? (i := 22) (by decide +kernel), List.mem_of_getElem? (i := 331) (by decide +kernel), List.mem_of_getElem? (i := 332) (by decide +kernel)⟩
theorem lw_p11 : lw_okq (⟨"ContractDesk$Reader", "readReference", "()V"⟩, 8) := ⟨⟨by decide +kernel, by decide +kernel⟩, List.mem_of_getElem? (i := 22) (by decide +kernel), List.mem_of_getElem? (i := 335) (by decide +kernel), List.mem_of_getElem? (i := 336) (by decide +kernel)⟩
theorem lw_p12 : lw_okq (⟨"ContractDesk$Reader", "checkReferences", "()V"⟩, 8) := ⟨⟨by decide +kernel, by decide +kernel⟩, List.mem_of_getElem? (i := 22) (by decide +kernel), List.mem_of_getElem? (i := 343) (by decide +kernel), List.mem_of_getElem? (i := 344) (by decide +kernel)⟩
theorem lw_p13 : lw_okq (⟨"ContractDesk$Outcomes", "reckonForce", "(I)V"⟩, 6) := ⟨⟨by decide +kernel, by decide +kernel⟩, List.mem_of_getElem? (i := 175) (by decide +kernel), List.mem_of_getElem? (i := 362) (by decide +kernel), List.mem_of_getElem? (i := 363) (by decide +kernel)⟩
theorem lw_p14 : lw_okq (⟨"ContractDesk$Outcomes", "forceSoFar", "(I)J"⟩, 6) := ⟨⟨by decide +kernel, by decide +kernel⟩, List.mem_of_getElem? (i := 175) (by decide +kernel), List.mem_of_getElem? (i := 367) (by decide +kernel), List.mem_of_getElem? (i := 368) (by decide +kernel)⟩
theorem lw_p15 : lw_okq (⟨"ContractDesk$Outcomes", "anyForce", "(I)J"⟩, 6) := ⟨⟨by decide +kernel, by decide +kernel⟩, List.mem_of_getElem? (i := 175) (by decide +kernel), List.mem_of_getElem? (i := 385) (by decide +kernel), List.mem_of_getElem? (i := 386) (by decide +kernel)⟩
def lw_privs_1 : List (MethodName × Nat) := [(⟨"ContractDesk", "forgetImages", "()V"⟩, 8), (⟨"ContractDesk$Reader", "skipBlanks", "()V"⟩, 8), (⟨"ContractDesk$Reader", "readWord", "()V"⟩, 8), (⟨"ContractDesk$Reader", "letterHere", "()I"⟩, 8), (⟨"ContractDesk$Reader", "readClauseHead", "()V"⟩, 8), (⟨"ContractDesk$Reader", "fail", "(II)V"⟩, 8), (⟨"ContractDesk$Reader", "isWantHere", "()Z"⟩, 8), (⟨"ContractDesk$Reader", "readWant", "(I)V"⟩, 8), (⟨"ContractDesk$Reader", "readFigure", "(I)I"⟩, 8), (⟨"ContractDesk$Reader", "figureHere", "()I"⟩, 8), (⟨"ContractDesk$Reader", "readPart", "(I)V"⟩, 8), (⟨"ContractDesk$Reader", "readReference", "()V"⟩, 8), (⟨"ContractDesk$Reader", "checkReferences", "()V"⟩, 8), (⟨"ContractDesk$Outcomes", "reckonForce", "(I)V"⟩, 6), (⟨"ContractDesk$Outcomes", "forceSoFar", "(I)J"⟩, 6), (⟨"ContractDesk$Outcomes", "anyForce", "(I)J"⟩, 6)]
theorem lw_r1 : ∀ q ∈ lw_privs_1, lw_okq q := List.forall_mem_cons.mpr ⟨lw_p0, List.forall_mem_cons.mpr ⟨lw_p1, List.forall_mem_cons.mpr ⟨lw_p2, List.forall_mem_cons.mpr ⟨lw_p3, List.forall_mem_cons.mpr ⟨lw_p4, List.forall_mem_cons.mpr ⟨lw_p5, List.forall_mem_cons.mpr ⟨lw_p6, List.forall_mem_cons.mpr ⟨lw_p7, List.forall_mem_cons.mpr ⟨lw_p8, List.forall_mem_cons.mpr ⟨lw_p9, List.forall_mem_cons.mpr ⟨lw_p10, List.forall_mem_cons.mpr ⟨lw_p11, List.forall_mem_cons.mpr ⟨lw_p12, List.forall_mem_cons.mpr ⟨lw_p13, List.forall_mem_cons.mpr ⟨lw_p14, List.forall_mem_cons.mpr ⟨lw_p15, fun _ h => absurd h List.not_mem_nil⟩⟩⟩⟩⟩⟩⟩⟩⟩⟩⟩⟩⟩⟩⟩⟩
theorem lw_p16 : lw_okq (⟨"ContractDesk$Outcomes", "reckonAmiss", "()V"⟩, 6) := ⟨⟨by decide +kernel, by decide +kernel⟩, List.mem_of_getElem? (i := 175) (by decide +kernel), List.mem_of_getElem? (i := 389) (by decide +kernel), List.mem_of_getElem? (i := 390) (by decide +kernel)⟩
theorem lw_p17 : lw_okq (⟨"ContractDesk$Outcomes", "reckonHang", "()V"⟩, 6) := ⟨⟨by decide +kernel, by decide +kernel⟩, List.mem_of_getElem? (i := 175) (by decide +kernel), List.mem_of_getElem? (i := 394) (by decide +kernel), List.mem_of_getElem? (i := 395) (by decide +kernel)⟩
theorem lw_p18 : lw_okq (⟨"ContractDesk$Outcomes", "hangOnAll", "(IIJ)V"⟩, 6) := ⟨⟨by decide +kernel, by decide +kernel⟩, List.mem_of_getElem? (i := 175) (by decide +kernel), List.mem_of_getElem? (i := 398) (by decide +kernel), List.mem_of_getElem? (i := 399) (by decide +kernel)⟩
theorem lw_p19 : lw_okq (⟨"ContractDesk$Outcomes", "reckonReach", "()V"⟩, 6) := ⟨⟨by decide +kernel, by decide +kernel⟩, List.mem_of_getElem? (i := 175) (by decide +kernel), List.mem_of_getElem? (i := 402) (by decide +kernel), List.mem_of_getElem? (i := 403) (by decide +kernel)⟩
theorem lw_p20 : lw_okq (⟨"ContractDesk", "isClause", "(I)Z"⟩, 8) := ⟨⟨by decide +kernel, by decide +kernel⟩, List.mem_of_getElem? (i := 14) (by decide +kernel), List.mem_of_getElem? (i := 446) (by decide +kernel), List.mem_of_getElem? (i := 447) (by decide +kernel)⟩
theorem lw_p21 : lw_okq (⟨"ContractDesk", "inForceNow", "()I"⟩, 8) := ⟨⟨by decide +kernel, by decide +kernel⟩, List.mem_of_getElem? (i := 14) (by decide +kernel), List.mem_of_getElem? (i := 451) (by decide +kernel), List.mem_of_getElem? (i := 452) (by decide +kernel)⟩
theorem lw_p22 : lw_okq (⟨"ContractDesk", "restore", "(I)V"⟩, 8) := ⟨⟨by decide +kernel, by decide +kernel⟩, List.mem_of_getElem? (i := 14) (by decide +kernel), List.mem_of_getElem? (i := 484) (by decide +kernel), List.mem_of_getElem? (i := 485) (by decide +kernel)⟩
theorem lw_p23 : lw_okq (⟨"ContractDesk$Outlook", "clausesOf", "(I)I"⟩, 3) := ⟨⟨by decide +kernel, by decide +kernel⟩, List.mem_of_getElem? (i := 201) (by decide +kernel), List.mem_of_getElem? (i := 504) (by decide +kernel), List.mem_of_getElem? (i := 505) (by decide +kernel)⟩
theorem lw_p24 : lw_okq (⟨"ContractDesk$Outlook", "possible", "()J"⟩, 3) := ⟨⟨by decide +kernel, by decide +kernel⟩, List.mem_of_getElem? (i := 201) (by decide +kernel), List.mem_of_getElem? (i := 512) (by decide +kernel), List.mem_of_getElem? (i := 513) (by decide +kernel)⟩
theorem lw_p25 : lw_okq (⟨"ContractDesk$Outlook", "suretyAmong", "(IJ)I"⟩, 3) := ⟨⟨by decide +kernel, by decide +kernel⟩, List.mem_of_getElem? (i := 201) (by decide +kernel), List.mem_of_getElem? (i := 517) (by decide +kernel), List.mem_of_getElem? (i := 518) (by decide +kernel)⟩
theorem lw_p26 : lw_okq (⟨"ContractDesk$Script", "writeClause", "(I)V"⟩, 5) := ⟨⟨by decide +kernel, by decide +kernel⟩, List.mem_of_getElem? (i := 217) (by decide +kernel), List.mem_of_getElem? (i := 578) (by decide +kernel), List.mem_of_getElem? (i := 579) (by decide +kernel)⟩
theorem lw_p27 : lw_okq (⟨"ContractDesk$Script", "writeNumber", "(I)V"⟩, 5) := ⟨⟨by decide +kernel, by decide +kernel⟩, List.mem_of_getElem? (i := 217) (by decide +kernel), List.mem_of_getElem? (i := 582) (by decide +kernel), List.mem_of_getElem? (i := 583) (by decide +kernel)⟩
theorem lw_p28 : lw_okq (⟨"ContractDesk$Script", "put", "(I)V"⟩, 5) := ⟨⟨by decide +kernel, by decide +kernel⟩, List.mem_of_getElem? (i := 217) (by decide +kernel), List.mem_of_getElem? (i := 586) (by decide +kernel), List.mem_of_getElem? (i := 587) (by decide +kernel)⟩
theorem lw_p29 : lw_okq (⟨"ContractDesk$Script", "writeFigures", "(I)V"⟩, 5) := ⟨⟨by decide +kernel, by decide +kernel⟩, List.mem_of_getElem? (i := 217) (by decide +kernel), List.mem_of_getElem? (i := 599) (by decide +kernel), List.mem_of_getElem? (i := 600) (by decide +kernel)⟩
theorem lw_p30 : lw_okq (⟨"ContractDesk$Script", "writePart", "(II)V"⟩, 5) := ⟨⟨by decide +kernel, by decide +kernel⟩, List.mem_of_getElem? (i := 217) (by decide +kernel), List.mem_of_getElem? (i := 603) (by decide +kernel), List.mem_of_getElem? (i := 604) (by decide +kernel)⟩
theorem lw_p31 : lw_okq (⟨"ContractDesk$Outcomes", "isInForce", "(IIII)Z"⟩, 6) := ⟨⟨by decide +kernel, by decide +kernel⟩, List.mem_of_getElem? (i := 175) (by decide +kernel), List.mem_of_getElem? (i := 620) (by decide +kernel), List.mem_of_getElem? (i := 621) (by decide +kernel)⟩
def lw_privs_2 : List (MethodName × Nat) := [(⟨"ContractDesk$Outcomes", "reckonAmiss", "()V"⟩, 6), (⟨"ContractDesk$Outcomes", "reckonHang", "()V"⟩, 6), (⟨"ContractDesk$Outcomes", "hangOnAll", "(IIJ)V"⟩, 6), (⟨"ContractDesk$Outcomes", "reckonReach", "()V"⟩, 6), (⟨"ContractDesk", "isClause", "(I)Z"⟩, 8), (⟨"ContractDesk", "inForceNow", "()I"⟩, 8), (⟨"ContractDesk", "restore", "(I)V"⟩, 8), (⟨"ContractDesk$Outlook", "clausesOf", "(I)I"⟩, 3), (⟨"ContractDesk$Outlook", "possible", "()J"⟩, 3), (⟨"ContractDesk$Outlook", "suretyAmong", "(IJ)I"⟩, 3), (⟨"ContractDesk$Script", "writeClause", "(I)V"⟩, 5), (⟨"ContractDesk$Script", "writeNumber", "(I)V"⟩, 5), (⟨"ContractDesk$Script", "put", "(I)V"⟩, 5), (⟨"ContractDesk$Script", "writeFigures", "(I)V"⟩, 5), (⟨"ContractDesk$Script", "writePart", "(II)V"⟩, 5), (⟨"ContractDesk$Outcomes", "isInForce", "(IIII)Z"⟩, 6)]
theorem lw_r2 : ∀ q ∈ lw_privs_2, lw_okq q := List.forall_mem_cons.mpr ⟨lw_p16, List.forall_mem_cons.mpr ⟨lw_p17, List.forall_mem_cons.mpr ⟨lw_p18, List.forall_mem_cons.mpr ⟨lw_p19, List.forall_mem_cons.mpr ⟨lw_p20, List.forall_mem_cons.mpr ⟨lw_p21, List.forall_mem_cons.mpr ⟨lw_p22, List.forall_mem_cons.mpr ⟨lw_p23, List.forall_mem_cons.mpr ⟨lw_p24, List.forall_mem_cons.mpr ⟨lw_p25, List.forall_mem_cons.mpr ⟨lw_p26, List.forall_mem_cons.mpr ⟨lw_p27, List.forall_mem_cons.mpr ⟨lw_p28, List.forall_mem_cons.mpr ⟨lw_p29, List.forall_mem_cons.mpr ⟨lw_p30, List.forall_mem_cons.mpr ⟨lw_p31, fun _ h => absurd h List.not_mem_nil⟩⟩⟩⟩⟩⟩⟩⟩⟩⟩⟩⟩⟩⟩⟩⟩
theorem lw_p32 : lw_okq (⟨"ContractDesk$Outlook", "couldSettle", "(II)Z"⟩, 3) := ⟨⟨by decide +kernel, by decide +kernel⟩, List.mem_of_getElem? (i := 201) (by decide +kernel), List.mem_of_getElem? (i := 671) (by decide +kernel), List.mem_of_getElem? (i := 672) (by decide +kernel)⟩
theorem lw_p33 : lw_okq (⟨"ContractDeskModel", "reads", "()V"⟩, 35) := ⟨⟨by decide +kernel, by decide +kernel⟩, List.mem_of_getElem? (i := 712) (by decide +kernel), List.mem_of_getElem? (i := 838) (by decide +kernel), List.mem_of_getElem? (i := 839) (by decide +kernel)⟩
theorem lw_p34 : lw_okq (⟨"ContractDeskModel", "sign", "()I"⟩, 35) := ⟨⟨by decide +kernel, by decide +kernel⟩, List.mem_of_getElem? (i := 712) (by decide +kernel), List.mem_of_getElem? (i := 842) (by decide +kernel), List.mem_of_getElem? (i := 843) (by decide +kernel)⟩
theorem lw_p35 : lw_okq (⟨"ContractDeskModel", "opens", "(I)V"⟩, 35) := ⟨⟨by decide +kernel, by decide +kernel⟩, List.mem_of_getElem? (i := 712) (by decide +kernel), List.mem_of_getElem? (i := 846) (by decide +kernel), List.mem_of_getElem? (i := 847) (by decide +kernel)⟩
theorem lw_p36 : lw_okq (⟨"ContractDeskModel", "fails", "(I)V"⟩, 35) := ⟨⟨by decide +kernel, by decide +kernel⟩, List.mem_of_getElem? (i := 712) (by decide +kernel), List.mem_of_getElem? (i := 850) (by decide +kernel), List.mem_of_getElem? (i := 851) (by decide +kernel)⟩
theorem lw_p37 : lw_okq (⟨"ContractDeskModel", "figure", "(I)I"⟩, 35) := ⟨⟨by decide +kernel, by decide +kernel⟩, List.mem_of_getElem? (i := 712) (by decide +kernel), List.mem_of_getElem? (i := 854) (by decide +kernel), List.mem_of_getElem? (i := 855) (by decide +kernel)⟩
theorem lw_p38 : lw_okq (⟨"ContractDeskModel", "takesPart", "(II)V"⟩, 35) := ⟨⟨by decide +kernel, by decide +kernel⟩, List.mem_of_getElem? (i := 712) (by decide +kernel), List.mem_of_getElem? (i := 864) (by decide +kernel), List.mem_of_getElem? (i := 865) (by decide +kernel)⟩
theorem lw_p39 : lw_okq (⟨"ContractDeskModel", "clauseNumber", "()I"⟩, 35) := ⟨⟨by decide +kernel, by decide +kernel⟩, List.mem_of_getElem? (i := 712) (by decide +kernel), List.mem_of_getElem? (i := 868) (by decide +kernel), List.mem_of_getElem? (i := 869) (by decide +kernel)⟩
theorem lw_p40 : lw_okq (⟨"ContractDeskModel", "notes", "()V"⟩, 35) := ⟨⟨by decide +kernel, by decide +kernel⟩, List.mem_of_getElem? (i := 712) (by decide +kernel), List.mem_of_getElem? (i := 887) (by decide +kernel), List.mem_of_getElem? (i := 888) (by decide +kernel)⟩
theorem lw_p41 : lw_okq (⟨"ContractDeskModel", "isClause", "(I)Z"⟩, 35) := ⟨⟨by decide +kernel, by decide +kernel⟩, List.mem_of_getElem? (i := 712) (by decide +kernel), List.mem_of_getElem? (i := 899) (by decide +kernel), List.mem_of_getElem? (i := 900) (by decide +kernel)⟩
theorem lw_p42 : lw_okq (⟨"ContractDeskModel", "now", "()I"⟩, 35) := ⟨⟨by decide +kernel, by decide +kernel⟩, List.mem_of_getElem? (i := 712) (by decide +kernel), List.mem_of_getElem? (i := 903) (by decide +kernel), List.mem_of_getElem? (i := 904) (by decide +kernel)⟩
theorem lw_p43 : lw_okq (⟨"ContractDeskModel", "forceBy", "(I)I"⟩, 35) := ⟨⟨by decide +kernel, by decide +kernel⟩, List.mem_of_getElem? (i := 712) (by decide +kernel), List.mem_of_getElem? (i := 907) (by decide +kernel), List.mem_of_getElem? (i := 908) (by decide +kernel)⟩
theorem lw_p44 : lw_okq (⟨"ContractDeskModel", "holds", "(II)Z"⟩, 35) := ⟨⟨by decide +kernel, by decide +kernel⟩, List.mem_of_getElem? (i := 712) (by decide +kernel), List.mem_of_getElem? (i := 911) (by decide +kernel), List.mem_of_getElem? (i := 912) (by decide +kernel)⟩
theorem lw_p45 : lw_okq (⟨"ContractDeskModel", "isCalled", "(II)Z"⟩, 35) := ⟨⟨by decide +kernel, by decide +kernel⟩, List.mem_of_getElem? (i := 712) (by decide +kernel), List.mem_of_getElem? (i := 915) (by decide +kernel), List.mem_of_getElem? (i := 916) (by decide +kernel)⟩
theorem lw_p46 : lw_okq (⟨"ContractDeskModel", "surely", "(I)I"⟩, 35) := ⟨⟨by decide +kernel, by decide +kernel⟩, List.mem_of_getElem? (i := 712) (by decide +kernel), List.mem_of_getElem? (i := 939) (by decide +kernel), List.mem_of_getElem? (i := 940) (by decide +kernel)⟩
theorem lw_p47 : lw_okq (⟨"ContractDeskModel", "forces", "()V"⟩, 35) := ⟨⟨by decide +kernel, by decide +kernel⟩, List.mem_of_getElem? (i := 712) (by decide +kernel), List.mem_of_getElem? (i := 943) (by decide +kernel), List.mem_of_getElem? (i := 944) (by decide +kernel)⟩
def lw_privs_3 : List (MethodName × Nat) := [(⟨"ContractDesk$Outlook", "couldSettle", "(II)Z"⟩, 3), (⟨"ContractDeskModel", "reads", "()V"⟩, 35), (⟨"ContractDeskModel", "sign", "()I"⟩, 35), (⟨"ContractDeskModel", "opens", "(I)V"⟩, 35), (⟨"ContractDeskModel", "fails", "(I)V"⟩, 35), (⟨"ContractDeskModel", "figure", "(I)I"⟩, 35), (⟨"ContractDeskModel", "takesPart", "(II)V"⟩, 35), (⟨"ContractDeskModel", "clauseNumber", "()I"⟩, 35), (⟨"ContractDeskModel", "notes", "()V"⟩, 35), (⟨"ContractDeskModel", "isClause", "(I)Z"⟩, 35), (⟨"ContractDeskModel", "now", "()I"⟩, 35), (⟨"ContractDeskModel", "forceBy", "(I)I"⟩, 35), (⟨"ContractDeskModel", "holds", "(II)Z"⟩, 35), (⟨"ContractDeskModel", "isCalled", "(II)Z"⟩, 35), (⟨"ContractDeskModel", "surely", "(I)I"⟩, 35), (⟨"ContractDeskModel", "forces", "()V"⟩, 35)]
theorem lw_r3 : ∀ q ∈ lw_privs_3, lw_okq q := List.forall_mem_cons.mpr ⟨lw_p32, List.forall_mem_cons.mpr ⟨lw_p33, List.forall_mem_cons.mpr ⟨lw_p34, List.forall_mem_cons.mpr ⟨lw_p35, List.forall_mem_cons.mpr ⟨lw_p36, List.forall_mem_cons.mpr ⟨lw_p37, List.forall_mem_cons.mpr ⟨lw_p38, List.forall_mem_cons.mpr ⟨lw_p39, List.forall_mem_cons.mpr ⟨lw_p40, List.forall_mem_cons.mpr ⟨lw_p41, List.forall_mem_cons.mpr ⟨lw_p42, List.forall_mem_cons.mpr ⟨lw_p43, List.forall_mem_cons.mpr ⟨lw_p44, List.forall_mem_cons.mpr ⟨lw_p45, List.forall_mem_cons.mpr ⟨lw_p46, List.forall_mem_cons.mpr ⟨lw_p47, fun _ h => absurd h List.not_mem_nil⟩⟩⟩⟩⟩⟩⟩⟩⟩⟩⟩⟩⟩⟩⟩⟩
theorem lw_p48 : lw_okq (⟨"ContractDeskModel", "canBe", "(I)Z"⟩, 35) := ⟨⟨by decide +kernel, by decide +kernel⟩, List.mem_of_getElem? (i := 712) (by decide +kernel), List.mem_of_getElem? (i := 947) (by decide +kernel), List.mem_of_getElem? (i := 948) (by decide +kernel)⟩
theorem lw_p49 : lw_okq (⟨"ContractDeskModel", "wrongBy", "(I)I"⟩, 35) := ⟨⟨by decide +kernel, by decide +kernel⟩, List.mem_of_getElem? (i := 712) (by decide +kernel), List.mem_of_getElem? (i := 951) (by decide +kernel), List.mem_of_getElem? (i := 952) (by decide +kernel)⟩
theorem lw_p50 : lw_okq (⟨"ContractDeskModel", "count", "(II)I"⟩, 35) := ⟨⟨by decide +kernel, by decide +kernel⟩, List.mem_of_getElem? (i := 712) (by decide +kernel), List.mem_of_getElem? (i := 955) (by decide +kernel), List.mem_of_getElem? (i := 956) (by decide +kernel)⟩
theorem lw_p51 : lw_okq (⟨"ContractDeskModel", "isWrong", "(III)Z"⟩, 35) := ⟨⟨by decide +kernel, by decide +kernel⟩, List.mem_of_getElem? (i := 712) (by decide +kernel), List.mem_of_getElem? (i := 959) (by decide +kernel), List.mem_of_getElem? (i := 960) (by decide +kernel)⟩
theorem lw_p52 : lw_okq (⟨"ContractDeskModel", "often", "(IIII)I"⟩, 35) := ⟨⟨by decide +kernel, by decide +kernel⟩, List.mem_of_getElem? (i := 712) (by decide +kernel), List.mem_of_getElem? (i := 963) (by decide +kernel), List.mem_of_getElem? (i := 964) (by decide +kernel)⟩
theorem lw_p53 : lw_okq (⟨"ContractDeskModel", "roundOf", "(I)I"⟩, 35) := ⟨⟨by decide +kernel, by decide +kernel⟩, List.mem_of_getElem? (i := 712) (by decide +kernel), List.mem_of_getElem? (i := 967) (by decide +kernel), List.mem_of_getElem? (i := 968) (by decide +kernel)⟩
theorem lw_p54 : lw_okq (⟨"ContractDeskModel", "hangsOn", "(II)I"⟩, 35) := ⟨⟨by decide +kernel, by decide +kernel⟩, List.mem_of_getElem? (i := 712) (by decide +kernel), List.mem_of_getElem? (i := 971) (by decide +kernel), List.mem_of_getElem? (i := 972) (by decide +kernel)⟩
theorem lw_p55 : lw_okq (⟨"ContractDeskModel", "matters", "(I)I"⟩, 35) := ⟨⟨by decide +kernel, by decide +kernel⟩, List.mem_of_getElem? (i := 712) (by decide +kernel), List.mem_of_getElem? (i := 975) (by decide +kernel), List.mem_of_getElem? (i := 976) (by decide +kernel)⟩
theorem lw_p56 : lw_okq (⟨"ContractDeskModel", "ways", "(Z)I"⟩, 35) := ⟨⟨by decide +kernel, by decide +kernel⟩, List.mem_of_getElem? (i := 712) (by decide +kernel), List.mem_of_getElem? (i := 979) (by decide +kernel), List.mem_of_getElem? (i := 980) (by decide +kernel)⟩
theorem lw_p57 : lw_okq (⟨"ContractDeskModel", "writesAll", "()I"⟩, 35) := ⟨⟨by decide +kernel, by decide +kernel⟩, List.mem_of_getElem? (i := 712) (by decide +kernel), List.mem_of_getElem? (i := 983) (by decide +kernel), List.mem_of_getElem? (i := 984) (by decide +kernel)⟩
theorem lw_p58 : lw_okq (⟨"ContractDeskModel", "writesNumber", "(II)V"⟩, 35) := ⟨⟨by decide +kernel, by decide +kernel⟩, List.mem_of_getElem? (i := 712) (by decide +kernel), List.mem_of_getElem? (i := 987) (by decide +kernel), List.mem_of_getElem? (i := 988) (by decide +kernel)⟩
theorem lw_p59 : lw_okq (⟨"ContractDeskModel", "depthOf", "(I)I"⟩, 35) := ⟨⟨by decide +kernel, by decide +kernel⟩, List.mem_of_getElem? (i := 712) (by decide +kernel), List.mem_of_getElem? (i := 991) (by decide +kernel), List.mem_of_getElem? (i := 992) (by decide +kernel)⟩
theorem lw_p60 : lw_okq (⟨"ContractDeskModel", "writes", "(I)V"⟩, 35) := ⟨⟨by decide +kernel, by decide +kernel⟩, List.mem_of_getElem? (i := 712) (by decide +kernel), List.mem_of_getElem? (i := 995) (by decide +kernel), List.mem_of_getElem? (i := 996) (by decide +kernel)⟩
theorem lw_p61 : lw_okq (⟨"ContractDeskModel", "upTo", "(II)I"⟩, 35) := ⟨⟨by decide +kernel, by decide +kernel⟩, List.mem_of_getElem? (i := 712) (by decide +kernel), List.mem_of_getElem? (i := 999) (by decide +kernel), List.mem_of_getElem? (i := 1000) (by decide +kernel)⟩
theorem lw_p62 : lw_okq (⟨"ContractDeskModel", "placeOf", "(II)I"⟩, 35) := ⟨⟨by decide +kernel, by decide +kernel⟩, List.mem_of_getElem? (i := 712) (by decide +kernel), List.mem_of_getElem? (i := 1003) (by decide +kernel), List.mem_of_getElem? (i := 1004) (by decide +kernel)⟩
theorem lw_p63 : lw_okq (⟨"ContractDeskModel", "firstWrong", "(I)I"⟩, 35) := ⟨⟨by decide +kernel, by decide +kernel⟩, List.mem_of_getElem? (i := 712) (by decide +kernel), List.mem_of_getElem? (i := 1011) (by decide +kernel), List.mem_of_getElem? (i := 1012) (by decide +kernel)⟩
def lw_privs_4 : List (MethodName × Nat) := [(⟨"ContractDeskModel", "canBe", "(I)Z"⟩, 35), (⟨"ContractDeskModel", "wrongBy", "(I)I"⟩, 35), (⟨"ContractDeskModel", "count", "(II)I"⟩, 35), (⟨"ContractDeskModel", "isWrong", "(III)Z"⟩, 35), (⟨"ContractDeskModel", "often", "(IIII)I"⟩, 35), (⟨"ContractDeskModel", "roundOf", "(I)I"⟩, 35), (⟨"ContractDeskModel", "hangsOn", "(II)I"⟩, 35), (⟨"ContractDeskModel", "matters", "(I)I"⟩, 35), (⟨"ContractDeskModel", "ways", "(Z)I"⟩, 35), (⟨"ContractDeskModel", "writesAll", "()I"⟩, 35), (⟨"ContractDeskModel", "writesNumber", "(II)V"⟩, 35), (⟨"ContractDeskModel", "depthOf", "(I)I"⟩, 35), (⟨"ContractDeskModel", "writes", "(I)V"⟩, 35), (⟨"ContractDeskModel", "upTo", "(II)I"⟩, 35), (⟨"ContractDeskModel", "placeOf", "(II)I"⟩, 35), (⟨"ContractDeskModel", "firstWrong", "(I)I"⟩, 35)]
theorem lw_r4 : ∀ q ∈ lw_privs_4, lw_okq q := List.forall_mem_cons.mpr ⟨lw_p48, List.forall_mem_cons.mpr ⟨lw_p49, List.forall_mem_cons.mpr ⟨lw_p50, List.forall_mem_cons.mpr ⟨lw_p51, List.forall_mem_cons.mpr ⟨lw_p52, List.forall_mem_cons.mpr ⟨lw_p53, List.forall_mem_cons.mpr ⟨lw_p54, List.forall_mem_cons.mpr ⟨lw_p55, List.forall_mem_cons.mpr ⟨lw_p56, List.forall_mem_cons.mpr ⟨lw_p57, List.forall_mem_cons.mpr ⟨lw_p58, List.forall_mem_cons.mpr ⟨lw_p59, List.forall_mem_cons.mpr ⟨lw_p60, List.forall_mem_cons.mpr ⟨lw_p61, List.forall_mem_cons.mpr ⟨lw_p62, List.forall_mem_cons.mpr ⟨lw_p63, fun _ h => absurd h List.not_mem_nil⟩⟩⟩⟩⟩⟩⟩⟩⟩⟩⟩⟩⟩⟩⟩⟩
theorem lw_p64 : lw_okq (⟨"ContractDeskModel", "idle", "(I)I"⟩, 35) := ⟨⟨by decide +kernel, by decide +kernel⟩, List.mem_of_getElem? (i := 712) (by decide +kernel), List.mem_of_getElem? (i := 1015) (by decide +kernel), List.mem_of_getElem? (i := 1016) (by decide +kernel)⟩
theorem lw_p65 : lw_okq (⟨"ContractDeskModel", "settles", "(I)I"⟩, 35) := ⟨⟨by decide +kernel, by decide +kernel⟩, List.mem_of_getElem? (i := 712) (by decide +kernel), List.mem_of_getElem? (i := 1035) (by decide +kernel), List.mem_of_getElem? (i := 1036) (by decide +kernel)⟩
theorem lw_p66 : lw_okq (⟨"ContractDeskModel", "brings", "(I)I"⟩, 35) := ⟨⟨by decide +kernel, by decide +kernel⟩, List.mem_of_getElem? (i := 712) (by decide +kernel), List.mem_of_getElem? (i := 1039) (by decide +kernel), List.mem_of_getElem? (i := 1040) (by decide +kernel)⟩
def lw_privs_5 : List (MethodName × Nat) := [(⟨"ContractDeskModel", "idle", "(I)I"⟩, 35), (⟨"ContractDeskModel", "settles", "(I)I"⟩, 35), (⟨"ContractDeskModel", "brings", "(I)I"⟩, 35)]
theorem lw_r5 : ∀ q ∈ lw_privs_5, lw_okq q := List.forall_mem_cons.mpr ⟨lw_p64, List.forall_mem_cons.mpr ⟨lw_p65, List.forall_mem_cons.mpr ⟨lw_p66, fun _ h => absurd h List.not_mem_nil⟩⟩⟩
def lw_privs : List (MethodName × Nat) := lw_privs_1 ++ (lw_privs_2 ++ (lw_privs_3 ++ (lw_privs_4 ++ (lw_privs_5))))
def lw_tbl : List Cond := k2_sels lw_privs ++ tables_1
theorem lw_privs_ok : ∀ q ∈ lw_privs, lw_okq q := by
  show ∀ q ∈ lw_privs_1 ++ (lw_privs_2 ++ (lw_privs_3 ++ (lw_privs_4 ++ (lw_privs_5)))), lw_okq q
  exact List.forall_mem_append.mpr ⟨lw_r1, List.forall_mem_append.mpr ⟨lw_r2, List.forall_mem_append.mpr ⟨lw_r3, List.forall_mem_append.mpr ⟨lw_r4, lw_r5⟩⟩⟩⟩
end
section
def RX0 : String := "ContractDesk$Deed"
def TX0 : u_T := fun k => match k with
  | 0 => ("ContractDesk$Deed", "clauses", "I", false)
  | 1 => ("ContractDesk$Deed", "parts", "I", false)
  | 2 => ("ContractDesk$Deed", "called", "I", false)
  | 3 => ("ContractDesk$Deed", "around", "[I", true)
  | 4 => ("ContractDesk$Deed", "depth", "[I", true)
  | 5 => ("ContractDesk$Deed", "wantsYes", "[I", true)
  | 6 => ("ContractDesk$Deed", "wantsNo", "[I", true)
  | 7 => ("ContractDesk$Deed", "referring", "[I", true)
  | 8 => ("ContractDesk$Deed", "termsUsed", "[I", true)
  | 9 => ("ContractDesk$Deed", "kind", "[I", true)
  | 10 => ("ContractDesk$Deed", "value", "[I", true)
  | _ => ("ContractDesk$Deed", "owner", "[I", true)
def tyX0 : Nat → FieldType := fun k => match k with
  | 0 => .int
  | 1 => .int
  | 2 => .int
  | 3 => .array .int
  | 4 => .array .int
  | 5 => .array .int
  | 6 => .array .int
  | 7 => .array .int
  | 8 => .array .int
  | 9 => .array .int
  | 10 => .array .int
  | _ => .array .int
abbrev wsX00 : List Cond := u_ws RX0 TX0 12
theorem nmX0 : ∀ a, a < 12 → ∀ b, b < 12 → a ≠ b → (TX0 a).2.1 ≠ (TX0 b).2.1 := by decide +kernel
theorem tyX0_ok : ∀ k, k < 12 → parseFieldDescriptor (TX0 k).2.2.1 = some (tyX0 k) := by decide +kernel
abbrev cX0_init : ByteArray := prog_2_method_1_code
def yX0_init : MethodName := ⟨RX0, "<init>", "()V"⟩
abbrev cX0_clear : ByteArray := prog_2_method_2_code
def yX0_clear : MethodName := ⟨RX0, "clear", "()V"⟩
abbrev cX0_takeOver : ByteArray := prog_2_method_3_code
def yX0_takeOver : MethodName := ⟨RX0, "takeOver", "(LContractDesk$Deed;)V"⟩
abbrev cX0_addClause : ByteArray := prog_2_method_4_code
def yX0_addClause : MethodName := ⟨RX0, "addClause", "(I)I"⟩
abbrev cX0_addPart : ByteArray := prog_2_method_5_code
def yX0_addPart : MethodName := ⟨RX0, "addPart", "(III)V"⟩
abbrev cX0_ownerOf : ByteArray := prog_2_method_6_code
def yX0_ownerOf : MethodName := ⟨RX0, "ownerOf", "(I)I"⟩
abbrev cX0_within : ByteArray := prog_2_method_7_code
def yX0_within : MethodName := ⟨RX0, "within", "(I)I"⟩
abbrev cX0_countOwnParts : ByteArray := prog_2_method_8_code
def yX0_countOwnParts : MethodName := ⟨RX0, "countOwnParts", "(I)I"⟩
abbrev cX0_ownPart : ByteArray := prog_2_method_9_code
def yX0_ownPart : MethodName := ⟨RX0, "ownPart", "(II)I"⟩
abbrev cX0_holds : ByteArray := prog_2_method_10_code
def yX0_holds : MethodName := ⟨RX0, "holds", "(I)J"⟩
abbrev cX0_aroundAt : ByteArray := prog_2_method_11_code
def yX0_aroundAt : MethodName := ⟨RX0, "aroundAt", "(II)I"⟩
abbrev cX0_place : ByteArray := prog_2_method_12_code
def yX0_place : MethodName := ⟨RX0, "place", "(II)I"⟩
def RX1 : String := "ContractDesk$History"
def TX1 : u_T := fun k => match k with
  | 0 => ("ContractDesk$History", "size", "I", false)
  | _ => ("ContractDesk$History", "standings", "[I", true)
def tyX1 : Nat → FieldType := fun k => match k with
  | 0 => .int
  | _ => .array .int
abbrev wsX10 : List Cond := u_ws RX1 TX1 2
theorem nmX1 : ∀ a, a < 2 → ∀ b, b < 2 → a ≠ b → (TX1 a).2.1 ≠ (TX1 b).2.1 := by decide +kernel
theorem tyX1_ok : ∀ k, k < 2 → parseFieldDescriptor (TX1 k).2.2.1 = some (tyX1 k) := by decide +kernel
abbrev cX1_init : ByteArray := prog_3_method_1_code
def yX1_init : MethodName := ⟨RX1, "<init>", "()V"⟩
abbrev cX1_clear : ByteArray := prog_3_method_2_code
def yX1_clear : MethodName := ⟨RX1, "clear", "()V"⟩
abbrev cX1_push : ByteArray := prog_3_method_3_code
def yX1_push : MethodName := ⟨RX1, "push", "(I)V"⟩
abbrev cX1_pop : ByteArray := prog_3_method_4_code
def yX1_pop : MethodName := ⟨RX1, "pop", "()I"⟩
def RX2 : String := "ContractDesk$Outcomes"
def TX2 : u_T := fun k => match k with
  | 0 => ("ContractDesk$Outcomes", "deed", "LContractDesk$Deed;", true)
  | 1 => ("ContractDesk$Outcomes", "force", "[J", true)
  | 2 => ("ContractDesk$Outcomes", "amiss", "[J", true)
  | 3 => ("ContractDesk$Outcomes", "defined", "[J", true)
  | 4 => ("ContractDesk$Outcomes", "hang", "[J", true)
  | _ => ("ContractDesk$Outcomes", "reach", "[J", true)
def tyX2 : Nat → FieldType := fun k => match k with
  | 0 => .object "ContractDesk$Deed"
  | 1 => .array .long
  | 2 => .array .long
  | 3 => .array .long
  | 4 => .array .long
  | _ => .array .long
abbrev wsX20 : List Cond := u_ws RX2 TX2 6
theorem nmX2 : ∀ a, a < 6 → ∀ b, b < 6 → a ≠ b → (TX2 a).2.1 ≠ (TX2 b).2.1 := by decide +kernel
theorem tyX2_ok : ∀ k, k < 6 → parseFieldDescriptor (TX2 k).2.2.1 = some (tyX2 k) := by decide +kernel
abbrev cX2_init : ByteArray := prog_4_method_1_code
def yX2_init : MethodName := ⟨RX2, "<init>", "(LContractDesk$Deed;)V"⟩
abbrev cX2_reckon : ByteArray := prog_4_method_2_code
def yX2_reckon : MethodName := ⟨RX2, "reckon", "(I)V"⟩
abbrev cX2_forceOf : ByteArray := prog_4_method_3_code
def yX2_forceOf : MethodName := ⟨RX2, "forceOf", "(I)J"⟩
abbrev cX2_reckonForce : ByteArray := prog_4_method_4_code
def yX2_reckonForce : MethodName := ⟨RX2, "reckonForce", "(I)V"⟩
abbrev cX2_forceSoFar : ByteArray := prog_4_method_5_code
def yX2_forceSoFar : MethodName := ⟨RX2, "forceSoFar", "(I)J"⟩
abbrev cX2_anyForce : ByteArray := prog_4_method_6_code
def yX2_anyForce : MethodName := ⟨RX2, "anyForce", "(I)J"⟩
abbrev cX2_reckonAmiss : ByteArray := prog_4_method_7_code
def yX2_reckonAmiss : MethodName := ⟨RX2, "reckonAmiss", "()V"⟩
abbrev cX2_reckonHang : ByteArray := prog_4_method_8_code
def yX2_reckonHang : MethodName := ⟨RX2, "reckonHang", "()V"⟩
abbrev cX2_hangOnAll : ByteArray := prog_4_method_9_code
def yX2_hangOnAll : MethodName := ⟨RX2, "hangOnAll", "(IIJ)V"⟩
abbrev cX2_reckonReach : ByteArray := prog_4_method_10_code
def yX2_reckonReach : MethodName := ⟨RX2, "reckonReach", "()V"⟩
abbrev cX2_inForce : ByteArray := prog_4_method_11_code
def yX2_inForce : MethodName := ⟨RX2, "inForce", "(I)I"⟩
abbrev cX2_roundTerms : ByteArray := prog_4_method_12_code
def yX2_roundTerms : MethodName := ⟨RX2, "roundTerms", "(I)I"⟩
abbrev cX2_hangsOn : ByteArray := prog_4_method_13_code
def yX2_hangsOn : MethodName := ⟨RX2, "hangsOn", "(II)I"⟩
abbrev cX2_countAmiss : ByteArray := prog_4_method_14_code
def yX2_countAmiss : MethodName := ⟨RX2, "countAmiss", "(II)I"⟩
abbrev cX2_firstAmiss : ByteArray := prog_4_method_15_code
def yX2_firstAmiss : MethodName := ⟨RX2, "firstAmiss", "(I)I"⟩
abbrev cX2_countWrong : ByteArray := prog_4_method_16_code
def yX2_countWrong : MethodName := ⟨RX2, "countWrong", "(I)I"⟩
abbrev cX2_faultless : ByteArray := prog_4_method_17_code
def yX2_faultless : MethodName := ⟨RX2, "faultless", "()J"⟩
abbrev cX2_countParts : ByteArray := prog_4_method_18_code
def yX2_countParts : MethodName := ⟨RX2, "countParts", "(III)I"⟩
abbrev cX2_firstDefinition : ByteArray := prog_4_method_19_code
def yX2_firstDefinition : MethodName := ⟨RX2, "firstDefinition", "(II)I"⟩
abbrev cX2_countIdle : ByteArray := prog_4_method_20_code
def yX2_countIdle : MethodName := ⟨RX2, "countIdle", "(I)I"⟩
abbrev cX2_isInForce : ByteArray := prog_4_method_21_code
def yX2_isInForce : MethodName := ⟨RX2, "isInForce", "(IIII)Z"⟩
def RX3 : String := "ContractDesk$Outlook"
def TX3 : u_T := fun k => match k with
  | 0 => ("ContractDesk$Outlook", "deed", "LContractDesk$Deed;", true)
  | 1 => ("ContractDesk$Outlook", "outcomes", "LContractDesk$Outcomes;", true)
  | _ => ("ContractDesk$Outlook", "standing", "LContractDesk$Standing;", true)
def tyX3 : Nat → FieldType := fun k => match k with
  | 0 => .object "ContractDesk$Deed"
  | 1 => .object "ContractDesk$Outcomes"
  | _ => .object "ContractDesk$Standing"
abbrev wsX30 : List Cond := u_ws RX3 TX3 3
theorem nmX3 : ∀ a, a < 3 → ∀ b, b < 3 → a ≠ b → (TX3 a).2.1 ≠ (TX3 b).2.1 := by decide +kernel
theorem tyX3_ok : ∀ k, k < 3 → parseFieldDescriptor (TX3 k).2.2.1 = some (tyX3 k) := by decide +kernel
abbrev cX3_init : ByteArray := prog_5_method_1_code
def yX3_init : MethodName := ⟨RX3, "<init>", "(LContractDesk$Deed;LContractDesk$Outcomes;LContractDesk$Standing;)V"⟩
abbrev cX3_possible : ByteArray := prog_5_method_2_code
def yX3_possible : MethodName := ⟨RX3, "possible", "()J"⟩
abbrev cX3_sure : ByteArray := prog_5_method_3_code
def yX3_sure : MethodName := ⟨RX3, "sure", "()I"⟩
abbrev cX3_open : ByteArray := prog_5_method_4_code
def yX3_open : MethodName := ⟨RX3, "open", "()I"⟩
abbrev cX3_never : ByteArray := prog_5_method_5_code
def yX3_never : MethodName := ⟨RX3, "never", "()I"⟩
abbrev cX3_clausesOf : ByteArray := prog_5_method_6_code
def yX3_clausesOf : MethodName := ⟨RX3, "clausesOf", "(I)I"⟩
abbrev cX3_surety : ByteArray := prog_5_method_7_code
def yX3_surety : MethodName := ⟨RX3, "surety", "(I)I"⟩
abbrev cX3_suretyAmong : ByteArray := prog_5_method_8_code
def yX3_suretyAmong : MethodName := ⟨RX3, "suretyAmong", "(IJ)I"⟩
abbrev cX3_brings : ByteArray := prog_5_method_9_code
def yX3_brings : MethodName := ⟨RX3, "brings", "(I)I"⟩
abbrev cX3_ways : ByteArray := prog_5_method_10_code
def yX3_ways : MethodName := ⟨RX3, "ways", "()I"⟩
abbrev cX3_firstWay : ByteArray := prog_5_method_11_code
def yX3_firstWay : MethodName := ⟨RX3, "firstWay", "()I"⟩
abbrev cX3_matters : ByteArray := prog_5_method_12_code
def yX3_matters : MethodName := ⟨RX3, "matters", "()I"⟩
abbrev cX3_mattersFor : ByteArray := prog_5_method_13_code
def yX3_mattersFor : MethodName := ⟨RX3, "mattersFor", "(I)I"⟩
abbrev cX3_settles : ByteArray := prog_5_method_14_code
def yX3_settles : MethodName := ⟨RX3, "settles", "(I)I"⟩
abbrev cX3_couldSettle : ByteArray := prog_5_method_15_code
def yX3_couldSettle : MethodName := ⟨RX3, "couldSettle", "(II)Z"⟩
def RX4 : String := "ContractDesk$Reader"
def TX4 : u_T := fun k => match k with
  | 0 => ("ContractDesk$Reader", "length", "I", false)
  | 1 => ("ContractDesk$Reader", "faultAt", "I", false)
  | 2 => ("ContractDesk$Reader", "draft", "LContractDesk$Deed;", true)
  | 3 => ("ContractDesk$Reader", "letters", "[I", true)
  | 4 => ("ContractDesk$Reader", "valueAt", "[I", true)
  | 5 => ("ContractDesk$Reader", "faultNumber", "I", false)
  | 6 => ("ContractDesk$Reader", "at", "I", false)
  | _ => ("ContractDesk$Reader", "inside", "I", false)
def tyX4 : Nat → FieldType := fun k => match k with
  | 0 => .int
  | 1 => .int
  | 2 => .object "ContractDesk$Deed"
  | 3 => .array .int
  | 4 => .array .int
  | 5 => .int
  | 6 => .int
  | _ => .int
abbrev wsX40 : List Cond := u_ws RX4 TX4 8
theorem nmX4 : ∀ a, a < 8 → ∀ b, b < 8 → a ≠ b → (TX4 a).2.1 ≠ (TX4 b).2.1 := by decide +kernel
theorem tyX4_ok : ∀ k, k < 8 → parseFieldDescriptor (TX4 k).2.2.1 = some (tyX4 k) := by decide +kernel
abbrev cX4_init : ByteArray := prog_6_method_1_code
def yX4_init : MethodName := ⟨RX4, "<init>", "()V"⟩
abbrev cX4_takeLetter : ByteArray := prog_6_method_2_code
def yX4_takeLetter : MethodName := ⟨RX4, "takeLetter", "(I)Z"⟩
abbrev cX4_readText : ByteArray := prog_6_method_3_code
def yX4_readText : MethodName := ⟨RX4, "readText", "()I"⟩
abbrev cX4_fail : ByteArray := prog_6_method_4_code
def yX4_fail : MethodName := ⟨RX4, "fail", "(II)V"⟩
abbrev cX4_letterHere : ByteArray := prog_6_method_5_code
def yX4_letterHere : MethodName := ⟨RX4, "letterHere", "()I"⟩
abbrev cX4_figureHere : ByteArray := prog_6_method_6_code
def yX4_figureHere : MethodName := ⟨RX4, "figureHere", "()I"⟩
abbrev cX4_skipBlanks : ByteArray := prog_6_method_7_code
def yX4_skipBlanks : MethodName := ⟨RX4, "skipBlanks", "()V"⟩
abbrev cX4_readWord : ByteArray := prog_6_method_8_code
def yX4_readWord : MethodName := ⟨RX4, "readWord", "()V"⟩
abbrev cX4_readClauseHead : ByteArray := prog_6_method_9_code
def yX4_readClauseHead : MethodName := ⟨RX4, "readClauseHead", "()V"⟩
abbrev cX4_isWantHere : ByteArray := prog_6_method_10_code
def yX4_isWantHere : MethodName := ⟨RX4, "isWantHere", "()Z"⟩
abbrev cX4_readWant : ByteArray := prog_6_method_11_code
def yX4_readWant : MethodName := ⟨RX4, "readWant", "(I)V"⟩
abbrev cX4_readPart : ByteArray := prog_6_method_12_code
def yX4_readPart : MethodName := ⟨RX4, "readPart", "(I)V"⟩
abbrev cX4_readFigure : ByteArray := prog_6_method_13_code
def yX4_readFigure : MethodName := ⟨RX4, "readFigure", "(I)I"⟩
abbrev cX4_readReference : ByteArray := prog_6_method_14_code
def yX4_readReference : MethodName := ⟨RX4, "readReference", "()V"⟩
abbrev cX4_checkReferences : ByteArray := prog_6_method_15_code
def yX4_checkReferences : MethodName := ⟨RX4, "checkReferences", "()V"⟩
def RX5 : String := "ContractDesk$Script"
def TX5 : u_T := fun k => match k with
  | 0 => ("ContractDesk$Script", "deed", "LContractDesk$Deed;", true)
  | 1 => ("ContractDesk$Script", "signs", "I", false)
  | 2 => ("ContractDesk$Script", "found", "I", false)
  | 3 => ("ContractDesk$Script", "inForce", "I", false)
  | _ => ("ContractDesk$Script", "wanted", "I", false)
def tyX5 : Nat → FieldType := fun k => match k with
  | 0 => .object "ContractDesk$Deed"
  | 1 => .int
  | 2 => .int
  | 3 => .int
  | _ => .int
abbrev wsX50 : List Cond := u_ws RX5 TX5 5
theorem nmX5 : ∀ a, a < 5 → ∀ b, b < 5 → a ≠ b → (TX5 a).2.1 ≠ (TX5 b).2.1 := by decide +kernel
theorem tyX5_ok : ∀ k, k < 5 → parseFieldDescriptor (TX5 k).2.2.1 = some (tyX5 k) := by decide +kernel
abbrev cX5_init : ByteArray := prog_7_method_1_code
def yX5_init : MethodName := ⟨RX5, "<init>", "(LContractDesk$Deed;)V"⟩
abbrev cX5_write : ByteArray := prog_7_method_2_code
def yX5_write : MethodName := ⟨RX5, "write", "(II)LContractDesk$Script;"⟩
abbrev cX5_writeClause : ByteArray := prog_7_method_3_code
def yX5_writeClause : MethodName := ⟨RX5, "writeClause", "(I)V"⟩
abbrev cX5_writePart : ByteArray := prog_7_method_4_code
def yX5_writePart : MethodName := ⟨RX5, "writePart", "(II)V"⟩
abbrev cX5_writeNumber : ByteArray := prog_7_method_5_code
def yX5_writeNumber : MethodName := ⟨RX5, "writeNumber", "(I)V"⟩
abbrev cX5_writeFigures : ByteArray := prog_7_method_6_code
def yX5_writeFigures : MethodName := ⟨RX5, "writeFigures", "(I)V"⟩
abbrev cX5_put : ByteArray := prog_7_method_7_code
def yX5_put : MethodName := ⟨RX5, "put", "(I)V"⟩
def RX6 : String := "ContractDesk$Standing"
def TX6 : u_T := fun k => match k with
  | 0 => ("ContractDesk$Standing", "answered", "I", false)
  | 1 => ("ContractDesk$Standing", "yes", "I", false)
  | _ => ("ContractDesk$Standing", "struck", "I", false)
def tyX6 : Nat → FieldType := fun k => match k with
  | 0 => .int
  | 1 => .int
  | _ => .int
abbrev wsX60 : List Cond := u_ws RX6 TX6 3
theorem nmX6 : ∀ a, a < 3 → ∀ b, b < 3 → a ≠ b → (TX6 a).2.1 ≠ (TX6 b).2.1 := by decide +kernel
theorem tyX6_ok : ∀ k, k < 3 → parseFieldDescriptor (TX6 k).2.2.1 = some (tyX6 k) := by decide +kernel
abbrev cX6_init : ByteArray := prog_8_method_1_code
def yX6_init : MethodName := ⟨RX6, "<init>", "()V"⟩
abbrev cX6_answerTo : ByteArray := prog_8_method_2_code
def yX6_answerTo : MethodName := ⟨RX6, "answerTo", "(I)I"⟩
abbrev cX6_setAnswer : ByteArray := prog_8_method_3_code
def yX6_setAnswer : MethodName := ⟨RX6, "setAnswer", "(II)V"⟩
abbrev cX6_packed : ByteArray := prog_8_method_4_code
def yX6_packed : MethodName := ⟨RX6, "packed", "()I"⟩
abbrev cX6_unpack : ByteArray := prog_8_method_5_code
def yX6_unpack : MethodName := ⟨RX6, "unpack", "(I)V"⟩
def RX7 : String := "ContractDesk"
def TX7 : u_T := fun k => match k with
  | 0 => ("ContractDesk", "reader", "LContractDesk$Reader;", true)
  | 1 => ("ContractDesk", "deed", "LContractDesk$Deed;", true)
  | 2 => ("ContractDesk", "standing", "LContractDesk$Standing;", true)
  | 3 => ("ContractDesk", "history", "LContractDesk$History;", true)
  | 4 => ("ContractDesk", "images", "[I", true)
  | 5 => ("ContractDesk", "outcomes", "LContractDesk$Outcomes;", true)
  | 6 => ("ContractDesk", "outlook", "LContractDesk$Outlook;", true)
  | _ => ("ContractDesk", "script", "LContractDesk$Script;", true)
def tyX7 : Nat → FieldType := fun k => match k with
  | 0 => .object "ContractDesk$Reader"
  | 1 => .object "ContractDesk$Deed"
  | 2 => .object "ContractDesk$Standing"
  | 3 => .object "ContractDesk$History"
  | 4 => .array .int
  | 5 => .object "ContractDesk$Outcomes"
  | 6 => .object "ContractDesk$Outlook"
  | _ => .object "ContractDesk$Script"
abbrev wsX70 : List Cond := u_ws RX7 TX7 8
theorem nmX7 : ∀ a, a < 8 → ∀ b, b < 8 → a ≠ b → (TX7 a).2.1 ≠ (TX7 b).2.1 := by decide +kernel
theorem tyX7_ok : ∀ k, k < 8 → parseFieldDescriptor (TX7 k).2.2.1 = some (tyX7 k) := by decide +kernel
abbrev cX7_init : ByteArray := prog_1_method_1_code
def yX7_init : MethodName := ⟨RX7, "<init>", "()V"⟩
abbrev cX7_feed : ByteArray := prog_1_method_2_code
def yX7_feed : MethodName := ⟨RX7, "feed", "(I)I"⟩
abbrev cX7_contract : ByteArray := prog_1_method_3_code
def yX7_contract : MethodName := ⟨RX7, "contract", "()I"⟩
abbrev cX7_fault : ByteArray := prog_1_method_4_code
def yX7_fault : MethodName := ⟨RX7, "fault", "()I"⟩
abbrev cX7_answer : ByteArray := prog_1_method_5_code
def yX7_answer : MethodName := ⟨RX7, "answer", "(IZ)I"⟩
abbrev cX7_forget : ByteArray := prog_1_method_6_code
def yX7_forget : MethodName := ⟨RX7, "forget", "(I)I"⟩
abbrev cX7_strike : ByteArray := prog_1_method_7_code
def yX7_strike : MethodName := ⟨RX7, "strike", "(IZ)I"⟩
abbrev cX7_drift : ByteArray := prog_1_method_8_code
def yX7_drift : MethodName := ⟨RX7, "drift", "(I)I"⟩
abbrev cX7_undo : ByteArray := prog_1_method_9_code
def yX7_undo : MethodName := ⟨RX7, "undo", "()I"⟩
abbrev cX7_answerOf : ByteArray := prog_1_method_10_code
def yX7_answerOf : MethodName := ⟨RX7, "answerOf", "(I)I"⟩
abbrev cX7_told : ByteArray := prog_1_method_11_code
def yX7_told : MethodName := ⟨RX7, "told", "(I)I"⟩
abbrev cX7_wrong : ByteArray := prog_1_method_12_code
def yX7_wrong : MethodName := ⟨RX7, "wrong", "(I)I"⟩
abbrev cX7_clause : ByteArray := prog_1_method_13_code
def yX7_clause : MethodName := ⟨RX7, "clause", "(II)I"⟩
abbrev cX7_part : ByteArray := prog_1_method_14_code
def yX7_part : MethodName := ⟨RX7, "part", "(III)I"⟩
abbrev cX7_number : ByteArray := prog_1_method_15_code
def yX7_number : MethodName := ⟨RX7, "number", "(II)I"⟩
abbrev cX7_hangs : ByteArray := prog_1_method_16_code
def yX7_hangs : MethodName := ⟨RX7, "hangs", "(II)I"⟩
abbrev cX7_term : ByteArray := prog_1_method_17_code
def yX7_term : MethodName := ⟨RX7, "term", "(II)I"⟩
abbrev cX7_by : ByteArray := prog_1_method_18_code
def yX7_by : MethodName := ⟨RX7, "by", "(II)I"⟩
abbrev cX7_sign : ByteArray := prog_1_method_19_code
def yX7_sign : MethodName := ⟨RX7, "sign", "(I)I"⟩
abbrev cX7_keep : ByteArray := prog_1_method_20_code
def yX7_keep : MethodName := ⟨RX7, "keep", "(I)I"⟩
abbrev cX7_goBack : ByteArray := prog_1_method_21_code
def yX7_goBack : MethodName := ⟨RX7, "goBack", "(I)I"⟩
abbrev cX7_restore : ByteArray := prog_1_method_22_code
def yX7_restore : MethodName := ⟨RX7, "restore", "(I)V"⟩
abbrev cX7_forgetImages : ByteArray := prog_1_method_23_code
def yX7_forgetImages : MethodName := ⟨RX7, "forgetImages", "()V"⟩
abbrev cX7_inForceNow : ByteArray := prog_1_method_24_code
def yX7_inForceNow : MethodName := ⟨RX7, "inForceNow", "()I"⟩
abbrev cX7_isClause : ByteArray := prog_1_method_25_code
def yX7_isClause : MethodName := ⟨RX7, "isClause", "(I)Z"⟩
abbrev cX7_isQuestion : ByteArray := prog_1_method_26_code
def yX7_isQuestion : MethodName := ⟨RX7, "isQuestion", "(I)Z"⟩
abbrev cX7_isImage : ByteArray := prog_1_method_27_code
def yX7_isImage : MethodName := ⟨RX7, "isImage", "(I)Z"⟩
abbrev cX7_has : ByteArray := prog_1_method_28_code
def yX7_has : MethodName := ⟨RX7, "has", "(II)Z"⟩
abbrev cX7_isSo : ByteArray := prog_1_method_29_code
def yX7_isSo : MethodName := ⟨RX7, "isSo", "(JI)Z"⟩
abbrev cX7_agreeing : ByteArray := prog_1_method_30_code
def yX7_agreeing : MethodName := ⟨RX7, "agreeing", "(II)J"⟩
def RX8 : String := "ContractDeskModel"
def TX8 : u_T := fun k => match k with
  | 0 => ("ContractDeskModel", "text", "[I", true)
  | 1 => ("ContractDeskModel", "fed", "I", false)
  | 2 => ("ContractDeskModel", "faultPlace", "I", false)
  | 3 => ("ContractDeskModel", "clauses", "I", false)
  | 4 => ("ContractDeskModel", "around", "[I", true)
  | 5 => ("ContractDeskModel", "yes", "[I", true)
  | 6 => ("ContractDeskModel", "no", "[I", true)
  | 7 => ("ContractDeskModel", "called", "[I", true)
  | 8 => ("ContractDeskModel", "parts", "I", false)
  | 9 => ("ContractDeskModel", "of", "[I", true)
  | 10 => ("ContractDeskModel", "sort", "[I", true)
  | 11 => ("ContractDeskModel", "num", "[I", true)
  | 12 => ("ContractDeskModel", "newClauses", "I", false)
  | 13 => ("ContractDeskModel", "newAround", "[I", true)
  | 14 => ("ContractDeskModel", "newYes", "[I", true)
  | 15 => ("ContractDeskModel", "newNo", "[I", true)
  | 16 => ("ContractDeskModel", "newCalled", "[I", true)
  | 17 => ("ContractDeskModel", "newParts", "I", false)
  | 18 => ("ContractDeskModel", "newOf", "[I", true)
  | 19 => ("ContractDeskModel", "newSort", "[I", true)
  | 20 => ("ContractDeskModel", "newNum", "[I", true)
  | 21 => ("ContractDeskModel", "newPlace", "[I", true)
  | 22 => ("ContractDeskModel", "at", "I", false)
  | 23 => ("ContractDeskModel", "fault", "I", false)
  | 24 => ("ContractDeskModel", "known", "I", false)
  | 25 => ("ContractDeskModel", "said", "I", false)
  | 26 => ("ContractDeskModel", "struck", "I", false)
  | 27 => ("ContractDeskModel", "past", "[I", true)
  | 28 => ("ContractDeskModel", "acts", "I", false)
  | 29 => ("ContractDeskModel", "images", "[I", true)
  | 30 => ("ContractDeskModel", "kept", "[Z", true)
  | 31 => ("ContractDeskModel", "force", "[I", true)
  | 32 => ("ContractDeskModel", "hang", "[I", true)
  | 33 => ("ContractDeskModel", "signs", "[I", true)
  | _ => ("ContractDeskModel", "written", "I", false)
def tyX8 : Nat → FieldType := fun k => match k with
  | 0 => .array .int
  | 1 => .int
  | 2 => .int
  | 3 => .int
  | 4 => .array .int
  | 5 => .array .int
  | 6 => .array .int
  | 7 => .array .int
  | 8 => .int
  | 9 => .array .int
  | 10 => .array .int
  | 11 => .array .int
  | 12 => .int
  | 13 => .array .int
  | 14 => .array .int
  | 15 => .array .int
  | 16 => .array .int
  | 17 => .int
  | 18 => .array .int
  | 19 => .array .int
  | 20 => .array .int
  | 21 => .array .int
  | 22 => .int
  | 23 => .int
  | 24 => .int
  | 25 => .int
  | 26 => .int
  | 27 => .array .int
  | 28 => .int
  | 29 => .array .int
  | 30 => .array .boolean
  | 31 => .array .int
  | 32 => .array .int
  | 33 => .array .int
  | _ => .int
abbrev wsX80 : List Cond := u_ws RX8 TX8 35
theorem nmX8 : ∀ a, a < 35 → ∀ b, b < 35 → a ≠ b → (TX8 a).2.1 ≠ (TX8 b).2.1 := by decide +kernel
theorem tyX8_ok : ∀ k, k < 35 → parseFieldDescriptor (TX8 k).2.2.1 = some (tyX8 k) := by decide +kernel
abbrev cX8_init : ByteArray := prog_10_method_1_code
def yX8_init : MethodName := ⟨RX8, "<init>", "()V"⟩
abbrev cX8_in : ByteArray := prog_10_method_3_code
def yX8_in : MethodName := ⟨RX8, "in", "(III)Z"⟩
abbrev cX8_has : ByteArray := prog_10_method_4_code
def yX8_has : MethodName := ⟨RX8, "has", "(II)Z"⟩
abbrev cX8_ones : ByteArray := prog_10_method_5_code
def yX8_ones : MethodName := ⟨RX8, "ones", "(I)I"⟩
abbrev cX8_isClause : ByteArray := prog_10_method_6_code
def yX8_isClause : MethodName := ⟨RX8, "isClause", "(I)Z"⟩
abbrev cX8_feed : ByteArray := prog_10_method_7_code
def yX8_feed : MethodName := ⟨RX8, "feed", "(I)I"⟩
abbrev cX8_sign : ByteArray := prog_10_method_8_code
def yX8_sign : MethodName := ⟨RX8, "sign", "()I"⟩
abbrev cX8_fails : ByteArray := prog_10_method_9_code
def yX8_fails : MethodName := ⟨RX8, "fails", "(I)V"⟩
abbrev cX8_isFigure : ByteArray := prog_10_method_10_code
def yX8_isFigure : MethodName := ⟨RX8, "isFigure", "(I)Z"⟩
abbrev cX8_figure : ByteArray := prog_10_method_11_code
def yX8_figure : MethodName := ⟨RX8, "figure", "(I)I"⟩
abbrev cX8_clauseNumber : ByteArray := prog_10_method_12_code
def yX8_clauseNumber : MethodName := ⟨RX8, "clauseNumber", "()I"⟩
abbrev cX8_opens : ByteArray := prog_10_method_13_code
def yX8_opens : MethodName := ⟨RX8, "opens", "(I)V"⟩
abbrev cX8_takesPart : ByteArray := prog_10_method_14_code
def yX8_takesPart : MethodName := ⟨RX8, "takesPart", "(II)V"⟩
abbrev cX8_reads : ByteArray := prog_10_method_15_code
def yX8_reads : MethodName := ⟨RX8, "reads", "()V"⟩
abbrev cX8_contract : ByteArray := prog_10_method_16_code
def yX8_contract : MethodName := ⟨RX8, "contract", "()I"⟩
abbrev cX8_fault : ByteArray := prog_10_method_17_code
def yX8_fault : MethodName := ⟨RX8, "fault", "()I"⟩
abbrev cX8_holds : ByteArray := prog_10_method_18_code
def yX8_holds : MethodName := ⟨RX8, "holds", "(II)Z"⟩
abbrev cX8_isCalled : ByteArray := prog_10_method_19_code
def yX8_isCalled : MethodName := ⟨RX8, "isCalled", "(II)Z"⟩
abbrev cX8_forceBy : ByteArray := prog_10_method_20_code
def yX8_forceBy : MethodName := ⟨RX8, "forceBy", "(I)I"⟩
abbrev cX8_now : ByteArray := prog_10_method_21_code
def yX8_now : MethodName := ⟨RX8, "now", "()I"⟩
abbrev cX8_forces : ByteArray := prog_10_method_22_code
def yX8_forces : MethodName := ⟨RX8, "forces", "()V"⟩
abbrev cX8_canBe : ByteArray := prog_10_method_23_code
def yX8_canBe : MethodName := ⟨RX8, "canBe", "(I)Z"⟩
abbrev cX8_often : ByteArray := prog_10_method_24_code
def yX8_often : MethodName := ⟨RX8, "often", "(IIII)I"⟩
abbrev cX8_isWrong : ByteArray := prog_10_method_25_code
def yX8_isWrong : MethodName := ⟨RX8, "isWrong", "(III)Z"⟩
abbrev cX8_hangsOn : ByteArray := prog_10_method_26_code
def yX8_hangsOn : MethodName := ⟨RX8, "hangsOn", "(II)I"⟩
abbrev cX8_roundOf : ByteArray := prog_10_method_27_code
def yX8_roundOf : MethodName := ⟨RX8, "roundOf", "(I)I"⟩
abbrev cX8_count : ByteArray := prog_10_method_28_code
def yX8_count : MethodName := ⟨RX8, "count", "(II)I"⟩
abbrev cX8_wrongBy : ByteArray := prog_10_method_29_code
def yX8_wrongBy : MethodName := ⟨RX8, "wrongBy", "(I)I"⟩
abbrev cX8_notes : ByteArray := prog_10_method_30_code
def yX8_notes : MethodName := ⟨RX8, "notes", "()V"⟩
abbrev cX8_answerOf : ByteArray := prog_10_method_31_code
def yX8_answerOf : MethodName := ⟨RX8, "answerOf", "(I)I"⟩
abbrev cX8_answer : ByteArray := prog_10_method_32_code
def yX8_answer : MethodName := ⟨RX8, "answer", "(IZ)I"⟩
abbrev cX8_forget : ByteArray := prog_10_method_33_code
def yX8_forget : MethodName := ⟨RX8, "forget", "(I)I"⟩
abbrev cX8_strike : ByteArray := prog_10_method_34_code
def yX8_strike : MethodName := ⟨RX8, "strike", "(IZ)I"⟩
abbrev cX8_drift : ByteArray := prog_10_method_35_code
def yX8_drift : MethodName := ⟨RX8, "drift", "(I)I"⟩
abbrev cX8_undo : ByteArray := prog_10_method_36_code
def yX8_undo : MethodName := ⟨RX8, "undo", "()I"⟩
abbrev cX8_surely : ByteArray := prog_10_method_37_code
def yX8_surely : MethodName := ⟨RX8, "surely", "(I)I"⟩
abbrev cX8_matters : ByteArray := prog_10_method_38_code
def yX8_matters : MethodName := ⟨RX8, "matters", "(I)I"⟩
abbrev cX8_ways : ByteArray := prog_10_method_39_code
def yX8_ways : MethodName := ⟨RX8, "ways", "(Z)I"⟩
abbrev cX8_brings : ByteArray := prog_10_method_40_code
def yX8_brings : MethodName := ⟨RX8, "brings", "(I)I"⟩
abbrev cX8_settles : ByteArray := prog_10_method_41_code
def yX8_settles : MethodName := ⟨RX8, "settles", "(I)I"⟩
abbrev cX8_depthOf : ByteArray := prog_10_method_42_code
def yX8_depthOf : MethodName := ⟨RX8, "depthOf", "(I)I"⟩
abbrev cX8_placeOf : ByteArray := prog_10_method_43_code
def yX8_placeOf : MethodName := ⟨RX8, "placeOf", "(II)I"⟩
abbrev cX8_upTo : ByteArray := prog_10_method_44_code
def yX8_upTo : MethodName := ⟨RX8, "upTo", "(II)I"⟩
abbrev cX8_writes : ByteArray := prog_10_method_45_code
def yX8_writes : MethodName := ⟨RX8, "writes", "(I)V"⟩
abbrev cX8_writesNumber : ByteArray := prog_10_method_46_code
def yX8_writesNumber : MethodName := ⟨RX8, "writesNumber", "(II)V"⟩
abbrev cX8_writesAll : ByteArray := prog_10_method_47_code
def yX8_writesAll : MethodName := ⟨RX8, "writesAll", "()I"⟩
abbrev cX8_told : ByteArray := prog_10_method_48_code
def yX8_told : MethodName := ⟨RX8, "told", "(I)I"⟩
abbrev cX8_idle : ByteArray := prog_10_method_49_code
def yX8_idle : MethodName := ⟨RX8, "idle", "(I)I"⟩
abbrev cX8_firstWrong : ByteArray := prog_10_method_50_code
def yX8_firstWrong : MethodName := ⟨RX8, "firstWrong", "(I)I"⟩
abbrev cX8_wrong : ByteArray := prog_10_method_51_code
def yX8_wrong : MethodName := ⟨RX8, "wrong", "(I)I"⟩
abbrev cX8_clause : ByteArray := prog_10_method_52_code
def yX8_clause : MethodName := ⟨RX8, "clause", "(II)I"⟩
abbrev cX8_part : ByteArray := prog_10_method_53_code
def yX8_part : MethodName := ⟨RX8, "part", "(III)I"⟩
abbrev cX8_number : ByteArray := prog_10_method_54_code
def yX8_number : MethodName := ⟨RX8, "number", "(II)I"⟩
abbrev cX8_hangs : ByteArray := prog_10_method_55_code
def yX8_hangs : MethodName := ⟨RX8, "hangs", "(II)I"⟩
abbrev cX8_term : ByteArray := prog_10_method_56_code
def yX8_term : MethodName := ⟨RX8, "term", "(II)I"⟩
abbrev cX8_by : ByteArray := prog_10_method_57_code
def yX8_by : MethodName := ⟨RX8, "by", "(II)I"⟩
abbrev cX8_sign_ : ByteArray := prog_10_method_58_code
def yX8_sign_ : MethodName := ⟨RX8, "sign", "(I)I"⟩
abbrev cX8_keep : ByteArray := prog_10_method_59_code
def yX8_keep : MethodName := ⟨RX8, "keep", "(I)I"⟩
abbrev cX8_goBack : ByteArray := prog_10_method_60_code
def yX8_goBack : MethodName := ⟨RX8, "goBack", "(I)I"⟩
def RJ6 : String := "java/lang/Integer"
def TJ6 : u_T := fun k => match k with
  | _ => ("", "", "", false)
def tyJ6 : Nat → FieldType := fun k => match k with
  | _ => .int
abbrev wsJ60 : List Cond := u_ws RJ6 TJ6 0
theorem nmJ6 : ∀ a, a < 0 → ∀ b, b < 0 → a ≠ b → (TJ6 a).2.1 ≠ (TJ6 b).2.1 := by decide +kernel
theorem tyJ6_ok : ∀ k, k < 0 → parseFieldDescriptor (TJ6 k).2.2.1 = some (tyJ6 k) := by decide +kernel
abbrev cJ6_bitCount_0f7a4 : ByteArray := prog_11_method_49_code
def yJ6_bitCount_0f7a4 : MethodName := ⟨RJ6, "bitCount", "(I)I"⟩
def RJ13 : String := "java/lang/Long"
def TJ13 : u_T := fun k => match k with
  | _ => ("", "", "", false)
def tyJ13 : Nat → FieldType := fun k => match k with
  | _ => .int
abbrev wsJ130 : List Cond := u_ws RJ13 TJ13 0
theorem nmJ13 : ∀ a, a < 0 → ∀ b, b < 0 → a ≠ b → (TJ13 a).2.1 ≠ (TJ13 b).2.1 := by decide +kernel
theorem tyJ13_ok : ∀ k, k < 0 → parseFieldDescriptor (TJ13 k).2.2.1 = some (tyJ13 k) := by decide +kernel
abbrev cJ13_bitCount_95d88 : ByteArray := prog_12_method_50_code
def yJ13_bitCount_95d88 : MethodName := ⟨RJ13, "bitCount", "(J)I"⟩
def RJ10 : String := "java/lang/System"
def TJ10 : u_T := fun k => match k with
  | _ => ("", "", "", false)
def tyJ10 : Nat → FieldType := fun k => match k with
  | _ => .int
abbrev wsJ100 : List Cond := u_ws RJ10 TJ10 0
theorem nmJ10 : ∀ a, a < 0 → ∀ b, b < 0 → a ≠ b → (TJ10 a).2.1 ≠ (TJ10 b).2.1 := by decide +kernel
theorem tyJ10_ok : ∀ k, k < 0 → parseFieldDescriptor (TJ10 k).2.2.1 = some (tyJ10 k) := by decide +kernel
def RL : String := "ContractDeskLaw"
abbrev cL_law : ByteArray := code
def yL_law : MethodName := ⟨RL, "law", "([I)Z"⟩
abbrev vwCl : List vw_C := [(RX0, TX0, 12), (RX1, TX1, 2), (RX2, TX2, 6), (RX3, TX3, 3), (RX4, TX4, 8), (RX5, TX5, 5), (RX6, TX6, 3), (RX7, TX7, 8), (RX8, TX8, 35)]
end
section
/-! the words that all contracts are proved over; the bundle of a method's walk; one row an instruction -/
def wsG : List Cond := lw_tbl.filter goodWord
theorem inG {w : Cond} (i : Nat) (h : lw_tbl[i]? = some w) (hg : goodWord w = true) : w ∈ wsG := List.mem_filter.mpr ⟨List.mem_of_getElem? h, hg⟩
theorem inGs (ws : List Cond) (ps : List Nat) (hp : ws = ps.filterMap (fun i => lw_tbl[i]?)) (hg : ws.all goodWord = true) : ∀ w ∈ ws, w ∈ wsG := by
  intro w hw
  refine List.mem_filter.mpr ⟨?_, List.all_eq_true.mp hg w hw⟩
  rw [hp] at hw
  obtain ⟨i, -, hi⟩ := List.mem_filterMap.mp hw
  exact List.mem_of_getElem? hi
theorem goodC {y : MethodName} {c : ByteArray} {n : Nat} {r : Option FieldType} (h : Cond.code y c n r ∈ wsG) : GoodIn wsG (Cond.code y c n r :: wsG) := by
  intro w hw
  have hm : w ∈ wsG := by
    rcases List.mem_cons.mp hw with e | e
    · rw [e]; exact h
    · exact e
  exact ⟨hm, good_of_word (List.mem_filter.mp hm).2⟩
abbrev Bx : Type := Program × Launch × Env × Room × State × MethodId × Array Value × List Frame × Method × Code × (State → Prop) × (Nat → Prop)
abbrev bS (X : Bx) : State := X.2.2.2.2.1
abbrev bM (X : Bx) : MethodId := X.2.2.2.2.2.1
abbrev bAr (X : Bx) : Array Value := X.2.2.2.2.2.2.1
abbrev bMe (X : Bx) : Method := X.2.2.2.2.2.2.2.2.1
abbrev bC (X : Bx) : Code := X.2.2.2.2.2.2.2.2.2.1
abbrev bQ (X : Bx) : State → Prop := X.2.2.2.2.2.2.2.2.2.2.1
abbrev bA (X : Bx) : Nat → Prop := X.2.2.2.2.2.2.2.2.2.2.2
def Vx (X : Bx) (D : va_G) (nL : Nat) (ws : va_W) (pc : Nat) (ls : List (Nat × Value)) (st : List Value) : Prop :=
  ∀ (H : Heap) (locs : List Loc) (Ls : Array Slot), lv_has Ls nL ls → va_P D vwCl ws H → va_S (bA X) (bS X).heap H locs →
    W X.1 X.2.1 X.2.2.1 X.2.2.2.1 (bS X) (bM X) (bAr X) X.2.2.2.2.2.2.2.1 (bMe X) (bC X) H locs 0 0 (bQ X) (F0 (bM X) pc Ls st)
/-- what a walk stands on: the machine, the code, the words -/
def Okx (X : Bx) (D : va_G) (cc : ByteArray) (nL : Nat) (own : String) (tys : List (ClassId × FieldType)) : Prop :=
  X.1.tables.exec = Jvm.exec ∧ (bC X).code = cc ∧ (bC X).maxLocals = nL ∧ (bS X).vm.findClass own = some (bM X).cls ∧ (∀ w ∈ wsG, w.before (bAr X) (bS X) = true) ∧ va_K D vwCl tys (bS X) ∧ (∀ q, (bS X).heap.size ≤ q → (bA X) q) ∧ (bMe X).locks = false
section VX
variable {X : Bx} {D : va_G} {cc : ByteArray} {nL : Nat} {own : String} {tys : List (ClassId × FieldType)} {ws : va_W} {pc : Nat} {ls : List (Nat × Value)} {st : List Value}
theorem mem_of_lookup {l : List (Nat × Value)} {i : Nat} {v : Value} (h : l.lookup i = some v) : (i, v) ∈ l := by
  induction l with
  | nil => cases h
  | cons a l ih =>
    obtain ⟨j, w⟩ := a
    rw [List.lookup_cons] at h
    by_cases hj : (i == j) = true
    · rw [hj] at h
      have e : i = j := by simpa using hj
      cases h
      rw [e]
      exact List.mem_cons_self
    · have hj : (i == j) = false := by simpa using hj
      rw [hj] at h
      exact List.mem_cons_of_mem _ (ih h)
theorem vx_sub {ls' : List (Nat × Value)} (ks : List Nat) (hl : lv_pick ls ks = ls') (k : Vx X D nL ws pc ls' st) : Vx X D nL ws pc ls st :=
  fun H locs Ls h hP hS => k H locs Ls (lv_sub h ks hl) hP hS
theorem vx_iconst (hX : Okx X D cc nL own tys) {n : Int} {v : Int32} (hd : decode cc pc = .ok (.iconst n, 1)) (hv : Int32.ofInt n = v) (k : Vx X D nL ws (pc + 1) ls (.int v :: st)) : Vx X D nL ws pc ls st :=
  fun H locs Ls h hP hS => lv_iconst hX.1 hX.2.1 hd hv (k H locs Ls h hP hS)
theorem vx_bipush (hX : Okx X D cc nL own tys) {n : Int} {v : Int32} (hd : decode cc pc = .ok (.bipush n, 2)) (hv : (Int8.ofInt n).toInt32 = v) (k : Vx X D nL ws (pc + 2) ls (.int v :: st)) : Vx X D nL ws pc ls st :=
  fun H locs Ls h hP hS => lv_bipush hX.1 hX.2.1 hd hv (k H locs Ls h hP hS)
theorem vx_sipush (hX : Okx X D cc nL own tys) {n : Int} {v : Int32} (hd : decode cc pc = .ok (.sipush n, 3)) (hv : (Int16.ofInt n).toInt32 = v) (k : Vx X D nL ws (pc + 3) ls (.int v :: st)) : Vx X D nL ws pc ls st :=
  fun H locs Ls h hP hS => lv_sipush hX.1 hX.2.1 hd hv (k H locs Ls h hP hS)
theorem vx_lconst (hX : Okx X D cc nL own tys) {n : Fin 2} {v : Int64} (hd : decode cc pc = .ok (.lconst n, 1)) (hv : Int64.ofNat (n : Nat) = v) (k : Vx X D nL ws (pc + 1) ls (.long v :: st)) : Vx X D nL ws pc ls st :=
  fun H locs Ls h hP hS => lv_lconst hX.1 hX.2.1 hd hv (k H locs Ls h hP hS)
theorem vx_ldc (hX : Okx X D cc nL own tys) {i : Nat} {v : Int32} (hw : Cond.constant own i v ∈ wsG) (hd : decode cc pc = .ok (.ldc i, 2)) (k : Vx X D nL ws (pc + 2) ls (.int v :: st)) : Vx X D nL ws pc ls st :=
  fun H locs Ls h hP hS => lv_ldc hX.1 hX.2.1 hX.2.2.2.1 (hX.2.2.2.2.1 _ hw) hd (k H locs Ls h hP hS)
theorem vx_ldcw (hX : Okx X D cc nL own tys) {i : Nat} {v : Int32} (hw : Cond.constant own i v ∈ wsG) (hd : decode cc pc = .ok (.ldc_w i, 3)) (k : Vx X D nL ws (pc + 3) ls (.int v :: st)) : Vx X D nL ws pc ls st :=
  fun H locs Ls h hP hS => lv_ldcw hX.1 hX.2.1 hX.2.2.2.1 (hX.2.2.2.2.1 _ hw) hd (k H locs Ls h hP hS)
theorem vx_ldc2 (hX : Okx X D cc nL own tys) {i : Nat} {v : Int64} (hw : Cond.constantLong own i v ∈ wsG) (hd : decode cc pc = .ok (.ldc2_w i, 3)) (k : Vx X D nL ws (pc + 3) ls (.long v :: st)) : Vx X D nL ws pc ls st :=
  fun H locs Ls h hP hS => lv_ldc2 hX.1 hX.2.1 hX.2.2.2.1 (hX.2.2.2.2.1 _ hw) hd (k H locs Ls h hP hS)
theorem vx_iload_n (hX : Okx X D cc nL own tys) {j : Fin 4} {x : Int32} (hd : decode cc pc = .ok (.iload_n j, 1)) (hl : ls.lookup (j : Nat) = some (.int x)) (k : Vx X D nL ws (pc + 1) ls (.int x :: st)) : Vx X D nL ws pc ls st :=
  fun H locs Ls h hP hS => lv_iload_n hX.1 hX.2.1 hd rfl (h.2.2 _ (mem_of_lookup hl)) (k H locs Ls h hP hS)
theorem vx_iload (hX : Okx X D cc nL own tys) {j : Nat} {x : Int32} (hd : decode cc pc = .ok (.iload j, 2)) (hl : ls.lookup j = some (.int x)) (k : Vx X D nL ws (pc + 2) ls (.int x :: st)) : Vx X D nL ws pc ls st :=
  fun H locs Ls h hP hS => lv_iload hX.1 hX.2.1 hd (h.2.2 _ (mem_of_lookup hl)) (k H locs Ls h hP hS)
theorem vx_lload_n (hX : Okx X D cc nL own tys) {j : Fin 4} {x : Int64} (hd : decode cc pc = .ok (.lload_n j, 1)) (hl : ls.lookup (j : Nat) = some (.long x)) (k : Vx X D nL ws (pc + 1) ls (.long x :: st)) : Vx X D nL ws pc ls st :=
  fun H locs Ls h hP hS => lv_lload_n hX.1 hX.2.1 hd rfl (h.2.2 _ (mem_of_lookup hl)) (k H locs Ls h hP hS)
theorem vx_lload (hX : Okx X D cc nL own tys) {j : Nat} {x : Int64} (hd : decode cc pc = .ok (.lload j, 2)) (hl : ls.lookup j = some (.long x)) (k : Vx X D nL ws (pc + 2) ls (.long x :: st)) : Vx X D nL ws pc ls st :=
  fun H locs Ls h hP hS => lv_lload hX.1 hX.2.1 hd (h.2.2 _ (mem_of_lookup hl)) (k H locs Ls h hP hS)
theorem vx_aload_n (hX : Okx X D cc nL own tys) {j : Fin 4} {x : Nat} (hd : decode cc pc = .ok (.aload_n j, 1)) (hl : ls.lookup (j : Nat) = some (.ref x)) (k : Vx X D nL ws (pc + 1) ls (.ref x :: st)) : Vx X D nL ws pc ls st :=
  fun H locs Ls h hP hS => lv_aload_n hX.1 hX.2.1 hd rfl (h.2.2 _ (mem_of_lookup hl)) (k H locs Ls h hP hS)
theorem vx_istore_n (hX : Okx X D cc nL own tys) {j : Fin 4} {x : Int32} {ls' : List (Nat × Value)} (hd : decode cc pc = .ok (.istore_n j, 1)) (hn : (j : Nat) < nL) (hl : ((j : Nat), Value.int x) :: ls.filter (fun q => !(q.1 == (j : Nat)) && !(q.1 + 1 == (j : Nat) && q.2.category == 2)) = ls') (k : Vx X D nL ws (pc + 1) ls' st) : Vx X D nL ws pc ls (.int x :: st) :=
  fun H locs Ls h hP hS => lv_istore_n hX.1 hX.2.1 hd rfl h hn hl (fun Ls' h' => k H locs Ls' h' hP hS)
theorem vx_istore (hX : Okx X D cc nL own tys) {j : Nat} {x : Int32} {ls' : List (Nat × Value)} (hd : decode cc pc = .ok (.istore j, 2)) (hn : j < nL) (hl : (j, Value.int x) :: ls.filter (fun q => !(q.1 == j) && !(q.1 + 1 == j && q.2.category == 2)) = ls') (k : Vx X D nL ws (pc + 2) ls' st) : Vx X D nL ws pc ls (.int x :: st) :=
  fun H locs Ls h hP hS => lv_istore hX.1 hX.2.1 hd h hn hl (fun Ls' h' => k H locs Ls' h' hP hS)
theorem vx_lstore_n (hX : Okx X D cc nL own tys) {j : Fin 4} {x : Int64} {ls' : List (Nat × Value)} (hd : decode cc pc = .ok (.lstore_n j, 1)) (hn : (j : Nat) + 1 < nL) (hl : ((j : Nat), Value.long x) :: ls.filter (fun q => !(q.1 == (j : Nat)) && (!(q.1 == (j : Nat) + 1) && !(q.1 + 1 == (j : Nat) && q.2.category == 2))) = ls') (k : Vx X D nL ws (pc + 1) ls' st) : Vx X D nL ws pc ls (.long x :: st) :=
  fun H locs Ls h hP hS => lv_lstore_n hX.1 hX.2.1 hd rfl h hn hl (fun Ls' h' => k H locs Ls' h' hP hS)
theorem vx_lstore (hX : Okx X D cc nL own tys) {j : Nat} {x : Int64} {ls' : List (Nat × Value)} (hd : decode cc pc = .ok (.lstore j, 2)) (hn : j + 1 < nL) (hl : (j, Value.long x) :: ls.filter (fun q => !(q.1 == j) && (!(q.1 == j + 1) && !(q.1 + 1 == j && q.2.category == 2))) = ls') (k : Vx X D nL ws (pc + 2) ls' st) : Vx X D nL ws pc ls (.long x :: st) :=
  fun H locs Ls h hP hS => lv_lstore hX.1 hX.2.1 hd h hn hl (fun Ls' h' => k H locs Ls' h' hP hS)
theorem vx_iinc (hX : Okx X D cc nL own tys) {j q : Nat} {n : Int} {x v : Int32} {ls' : List (Nat × Value)} (hd : decode cc pc = .ok (.iinc j n, 3)) (hq : ls[q]? = some (j, .int x)) (hv : x + Int32.ofInt n = v) (hn : j < nL) (hl : (j, Value.int v) :: ls.filter (fun q => !(q.1 == j) && !(q.1 + 1 == j && q.2.category == 2)) = ls') (k : Vx X D nL ws (pc + 3) ls' st) : Vx X D nL ws pc ls st :=
  fun H locs Ls h hP hS => lv_iinc hX.1 hX.2.1 hd h hq hv hn hl (fun Ls' h' => k H locs Ls' h' hP hS)
theorem vx_goto (hX : Okx X D cc nL own tys) {off : Int} {tgt : Nat} (hd : decode cc pc = .ok (.goto off, 3)) (ht : (pc : Int) + off = (tgt : Int)) (k : Vx X D nL ws tgt ls st) : Vx X D nL ws pc ls st :=
  fun H locs Ls h hP hS => lv_goto hX.1 hX.2.1 hd ht (k H locs Ls h hP hS)
theorem vx_iadd (hX : Okx X D cc nL own tys) {x y : Int32} (hd : decode cc pc = .ok (.iadd, 1)) (k : Vx X D nL ws (pc + 1) ls (.int (x + y) :: st)) : Vx X D nL ws pc ls (.int y :: .int x :: st) :=
  fun H locs Ls h hP hS => lv_iadd hX.1 hX.2.1 hd (k H locs Ls h hP hS)
theorem vx_isub (hX : Okx X D cc nL own tys) {x y : Int32} (hd : decode cc pc = .ok (.isub, 1)) (k : Vx X D nL ws (pc + 1) ls (.int (x - y) :: st)) : Vx X D nL ws pc ls (.int y :: .int x :: st) :=
  fun H locs Ls h hP hS => lv_isub hX.1 hX.2.1 hd (k H locs Ls h hP hS)
theorem vx_imul (hX : Okx X D cc nL own tys) {x y : Int32} (hd : decode cc pc = .ok (.imul, 1)) (k : Vx X D nL ws (pc + 1) ls (.int (x * y) :: st)) : Vx X D nL ws pc ls (.int y :: .int x :: st) :=
  fun H locs Ls h hP hS => lv_imul hX.1 hX.2.1 hd (k H locs Ls h hP hS)
theorem vx_iand (hX : Okx X D cc nL own tys) {x y : Int32} (hd : decode cc pc = .ok (.iand, 1)) (k : Vx X D nL ws (pc + 1) ls (.int (x &&& y) :: st)) : Vx X D nL ws pc ls (.int y :: .int x :: st) :=
  fun H locs Ls h hP hS => lv_iand hX.1 hX.2.1 hd (k H locs Ls h hP hS)
theorem vx_ior (hX : Okx X D cc nL own tys) {x y : Int32} (hd : decode cc pc = .ok (.ior, 1)) (k : Vx X D nL ws (pc + 1) ls (.int (x ||| y) :: st)) : Vx X D nL ws pc ls (.int y :: .int x :: st) :=
  fun H locs Ls h hP hS => lv_ior hX.1 hX.2.1 hd (k H locs Ls h hP hS)
theorem vx_ixor (hX : Okx X D cc nL own tys) {x y : Int32} (hd : decode cc pc = .ok (.ixor, 1)) (k : Vx X D nL ws (pc + 1) ls (.int (x ^^^ y) :: st)) : Vx X D nL ws pc ls (.int y :: .int x :: st) :=
  fun H locs Ls h hP hS => lv_ixor hX.1 hX.2.1 hd (k H locs Ls h hP hS)
theorem vx_ladd (hX : Okx X D cc nL own tys) {x y : Int64} (hd : decode cc pc = .ok (.ladd, 1)) (k : Vx X D nL ws (pc + 1) ls (.long (x + y) :: st)) : Vx X D nL ws pc ls (.long y :: .long x :: st) :=
  fun H locs Ls h hP hS => lv_ladd hX.1 hX.2.1 hd (k H locs Ls h hP hS)
theorem vx_lsub (hX : Okx X D cc nL own tys) {x y : Int64} (hd : decode cc pc = .ok (.lsub, 1)) (k : Vx X D nL ws (pc + 1) ls (.long (x - y) :: st)) : Vx X D nL ws pc ls (.long y :: .long x :: st) :=
  fun H locs Ls h hP hS => lv_lsub hX.1 hX.2.1 hd (k H locs Ls h hP hS)
theorem vx_lmul (hX : Okx X D cc nL own tys) {x y : Int64} (hd : decode cc pc = .ok (.lmul, 1)) (k : Vx X D nL ws (pc + 1) ls (.long (x * y) :: st)) : Vx X D nL ws pc ls (.long y :: .long x :: st) :=
  fun H locs Ls h hP hS => lv_lmul hX.1 hX.2.1 hd (k H locs Ls h hP hS)
theorem vx_land (hX : Okx X D cc nL own tys) {x y : Int64} (hd : decode cc pc = .ok (.land, 1)) (k : Vx X D nL ws (pc + 1) ls (.long (x &&& y) :: st)) : Vx X D nL ws pc ls (.long y :: .long x :: st) :=
  fun H locs Ls h hP hS => lv_land hX.1 hX.2.1 hd (k H locs Ls h hP hS)
theorem vx_lor (hX : Okx X D cc nL own tys) {x y : Int64} (hd : decode cc pc = .ok (.lor, 1)) (k : Vx X D nL ws (pc + 1) ls (.long (x ||| y) :: st)) : Vx X D nL ws pc ls (.long y :: .long x :: st) :=
  fun H locs Ls h hP hS => lv_lor hX.1 hX.2.1 hd (k H locs Ls h hP hS)
theorem vx_lxor (hX : Okx X D cc nL own tys) {x y : Int64} (hd : decode cc pc = .ok (.lxor, 1)) (k : Vx X D nL ws (pc + 1) ls (.long (x ^^^ y) :: st)) : Vx X D nL ws pc ls (.long y :: .long x :: st) :=
  fun H locs Ls h hP hS => lv_lxor hX.1 hX.2.1 hd (k H locs Ls h hP hS)
theorem vx_if_eq (hX : Okx X D cc nL own tys) {x : Int32} {off : Int} {tgt : Nat} (hd : decode cc pc = .ok (.ifCond .eq off, 3)) (ht : (pc : Int) + off = (tgt : Int)) (kt : x = 0 → Vx X D nL ws tgt ls st) (kf : ¬ x = 0 → Vx X D nL ws (pc + 3) ls st) : Vx X D nL ws pc ls (.int x :: st) :=
  fun H locs Ls h hP hS => lv_if_eq hX.1 hX.2.1 hd ht (fun q => kt q H locs Ls h hP hS) (fun q => kf q H locs Ls h hP hS)
theorem vx_icmp_eq (hX : Okx X D cc nL own tys) {x y : Int32} {off : Int} {tgt : Nat} (hd : decode cc pc = .ok (.if_icmp .eq off, 3)) (ht : (pc : Int) + off = (tgt : Int)) (kt : x = y → Vx X D nL ws tgt ls st) (kf : ¬ x = y → Vx X D nL ws (pc + 3) ls st) : Vx X D nL ws pc ls (.int y :: .int x :: st) :=
  fun H locs Ls h hP hS => lv_icmp_eq hX.1 hX.2.1 hd ht (fun q => kt q H locs Ls h hP hS) (fun q => kf q H locs Ls h hP hS)
theorem vx_if_ne (hX : Okx X D cc nL own tys) {x : Int32} {off : Int} {tgt : Nat} (hd : decode cc pc = .ok (.ifCond .ne off, 3)) (ht : (pc : Int) + off = (tgt : Int)) (kt : ¬ x = 0 → Vx X D nL ws tgt ls st) (kf : x = 0 → Vx X D nL ws (pc + 3) ls st) : Vx X D nL ws pc ls (.int x :: st) :=
  fun H locs Ls h hP hS => lv_if_ne hX.1 hX.2.1 hd ht (fun q => kt q H locs Ls h hP hS) (fun q => kf q H locs Ls h hP hS)
theorem vx_icmp_ne (hX : Okx X D cc nL own tys) {x y : Int32} {off : Int} {tgt : Nat} (hd : decode cc pc = .ok (.if_icmp .ne off, 3)) (ht : (pc : Int) + off = (tgt : Int)) (kt : ¬ x = y → Vx X D nL ws tgt ls st) (kf : x = y → Vx X D nL ws (pc + 3) ls st) : Vx X D nL ws pc ls (.int y :: .int x :: st) :=
  fun H locs Ls h hP hS => lv_icmp_ne hX.1 hX.2.1 hd ht (fun q => kt q H locs Ls h hP hS) (fun q => kf q H locs Ls h hP hS)
theorem vx_if_lt (hX : Okx X D cc nL own tys) {x : Int32} {off : Int} {tgt : Nat} (hd : decode cc pc = .ok (.ifCond .lt off, 3)) (ht : (pc : Int) + off = (tgt : Int)) (kt : x < 0 → Vx X D nL ws tgt ls st) (kf : ¬ x < 0 → Vx X D nL ws (pc + 3) ls st) : Vx X D nL ws pc ls (.int x :: st) :=
  fun H locs Ls h hP hS => lv_if_lt hX.1 hX.2.1 hd ht (fun q => kt q H locs Ls h hP hS) (fun q => kf q H locs Ls h hP hS)
theorem vx_icmp_lt (hX : Okx X D cc nL own tys) {x y : Int32} {off : Int} {tgt : Nat} (hd : decode cc pc = .ok (.if_icmp .lt off, 3)) (ht : (pc : Int) + off = (tgt : Int)) (kt : x < y → Vx X D nL ws tgt ls st) (kf : ¬ x < y → Vx X D nL ws (pc + 3) ls st) : Vx X D nL ws pc ls (.int y :: .int x :: st) :=
  fun H locs Ls h hP hS => lv_icmp_lt hX.1 hX.2.1 hd ht (fun q => kt q H locs Ls h hP hS) (fun q => kf q H locs Ls h hP hS)
theorem vx_if_ge (hX : Okx X D cc nL own tys) {x : Int32} {off : Int} {tgt : Nat} (hd : decode cc pc = .ok (.ifCond .ge off, 3)) (ht : (pc : Int) + off = (tgt : Int)) (kt : 0 ≤ x → Vx X D nL ws tgt ls st) (kf : ¬ 0 ≤ x → Vx X D nL ws (pc + 3) ls st) : Vx X D nL ws pc ls (.int x :: st) :=
  fun H locs Ls h hP hS => lv_if_ge hX.1 hX.2.1 hd ht (fun q => kt q H locs Ls h hP hS) (fun q => kf q H locs Ls h hP hS)
theorem vx_icmp_ge (hX : Okx X D cc nL own tys) {x y : Int32} {off : Int} {tgt : Nat} (hd : decode cc pc = .ok (.if_icmp .ge off, 3)) (ht : (pc : Int) + off = (tgt : Int)) (kt : y ≤ x → Vx X D nL ws tgt ls st) (kf : ¬ y ≤ x → Vx X D nL ws (pc + 3) ls st) : Vx X D nL ws pc ls (.int y :: .int x :: st) :=
  fun H locs Ls h hP hS => lv_icmp_ge hX.1 hX.2.1 hd ht (fun q => kt q H locs Ls h hP hS) (fun q => kf q H locs Ls h hP hS)
theorem vx_if_gt (hX : Okx X D cc nL own tys) {x : Int32} {off : Int} {tgt : Nat} (hd : decode cc pc = .ok (.ifCond .gt off, 3)) (ht : (pc : Int) + off = (tgt : Int)) (kt : 0 < x → Vx X D nL ws tgt ls st) (kf : ¬ 0 < x → Vx X D nL ws (pc + 3) ls st) : Vx X D nL ws pc ls (.int x :: st) :=
  fun H locs Ls h hP hS => lv_if_gt hX.1 hX.2.1 hd ht (fun q => kt q H locs Ls h hP hS) (fun q => kf q H locs Ls h hP hS)
theorem vx_icmp_gt (hX : Okx X D cc nL own tys) {x y : Int32} {off : Int} {tgt : Nat} (hd : decode cc pc = .ok (.if_icmp .gt off, 3)) (ht : (pc : Int) + off = (tgt : Int)) (kt : y < x → Vx X D nL ws tgt ls st) (kf : ¬ y < x → Vx X D nL ws (pc + 3) ls st) : Vx X D nL ws pc ls (.int y :: .int x :: st) :=
  fun H locs Ls h hP hS => lv_icmp_gt hX.1 hX.2.1 hd ht (fun q => kt q H locs Ls h hP hS) (fun q => kf q H locs Ls h hP hS)
theorem vx_if_le (hX : Okx X D cc nL own tys) {x : Int32} {off : Int} {tgt : Nat} (hd : decode cc pc = .ok (.ifCond .le off, 3)) (ht : (pc : Int) + off = (tgt : Int)) (kt : x ≤ 0 → Vx X D nL ws tgt ls st) (kf : ¬ x ≤ 0 → Vx X D nL ws (pc + 3) ls st) : Vx X D nL ws pc ls (.int x :: st) :=
  fun H locs Ls h hP hS => lv_if_le hX.1 hX.2.1 hd ht (fun q => kt q H locs Ls h hP hS) (fun q => kf q H locs Ls h hP hS)
theorem vx_icmp_le (hX : Okx X D cc nL own tys) {x y : Int32} {off : Int} {tgt : Nat} (hd : decode cc pc = .ok (.if_icmp .le off, 3)) (ht : (pc : Int) + off = (tgt : Int)) (kt : x ≤ y → Vx X D nL ws tgt ls st) (kf : ¬ x ≤ y → Vx X D nL ws (pc + 3) ls st) : Vx X D nL ws pc ls (.int y :: .int x :: st) :=
  fun H locs Ls h hP hS => lv_icmp_le hX.1 hX.2.1 hd ht (fun q => kt q H locs Ls h hP hS) (fun q => kf q H locs Ls h hP hS)
def jushr (x y : Int32) : Int32 := (x.toUInt32 >>> (y.toUInt32 &&& Int32.toUInt32 31)).toInt32
def jshl (x y : Int32) : Int32 := x <<< (y &&& 31)
def jshr (x y : Int32) : Int32 := x >>> (y &&& 31)
def jlushr (x : Int64) (y : Int32) : Int64 := (x.toUInt64 >>> (y.toInt64.toUInt64 &&& Int64.toUInt64 63)).toInt64
def jrem (x y : Int32) : Int32 := x - x / y * y
def jlrem (x y : Int64) : Int64 := x - x / y * y
theorem vx_ishl (hX : Okx X D cc nL own tys) {x y : Int32} (hd : decode cc pc = .ok (.ishl, 1)) (k : Vx X D nL ws (pc + 1) ls (.int (jshl x y) :: st)) : Vx X D nL ws pc ls (.int y :: .int x :: st) :=
  fun H locs Ls h hP hS => lv_ishl hX.1 hX.2.1 hd (k H locs Ls h hP hS)
theorem vx_ishr (hX : Okx X D cc nL own tys) {x y : Int32} (hd : decode cc pc = .ok (.ishr, 1)) (k : Vx X D nL ws (pc + 1) ls (.int (jshr x y) :: st)) : Vx X D nL ws pc ls (.int y :: .int x :: st) :=
  fun H locs Ls h hP hS => lv_ishr hX.1 hX.2.1 hd (k H locs Ls h hP hS)
theorem vx_iushr (hX : Okx X D cc nL own tys) {x y : Int32} (hd : decode cc pc = .ok (.iushr, 1)) (k : Vx X D nL ws (pc + 1) ls (.int (jushr x y) :: st)) : Vx X D nL ws pc ls (.int y :: .int x :: st) :=
  fun H locs Ls h hP hS => lv_iushr hX.1 hX.2.1 hd rfl (k H locs Ls h hP hS)
theorem vx_lushr (hX : Okx X D cc nL own tys) {x : Int64} {y : Int32} (hd : decode cc pc = .ok (.lushr, 1)) (k : Vx X D nL ws (pc + 1) ls (.long (jlushr x y) :: st)) : Vx X D nL ws pc ls (.int y :: .long x :: st) :=
  fun H locs Ls h hP hS => lv_lushr hX.1 hX.2.1 hd rfl (k H locs Ls h hP hS)
theorem vx_idiv (hX : Okx X D cc nL own tys) {x y : Int32} (hd : decode cc pc = .ok (.idiv, 1)) (hn : ¬ y = 0) (k : Vx X D nL ws (pc + 1) ls (.int (x / y) :: st)) : Vx X D nL ws pc ls (.int y :: .int x :: st) :=
  fun H locs Ls h hP hS => lv_idiv hX.1 hX.2.1 hd hn (k H locs Ls h hP hS)
theorem vx_irem (hX : Okx X D cc nL own tys) {x y : Int32} (hd : decode cc pc = .ok (.irem, 1)) (hn : ¬ y = 0) (k : Vx X D nL ws (pc + 1) ls (.int (jrem x y) :: st)) : Vx X D nL ws pc ls (.int y :: .int x :: st) :=
  fun H locs Ls h hP hS => lv_irem hX.1 hX.2.1 hd hn (k H locs Ls h hP hS)
theorem vx_lrem (hX : Okx X D cc nL own tys) {x y : Int64} (hd : decode cc pc = .ok (.lrem, 1)) (hn : ¬ y = 0) (k : Vx X D nL ws (pc + 1) ls (.long (jlrem x y) :: st)) : Vx X D nL ws pc ls (.long y :: .long x :: st) :=
  fun H locs Ls h hP hS => lv_lrem hX.1 hX.2.1 hd hn (k H locs Ls h hP hS)
theorem vx_i2l (hX : Okx X D cc nL own tys) {x : Int32} (hd : decode cc pc = .ok (.i2l, 1)) (k : Vx X D nL ws (pc + 1) ls (.long x.toInt64 :: st)) : Vx X D nL ws pc ls (.int x :: st) :=
  fun H locs Ls h hP hS => lv_i2l hX.1 hX.2.1 hd rfl (k H locs Ls h hP hS)
theorem vx_l2i (hX : Okx X D cc nL own tys) {x : Int64} (hd : decode cc pc = .ok (.l2i, 1)) (k : Vx X D nL ws (pc + 1) ls (.int x.toInt32 :: st)) : Vx X D nL ws pc ls (.long x :: st) :=
  fun H locs Ls h hP hS => lv_l2i hX.1 hX.2.1 hd rfl (k H locs Ls h hP hS)
theorem vx_lcmp (hX : Okx X D cc nL own tys) {x y : Int64} (hd : decode cc pc = .ok (.lcmp, 1)) (k : Vx X D nL ws (pc + 1) ls (.int (lg_cmp x y) :: st)) : Vx X D nL ws pc ls (.long y :: .long x :: st) :=
  fun H locs Ls h hP hS => W.lcmp hX.1 hX.2.1 hd (k H locs Ls h hP hS)
theorem vx_dup (hX : Okx X D cc nL own tys) {v : Value} (hd : decode cc pc = .ok (.dup, 1)) (hv : v.category = 1) (k : Vx X D nL ws (pc + 1) ls (v :: v :: st)) : Vx X D nL ws pc ls (v :: st) :=
  fun H locs Ls h hP hS => lv_dup hX.1 hX.2.1 hd hv (k H locs Ls h hP hS)
theorem vx_dup2 (hX : Okx X D cc nL own tys) {v w : Value} (hd : decode cc pc = .ok (.dup2, 1)) (hv : v.category = 1) (hw : w.category = 1) (k : Vx X D nL ws (pc + 1) ls (v :: w :: v :: w :: st)) : Vx X D nL ws pc ls (v :: w :: st) :=
  fun H locs Ls h hP hS => lv_dup2_11 hX.1 hX.2.1 hd hv hw (k H locs Ls h hP hS)
theorem vx_pop (hX : Okx X D cc nL own tys) {v : Value} (hd : decode cc pc = .ok (.pop, 1)) (hv : v.category = 1) (k : Vx X D nL ws (pc + 1) ls st) : Vx X D nL ws pc ls (v :: st) :=
  fun H locs Ls h hP hS => lv_pop hX.1 hX.2.1 hd hv (k H locs Ls h hP hS)
theorem vx_tabIn (hX : Okx X D cc nL own tys) {dflt lo hi : Int} {offs : Array Int} {len : Nat} {x : Int32} {off : Int} {tgt : Nat} (hd : decode cc pc = .ok (.tableswitch dflt lo hi offs, len)) (h1 : ¬ x.toInt < lo) (h2 : ¬ hi < x.toInt) (ho : offs[(x.toInt - lo).toNat]? = some off) (ht : (pc : Int) + off = (tgt : Int)) (k : Vx X D nL ws tgt ls st) : Vx X D nL ws pc ls (.int x :: st) :=
  fun H locs Ls h hP hS => lv_tableIn hX.1 hX.2.1 hd h1 h2 ho ht (k H locs Ls h hP hS)
theorem vx_tabOut (hX : Okx X D cc nL own tys) {dflt lo hi : Int} {offs : Array Int} {len : Nat} {x : Int32} {tgt : Nat} (hd : decode cc pc = .ok (.tableswitch dflt lo hi offs, len)) (h1 : x.toInt < lo ∨ hi < x.toInt) (ht : (pc : Int) + dflt = (tgt : Int)) (k : Vx X D nL ws tgt ls st) : Vx X D nL ws pc ls (.int x :: st) :=
  fun H locs Ls h hP hS => lv_tableOut hX.1 hX.2.1 hd h1 ht (k H locs Ls h hP hS)
theorem vx_lookup (hX : Okx X D cc nL own tys) {dflt : Int} {ps : Array (Int × Int)} {len : Nat} {x : Int32} {off : Int} {tgt : Nat} (hd : decode cc pc = .ok (.lookupswitch dflt ps, len)) (hp : (ps.toList.zip (ps.toList.drop 1)).all (fun (a, next) => a.1 < next.1) = true) (ho : Op.lookupswitch.offset ps.toList dflt x.toInt = off) (ht : (pc : Int) + off = (tgt : Int)) (k : Vx X D nL ws tgt ls st) : Vx X D nL ws pc ls (.int x :: st) :=
  fun H locs Ls h hP hS => lv_lookup hX.1 hX.2.1 hd hp ho ht (k H locs Ls h hP hS)
/-- an index in its row -/
def inb (i : Int32) (n : Nat) : Bool := decide (¬ (i < 0 ∨ n ≤ i.toNatClampNeg))
theorem inb_in {i : Int32} {n : Nat} (h : inb i n = true) : vp_in i n := show ¬ (i < 0 ∨ n ≤ i.toNatClampNeg) from of_decide_eq_true h
theorem vx_get (hX : Okx X D cc nL own tys) {a : Nat} {C : String} {T : u_T} {N ci i : Nat} {fs : List Value} {v : Value} (q0 : Nat) (he : ws[q0]? = some (a, .inr (ci, fs))) (hc : vwCl[ci]? = some (C, T, N)) (hin : ∀ w ∈ u_ws C T N, w ∈ wsG) (j : Nat) (hj : j < N) (hv : fs[j]? = some v) (hw : Cond.fieldLink own i (T j).1 (T j).2.1 (T j).2.2.1 ∈ wsG) (hd : decode cc pc = .ok (.getfield i, 3)) (k : Vx X D nL ws (pc + 3) ls (v :: st)) : Vx X D nL ws pc ls (.ref a :: st) :=
  fun H locs Ls h hP hS => va_get (D := D) (cl := vwCl) (tys := tys) hX.1 hX.2.1 hX.2.2.2.2.1 hin hX.2.2.2.1 hX.2.2.2.2.2.1 hP q0 he hc j hj (hX.2.2.2.2.1 _ hw) (fun _ h => h) hv hd (k H locs Ls h hP hS)
theorem vx_put (hX : Okx X D cc nL own tys) {a : Nat} {C : String} {T : u_T} {N ci i : Nat} {fs : List Value} {x : Int32} {ws' : va_W} (q0 : Nat) (he : ws[q0]? = some (a, .inr (ci, fs))) (hc : vwCl[ci]? = some (C, T, N)) (hin : ∀ w ∈ u_ws C T N, w ∈ wsG) (ty0 : Nat → FieldType) (hty : ∀ k, k < N → parseFieldDescriptor (T k).2.2.1 = some (ty0 k)) (hnm : ∀ a, a < N → ∀ b, b < N → a ≠ b → (T a).2.1 ≠ (T b).2.1) (hD : va_D (bA X) ws) (j : Nat) (hj : j < N) (hl : j < fs.length) (hfin : (T j).2.2.2 = false) (hty1 : parseFieldDescriptor (T j).2.2.1 = some .int) (hw : Cond.fieldLink own i (T j).1 (T j).2.1 (T j).2.2.1 ∈ wsG) (hd : decode cc pc = .ok (.putfield i, 3)) (hs : ws.set q0 (a, .inr (ci, fs.set j (.int x))) = ws') (k : Vx X D nL ws' (pc + 3) ls st) : Vx X D nL ws pc ls (.int x :: .ref a :: st) :=
  fun H locs Ls h hP hS => va_put (D := D) (cl := vwCl) (tys := tys) hX.1 hX.2.1 hX.2.2.2.2.1 hin ty0 hty hnm hX.2.2.2.1 hX.2.2.2.2.2.1 hP hD hS q0 he hc j hj (hX.2.2.2.2.1 _ hw) (fun _ h => h) hfin hty1 rfl rfl hl hd (fun H1 locs1 hP1 _ hS1 => k H1 locs1 Ls h (hs ▸ hP1) hS1)
theorem vx_iald (hX : Okx X D cc nL own tys) {a : Nat} {cA : ClassId} {n : Nat} {f : Nat → Int32} {i : Int32} (q0 t0 : Nat) (ha : ws[q0]? = some (a, .inl (cA, n, .inl f))) (ht : tys[t0]? = some (cA, .int)) (hin : inb i n = true) (hd : decode cc pc = .ok (.iaload, 1)) (k : Vx X D nL ws (pc + 1) ls (.int (f i.toNatClampNeg) :: st)) : Vx X D nL ws pc ls (.int i :: .ref a :: st) :=
  fun H locs Ls h hP hS => va_iald hX.1 hX.2.1 hX.2.2.2.2.2.1 hP q0 t0 ha ht (inb_in hin) hd (k H locs Ls h hP hS)
theorem vx_zald (hX : Okx X D cc nL own tys) {a : Nat} {cA : ClassId} {n : Nat} {f : Nat → Int32} {i : Int32} (q0 t0 : Nat) (ha : ws[q0]? = some (a, .inl (cA, n, .inl f))) (ht : tys[t0]? = some (cA, .boolean)) (hin : inb i n = true) (hd : decode cc pc = .ok (.baload, 1)) (k : Vx X D nL ws (pc + 1) ls (.int (f i.toNatClampNeg) :: st)) : Vx X D nL ws pc ls (.int i :: .ref a :: st) :=
  fun H locs Ls h hP hS => va_zald hX.1 hX.2.1 hX.2.2.2.2.2.1 hP q0 t0 ha ht (inb_in hin) hd (k H locs Ls h hP hS)
theorem vx_lald (hX : Okx X D cc nL own tys) {a : Nat} {cA : ClassId} {n : Nat} {f : Nat → Int64} {i : Int32} (q0 t0 : Nat) (ha : ws[q0]? = some (a, .inl (cA, n, .inr (.inl f)))) (ht : tys[t0]? = some (cA, .long)) (hin : inb i n = true) (hd : decode cc pc = .ok (.laload, 1)) (k : Vx X D nL ws (pc + 1) ls (.long (f i.toNatClampNeg) :: st)) : Vx X D nL ws pc ls (.int i :: .ref a :: st) :=
  fun H locs Ls h hP hS => va_lald hX.1 hX.2.1 hX.2.2.2.2.2.1 hP q0 t0 ha ht (inb_in hin) hd (k H locs Ls h hP hS)
theorem vx_iast (hX : Okx X D cc nL own tys) {a : Nat} {cA : ClassId} {n : Nat} {f : Nat → Int32} {i x : Int32} {ws' : va_W} (hD : va_D (bA X) ws) (q0 t0 : Nat) (ha : ws[q0]? = some (a, .inl (cA, n, .inl f))) (ht : tys[t0]? = some (cA, .int)) (hin : inb i n = true) (hd : decode cc pc = .ok (.iastore, 1)) (hs : ws.set q0 (a, .inl (cA, n, .inl (upd f i.toNatClampNeg x))) = ws') (k : Vx X D nL ws' (pc + 1) ls st) : Vx X D nL ws pc ls (.int x :: .int i :: .ref a :: st) :=
  fun H locs Ls h hP hS => va_iast hX.1 hX.2.1 hX.2.2.2.2.2.1 hP hD hS q0 t0 ha ht (inb_in hin) hd (fun H1 locs1 hP1 _ hS1 => k H1 locs1 Ls h (hs ▸ hP1) hS1)
theorem vx_zast (hX : Okx X D cc nL own tys) {a : Nat} {cA : ClassId} {n : Nat} {f : Nat → Int32} {i x : Int32} {ws' : va_W} (hD : va_D (bA X) ws) (q0 t0 : Nat) (ha : ws[q0]? = some (a, .inl (cA, n, .inl f))) (ht : tys[t0]? = some (cA, .boolean)) (hin : inb i n = true) (hn : vp_nar .boolean x = x) (hd : decode cc pc = .ok (.bastore, 1)) (hs : ws.set q0 (a, .inl (cA, n, .inl (upd f i.toNatClampNeg x))) = ws') (k : Vx X D nL ws' (pc + 1) ls st) : Vx X D nL ws pc ls (.int x :: .int i :: .ref a :: st) :=
  fun H locs Ls h hP hS => va_zast hX.1 hX.2.1 hX.2.2.2.2.2.1 hP hD hS q0 t0 ha ht (inb_in hin) hd (fun H1 locs1 hP1 _ hS1 => k H1 locs1 Ls h (by rw [hn] at hP1; exact hs ▸ hP1) hS1)
theorem vx_last (hX : Okx X D cc nL own tys) {a : Nat} {cA : ClassId} {n : Nat} {f : Nat → Int64} {i : Int32} {x : Int64} {ws' : va_W} (hD : va_D (bA X) ws) (q0 t0 : Nat) (ha : ws[q0]? = some (a, .inl (cA, n, .inr (.inl f)))) (ht : tys[t0]? = some (cA, .long)) (hin : inb i n = true) (hd : decode cc pc = .ok (.lastore, 1)) (hs : ws.set q0 (a, .inl (cA, n, .inr (.inl (vp_updL f i.toNatClampNeg x)))) = ws') (k : Vx X D nL ws' (pc + 1) ls st) : Vx X D nL ws pc ls (.long x :: .int i :: .ref a :: st) :=
  fun H locs Ls h hP hS => va_last hX.1 hX.2.1 hX.2.2.2.2.2.1 hP hD hS q0 t0 ha ht (inb_in hin) hd (fun H1 locs1 hP1 _ hS1 => k H1 locs1 Ls h (hs ▸ hP1) hS1)
/-- System.arraycopy of ints, of longs: constants for places and length, tested by a program -/
def cpOk (sp dp n : Int32) (n0 n1 : Nat) : Bool := decide (¬ sp < 0) && decide (¬ dp < 0) && decide (¬ n < 0) && decide (sp.toNatClampNeg + n.toNatClampNeg ≤ n0) && decide (dp.toNatClampNeg + n.toNatClampNeg ≤ n1)
theorem vx_copyi (hX : Okx X D cc nL own tys) {a a0 : Nat} {cA : ClassId} {n0 n1 : Nat} {f f1 : Nat → Int32} {sp dp n : Int32} {i : Nat} {ws' : va_W} (hD : va_D (bA X) ws) (q0 q1 t0 : Nat) (ha0 : ws[q0]? = some (a0, .inl (cA, n0, .inl f))) (ha1 : ws[q1]? = some (a, .inl (cA, n1, .inl f1))) (ht : tys[t0]? = some (cA, .int)) (hok : cpOk sp dp n n0 n1 = true) (w1 : Cond.methodLink own i arraycopyName ∈ wsG) (w2 : Cond.native arraycopyName ∈ wsG) (w3 : Cond.static arraycopyName ∈ wsG) (w4 : Cond.initialized "java/lang/System" ∈ wsG) (hR : 1 ≤ X.2.2.2.1.frames ∧ (st.map fun v => v.category).sum + 18 ≤ X.2.2.2.1.locals) (hd : decode cc pc = .ok (.invokestatic i, 3)) (hs : ws.set q1 (a, .inl (cA, n1, .inl (va_cpy f f1 sp.toNatClampNeg dp.toNatClampNeg n.toNatClampNeg))) = ws') (k : Vx X D nL ws' (pc + 3) ls st) : Vx X D nL ws pc ls (.int n :: .int dp :: .ref a :: .int sp :: .ref a0 :: st) := by
  simp only [cpOk, Bool.and_eq_true, decide_eq_true_eq] at hok
  obtain ⟨⟨⟨⟨h1, h2⟩, h3⟩, h4⟩, h5⟩ := hok
  intro H locs Ls h hP hS
  exact va_copyi hX.1 hX.2.1 (hX.2.2.1.trans h.1.symm) hX.2.2.2.1 (hX.2.2.2.2.1 _ w1) (hX.2.2.2.2.1 _ w2) (hX.2.2.2.2.1 _ w3) (hX.2.2.2.2.1 _ w4) hX.2.2.2.2.2.1 hP hD hS q0 q1 t0 t0 ha0 ha1 ht ht rfl h1 h2 h3 h4 h5 (fun _ _ => rfl) hR.1 hR.2 hd (fun H1 locs1 hP1 _ hS1 => k H1 locs1 Ls h (hs ▸ hP1) hS1)
theorem vx_copyl (hX : Okx X D cc nL own tys) {a a0 : Nat} {cA : ClassId} {n0 n1 : Nat} {f f1 : Nat → Int64} {sp dp n : Int32} {i : Nat} {ws' : va_W} (hD : va_D (bA X) ws) (q0 q1 t0 : Nat) (ha0 : ws[q0]? = some (a0, .inl (cA, n0, .inr (.inl f)))) (ha1 : ws[q1]? = some (a, .inl (cA, n1, .inr (.inl f1)))) (ht : tys[t0]? = some (cA, .long)) (hok : cpOk sp dp n n0 n1 = true) (w1 : Cond.methodLink own i arraycopyName ∈ wsG) (w2 : Cond.native arraycopyName ∈ wsG) (w3 : Cond.static arraycopyName ∈ wsG) (w4 : Cond.initialized "java/lang/System" ∈ wsG) (hR : 1 ≤ X.2.2.2.1.frames ∧ (st.map fun v => v.category).sum + 18 ≤ X.2.2.2.1.locals) (hd : decode cc pc = .ok (.invokestatic i, 3)) (hs : ws.set q1 (a, .inl (cA, n1, .inr (.inl (va_cpy f f1 sp.toNatClampNeg dp.toNatClampNeg n.toNatClampNeg)))) = ws') (k : Vx X D nL ws' (pc + 3) ls st) : Vx X D nL ws pc ls (.int n :: .int dp :: .ref a :: .int sp :: .ref a0 :: st) := by
  simp only [cpOk, Bool.and_eq_true, decide_eq_true_eq] at hok
  obtain ⟨⟨⟨⟨h1, h2⟩, h3⟩, h4⟩, h5⟩ := hok
  intro H locs Ls h hP hS
  exact va_copyl hX.1 hX.2.1 (hX.2.2.1.trans h.1.symm) hX.2.2.2.1 (hX.2.2.2.2.1 _ w1) (hX.2.2.2.2.1 _ w2) (hX.2.2.2.2.1 _ w3) (hX.2.2.2.2.1 _ w4) hX.2.2.2.2.2.1 hP hD hS q0 q1 t0 t0 ha0 ha1 ht ht rfl h1 h2 h3 h4 h5 (fun _ _ => rfl) hR.1 hR.2 hd (fun H1 locs1 hP1 _ hS1 => k H1 locs1 Ls h (hs ▸ hP1) hS1)
end VX
end
section
/-! worlds whose cells are fixed: contracts that carry a state of numbers -/
abbrev Gx : Type := va_G × (Nat → Nat) × ClassId × ClassId × ClassId × Nat
abbrev SS : Type := (Nat → Int32) × (Nat → Nat → Int32) × (Nat → Nat → Int64)
def gI (σ : SS) (k : Nat) : Int32 := σ.1 k
def gA (σ : SS) (k : Nat) : Nat → Int32 := σ.2.1 k
def gL (σ : SS) (k : Nat) : Nat → Int64 := σ.2.2 k
def sI (σ : SS) (k : Nat) (v : Int32) : SS := (fun j => if j = k then v else σ.1 j, σ.2)
def sA (σ : SS) (k : Nat) (f : Nat → Int32) : SS := (σ.1, fun j => if j = k then f else σ.2.1 j, σ.2.2)
def sL (σ : SS) (k : Nat) (f : Nat → Int64) : SS := (σ.1, σ.2.1, fun j => if j = k then f else σ.2.2 j)
abbrev tysG (g : Gx) : List (ClassId × FieldType) := [(g.2.2.1, .int), (g.2.2.2.1, .long), (g.2.2.2.2.1, .boolean)]
abbrev Wf : Type := Gx → SS → va_W
def wA (w : Wf) (g : Gx) (sz : Nat) : Nat → Prop := fun q => (∃ (σ : SS) (k : Nat) (e : va_E), (w g σ)[k]? = some (q, e)) ∨ sz ≤ q
/-- the addresses hang on no number -/
def wFix (w : Wf) : Prop := ∀ (g : Gx) (σ σ' : SS), (w g σ).map Prod.fst = (w g σ').map Prod.fst
theorem map_fst_at {a b : va_W} (h : a.map Prod.fst = b.map Prod.fst) {k q : Nat} {e : va_E} (hk : a[k]? = some (q, e)) : ∃ e', b[k]? = some (q, e') := by
  have h1 : (a.map Prod.fst)[k]? = some q := by rw [List.getElem?_map, hk]; rfl
  rw [h, List.getElem?_map] at h1
  cases hb : b[k]? with
  | none => rw [hb] at h1; cases h1
  | some x =>
    rw [hb] at h1
    obtain ⟨x1, x2⟩ := x
    have e1 : x1 = q := Option.some.inj h1
    subst e1
    exact ⟨x2, rfl⟩
theorem va_D.fix {A : Nat → Prop} {a b : va_W} (h : a.map Prod.fst = b.map Prod.fst) (hD : va_D A a) : va_D A b := by
  refine ⟨fun i j p q hi hj hpq => ?_, fun k q hk => ?_⟩
  · obtain ⟨p1, p2⟩ := p
    obtain ⟨q1, q2⟩ := q
    obtain ⟨e1, h1⟩ := map_fst_at h.symm hi
    obtain ⟨e2, h2⟩ := map_fst_at h.symm hj
    exact hD.1 i j _ _ h1 h2 hpq
  · obtain ⟨q1, q2⟩ := q
    obtain ⟨e1, h1⟩ := map_fst_at h.symm hk
    exact hD.2 k (q1, e1) h1
/-- the words of private members of nest mates -/
def isNest (w : Cond) : Bool := match w with | .methodLinkNest _ _ _ _ => true | .fieldLinkNest _ _ _ _ _ _ => true | _ => false
def nestW : List Cond := lw_tbl.filter isNest
def NwG (U : State) : Prop := ∀ w ∈ nestW, va_Nw w U
theorem nest_in {w : Cond} (i : Nat) (h : lw_tbl[i]? = some w) (hg : isNest w = true) : w ∈ nestW := List.mem_filter.mpr ⟨List.mem_of_getElem? h, hg⟩
theorem NwG.warm {s U : State} (hW : s.WarmedH U.vm) (h : NwG s) : NwG U := by
  intro w hw
  have h1 := h w hw
  have h2 := (List.mem_filter.mp hw).2
  cases w with
  | methodLinkNest a i x b => exact va_Nw.warmM hW h1
  | fieldLinkNest a i b n d c => exact va_Nw.warmF hW h1
  | _ => cases h2
theorem NwG.same {s U : State} (hW : s.vm = U.vm) (h : NwG s) : NwG U := by
  intro w hw
  have h1 := h w hw
  have h2 := (List.mem_filter.mp hw).2
  cases w with
  | methodLinkNest a i x b => exact va_Nw.same rfl hW h1
  | fieldLinkNest a i b n d c => exact va_Nw.same rfl hW h1
  | _ => cases h2
def yesT (j : Nat) : Int64 := match j with
  | 0 => -6148914691236517206 | 1 => -3689348814741910324 | 2 => -1085102592571150096 | 3 => -71777214294589696 | 4 => -281470681808896 | _ => -4294967296
/-- what stands beside a world: the nest's words, the static table -/
def Exg (g : Gx) (A : Nat → Prop) (U : State) (H : Heap) : Prop := NwG U ∧ va_Z "ContractDesk" "YES_TO" "[J" (.ref g.2.2.2.2.2) A U H ∧ va_T .long g.2.2.2.2.2 6 (fun j => .long (yesT j)) A U H
theorem Exg.same {g : Gx} {A : Nat → Prop} {u U : State} {H : Heap} (h : u.vm = U.vm) (hE : Exg g A u H) : Exg g A U H :=
  have ha : u.vm.Alike U.vm := by rw [h]; exact Vm.Alike.refl _
  ⟨hE.1.same h, hE.2.1.moved ha, hE.2.2.moved ha⟩
theorem Exg.warm {g : Gx} {A : Nat → Prop} {s U : State} {H : Heap} (h : s.WarmedH U.vm) (hE : Exg g A s H) : Exg g A U H := ⟨hE.1.warm h, hE.2.1.moved h.alike, hE.2.2.moved h.alike⟩
theorem Exg.kept {g : Gx} {A : Nat → Prop} {U : State} {H H1 : Heap} (hE : Exg g A U H) (hq : ∀ a : Nat, a < H.size → ¬ A a → H1[a]? = H[a]?) : Exg g A U H1 := ⟨hE.1, hE.2.1.kept hq, hE.2.2.kept hq⟩
theorem Exg.narrow {g : Gx} {A B : Nat → Prop} {U : State} {H : Heap} (hE : Exg g A U H) (hAB : ∀ q, B q → A q) : Exg g B U H := ⟨hE.1, hE.2.1.narrow hAB, hE.2.2.narrow hAB⟩
def InW (w : Wf) (g : Gx) (σ : SS) (sz : Nat) (U : State) : Prop :=
  U.heap.size = sz ∧ va_P g.1 vwCl (w g σ) U.heap ∧ va_K g.1 vwCl (tysG g) U ∧ va_D (fun _ => True) (w g σ) ∧ Exg g (wA w g sz) U U.heap
/-- the end of a method: its answer, the world, what isn't its own stays -/
def xQ (w : Wf) (g : Gx) (r : Option Value) (σ : SS) (A : Nat → Prop) : Array Value → State → Outcome → State → Prop := fun _ st oc t => oc = .returned r ∧ va_P g.1 vwCl (w g σ) t.heap ∧ va_F A st t
def Mcw (w : Wf) (y : MethodName) (cc : ByteArray) (nL : Nat) (ret : Option FieldType) (rm : Room) (av : Gx → List Value) (σ : SS) (r : Gx → Option Value) (σ' : SS) : Prop :=
  ∀ (l : Launch) (g : Gx) (sz : Nat), Met l y (Cond.code y cc nL ret :: wsG) rm (va_Pc (av g) (InW w g σ sz)) (xQ w g (r g) σ' (wA w g sz)) 0 0 (wA w g sz)
/-- what a walk in a world stands on -/
def Okw (w : Wf) (X : Bx) (g : Gx) (cc : ByteArray) (nL : Nat) (own : String) (ret : Option FieldType) (rm : Room) (r : Gx → Option Value) (σ' : SS) : Prop :=
  Okx X g.1 cc nL own (tysG g) ∧ (∀ σ, va_D (bA X) (w g σ)) ∧ bA X = wA w g (bS X).heap.size ∧ Exg g (bA X) (bS X) (bS X).heap ∧ (bMe X).sig.returnType = ret ∧ X.2.2.2.1 = rm ∧ bQ X = MQ X.2.2.2.2.2.2.2.1 (xQ w g (r g) σ' (bA X)) (bAr X) (bS X) 0 0 (bA X)
theorem InW.blind {w : Wf} {g : Gx} {σ : SS} {sz : Nat} {av : List Value} : FrameBlind (va_Pc av (InW w g σ sz)) := by
  intro a U fr mk h
  obtain ⟨h0, h1, h2, h3, h4, h5⟩ := h
  exact ⟨h0, h1, h2, va_K.moved (u := U) (U := U.calling fr mk a) (Vm.Alike.refl U.vm) h3, h4, h5.same (u := U) (U := U.calling fr mk a) rfl⟩
theorem w_enter {w : Wf} {y : MethodName} {cc : ByteArray} {nL : Nat} {ret : Option FieldType} {rm : Room} {av : Gx → List Value} {σ σ' : SS} {r : Gx → Option Value} (hfix : wFix w) (hy : plainName y.cls = true) (hlen : ∀ g, (lg_sl (av g)).length ≤ nL)
    (body : ∀ (X : Bx) (g : Gx), Okw w X g cc nL y.cls ret rm r σ' → Vx X g.1 nL (w g σ) 0 (lv_args 0 (av g)) []) : Mcw w y cc nL ret rm av σ r σ' := by
  intro l g sz
  refine Met.ofW (cc := cc) (maxL := nL) (ret := ret) hy rfl ?_
  intro p e s m args below meth c s₁ B hml hv
  obtain ⟨rfl, hsz, hP, hK, hD, hE⟩ := hv
  subst hsz
  have hts := atoms_spec (ws := Cond.code y cc nL ret :: wsG) B.pre
  have hAw : ∀ σ1, va_D (wA w g s.heap.size) (w g σ1) := fun σ1 => (hD.fix (hfix g σ σ1)).weaken (fun k q hk _ => Or.inl ⟨σ1, k, q.2, hk⟩)
  have ok : Okw w (p, l, e, rm, s, m, (av g).toArray, below, meth, c, MQ below (xQ w g (r g) σ' (wA w g s.heap.size)) (av g).toArray s 0 0 (wA w g s.heap.size), wA w g s.heap.size) g cc nL y.cls ret rm r σ' :=
    ⟨⟨B.exec, B.bytes, hml, findClass_of_methodNamed B.named, fun w hw => hts w (List.mem_cons_of_mem _ hw), hK, fun q h => Or.inr h, B.notSynchronized⟩, hAw, rfl, hE, B.returns, rfl, rfl⟩
  have hb := body _ g ok s.heap [] _ (lv_entry (av g) (n := nL) (hlen g)) hP va_S.rf
  rw [lg_entry_eq]
  exact hb
section WX
variable {w : Wf} {X : Bx} {g : Gx} {cc : ByteArray} {nL : Nat} {own : String} {rm : Room} {ret : Option FieldType} {r : Gx → Option Value} {σ σ' : SS} {pc : Nat} {ls : List (Nat × Value)} {st : List Value}
theorem w_iret {v : Int32} (hX : Okw w X g cc nL own (some .int) rm r σ') (hr : r g = some (.int v)) (hd : decode cc pc = .ok (.ireturn, 1)) : Vx X g.1 nL (w g σ') pc ls [.int v] := by
  obtain ⟨hx, hD, hA, hE, hrt, hrm, hq⟩ := hX
  intro H locs Ls h hP hS
  rw [hq]
  exact W.iret hx.1 hx.2.1 hrt (fun t ht hW => ⟨by rw [hr], by rw [ht]; exact hP, hS.F ht⟩) hS.2.2 hd hx.2.2.2.2.2.2.2
def isb (v : Int32) : Bool := decide (vp_nar .boolean v = v)
theorem isb_nar {v : Int32} (h : isb v = true) : narrow .boolean (.int v) = .int v := by
  have h1 : vp_nar .boolean v = v := of_decide_eq_true h
  unfold vp_nar at h1
  cases hn : narrow .boolean (.int v) with
  | int y => rw [hn] at h1; exact congrArg Value.int h1
  | _ => simp [narrow] at hn
theorem w_zret {v : Int32} (hX : Okw w X g cc nL own (some .boolean) rm r σ') (hr : r g = some (.int v)) (hv : isb v = true) (hd : decode cc pc = .ok (.ireturn, 1)) : Vx X g.1 nL (w g σ') pc ls [.int v] := by
  obtain ⟨hx, hD, hA, hE, hrt, hrm, hq⟩ := hX
  intro H locs Ls h hP hS
  rw [hq]
  exact W.zret hx.1 hx.2.1 hrt (isb_nar hv) (fun t ht hW => ⟨by rw [hr], by rw [ht]; exact hP, hS.F ht⟩) hS.2.2 hd hx.2.2.2.2.2.2.2
theorem w_lret {v : Int64} (hX : Okw w X g cc nL own (some .long) rm r σ') (hr : r g = some (.long v)) (hd : decode cc pc = .ok (.lreturn, 1)) : Vx X g.1 nL (w g σ') pc ls [.long v] := by
  obtain ⟨hx, hD, hA, hE, hrt, hrm, hq⟩ := hX
  intro H locs Ls h hP hS
  rw [hq]
  exact W.lret hx.1 hx.2.1 hrt (fun t ht hW => ⟨by rw [hr], by rw [ht]; exact hP, hS.F ht⟩) hS.2.2 hd hx.2.2.2.2.2.2.2
theorem w_vret (hX : Okw w X g cc nL own none rm r σ') (hr : r g = none) (hd : decode cc pc = .ok (.return_, 1)) : Vx X g.1 nL (w g σ') pc ls [] := by
  obtain ⟨hx, hD, hA, hE, hrt, hrm, hq⟩ := hX
  intro H locs Ls h hP hS
  rw [hq]
  exact W.vret hx.1 hx.2.1 hrt (fun t ht hW => ⟨by rw [hr], by rw [ht]; exact hP, hS.F ht⟩) hS.2.2 hd hx.2.2.2.2.2.2.2
theorem w_aret {a : Nat} {C : String} (hX : Okw w X g cc nL own (some (.object C)) rm r σ') (hr : r g = some (.ref a)) (hd : decode cc pc = .ok (.areturn, 1)) : Vx X g.1 nL (w g σ') pc ls [.ref a] := by
  obtain ⟨hx, hD, hA, hE, hrt, hrm, hq⟩ := hX
  intro H locs Ls h hP hS
  rw [hq]
  exact W.aret hx.1 hx.2.1 hrt (Or.inl ⟨C, rfl⟩) (Or.inr ⟨a, rfl⟩) (fun t ht hW => ⟨by rw [hr], by rw [ht]; exact hP, hS.F ht⟩) hS.2.2 hd hx.2.2.2.2.2.2.2
theorem w_gets (hX : Okw w X g cc nL own ret rm r σ') {i : Nat} {ws : va_W} (hw : Cond.fieldLink own i "ContractDesk" "YES_TO" "[J" ∈ wsG) (hd : decode cc pc = .ok (.getstatic i, 3)) (k : Vx X g.1 nL ws (pc + 3) ls (.ref g.2.2.2.2.2 :: st)) : Vx X g.1 nL ws pc ls st :=
  fun H locs Ls h hP hS => va_gets hX.1.1 hX.1.2.1 hX.2.2.2.1.2.1 hS hX.1.2.2.2.1 (hX.1.2.2.2.2.1 _ hw) (fun _ h => h) hd (k H locs Ls h hP hS)
theorem w_getsN (hX : Okw w X g cc nL own ret rm r σ') {i : Nat} {ws : va_W} {host : String} (hw : Cond.fieldLinkNest own i "ContractDesk" "YES_TO" "[J" host ∈ nestW) (hd : decode cc pc = .ok (.getstatic i, 3)) (k : Vx X g.1 nL ws (pc + 3) ls (.ref g.2.2.2.2.2 :: st)) : Vx X g.1 nL ws pc ls st :=
  fun H locs Ls h hP hS => va_getsN hX.1.1 hX.1.2.1 hX.2.2.2.1.2.1 hS hX.1.2.2.2.1 (va_Nw.use rfl (hX.2.2.2.1.1 _ hw)) (fun _ h => h) hd (k H locs Ls h hP hS)
theorem w_tl (hX : Okw w X g cc nL own ret rm r σ') {i : Int32} {ws : va_W} (hin : inb i 6 = true) (hd : decode cc pc = .ok (.laload, 1)) (k : Vx X g.1 nL ws (pc + 1) ls (.long (yesT i.toNatClampNeg) :: st)) : Vx X g.1 nL ws pc ls (.int i :: .ref g.2.2.2.2.2 :: st) :=
  fun H locs Ls h hP hS => va_tl hX.1.1 hX.1.2.1 hX.2.2.2.1.2.2 hS (inb_in hin) rfl hd (k H locs Ls h hP hS)
/-- a callee's words and names -/
def CeB (y : MethodName) (bytes : ByteArray) (maxL : Nat) (rt : Option FieldType) (n : Nat) : Prop :=
  Cond.code y bytes maxL rt ∈ wsG ∧ Cond.initialized y.cls ∈ wsG ∧ (y.cls ≠ "java/lang/invoke/MethodHandle" ∧ y.cls ≠ "java/lang/invoke/VarHandle" ∧ (parseMethodDescriptor y.desc).map (fun d => d.parameters.length) = some n)
def CeV (y : MethodName) (bytes : ByteArray) (maxL : Nat) (rt : Option FieldType) (n : Nat) : Prop := CeB y bytes maxL rt n ∧ Cond.instanceMethod y ∈ wsG ∧ Cond.selects y.cls y y ∈ wsG
def CeS (y : MethodName) (bytes : ByteArray) (maxL : Nat) (rt : Option FieldType) (n : Nat) : Prop := CeB y bytes maxL rt n ∧ Cond.static y ∈ wsG
theorem w_goes (hX : Okw w X g cc nL own ret rm r σ') {H : Heap} {locs : List Loc} {Ls : Array Slot} {st0 : List Value} {rr : Option Value} {σ1 : SS} {A1 : Nat → Prop} {a : Array Value} (hA : ∀ q, A1 q → bA X q)
    (hr : va_Run X.1 X.2.1 X.2.2.1 X.2.2.2.1 (bS X) (bM X) (bAr X) X.2.2.2.2.2.2.2.1 (bMe X) (bC X) H locs 0 0 0 0 (F0 (bM X) pc Ls st0) st (xQ w g rr σ1 A1 a) A1)
    (hl : lv_has Ls nL ls) (hS : va_S (bA X) (bS X).heap H locs) (k : Vx X g.1 nL (w g σ1) (pc + 3) ls (rr.toList ++ st)) :
    W X.1 X.2.1 X.2.2.1 X.2.2.2.1 (bS X) (bM X) (bAr X) X.2.2.2.2.2.2.2.1 (bMe X) (bC X) H locs 0 0 (bQ X) (F0 (bM X) pc Ls st0) := by
  intro T hT Y
  obtain ⟨v, st₀, t, T', L, h0, Y', hL, e1, e2, ⟨hv, hP1, hz, hk⟩, go⟩ := hr T hT Y
  cases hv
  rw [h0] at hz hk
  have hS1 : va_S (bA X) (bS X).heap T'.heap (locs ++ L) := ⟨Nat.le_trans hS.1 (by rw [e1]; exact hz), fun q h1 h2 => by rw [e1, hk q (Nat.lt_of_lt_of_le h1 hS.1) (fun z => h2 (hA q z))]; exact hS.2.1 q h1 h2, fun q hq => by
      rcases List.mem_append.mp hq with h | h
      · exact hS.2.2 q h
      · exact hA _ (hL q h)⟩
  obtain ⟨t2, a1, b1⟩ := k T'.heap (locs ++ L) Ls hl (by rw [e1]; exact hP1) hS1 T' rfl Y'
  exact ⟨t2, go t2 a1, b1⟩
theorem w_in (hX : Okw w X g cc nL own ret rm r σ') {H : Heap} {locs : List Loc} (hP : va_P g.1 vwCl (w g σ) H) (hS : va_S (bA X) (bS X).heap H locs) : (∀ q, wA w g H.size q → bA X q) ∧ ∀ U : State, U.heap = H → (bS X).WarmedH U.vm → InW w g σ H.size U := by
  obtain ⟨hx, hD, hA, hE, hrt, hrm, hq⟩ := hX
  have hsub : ∀ q, wA w g H.size q → bA X q := by
    intro q h
    rw [hA]
    rcases h with h | h
    · exact Or.inl h
    · exact Or.inr (Nat.le_trans hS.1 h)
  refine ⟨hsub, fun U hU hW => ⟨by rw [hU], by rw [hU]; exact hP, va_K.moved hW.alike hx.2.2.2.2.2.1, (hD σ).weaken (fun _ _ _ _ => trivial), ?_⟩⟩
  rw [hU]
  exact ((hE.kept (fun a h1 h2 => hS.2.1 a h1 h2)).narrow hsub).warm hW
theorem w_callB (hX : Okw w X g cc nL own ret rm r σ') {y : MethodName} {bytes : ByteArray} {maxL n i : Nat} {rt : Option FieldType} {rm1 : Room} (hC : CeB y bytes maxL rt n) (hlk : Cond.methodLink own i y ∈ wsG) (h0 : rm1.cells = 0 ∧ rm1.slots = 0) (hR : rm1.frames + 1 ≤ rm.frames ∧ 8 + (maxL + 11) + rm1.locals ≤ rm.locals) :
    CallB X.2.2.2.1 (bS X) (bAr X) own i y bytes maxL rt (Cond.code y bytes maxL rt :: wsG) rm1 0 0 n := by
  obtain ⟨hx, hD, hA, hE, hrt, hrm, hq⟩ := hX
  rw [hrm]
  exact callB_of n hx.2.2.2.2.1 (goodC hC.1) rfl h0.1 h0.2 (hx.2.2.2.2.1 _ hC.2.1) (hx.2.2.2.2.1 _ hlk) hC.2.2 hR
theorem w_callV (hX : Okw w X g cc nL own ret rm r σ') {y : MethodName} {bytes : ByteArray} {maxL n i b ci q0 : Nat} {rt : Option FieldType} {rm1 : Room} {av : Gx → List Value} {rr : Gx → Option Value} {σ1 : SS} {As st0 fs : List Value} {q : vw_C} (hM : Mcw w y bytes maxL rt rm1 av σ rr σ1) (hC : CeV y bytes maxL rt n) (hlk : Cond.methodLink own i y ∈ wsG) (h0 : rm1.cells = 0 ∧ rm1.slots = 0) (hR : rm1.frames + 1 ≤ rm.frames ∧ 8 + (maxL + 11) + rm1.locals ≤ rm.locals)
    (hav : av g = .ref b :: As) (hn : As.length = n) (hcl : vwCl[ci]? = some q) (hq : q.1 = y.cls) (hb : (w g σ)[q0]? = some (b, .inr (ci, fs))) (hst : As.reverse ++ .ref b :: st = st0) (hW : (st.map fun v => v.category).sum ≤ 8) (hd : decode cc pc = .ok (.invokevirtual i, 3)) (k : Vx X g.1 nL (w g σ1) (pc + 3) ls ((rr g).toList ++ st)) : Vx X g.1 nL (w g σ) pc ls st0 := by
  intro H locs Ls h hP hS
  obtain ⟨hsub, hin⟩ := w_in hX hP hS
  subst hst
  have hx := hX.1
  refine w_goes hX hsub (va_runV (C := y.cls) (As := As) (rest := st) (b := b) (Ts := wsG) ⟨hx.1, hx.2.1, hx.2.2.1, hx.2.2.2.1, hx.2.2.2.2.1⟩ (hM X.2.1 g H.size) ⟨w_callB hX hC.1 hlk h0 hR, hx.2.2.2.2.1 _ hC.2.1, hx.2.2.2.2.1 _ hC.2.2⟩ ⟨InW.blind, ?_, fun U hU hW => ⟨by rw [hav], hin U hU hW⟩⟩ rfl hn h.1 rfl (lv_room hW) hd ⟨Nat.zero_le _, Nat.zero_le _⟩) h hS k
  rw [← hq]
  exact va_recv hx.2.2.2.2.2.1 hP hcl hb
theorem w_callS (hX : Okw w X g cc nL own ret rm r σ') {y : MethodName} {bytes : ByteArray} {maxL n i : Nat} {rt : Option FieldType} {rm1 : Room} {av : Gx → List Value} {rr : Gx → Option Value} {σ1 : SS} {As st0 : List Value} (hM : Mcw w y bytes maxL rt rm1 av σ rr σ1) (hC : CeS y bytes maxL rt n) (hlk : Cond.methodLink own i y ∈ wsG) (h0 : rm1.cells = 0 ∧ rm1.slots = 0) (hR : rm1.frames + 1 ≤ rm.frames ∧ 8 + (maxL + 11) + rm1.locals ≤ rm.locals)
    (hav : av g = As) (hn : As.length = n) (hst : As.reverse ++ st = st0) (hW : (st.map fun v => v.category).sum ≤ 8) (hd : decode cc pc = .ok (.invokestatic i, 3)) (k : Vx X g.1 nL (w g σ1) (pc + 3) ls ((rr g).toList ++ st)) : Vx X g.1 nL (w g σ) pc ls st0 := by
  intro H locs Ls h hP hS
  obtain ⟨hsub, hin⟩ := w_in hX hP hS
  subst hst
  have hx := hX.1
  exact w_goes hX hsub (va_runS (As := As) (rest := st) (Ts := wsG) ⟨hx.1, hx.2.1, hx.2.2.1, hx.2.2.2.1, hx.2.2.2.2.1⟩ (hM X.2.1 g H.size) ⟨w_callB hX hC.1 hlk h0 hR, hx.2.2.2.2.1 _ hC.2⟩ ⟨InW.blind, fun U hU hW => ⟨by rw [hav], hin U hU hW⟩⟩ rfl hn h.1 rfl (lv_room hW) hd ⟨Nat.zero_le _, Nat.zero_le _⟩) h hS k
theorem w_callSN (hX : Okw w X g cc nL own ret rm r σ') {y : MethodName} {bytes : ByteArray} {maxL n i : Nat} {host : String} {rt : Option FieldType} {rm1 : Room} {av : Gx → List Value} {rr : Gx → Option Value} {σ1 : SS} {As st0 : List Value} (hM : Mcw w y bytes maxL rt rm1 av σ rr σ1) (hC : CeS y bytes maxL rt n) (hlk : Cond.methodLinkNest own i y host ∈ nestW) (h0 : rm1.cells = 0 ∧ rm1.slots = 0) (hR : rm1.frames + 1 ≤ rm.frames ∧ 8 + (maxL + 11) + rm1.locals ≤ rm.locals)
    (hav : av g = As) (hn : As.length = n) (hst : As.reverse ++ st = st0) (hW : (st.map fun v => v.category).sum ≤ 8) (hd : decode cc pc = .ok (.invokestatic i, 3)) (k : Vx X g.1 nL (w g σ1) (pc + 3) ls ((rr g).toList ++ st)) : Vx X g.1 nL (w g σ) pc ls st0 := by
  intro H locs Ls h hP hS
  obtain ⟨hsub, hin⟩ := w_in hX hP hS
  subst hst
  have hx := hX.1
  have hcn : va_CN X.2.2.2.1 (bS X) (bAr X) own i y host bytes maxL rt (Cond.code y bytes maxL rt :: wsG) rm1 0 0 n := by
    rw [hX.2.2.2.2.2.1]
    exact va_cnB n hx.2.2.2.2.1 (goodC hC.1.1) rfl h0.1 h0.2 (hX.2.2.2.1.1 _ hlk) (hx.2.2.2.2.1 _ hC.1.2.1) hC.1.2.2 hR
  exact w_goes hX hsub (va_runSN (As := As) (rest := st) (Ts := wsG) ⟨hx.1, hx.2.1, hx.2.2.1, hx.2.2.2.1, hx.2.2.2.2.1⟩ (hM X.2.1 g H.size) ⟨hcn, hx.2.2.2.2.1 _ hC.2, trivial⟩ ⟨InW.blind, fun U hU hW => ⟨by rw [hav], hin U hU hW⟩⟩ rfl hn h.1 rfl (lv_room hW) hd ⟨Nat.zero_le _, Nat.zero_le _⟩) h hS k
end WX
/-! the walk's functions: guards, calls -/
def gd {α : Type} (b : Bool) (x : Option α) : Option α := match b with
  | true => x
  | false => none
theorem gd_some {α : Type} {b : Bool} {x : Option α} {r : α} (h : gd b x = some r) : b = true ∧ x = some r := by
  cases b with
  | true => exact ⟨rfl, h⟩
  | false => cases h
def ob {α β : Type} (x : Option α) (f : α → Option β) : Option β := match x with
  | some a => f a
  | none => none
theorem ob_some {α β : Type} {x : Option α} {f : α → Option β} {r : β} (h : ob x f = some r) : ∃ a, x = some a ∧ f a = some r := by
  cases x with
  | some a => exact ⟨a, rfl, h⟩
  | none => cases h
end
