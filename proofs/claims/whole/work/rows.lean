section
-- ===== PART A: goes FIRST, ahead of the names: the tables' words, and 'selects' of the private methods out of them =====
/-- a private method of a class that the tables say can be made, by its rows of tables_1 -/
def lw_okq (q : MethodName × Nat) : Prop := (q.1.cls ≠ "java/lang/invoke/MethodHandle" ∧ q.1.cls ≠ "java/lang/invoke/VarHandle") ∧ Cond.instantiable q.1.cls q.2 ∈ tables_1 ∧ Cond.privateMethod q.1 ∈ tables_1 ∧ Cond.instanceMethod q.1 ∈ tables_1
theorem lw_p0 : lw_okq (⟨"LoanWays", "forget", "()V"⟩, 8) := ⟨⟨by decide +kernel, by decide +kernel⟩, List.mem_of_getElem? (i := 13) (by decide +kernel), List.mem_of_getElem? (i := 208) (by decide +kernel), List.mem_of_getElem? (i := 209) (by decide +kernel)⟩
theorem lw_p1 : lw_okq (⟨"LoanWays$Variables", "hasParts", "(I)Z"⟩, 4) := ⟨⟨by decide +kernel, by decide +kernel⟩, List.mem_of_getElem? (i := 21) (by decide +kernel), List.mem_of_getElem? (i := 233) (by decide +kernel), List.mem_of_getElem? (i := 234) (by decide +kernel)⟩
theorem lw_p2 : lw_okq (⟨"LoanWays", "put", "(IIIII)I"⟩, 8) := ⟨⟨by decide +kernel, by decide +kernel⟩, List.mem_of_getElem? (i := 13) (by decide +kernel), List.mem_of_getElem? (i := 251) (by decide +kernel), List.mem_of_getElem? (i := 252) (by decide +kernel)⟩
theorem lw_p3 : lw_okq (⟨"LoanWays$Acts", "leavesWanted", "(III)J"⟩, 11) := ⟨⟨by decide +kernel, by decide +kernel⟩, List.mem_of_getElem? (i := 41) (by decide +kernel), List.mem_of_getElem? (i := 266) (by decide +kernel), List.mem_of_getElem? (i := 267) (by decide +kernel)⟩
theorem lw_p4 : lw_okq (⟨"LoanWays$Acts", "leavesGiven", "(IIII)J"⟩, 11) := ⟨⟨by decide +kernel, by decide +kernel⟩, List.mem_of_getElem? (i := 41) (by decide +kernel), List.mem_of_getElem? (i := 278) (by decide +kernel), List.mem_of_getElem? (i := 279) (by decide +kernel)⟩
theorem lw_p5 : lw_okq (⟨"LoanWays$Acts", "leavesTaken", "(III)J"⟩, 11) := ⟨⟨by decide +kernel, by decide +kernel⟩, List.mem_of_getElem? (i := 41) (by decide +kernel), List.mem_of_getElem? (i := 282) (by decide +kernel), List.mem_of_getElem? (i := 283) (by decide +kernel)⟩
theorem lw_p6 : lw_okq (⟨"LoanWays$Acts", "referenceUsed", "(III)I"⟩, 11) := ⟨⟨by decide +kernel, by decide +kernel⟩, List.mem_of_getElem? (i := 41) (by decide +kernel), List.mem_of_getElem? (i := 290) (by decide +kernel), List.mem_of_getElem? (i := 291) (by decide +kernel)⟩
theorem lw_p7 : lw_okq (⟨"LoanWays$Acts", "referenceRenewed", "(III)I"⟩, 11) := ⟨⟨by decide +kernel, by decide +kernel⟩, List.mem_of_getElem? (i := 41) (by decide +kernel), List.mem_of_getElem? (i := 305) (by decide +kernel), List.mem_of_getElem? (i := 306) (by decide +kernel)⟩
theorem lw_p8 : lw_okq (⟨"LoanWays$Ways", "indexOf", "(II)I"⟩, 6) := ⟨⟨by decide +kernel, by decide +kernel⟩, List.mem_of_getElem? (i := 85) (by decide +kernel), List.mem_of_getElem? (i := 354) (by decide +kernel), List.mem_of_getElem? (i := 355) (by decide +kernel)⟩
theorem lw_p9 : lw_okq (⟨"LoanWays", "knowLeaves", "()V"⟩, 8) := ⟨⟨by decide +kernel, by decide +kernel⟩, List.mem_of_getElem? (i := 13) (by decide +kernel), List.mem_of_getElem? (i := 370) (by decide +kernel), List.mem_of_getElem? (i := 371) (by decide +kernel)⟩
theorem lw_p10 : lw_okq (⟨"LoanWays", "knowWays", "()V"⟩, 8) := ⟨⟨by decide +kernel, by decide +kernel⟩, List.mem_of_getElem? (i := 13) (by decide +kernel), List.mem_of_getElem? (i := 374) (by decide +kernel), List.mem_of_getElem? (i := 375) (by decide +kernel)⟩
theorem lw_p11 : lw_okq (⟨"LoanWays$Leaves", "handOn", "(I)Z"⟩, 5) := ⟨⟨by decide +kernel, by decide +kernel⟩, List.mem_of_getElem? (i := 110) (by decide +kernel), List.mem_of_getElem? (i := 404) (by decide +kernel), List.mem_of_getElem? (i := 405) (by decide +kernel)⟩
theorem lw_p12 : lw_okq (⟨"LoanWays", "leastUnheld", "()I"⟩, 8) := ⟨⟨by decide +kernel, by decide +kernel⟩, List.mem_of_getElem? (i := 13) (by decide +kernel), List.mem_of_getElem? (i := 421) (by decide +kernel), List.mem_of_getElem? (i := 422) (by decide +kernel)⟩
theorem lw_p13 : lw_okq (⟨"LoanWays", "knowLoans", "()V"⟩, 8) := ⟨⟨by decide +kernel, by decide +kernel⟩, List.mem_of_getElem? (i := 13) (by decide +kernel), List.mem_of_getElem? (i := 437) (by decide +kernel), List.mem_of_getElem? (i := 438) (by decide +kernel)⟩
theorem lw_p14 : lw_okq (⟨"LoanWays$Loans", "handOn", "(I)Z"⟩, 11) := ⟨⟨by decide +kernel, by decide +kernel⟩, List.mem_of_getElem? (i := 132) (by decide +kernel), List.mem_of_getElem? (i := 467) (by decide +kernel), List.mem_of_getElem? (i := 468) (by decide +kernel)⟩
theorem lw_p15 : lw_okq (⟨"LoanWays$Loans", "renew", "(I)V"⟩, 11) := ⟨⟨by decide +kernel, by decide +kernel⟩, List.mem_of_getElem? (i := 132) (by decide +kernel), List.mem_of_getElem? (i := 474) (by decide +kernel), List.mem_of_getElem? (i := 475) (by decide +kernel)⟩
def lw_privs_1 : List (MethodName × Nat) := [(⟨"LoanWays", "forget", "()V"⟩, 8), (⟨"LoanWays$Variables", "hasParts", "(I)Z"⟩, 4), (⟨"LoanWays", "put", "(IIIII)I"⟩, 8), (⟨"LoanWays$Acts", "leavesWanted", "(III)J"⟩, 11), (⟨"LoanWays$Acts", "leavesGiven", "(IIII)J"⟩, 11), (⟨"LoanWays$Acts", "leavesTaken", "(III)J"⟩, 11), (⟨"LoanWays$Acts", "referenceUsed", "(III)I"⟩, 11), (⟨"LoanWays$Acts", "referenceRenewed", "(III)I"⟩, 11), (⟨"LoanWays$Ways", "indexOf", "(II)I"⟩, 6), (⟨"LoanWays", "knowLeaves", "()V"⟩, 8), (⟨"LoanWays", "knowWays", "()V"⟩, 8), (⟨"LoanWays$Leaves", "handOn", "(I)Z"⟩, 5), (⟨"LoanWays", "leastUnheld", "()I"⟩, 8), (⟨"LoanWays", "knowLoans", "()V"⟩, 8), (⟨"LoanWays$Loans", "handOn", "(I)Z"⟩, 11), (⟨"LoanWays$Loans", "renew", "(I)V"⟩, 11)]
theorem lw_r1 : ∀ q ∈ lw_privs_1, lw_okq q := List.forall_mem_cons.mpr ⟨lw_p0, List.forall_mem_cons.mpr ⟨lw_p1, List.forall_mem_cons.mpr ⟨lw_p2, List.forall_mem_cons.mpr ⟨lw_p3, List.forall_mem_cons.mpr ⟨lw_p4, List.forall_mem_cons.mpr ⟨lw_p5, List.forall_mem_cons.mpr ⟨lw_p6, List.forall_mem_cons.mpr ⟨lw_p7, List.forall_mem_cons.mpr ⟨lw_p8, List.forall_mem_cons.mpr ⟨lw_p9, List.forall_mem_cons.mpr ⟨lw_p10, List.forall_mem_cons.mpr ⟨lw_p11, List.forall_mem_cons.mpr ⟨lw_p12, List.forall_mem_cons.mpr ⟨lw_p13, List.forall_mem_cons.mpr ⟨lw_p14, List.forall_mem_cons.mpr ⟨lw_p15, fun _ h => absurd h List.not_mem_nil⟩⟩⟩⟩⟩⟩⟩⟩⟩⟩⟩⟩⟩⟩⟩⟩
theorem lw_p16 : lw_okq (⟨"LoanWays$Loans", "takeOver", "(I)Z"⟩, 11) := ⟨⟨by decide +kernel, by decide +kernel⟩, List.mem_of_getElem? (i := 132) (by decide +kernel), List.mem_of_getElem? (i := 493) (by decide +kernel), List.mem_of_getElem? (i := 494) (by decide +kernel)⟩
theorem lw_p17 : lw_okq (⟨"LoanWays$Loans", "usesBehind", "(I)I"⟩, 11) := ⟨⟨by decide +kernel, by decide +kernel⟩, List.mem_of_getElem? (i := 132) (by decide +kernel), List.mem_of_getElem? (i := 506) (by decide +kernel), List.mem_of_getElem? (i := 507) (by decide +kernel)⟩
theorem lw_p18 : lw_okq (⟨"LoanWays", "leastClashing", "()I"⟩, 8) := ⟨⟨by decide +kernel, by decide +kernel⟩, List.mem_of_getElem? (i := 13) (by decide +kernel), List.mem_of_getElem? (i := 513) (by decide +kernel), List.mem_of_getElem? (i := 514) (by decide +kernel)⟩
theorem lw_p19 : lw_okq (⟨"LoanWays$Leaves", "findLeading", "(IJ)V"⟩, 5) := ⟨⟨by decide +kernel, by decide +kernel⟩, List.mem_of_getElem? (i := 110) (by decide +kernel), List.mem_of_getElem? (i := 549) (by decide +kernel), List.mem_of_getElem? (i := 550) (by decide +kernel)⟩
theorem lw_p20 : lw_okq (⟨"LoanWays$Leaves", "leadsOn", "(I)Z"⟩, 5) := ⟨⟨by decide +kernel, by decide +kernel⟩, List.mem_of_getElem? (i := 110) (by decide +kernel), List.mem_of_getElem? (i := 555) (by decide +kernel), List.mem_of_getElem? (i := 556) (by decide +kernel)⟩
theorem lw_p21 : lw_okq (⟨"LoanWays", "isLoan", "(I)Z"⟩, 8) := ⟨⟨by decide +kernel, by decide +kernel⟩, List.mem_of_getElem? (i := 13) (by decide +kernel), List.mem_of_getElem? (i := 583) (by decide +kernel), List.mem_of_getElem? (i := 584) (by decide +kernel)⟩
theorem lw_p22 : lw_okq (⟨"LoanWays", "countInForce", "()I"⟩, 8) := ⟨⟨by decide +kernel, by decide +kernel⟩, List.mem_of_getElem? (i := 13) (by decide +kernel), List.mem_of_getElem? (i := 618) (by decide +kernel), List.mem_of_getElem? (i := 619) (by decide +kernel)⟩
theorem lw_p23 : lw_okq (⟨"LoanWays", "countUnheld", "()I"⟩, 8) := ⟨⟨by decide +kernel, by decide +kernel⟩, List.mem_of_getElem? (i := 13) (by decide +kernel), List.mem_of_getElem? (i := 629) (by decide +kernel), List.mem_of_getElem? (i := 630) (by decide +kernel)⟩
theorem lw_p24 : lw_okq (⟨"LoanWays", "countClashing", "()I"⟩, 8) := ⟨⟨by decide +kernel, by decide +kernel⟩, List.mem_of_getElem? (i := 13) (by decide +kernel), List.mem_of_getElem? (i := 633) (by decide +kernel), List.mem_of_getElem? (i := 634) (by decide +kernel)⟩
theorem lw_p25 : lw_okq (⟨"LoanWaysModel", "isVariable", "(I)Z"⟩, 25) := ⟨⟨by decide +kernel, by decide +kernel⟩, List.mem_of_getElem? (i := 637) (by decide +kernel), List.mem_of_getElem? (i := 732) (by decide +kernel), List.mem_of_getElem? (i := 733) (by decide +kernel)⟩
theorem lw_p26 : lw_okq (⟨"LoanWaysModel", "become", "(IIIII)V"⟩, 25) := ⟨⟨by decide +kernel, by decide +kernel⟩, List.mem_of_getElem? (i := 637) (by decide +kernel), List.mem_of_getElem? (i := 743) (by decide +kernel), List.mem_of_getElem? (i := 744) (by decide +kernel)⟩
theorem lw_p27 : lw_okq (⟨"LoanWaysModel", "isPlace", "(II)Z"⟩, 25) := ⟨⟨by decide +kernel, by decide +kernel⟩, List.mem_of_getElem? (i := 637) (by decide +kernel), List.mem_of_getElem? (i := 747) (by decide +kernel), List.mem_of_getElem? (i := 748) (by decide +kernel)⟩
theorem lw_p28 : lw_okq (⟨"LoanWaysModel", "isWithin", "(II)Z"⟩, 25) := ⟨⟨by decide +kernel, by decide +kernel⟩, List.mem_of_getElem? (i := 637) (by decide +kernel), List.mem_of_getElem? (i := 754) (by decide +kernel), List.mem_of_getElem? (i := 755) (by decide +kernel)⟩
theorem lw_p29 : lw_okq (⟨"LoanWaysModel", "isReference", "(I)Z"⟩, 25) := ⟨⟨by decide +kernel, by decide +kernel⟩, List.mem_of_getElem? (i := 637) (by decide +kernel), List.mem_of_getElem? (i := 762) (by decide +kernel), List.mem_of_getElem? (i := 763) (by decide +kernel)⟩
theorem lw_p30 : lw_okq (⟨"LoanWaysModel", "workOut", "()V"⟩, 25) := ⟨⟨by decide +kernel, by decide +kernel⟩, List.mem_of_getElem? (i := 637) (by decide +kernel), List.mem_of_getElem? (i := 778) (by decide +kernel), List.mem_of_getElem? (i := 779) (by decide +kernel)⟩
theorem lw_p31 : lw_okq (⟨"LoanWaysModel", "walkWays", "()V"⟩, 25) := ⟨⟨by decide +kernel, by decide +kernel⟩, List.mem_of_getElem? (i := 637) (by decide +kernel), List.mem_of_getElem? (i := 782) (by decide +kernel), List.mem_of_getElem? (i := 783) (by decide +kernel)⟩
def lw_privs_2 : List (MethodName × Nat) := [(⟨"LoanWays$Loans", "takeOver", "(I)Z"⟩, 11), (⟨"LoanWays$Loans", "usesBehind", "(I)I"⟩, 11), (⟨"LoanWays", "leastClashing", "()I"⟩, 8), (⟨"LoanWays$Leaves", "findLeading", "(IJ)V"⟩, 5), (⟨"LoanWays$Leaves", "leadsOn", "(I)Z"⟩, 5), (⟨"LoanWays", "isLoan", "(I)Z"⟩, 8), (⟨"LoanWays", "countInForce", "()I"⟩, 8), (⟨"LoanWays", "countUnheld", "()I"⟩, 8), (⟨"LoanWays", "countClashing", "()I"⟩, 8), (⟨"LoanWaysModel", "isVariable", "(I)Z"⟩, 25), (⟨"LoanWaysModel", "become", "(IIIII)V"⟩, 25), (⟨"LoanWaysModel", "isPlace", "(II)Z"⟩, 25), (⟨"LoanWaysModel", "isWithin", "(II)Z"⟩, 25), (⟨"LoanWaysModel", "isReference", "(I)Z"⟩, 25), (⟨"LoanWaysModel", "workOut", "()V"⟩, 25), (⟨"LoanWaysModel", "walkWays", "()V"⟩, 25)]
theorem lw_r2 : ∀ q ∈ lw_privs_2, lw_okq q := List.forall_mem_cons.mpr ⟨lw_p16, List.forall_mem_cons.mpr ⟨lw_p17, List.forall_mem_cons.mpr ⟨lw_p18, List.forall_mem_cons.mpr ⟨lw_p19, List.forall_mem_cons.mpr ⟨lw_p20, List.forall_mem_cons.mpr ⟨lw_p21, List.forall_mem_cons.mpr ⟨lw_p22, List.forall_mem_cons.mpr ⟨lw_p23, List.forall_mem_cons.mpr ⟨lw_p24, List.forall_mem_cons.mpr ⟨lw_p25, List.forall_mem_cons.mpr ⟨lw_p26, List.forall_mem_cons.mpr ⟨lw_p27, List.forall_mem_cons.mpr ⟨lw_p28, List.forall_mem_cons.mpr ⟨lw_p29, List.forall_mem_cons.mpr ⟨lw_p30, List.forall_mem_cons.mpr ⟨lw_p31, fun _ h => absurd h List.not_mem_nil⟩⟩⟩⟩⟩⟩⟩⟩⟩⟩⟩⟩⟩⟩⟩⟩
theorem lw_p32 : lw_okq (⟨"LoanWaysModel", "come", "([ZII)V"⟩, 25) := ⟨⟨by decide +kernel, by decide +kernel⟩, List.mem_of_getElem? (i := 637) (by decide +kernel), List.mem_of_getElem? (i := 786) (by decide +kernel), List.mem_of_getElem? (i := 787) (by decide +kernel)⟩
theorem lw_p33 : lw_okq (⟨"LoanWaysModel", "walkLeaf", "(IIZ[Z)V"⟩, 25) := ⟨⟨by decide +kernel, by decide +kernel⟩, List.mem_of_getElem? (i := 637) (by decide +kernel), List.mem_of_getElem? (i := 790) (by decide +kernel), List.mem_of_getElem? (i := 791) (by decide +kernel)⟩
theorem lw_p34 : lw_okq (⟨"LoanWaysModel", "gives", "(III)Z"⟩, 25) := ⟨⟨by decide +kernel, by decide +kernel⟩, List.mem_of_getElem? (i := 637) (by decide +kernel), List.mem_of_getElem? (i := 794) (by decide +kernel), List.mem_of_getElem? (i := 795) (by decide +kernel)⟩
theorem lw_p35 : lw_okq (⟨"LoanWaysModel", "isLeafOf", "(II)Z"⟩, 25) := ⟨⟨by decide +kernel, by decide +kernel⟩, List.mem_of_getElem? (i := 637) (by decide +kernel), List.mem_of_getElem? (i := 798) (by decide +kernel), List.mem_of_getElem? (i := 799) (by decide +kernel)⟩
theorem lw_p36 : lw_okq (⟨"LoanWaysModel", "takes", "(III)Z"⟩, 25) := ⟨⟨by decide +kernel, by decide +kernel⟩, List.mem_of_getElem? (i := 637) (by decide +kernel), List.mem_of_getElem? (i := 802) (by decide +kernel), List.mem_of_getElem? (i := 803) (by decide +kernel)⟩
theorem lw_p37 : lw_okq (⟨"LoanWaysModel", "walkUses", "(I)V"⟩, 25) := ⟨⟨by decide +kernel, by decide +kernel⟩, List.mem_of_getElem? (i := 637) (by decide +kernel), List.mem_of_getElem? (i := 806) (by decide +kernel), List.mem_of_getElem? (i := 807) (by decide +kernel)⟩
theorem lw_p38 : lw_okq (⟨"LoanWaysModel", "uses", "(II)Z"⟩, 25) := ⟨⟨by decide +kernel, by decide +kernel⟩, List.mem_of_getElem? (i := 637) (by decide +kernel), List.mem_of_getElem? (i := 810) (by decide +kernel), List.mem_of_getElem? (i := 811) (by decide +kernel)⟩
theorem lw_p39 : lw_okq (⟨"LoanWaysModel", "isThrough", "(II)Z"⟩, 25) := ⟨⟨by decide +kernel, by decide +kernel⟩, List.mem_of_getElem? (i := 637) (by decide +kernel), List.mem_of_getElem? (i := 814) (by decide +kernel), List.mem_of_getElem? (i := 815) (by decide +kernel)⟩
theorem lw_p40 : lw_okq (⟨"LoanWaysModel", "renews", "(II)Z"⟩, 25) := ⟨⟨by decide +kernel, by decide +kernel⟩, List.mem_of_getElem? (i := 637) (by decide +kernel), List.mem_of_getElem? (i := 818) (by decide +kernel), List.mem_of_getElem? (i := 819) (by decide +kernel)⟩
theorem lw_p41 : lw_okq (⟨"LoanWaysModel", "makesLoan", "(I)Z"⟩, 25) := ⟨⟨by decide +kernel, by decide +kernel⟩, List.mem_of_getElem? (i := 637) (by decide +kernel), List.mem_of_getElem? (i := 822) (by decide +kernel), List.mem_of_getElem? (i := 823) (by decide +kernel)⟩
theorem lw_p42 : lw_okq (⟨"LoanWaysModel", "walkLoan", "(I)V"⟩, 25) := ⟨⟨by decide +kernel, by decide +kernel⟩, List.mem_of_getElem? (i := 637) (by decide +kernel), List.mem_of_getElem? (i := 826) (by decide +kernel), List.mem_of_getElem? (i := 827) (by decide +kernel)⟩
theorem lw_p43 : lw_okq (⟨"LoanWaysModel", "goesThrough", "(II)Z"⟩, 25) := ⟨⟨by decide +kernel, by decide +kernel⟩, List.mem_of_getElem? (i := 637) (by decide +kernel), List.mem_of_getElem? (i := 830) (by decide +kernel), List.mem_of_getElem? (i := 831) (by decide +kernel)⟩
theorem lw_p44 : lw_okq (⟨"LoanWaysModel", "spread", "(III)V"⟩, 25) := ⟨⟨by decide +kernel, by decide +kernel⟩, List.mem_of_getElem? (i := 637) (by decide +kernel), List.mem_of_getElem? (i := 834) (by decide +kernel), List.mem_of_getElem? (i := 835) (by decide +kernel)⟩
theorem lw_p45 : lw_okq (⟨"LoanWaysModel", "cell", "(III)I"⟩, 25) := ⟨⟨by decide +kernel, by decide +kernel⟩, List.mem_of_getElem? (i := 637) (by decide +kernel), List.mem_of_getElem? (i := 838) (by decide +kernel), List.mem_of_getElem? (i := 839) (by decide +kernel)⟩
theorem lw_p46 : lw_okq (⟨"LoanWaysModel", "renewed", "(I)I"⟩, 25) := ⟨⟨by decide +kernel, by decide +kernel⟩, List.mem_of_getElem? (i := 637) (by decide +kernel), List.mem_of_getElem? (i := 842) (by decide +kernel), List.mem_of_getElem? (i := 843) (by decide +kernel)⟩
theorem lw_p47 : lw_okq (⟨"LoanWaysModel", "look", "(I)V"⟩, 25) := ⟨⟨by decide +kernel, by decide +kernel⟩, List.mem_of_getElem? (i := 637) (by decide +kernel), List.mem_of_getElem? (i := 846) (by decide +kernel), List.mem_of_getElem? (i := 847) (by decide +kernel)⟩
def lw_privs_3 : List (MethodName × Nat) := [(⟨"LoanWaysModel", "come", "([ZII)V"⟩, 25), (⟨"LoanWaysModel", "walkLeaf", "(IIZ[Z)V"⟩, 25), (⟨"LoanWaysModel", "gives", "(III)Z"⟩, 25), (⟨"LoanWaysModel", "isLeafOf", "(II)Z"⟩, 25), (⟨"LoanWaysModel", "takes", "(III)Z"⟩, 25), (⟨"LoanWaysModel", "walkUses", "(I)V"⟩, 25), (⟨"LoanWaysModel", "uses", "(II)Z"⟩, 25), (⟨"LoanWaysModel", "isThrough", "(II)Z"⟩, 25), (⟨"LoanWaysModel", "renews", "(II)Z"⟩, 25), (⟨"LoanWaysModel", "makesLoan", "(I)Z"⟩, 25), (⟨"LoanWaysModel", "walkLoan", "(I)V"⟩, 25), (⟨"LoanWaysModel", "goesThrough", "(II)Z"⟩, 25), (⟨"LoanWaysModel", "spread", "(III)V"⟩, 25), (⟨"LoanWaysModel", "cell", "(III)I"⟩, 25), (⟨"LoanWaysModel", "renewed", "(I)I"⟩, 25), (⟨"LoanWaysModel", "look", "(I)V"⟩, 25)]
theorem lw_r3 : ∀ q ∈ lw_privs_3, lw_okq q := List.forall_mem_cons.mpr ⟨lw_p32, List.forall_mem_cons.mpr ⟨lw_p33, List.forall_mem_cons.mpr ⟨lw_p34, List.forall_mem_cons.mpr ⟨lw_p35, List.forall_mem_cons.mpr ⟨lw_p36, List.forall_mem_cons.mpr ⟨lw_p37, List.forall_mem_cons.mpr ⟨lw_p38, List.forall_mem_cons.mpr ⟨lw_p39, List.forall_mem_cons.mpr ⟨lw_p40, List.forall_mem_cons.mpr ⟨lw_p41, List.forall_mem_cons.mpr ⟨lw_p42, List.forall_mem_cons.mpr ⟨lw_p43, List.forall_mem_cons.mpr ⟨lw_p44, List.forall_mem_cons.mpr ⟨lw_p45, List.forall_mem_cons.mpr ⟨lw_p46, List.forall_mem_cons.mpr ⟨lw_p47, fun _ h => absurd h List.not_mem_nil⟩⟩⟩⟩⟩⟩⟩⟩⟩⟩⟩⟩⟩⟩⟩⟩
theorem lw_p48 : lw_okq (⟨"LoanWaysModel", "isInForce", "(II)Z"⟩, 25) := ⟨⟨by decide +kernel, by decide +kernel⟩, List.mem_of_getElem? (i := 637) (by decide +kernel), List.mem_of_getElem? (i := 850) (by decide +kernel), List.mem_of_getElem? (i := 851) (by decide +kernel)⟩
theorem lw_p49 : lw_okq (⟨"LoanWaysModel", "isUsed", "(II)Z"⟩, 25) := ⟨⟨by decide +kernel, by decide +kernel⟩, List.mem_of_getElem? (i := 637) (by decide +kernel), List.mem_of_getElem? (i := 854) (by decide +kernel), List.mem_of_getElem? (i := 855) (by decide +kernel)⟩
theorem lw_p50 : lw_okq (⟨"LoanWaysModel", "clashes", "(II)Z"⟩, 25) := ⟨⟨by decide +kernel, by decide +kernel⟩, List.mem_of_getElem? (i := 637) (by decide +kernel), List.mem_of_getElem? (i := 858) (by decide +kernel), List.mem_of_getElem? (i := 859) (by decide +kernel)⟩
theorem lw_p51 : lw_okq (⟨"LoanWaysModel", "lackedBy", "(I)I"⟩, 25) := ⟨⟨by decide +kernel, by decide +kernel⟩, List.mem_of_getElem? (i := 637) (by decide +kernel), List.mem_of_getElem? (i := 865) (by decide +kernel), List.mem_of_getElem? (i := 866) (by decide +kernel)⟩
theorem lw_p52 : lw_okq (⟨"LoanWaysModel", "wants", "(II)Z"⟩, 25) := ⟨⟨by decide +kernel, by decide +kernel⟩, List.mem_of_getElem? (i := 637) (by decide +kernel), List.mem_of_getElem? (i := 869) (by decide +kernel), List.mem_of_getElem? (i := 870) (by decide +kernel)⟩
theorem lw_p53 : lw_okq (⟨"LoanWaysModel", "taker", "(I)I"⟩, 25) := ⟨⟨by decide +kernel, by decide +kernel⟩, List.mem_of_getElem? (i := 637) (by decide +kernel), List.mem_of_getElem? (i := 873) (by decide +kernel), List.mem_of_getElem? (i := 874) (by decide +kernel)⟩
def lw_privs_4 : List (MethodName × Nat) := [(⟨"LoanWaysModel", "isInForce", "(II)Z"⟩, 25), (⟨"LoanWaysModel", "isUsed", "(II)Z"⟩, 25), (⟨"LoanWaysModel", "clashes", "(II)Z"⟩, 25), (⟨"LoanWaysModel", "lackedBy", "(I)I"⟩, 25), (⟨"LoanWaysModel", "wants", "(II)Z"⟩, 25), (⟨"LoanWaysModel", "taker", "(I)I"⟩, 25)]
theorem lw_r4 : ∀ q ∈ lw_privs_4, lw_okq q := List.forall_mem_cons.mpr ⟨lw_p48, List.forall_mem_cons.mpr ⟨lw_p49, List.forall_mem_cons.mpr ⟨lw_p50, List.forall_mem_cons.mpr ⟨lw_p51, List.forall_mem_cons.mpr ⟨lw_p52, List.forall_mem_cons.mpr ⟨lw_p53, fun _ h => absurd h List.not_mem_nil⟩⟩⟩⟩⟩⟩
def lw_privs : List (MethodName × Nat) := lw_privs_1 ++ (lw_privs_2 ++ (lw_privs_3 ++ (lw_privs_4)))
def lw_tbl : List Cond := k2_sels lw_privs ++ tables_1
theorem lw_privs_ok : ∀ q ∈ lw_privs, lw_okq q := by
  show ∀ q ∈ lw_privs_1 ++ (lw_privs_2 ++ (lw_privs_3 ++ (lw_privs_4))), lw_okq q
  exact List.forall_mem_append.mpr ⟨lw_r1, List.forall_mem_append.mpr ⟨lw_r2, List.forall_mem_append.mpr ⟨lw_r3, lw_r4⟩⟩⟩
end
section
def RX0 : String := "LoanWays$Acts"
def TX0 : u_T := fun k => match k with
  | 0 => ("LoanWays$Acts", "variables", "LLoanWays$Variables;", true)
  | 1 => ("LoanWays$Acts", "kinds", "[I", true)
  | 2 => ("LoanWays$Acts", "places", "[I", true)
  | 3 => ("LoanWays$Acts", "paths", "[I", true)
  | 4 => ("LoanWays$Acts", "receivers", "[I", true)
  | 5 => ("LoanWays$Acts", "wanted", "[J", true)
  | 6 => ("LoanWays$Acts", "given", "[J", true)
  | 7 => ("LoanWays$Acts", "taken", "[J", true)
  | 8 => ("LoanWays$Acts", "usedReferences", "[I", true)
  | 9 => ("LoanWays$Acts", "renewedReferences", "[I", true)
  | _ => ("LoanWays$Acts", "lends", "I", false)
def tyX0 : Nat → FieldType := fun k => match k with
  | 0 => .object "LoanWays$Variables"
  | 1 => .array .int
  | 2 => .array .int
  | 3 => .array .int
  | 4 => .array .int
  | 5 => .array .long
  | 6 => .array .long
  | 7 => .array .long
  | 8 => .array .int
  | 9 => .array .int
  | _ => .int
abbrev wsX00 : List Cond := u_ws RX0 TX0 11
theorem nmX0 : ∀ a, a < 11 → ∀ b, b < 11 → a ≠ b → (TX0 a).2.1 ≠ (TX0 b).2.1 := by decide +kernel
theorem tyX0_ok : ∀ k, k < 11 → parseFieldDescriptor (TX0 k).2.2.1 = some (tyX0 k) := by decide +kernel
abbrev cX0_init : ByteArray := prog_2_method_1_code
def yX0_init : MethodName := ⟨RX0, "<init>", "(LLoanWays$Variables;)V"⟩
abbrev cX0_put : ByteArray := prog_2_method_2_code
def yX0_put : MethodName := ⟨RX0, "put", "(IIIII)V"⟩
abbrev cX0_lendsBeside : ByteArray := prog_2_method_3_code
def yX0_lendsBeside : MethodName := ⟨RX0, "lendsBeside", "(I)I"⟩
abbrev cX0_leavesWanted : ByteArray := prog_2_method_4_code
def yX0_leavesWanted : MethodName := ⟨RX0, "leavesWanted", "(III)J"⟩
abbrev cX0_leavesGiven : ByteArray := prog_2_method_5_code
def yX0_leavesGiven : MethodName := ⟨RX0, "leavesGiven", "(IIII)J"⟩
abbrev cX0_leavesTaken : ByteArray := prog_2_method_6_code
def yX0_leavesTaken : MethodName := ⟨RX0, "leavesTaken", "(III)J"⟩
abbrev cX0_referenceUsed : ByteArray := prog_2_method_7_code
def yX0_referenceUsed : MethodName := ⟨RX0, "referenceUsed", "(III)I"⟩
abbrev cX0_referenceRenewed : ByteArray := prog_2_method_8_code
def yX0_referenceRenewed : MethodName := ⟨RX0, "referenceRenewed", "(III)I"⟩
abbrev cX0_isOnPlace : ByteArray := prog_2_method_9_code
def yX0_isOnPlace : MethodName := ⟨RX0, "isOnPlace", "(I)Z"⟩
abbrev cX0_wantedAt : ByteArray := prog_2_method_10_code
def yX0_wantedAt : MethodName := ⟨RX0, "wantedAt", "(I)J"⟩
abbrev cX0_givenAt : ByteArray := prog_2_method_11_code
def yX0_givenAt : MethodName := ⟨RX0, "givenAt", "(I)J"⟩
abbrev cX0_takenAt : ByteArray := prog_2_method_12_code
def yX0_takenAt : MethodName := ⟨RX0, "takenAt", "(I)J"⟩
abbrev cX0_variableAt : ByteArray := prog_2_method_13_code
def yX0_variableAt : MethodName := ⟨RX0, "variableAt", "(I)I"⟩
abbrev cX0_pathAt : ByteArray := prog_2_method_14_code
def yX0_pathAt : MethodName := ⟨RX0, "pathAt", "(I)I"⟩
abbrev cX0_makesLoan : ByteArray := prog_2_method_15_code
def yX0_makesLoan : MethodName := ⟨RX0, "makesLoan", "(I)Z"⟩
abbrev cX0_makesSoleLoan : ByteArray := prog_2_method_16_code
def yX0_makesSoleLoan : MethodName := ⟨RX0, "makesSoleLoan", "(I)Z"⟩
abbrev cX0_usedAt : ByteArray := prog_2_method_17_code
def yX0_usedAt : MethodName := ⟨RX0, "usedAt", "(I)I"⟩
abbrev cX0_renewedAt : ByteArray := prog_2_method_18_code
def yX0_renewedAt : MethodName := ⟨RX0, "renewedAt", "(I)I"⟩
abbrev cX0_canClash : ByteArray := prog_2_method_19_code
def yX0_canClash : MethodName := ⟨RX0, "canClash", "(I)Z"⟩
abbrev cX0_onlyLooks : ByteArray := prog_2_method_20_code
def yX0_onlyLooks : MethodName := ⟨RX0, "onlyLooks", "(I)Z"⟩
def RX1 : String := "LoanWays$Leaves"
def TX1 : u_T := fun k => match k with
  | 0 => ("LoanWays$Leaves", "acts", "LLoanWays$Acts;", true)
  | 1 => ("LoanWays$Leaves", "ways", "LLoanWays$Ways;", true)
  | 2 => ("LoanWays$Leaves", "onAll", "[J", true)
  | 3 => ("LoanWays$Leaves", "onSome", "[J", true)
  | _ => ("LoanWays$Leaves", "leading", "[I", true)
def tyX1 : Nat → FieldType := fun k => match k with
  | 0 => .object "LoanWays$Acts"
  | 1 => .object "LoanWays$Ways"
  | 2 => .array .long
  | 3 => .array .long
  | _ => .array .int
abbrev wsX10 : List Cond := u_ws RX1 TX1 5
theorem nmX1 : ∀ a, a < 5 → ∀ b, b < 5 → a ≠ b → (TX1 a).2.1 ≠ (TX1 b).2.1 := by decide +kernel
theorem tyX1_ok : ∀ k, k < 5 → parseFieldDescriptor (TX1 k).2.2.1 = some (tyX1 k) := by decide +kernel
abbrev cX1_init : ByteArray := prog_3_method_1_code
def yX1_init : MethodName := ⟨RX1, "<init>", "(LLoanWays$Acts;LLoanWays$Ways;)V"⟩
abbrev cX1_flow : ByteArray := prog_3_method_2_code
def yX1_flow : MethodName := ⟨RX1, "flow", "(J)V"⟩
abbrev cX1_handOn : ByteArray := prog_3_method_3_code
def yX1_handOn : MethodName := ⟨RX1, "handOn", "(I)Z"⟩
abbrev cX1_state : ByteArray := prog_3_method_4_code
def yX1_state : MethodName := ⟨RX1, "state", "(IJ)I"⟩
abbrev cX1_missing : ByteArray := prog_3_method_5_code
def yX1_missing : MethodName := ⟨RX1, "missing", "(I)J"⟩
abbrev cX1_leastTaker : ByteArray := prog_3_method_6_code
def yX1_leastTaker : MethodName := ⟨RX1, "leastTaker", "(I)I"⟩
abbrev cX1_findLeading : ByteArray := prog_3_method_7_code
def yX1_findLeading : MethodName := ⟨RX1, "findLeading", "(IJ)V"⟩
abbrev cX1_leadsOn : ByteArray := prog_3_method_8_code
def yX1_leadsOn : MethodName := ⟨RX1, "leadsOn", "(I)Z"⟩
def RX2 : String := "LoanWays$Loans"
def TX2 : u_T := fun k => match k with
  | 0 => ("LoanWays$Loans", "variables", "LLoanWays$Variables;", true)
  | 1 => ("LoanWays$Loans", "acts", "LLoanWays$Acts;", true)
  | 2 => ("LoanWays$Loans", "ways", "LLoanWays$Ways;", true)
  | 3 => ("LoanWays$Loans", "makers", "[I", true)
  | 4 => ("LoanWays$Loans", "bits", "[J", true)
  | 5 => ("LoanWays$Loans", "loansOf", "[J", true)
  | 6 => ("LoanWays$Loans", "holdings", "[J", true)
  | 7 => ("LoanWays$Loans", "handed", "[J", true)
  | 8 => ("LoanWays$Loans", "usedLater", "[I", true)
  | 9 => ("LoanWays$Loans", "soleLoans", "J", false)
  | _ => ("LoanWays$Loans", "made", "I", false)
def tyX2 : Nat → FieldType := fun k => match k with
  | 0 => .object "LoanWays$Variables"
  | 1 => .object "LoanWays$Acts"
  | 2 => .object "LoanWays$Ways"
  | 3 => .array .int
  | 4 => .array .long
  | 5 => .array .long
  | 6 => .array .long
  | 7 => .array .long
  | 8 => .array .int
  | 9 => .long
  | _ => .int
abbrev wsX20 : List Cond := u_ws RX2 TX2 11
theorem nmX2 : ∀ a, a < 11 → ∀ b, b < 11 → a ≠ b → (TX2 a).2.1 ≠ (TX2 b).2.1 := by decide +kernel
theorem tyX2_ok : ∀ k, k < 11 → parseFieldDescriptor (TX2 k).2.2.1 = some (tyX2 k) := by decide +kernel
abbrev cX2_init : ByteArray := prog_4_method_1_code
def yX2_init : MethodName := ⟨RX2, "<init>", "(LLoanWays$Variables;LLoanWays$Acts;LLoanWays$Ways;)V"⟩
abbrev cX2_number : ByteArray := prog_4_method_2_code
def yX2_number : MethodName := ⟨RX2, "number", "()V"⟩
abbrev cX2_flowHoldings : ByteArray := prog_4_method_3_code
def yX2_flowHoldings : MethodName := ⟨RX2, "flowHoldings", "()V"⟩
abbrev cX2_handOn : ByteArray := prog_4_method_4_code
def yX2_handOn : MethodName := ⟨RX2, "handOn", "(I)Z"⟩
abbrev cX2_renew : ByteArray := prog_4_method_5_code
def yX2_renew : MethodName := ⟨RX2, "renew", "(I)V"⟩
abbrev cX2_takeOver : ByteArray := prog_4_method_6_code
def yX2_takeOver : MethodName := ⟨RX2, "takeOver", "(I)Z"⟩
abbrev cX2_flowUses : ByteArray := prog_4_method_7_code
def yX2_flowUses : MethodName := ⟨RX2, "flowUses", "()V"⟩
abbrev cX2_usesBehind : ByteArray := prog_4_method_8_code
def yX2_usesBehind : MethodName := ⟨RX2, "usesBehind", "(I)I"⟩
abbrev cX2_variableBit : ByteArray := prog_4_method_9_code
def yX2_variableBit : MethodName := ⟨RX2, "variableBit", "(I)I"⟩
abbrev cX2_size : ByteArray := prog_4_method_10_code
def yX2_size : MethodName := ⟨RX2, "size", "()I"⟩
abbrev cX2_isHeldBy : ByteArray := prog_4_method_11_code
def yX2_isHeldBy : MethodName := ⟨RX2, "isHeldBy", "(III)Z"⟩
abbrev cX2_isUsedBehind : ByteArray := prog_4_method_12_code
def yX2_isUsedBehind : MethodName := ⟨RX2, "isUsedBehind", "(II)Z"⟩
abbrev cX2_isInForce : ByteArray := prog_4_method_13_code
def yX2_isInForce : MethodName := ⟨RX2, "isInForce", "(II)Z"⟩
abbrev cX2_inForce : ByteArray := prog_4_method_14_code
def yX2_inForce : MethodName := ⟨RX2, "inForce", "(I)J"⟩
abbrev cX2_leastClash : ByteArray := prog_4_method_15_code
def yX2_leastClash : MethodName := ⟨RX2, "leastClash", "(I)I"⟩
def RX3 : String := "LoanWays$Paths"
def TX3 : u_T := fun k => match k with
  | _ => ("", "", "", false)
def tyX3 : Nat → FieldType := fun k => match k with
  | _ => .int
abbrev wsX30 : List Cond := u_ws RX3 TX3 0
theorem nmX3 : ∀ a, a < 0 → ∀ b, b < 0 → a ≠ b → (TX3 a).2.1 ≠ (TX3 b).2.1 := by decide +kernel
theorem tyX3_ok : ∀ k, k < 0 → parseFieldDescriptor (TX3 k).2.2.1 = some (tyX3 k) := by decide +kernel
abbrev cX3_isPath : ByteArray := prog_5_method_2_code
def yX3_isPath : MethodName := ⟨RX3, "isPath", "(I)Z"⟩
abbrev cX3_firstDigit : ByteArray := prog_5_method_3_code
def yX3_firstDigit : MethodName := ⟨RX3, "firstDigit", "(I)I"⟩
abbrev cX3_behindFirst : ByteArray := prog_5_method_4_code
def yX3_behindFirst : MethodName := ⟨RX3, "behindFirst", "(I)I"⟩
abbrev cX3_oneBeginsTheOther : ByteArray := prog_5_method_5_code
def yX3_oneBeginsTheOther : MethodName := ⟨RX3, "oneBeginsTheOther", "(II)Z"⟩
def RX4 : String := "LoanWays$Variables"
def TX4 : u_T := fun k => match k with
  | 0 => ("LoanWays$Variables", "sorts", "[I", true)
  | 1 => ("LoanWays$Variables", "leafCounts", "[I", true)
  | 2 => ("LoanWays$Variables", "made", "I", false)
  | _ => ("LoanWays$Variables", "begun", "J", false)
def tyX4 : Nat → FieldType := fun k => match k with
  | 0 => .array .int
  | 1 => .array .int
  | 2 => .int
  | _ => .long
abbrev wsX40 : List Cond := u_ws RX4 TX4 4
theorem nmX4 : ∀ a, a < 4 → ∀ b, b < 4 → a ≠ b → (TX4 a).2.1 ≠ (TX4 b).2.1 := by decide +kernel
theorem tyX4_ok : ∀ k, k < 4 → parseFieldDescriptor (TX4 k).2.2.1 = some (tyX4 k) := by decide +kernel
abbrev cX4_init : ByteArray := prog_6_method_1_code
def yX4_init : MethodName := ⟨RX4, "<init>", "()V"⟩
abbrev cX4_isFull : ByteArray := prog_6_method_2_code
def yX4_isFull : MethodName := ⟨RX4, "isFull", "()Z"⟩
abbrev cX4_add : ByteArray := prog_6_method_3_code
def yX4_add : MethodName := ⟨RX4, "add", "(II)I"⟩
abbrev cX4_size : ByteArray := prog_6_method_4_code
def yX4_size : MethodName := ⟨RX4, "size", "()I"⟩
abbrev cX4_has : ByteArray := prog_6_method_5_code
def yX4_has : MethodName := ⟨RX4, "has", "(I)Z"⟩
abbrev cX4_hasLeaf : ByteArray := prog_6_method_6_code
def yX4_hasLeaf : MethodName := ⟨RX4, "hasLeaf", "(II)Z"⟩
abbrev cX4_isReference : ByteArray := prog_6_method_7_code
def yX4_isReference : MethodName := ⟨RX4, "isReference", "(I)Z"⟩
abbrev cX4_isShared : ByteArray := prog_6_method_8_code
def yX4_isShared : MethodName := ⟨RX4, "isShared", "(I)Z"⟩
abbrev cX4_isSole : ByteArray := prog_6_method_9_code
def yX4_isSole : MethodName := ⟨RX4, "isSole", "(I)Z"⟩
abbrev cX4_hasParts : ByteArray := prog_6_method_10_code
def yX4_hasParts : MethodName := ⟨RX4, "hasParts", "(I)Z"⟩
abbrev cX4_begin : ByteArray := prog_6_method_11_code
def yX4_begin : MethodName := ⟨RX4, "begin", "(IZ)V"⟩
abbrev cX4_begun : ByteArray := prog_6_method_12_code
def yX4_begun : MethodName := ⟨RX4, "begun", "()J"⟩
abbrev cX4_isPlace : ByteArray := prog_6_method_13_code
def yX4_isPlace : MethodName := ⟨RX4, "isPlace", "(II)Z"⟩
abbrev cX4_goesThrough : ByteArray := prog_6_method_14_code
def yX4_goesThrough : MethodName := ⟨RX4, "goesThrough", "(II)Z"⟩
abbrev cX4_isWithin : ByteArray := prog_6_method_15_code
def yX4_isWithin : MethodName := ⟨RX4, "isWithin", "(II)Z"⟩
abbrev cX4_leavesOf : ByteArray := prog_6_method_16_code
def yX4_leavesOf : MethodName := ⟨RX4, "leavesOf", "(II)J"⟩
abbrev cX4_mayAct : ByteArray := prog_6_method_17_code
def yX4_mayAct : MethodName := ⟨RX4, "mayAct", "(III)Z"⟩
abbrev cX4_mayLend : ByteArray := prog_6_method_18_code
def yX4_mayLend : MethodName := ⟨RX4, "mayLend", "(III)Z"⟩
abbrev cX4_mayCopy : ByteArray := prog_6_method_19_code
def yX4_mayCopy : MethodName := ⟨RX4, "mayCopy", "(II)Z"⟩
def RX5 : String := "LoanWays$Ways"
def TX5 : u_T := fun k => match k with
  | 0 => ("LoanWays$Ways", "nexts", "[I", true)
  | 1 => ("LoanWays$Ways", "nextCounts", "[I", true)
  | 2 => ("LoanWays$Ways", "tried", "[I", true)
  | 3 => ("LoanWays$Ways", "open", "[I", true)
  | 4 => ("LoanWays$Ways", "order", "[I", true)
  | _ => ("LoanWays$Ways", "reached", "I", false)
def tyX5 : Nat → FieldType := fun k => match k with
  | 0 => .array .int
  | 1 => .array .int
  | 2 => .array .int
  | 3 => .array .int
  | 4 => .array .int
  | _ => .int
abbrev wsX50 : List Cond := u_ws RX5 TX5 6
theorem nmX5 : ∀ a, a < 6 → ∀ b, b < 6 → a ≠ b → (TX5 a).2.1 ≠ (TX5 b).2.1 := by decide +kernel
theorem tyX5_ok : ∀ k, k < 6 → parseFieldDescriptor (TX5 k).2.2.1 = some (tyX5 k) := by decide +kernel
abbrev cX5_init : ByteArray := prog_7_method_1_code
def yX5_init : MethodName := ⟨RX5, "<init>", "()V"⟩
abbrev cX5_add : ByteArray := prog_7_method_2_code
def yX5_add : MethodName := ⟨RX5, "add", "(II)Z"⟩
abbrev cX5_remove : ByteArray := prog_7_method_3_code
def yX5_remove : MethodName := ⟨RX5, "remove", "(II)V"⟩
abbrev cX5_indexOf : ByteArray := prog_7_method_4_code
def yX5_indexOf : MethodName := ⟨RX5, "indexOf", "(II)I"⟩
abbrev cX5_nextCount : ByteArray := prog_7_method_5_code
def yX5_nextCount : MethodName := ⟨RX5, "nextCount", "(I)I"⟩
abbrev cX5_nextOf : ByteArray := prog_7_method_6_code
def yX5_nextOf : MethodName := ⟨RX5, "nextOf", "(II)I"⟩
abbrev cX5_walk : ByteArray := prog_7_method_7_code
def yX5_walk : MethodName := ⟨RX5, "walk", "()V"⟩
abbrev cX5_comeTo : ByteArray := prog_7_method_8_code
def yX5_comeTo : MethodName := ⟨RX5, "comeTo", "(I)Z"⟩
abbrev cX5_size : ByteArray := prog_7_method_9_code
def yX5_size : MethodName := ⟨RX5, "size", "()I"⟩
abbrev cX5_fromTheEnd : ByteArray := prog_7_method_10_code
def yX5_fromTheEnd : MethodName := ⟨RX5, "fromTheEnd", "(I)I"⟩
abbrev cX5_fromTheBeginning : ByteArray := prog_7_method_11_code
def yX5_fromTheBeginning : MethodName := ⟨RX5, "fromTheBeginning", "(I)I"⟩
def RX6 : String := "LoanWays"
def TX6 : u_T := fun k => match k with
  | 0 => ("LoanWays", "variables", "LLoanWays$Variables;", true)
  | 1 => ("LoanWays", "acts", "LLoanWays$Acts;", true)
  | 2 => ("LoanWays", "ways", "LLoanWays$Ways;", true)
  | 3 => ("LoanWays", "leaves", "LLoanWays$Leaves;", true)
  | 4 => ("LoanWays", "loans", "LLoanWays$Loans;", true)
  | 5 => ("LoanWays", "waysKnown", "Z", false)
  | 6 => ("LoanWays", "leavesKnown", "Z", false)
  | _ => ("LoanWays", "loansKnown", "Z", false)
def tyX6 : Nat → FieldType := fun k => match k with
  | 0 => .object "LoanWays$Variables"
  | 1 => .object "LoanWays$Acts"
  | 2 => .object "LoanWays$Ways"
  | 3 => .object "LoanWays$Leaves"
  | 4 => .object "LoanWays$Loans"
  | 5 => .boolean
  | 6 => .boolean
  | _ => .boolean
abbrev wsX60 : List Cond := u_ws RX6 TX6 8
theorem nmX6 : ∀ a, a < 8 → ∀ b, b < 8 → a ≠ b → (TX6 a).2.1 ≠ (TX6 b).2.1 := by decide +kernel
theorem tyX6_ok : ∀ k, k < 8 → parseFieldDescriptor (TX6 k).2.2.1 = some (tyX6 k) := by decide +kernel
abbrev cX6_init : ByteArray := prog_1_method_1_code
def yX6_init : MethodName := ⟨RX6, "<init>", "()V"⟩
abbrev cX6_variable : ByteArray := prog_1_method_2_code
def yX6_variable : MethodName := ⟨RX6, "variable", "(II)I"⟩
abbrev cX6_begins : ByteArray := prog_1_method_3_code
def yX6_begins : MethodName := ⟨RX6, "begins", "(IZ)I"⟩
abbrev cX6_act : ByteArray := prog_1_method_4_code
def yX6_act : MethodName := ⟨RX6, "act", "(IIII)I"⟩
abbrev cX6_lend : ByteArray := prog_1_method_5_code
def yX6_lend : MethodName := ⟨RX6, "lend", "(IIII)I"⟩
abbrev cX6_copy : ByteArray := prog_1_method_6_code
def yX6_copy : MethodName := ⟨RX6, "copy", "(III)I"⟩
abbrev cX6_next : ByteArray := prog_1_method_7_code
def yX6_next : MethodName := ⟨RX6, "next", "(IIZ)I"⟩
abbrev cX6_judge : ByteArray := prog_1_method_8_code
def yX6_judge : MethodName := ⟨RX6, "judge", "()I"⟩
abbrev cX6_fault : ByteArray := prog_1_method_9_code
def yX6_fault : MethodName := ⟨RX6, "fault", "(I)I"⟩
abbrev cX6_comes : ByteArray := prog_1_method_10_code
def yX6_comes : MethodName := ⟨RX6, "comes", "(I)I"⟩
abbrev cX6_held : ByteArray := prog_1_method_11_code
def yX6_held : MethodName := ⟨RX6, "held", "(III)I"⟩
abbrev cX6_holds : ByteArray := prog_1_method_12_code
def yX6_holds : MethodName := ⟨RX6, "holds", "(III)I"⟩
abbrev cX6_used : ByteArray := prog_1_method_13_code
def yX6_used : MethodName := ⟨RX6, "used", "(II)I"⟩
abbrev cX6_force : ByteArray := prog_1_method_14_code
def yX6_force : MethodName := ⟨RX6, "force", "(II)I"⟩
abbrev cX6_count : ByteArray := prog_1_method_15_code
def yX6_count : MethodName := ⟨RX6, "count", "(I)I"⟩
abbrev cX6_isPoint : ByteArray := prog_1_method_16_code
def yX6_isPoint : MethodName := ⟨RX6, "isPoint", "(I)Z"⟩
abbrev cX6_isSort : ByteArray := prog_1_method_17_code
def yX6_isSort : MethodName := ⟨RX6, "isSort", "(II)Z"⟩
abbrev cX6_answer : ByteArray := prog_1_method_18_code
def yX6_answer : MethodName := ⟨RX6, "answer", "(Z)I"⟩
abbrev cX6_leafBit : ByteArray := prog_1_method_19_code
def yX6_leafBit : MethodName := ⟨RX6, "leafBit", "(II)J"⟩
abbrev cX6_isLoan : ByteArray := prog_1_method_20_code
def yX6_isLoan : MethodName := ⟨RX6, "isLoan", "(I)Z"⟩
abbrev cX6_put : ByteArray := prog_1_method_21_code
def yX6_put : MethodName := ⟨RX6, "put", "(IIIII)I"⟩
abbrev cX6_forget : ByteArray := prog_1_method_22_code
def yX6_forget : MethodName := ⟨RX6, "forget", "()V"⟩
abbrev cX6_knowWays : ByteArray := prog_1_method_23_code
def yX6_knowWays : MethodName := ⟨RX6, "knowWays", "()V"⟩
abbrev cX6_knowLeaves : ByteArray := prog_1_method_24_code
def yX6_knowLeaves : MethodName := ⟨RX6, "knowLeaves", "()V"⟩
abbrev cX6_knowLoans : ByteArray := prog_1_method_25_code
def yX6_knowLoans : MethodName := ⟨RX6, "knowLoans", "()V"⟩
abbrev cX6_leastUnheld : ByteArray := prog_1_method_26_code
def yX6_leastUnheld : MethodName := ⟨RX6, "leastUnheld", "()I"⟩
abbrev cX6_leastClashing : ByteArray := prog_1_method_27_code
def yX6_leastClashing : MethodName := ⟨RX6, "leastClashing", "()I"⟩
abbrev cX6_countInForce : ByteArray := prog_1_method_28_code
def yX6_countInForce : MethodName := ⟨RX6, "countInForce", "()I"⟩
abbrev cX6_countUnheld : ByteArray := prog_1_method_29_code
def yX6_countUnheld : MethodName := ⟨RX6, "countUnheld", "()I"⟩
abbrev cX6_countClashing : ByteArray := prog_1_method_30_code
def yX6_countClashing : MethodName := ⟨RX6, "countClashing", "()I"⟩
def RX7 : String := "LoanWaysModel"
def TX7 : u_T := fun k => match k with
  | 0 => ("LoanWaysModel", "variables", "I", false)
  | 1 => ("LoanWaysModel", "sort", "[I", true)
  | 2 => ("LoanWaysModel", "leaves", "[I", true)
  | 3 => ("LoanWaysModel", "atFirst", "[Z", true)
  | 4 => ("LoanWaysModel", "acts", "[I", true)
  | 5 => ("LoanWaysModel", "of", "[I", true)
  | 6 => ("LoanWaysModel", "path", "[I", true)
  | 7 => ("LoanWaysModel", "to", "[I", true)
  | 8 => ("LoanWaysModel", "nexts", "[I", true)
  | 9 => ("LoanWaysModel", "isOld", "Z", false)
  | 10 => ("LoanWaysModel", "come", "[Z", true)
  | 11 => ("LoanWaysModel", "lost", "[Z", true)
  | 12 => ("LoanWaysModel", "had", "[Z", true)
  | 13 => ("LoanWaysModel", "holds", "[Z", true)
  | 14 => ("LoanWaysModel", "used", "[Z", true)
  | 15 => ("LoanWaysModel", "force", "[Z", true)
  | 16 => ("LoanWaysModel", "pile", "[I", true)
  | 17 => ("LoanWaysModel", "fault", "I", false)
  | 18 => ("LoanWaysModel", "faultPoint", "I", false)
  | 19 => ("LoanWaysModel", "otherPoint", "I", false)
  | 20 => ("LoanWaysModel", "lacking", "I", false)
  | 21 => ("LoanWaysModel", "clashing", "I", false)
  | 22 => ("LoanWaysModel", "piled", "I", false)
  | 23 => ("LoanWaysModel", "rowOf", "[I", true)
  | _ => ("LoanWaysModel", "seen", "[Z", true)
def tyX7 : Nat → FieldType := fun k => match k with
  | 0 => .int
  | 1 => .array .int
  | 2 => .array .int
  | 3 => .array .boolean
  | 4 => .array .int
  | 5 => .array .int
  | 6 => .array .int
  | 7 => .array .int
  | 8 => .array .int
  | 9 => .boolean
  | 10 => .array .boolean
  | 11 => .array .boolean
  | 12 => .array .boolean
  | 13 => .array .boolean
  | 14 => .array .boolean
  | 15 => .array .boolean
  | 16 => .array .int
  | 17 => .int
  | 18 => .int
  | 19 => .int
  | 20 => .int
  | 21 => .int
  | 22 => .int
  | 23 => .array .int
  | _ => .array .boolean
abbrev wsX70 : List Cond := u_ws RX7 TX7 25
theorem nmX7 : ∀ a, a < 25 → ∀ b, b < 25 → a ≠ b → (TX7 a).2.1 ≠ (TX7 b).2.1 := by decide +kernel
theorem tyX7_ok : ∀ k, k < 25 → parseFieldDescriptor (TX7 k).2.2.1 = some (tyX7 k) := by decide +kernel
abbrev cX7_init : ByteArray := prog_9_method_1_code
def yX7_init : MethodName := ⟨RX7, "<init>", "()V"⟩
abbrev cX7_in : ByteArray := prog_9_method_2_code
def yX7_in : MethodName := ⟨RX7, "in", "(III)Z"⟩
abbrev cX7_isVariable : ByteArray := prog_9_method_3_code
def yX7_isVariable : MethodName := ⟨RX7, "isVariable", "(I)Z"⟩
abbrev cX7_isReference : ByteArray := prog_9_method_4_code
def yX7_isReference : MethodName := ⟨RX7, "isReference", "(I)Z"⟩
abbrev cX7_isPoint : ByteArray := prog_9_method_5_code
def yX7_isPoint : MethodName := ⟨RX7, "isPoint", "(I)Z"⟩
abbrev cX7_variable : ByteArray := prog_9_method_6_code
def yX7_variable : MethodName := ⟨RX7, "variable", "(II)I"⟩
abbrev cX7_begins : ByteArray := prog_9_method_7_code
def yX7_begins : MethodName := ⟨RX7, "begins", "(IZ)I"⟩
abbrev cX7_isPath : ByteArray := prog_9_method_8_code
def yX7_isPath : MethodName := ⟨RX7, "isPath", "(I)Z"⟩
abbrev cX7_isPlace : ByteArray := prog_9_method_9_code
def yX7_isPlace : MethodName := ⟨RX7, "isPlace", "(II)Z"⟩
abbrev cX7_isThrough : ByteArray := prog_9_method_10_code
def yX7_isThrough : MethodName := ⟨RX7, "isThrough", "(II)Z"⟩
abbrev cX7_isWithin : ByteArray := prog_9_method_11_code
def yX7_isWithin : MethodName := ⟨RX7, "isWithin", "(II)Z"⟩
abbrev cX7_become : ByteArray := prog_9_method_12_code
def yX7_become : MethodName := ⟨RX7, "become", "(IIIII)V"⟩
abbrev cX7_act : ByteArray := prog_9_method_13_code
def yX7_act : MethodName := ⟨RX7, "act", "(IIII)I"⟩
abbrev cX7_lend : ByteArray := prog_9_method_14_code
def yX7_lend : MethodName := ⟨RX7, "lend", "(IIII)I"⟩
abbrev cX7_copy : ByteArray := prog_9_method_15_code
def yX7_copy : MethodName := ⟨RX7, "copy", "(III)I"⟩
abbrev cX7_next : ByteArray := prog_9_method_16_code
def yX7_next : MethodName := ⟨RX7, "next", "(IIZ)I"⟩
abbrev cX7_isLeafOf : ByteArray := prog_9_method_17_code
def yX7_isLeafOf : MethodName := ⟨RX7, "isLeafOf", "(II)Z"⟩
abbrev cX7_gives : ByteArray := prog_9_method_18_code
def yX7_gives : MethodName := ⟨RX7, "gives", "(III)Z"⟩
abbrev cX7_takes : ByteArray := prog_9_method_19_code
def yX7_takes : MethodName := ⟨RX7, "takes", "(III)Z"⟩
abbrev cX7_wants : ByteArray := prog_9_method_20_code
def yX7_wants : MethodName := ⟨RX7, "wants", "(II)Z"⟩
abbrev cX7_makesLoan : ByteArray := prog_9_method_21_code
def yX7_makesLoan : MethodName := ⟨RX7, "makesLoan", "(I)Z"⟩
abbrev cX7_renews : ByteArray := prog_9_method_22_code
def yX7_renews : MethodName := ⟨RX7, "renews", "(II)Z"⟩
abbrev cX7_renewed : ByteArray := prog_9_method_23_code
def yX7_renewed : MethodName := ⟨RX7, "renewed", "(I)I"⟩
abbrev cX7_uses : ByteArray := prog_9_method_24_code
def yX7_uses : MethodName := ⟨RX7, "uses", "(II)Z"⟩
abbrev cX7_come : ByteArray := prog_9_method_25_code
def yX7_come : MethodName := ⟨RX7, "come", "([ZII)V"⟩
abbrev cX7_walkWays : ByteArray := prog_9_method_26_code
def yX7_walkWays : MethodName := ⟨RX7, "walkWays", "()V"⟩
abbrev cX7_walkLeaf : ByteArray := prog_9_method_27_code
def yX7_walkLeaf : MethodName := ⟨RX7, "walkLeaf", "(IIZ[Z)V"⟩
abbrev cX7_cell : ByteArray := prog_9_method_28_code
def yX7_cell : MethodName := ⟨RX7, "cell", "(III)I"⟩
abbrev cX7_spread : ByteArray := prog_9_method_29_code
def yX7_spread : MethodName := ⟨RX7, "spread", "(III)V"⟩
abbrev cX7_goesThrough : ByteArray := prog_9_method_30_code
def yX7_goesThrough : MethodName := ⟨RX7, "goesThrough", "(II)Z"⟩
abbrev cX7_walkLoan : ByteArray := prog_9_method_31_code
def yX7_walkLoan : MethodName := ⟨RX7, "walkLoan", "(I)V"⟩
abbrev cX7_walkUses : ByteArray := prog_9_method_32_code
def yX7_walkUses : MethodName := ⟨RX7, "walkUses", "(I)V"⟩
abbrev cX7_isUsed : ByteArray := prog_9_method_33_code
def yX7_isUsed : MethodName := ⟨RX7, "isUsed", "(II)Z"⟩
abbrev cX7_isInForce : ByteArray := prog_9_method_34_code
def yX7_isInForce : MethodName := ⟨RX7, "isInForce", "(II)Z"⟩
abbrev cX7_begins_ : ByteArray := prog_9_method_35_code
def yX7_begins_ : MethodName := ⟨RX7, "begins", "(II)Z"⟩
abbrev cX7_clashes : ByteArray := prog_9_method_36_code
def yX7_clashes : MethodName := ⟨RX7, "clashes", "(II)Z"⟩
abbrev cX7_workOut : ByteArray := prog_9_method_37_code
def yX7_workOut : MethodName := ⟨RX7, "workOut", "()V"⟩
abbrev cX7_lackedBy : ByteArray := prog_9_method_38_code
def yX7_lackedBy : MethodName := ⟨RX7, "lackedBy", "(I)I"⟩
abbrev cX7_look : ByteArray := prog_9_method_39_code
def yX7_look : MethodName := ⟨RX7, "look", "(I)V"⟩
abbrev cX7_taker : ByteArray := prog_9_method_40_code
def yX7_taker : MethodName := ⟨RX7, "taker", "(I)I"⟩
abbrev cX7_judge : ByteArray := prog_9_method_41_code
def yX7_judge : MethodName := ⟨RX7, "judge", "()I"⟩
abbrev cX7_fault : ByteArray := prog_9_method_42_code
def yX7_fault : MethodName := ⟨RX7, "fault", "(I)I"⟩
abbrev cX7_comes : ByteArray := prog_9_method_43_code
def yX7_comes : MethodName := ⟨RX7, "comes", "(I)I"⟩
abbrev cX7_held : ByteArray := prog_9_method_44_code
def yX7_held : MethodName := ⟨RX7, "held", "(III)I"⟩
abbrev cX7_holds : ByteArray := prog_9_method_45_code
def yX7_holds : MethodName := ⟨RX7, "holds", "(III)I"⟩
abbrev cX7_used : ByteArray := prog_9_method_46_code
def yX7_used : MethodName := ⟨RX7, "used", "(II)I"⟩
abbrev cX7_force : ByteArray := prog_9_method_47_code
def yX7_force : MethodName := ⟨RX7, "force", "(II)I"⟩
abbrev cX7_count : ByteArray := prog_9_method_48_code
def yX7_count : MethodName := ⟨RX7, "count", "(I)I"⟩
def RJ13 : String := "java/lang/Long"
def TJ13 : u_T := fun k => match k with
  | _ => ("", "", "", false)
def tyJ13 : Nat → FieldType := fun k => match k with
  | _ => .int
abbrev wsJ130 : List Cond := u_ws RJ13 TJ13 0
theorem nmJ13 : ∀ a, a < 0 → ∀ b, b < 0 → a ≠ b → (TJ13 a).2.1 ≠ (TJ13 b).2.1 := by decide +kernel
theorem tyJ13_ok : ∀ k, k < 0 → parseFieldDescriptor (TJ13 k).2.2.1 = some (tyJ13 k) := by decide +kernel
abbrev cJ13_bitCount_95d88 : ByteArray := prog_10_method_50_code
def yJ13_bitCount_95d88 : MethodName := ⟨RJ13, "bitCount", "(J)I"⟩
def RJ10 : String := "java/lang/System"
def TJ10 : u_T := fun k => match k with
  | _ => ("", "", "", false)
def tyJ10 : Nat → FieldType := fun k => match k with
  | _ => .int
abbrev wsJ100 : List Cond := u_ws RJ10 TJ10 0
theorem nmJ10 : ∀ a, a < 0 → ∀ b, b < 0 → a ≠ b → (TJ10 a).2.1 ≠ (TJ10 b).2.1 := by decide +kernel
theorem tyJ10_ok : ∀ k, k < 0 → parseFieldDescriptor (TJ10 k).2.2.1 = some (tyJ10 k) := by decide +kernel
def RJ7 : String := "java/util/Arrays"
def TJ7 : u_T := fun k => match k with
  | _ => ("", "", "", false)
def tyJ7 : Nat → FieldType := fun k => match k with
  | _ => .int
abbrev wsJ70 : List Cond := u_ws RJ7 TJ7 0
theorem nmJ7 : ∀ a, a < 0 → ∀ b, b < 0 → a ≠ b → (TJ7 a).2.1 ≠ (TJ7 b).2.1 := by decide +kernel
theorem tyJ7_ok : ∀ k, k < 0 → parseFieldDescriptor (TJ7 k).2.2.1 = some (tyJ7 k) := by decide +kernel
abbrev cJ7_fill_d0a16 : ByteArray := prog_12_method_101_code
def yJ7_fill_d0a16 : MethodName := ⟨RJ7, "fill", "([JJ)V"⟩
abbrev cJ7_fill_53178 : ByteArray := prog_12_method_103_code
def yJ7_fill_53178 : MethodName := ⟨RJ7, "fill", "([II)V"⟩
def RL : String := "LoanWaysLaw"
abbrev cL_law : ByteArray := code
def yL_law : MethodName := ⟨RL, "law", "([I)Z"⟩
abbrev vwCl : List vw_C := [(RX0, TX0, 11), (RX1, TX1, 5), (RX2, TX2, 11), (RX4, TX4, 4), (RX5, TX5, 6), (RX6, TX6, 8), (RX7, TX7, 25)]
end
section
theorem dX0_init_0 : decode cX0_init 0 = .ok (.aload_n 0, 1) := by decide +kernel
theorem dX0_init_1 : decode cX0_init 1 = .ok (.invokespecial 3, 3) := by decide +kernel
theorem dX0_init_4 : decode cX0_init 4 = .ok (.aload_n 0, 1) := by decide +kernel
theorem dX0_init_5 : decode cX0_init 5 = .ok (.sipush 150, 3) := by decide +kernel
theorem dX0_init_8 : decode cX0_init 8 = .ok (.newarray .int, 2) := by decide +kernel
theorem dX0_init_10 : decode cX0_init 10 = .ok (.putfield 9, 3) := by decide +kernel
theorem dX0_init_13 : decode cX0_init 13 = .ok (.aload_n 0, 1) := by decide +kernel
theorem dX0_init_14 : decode cX0_init 14 = .ok (.sipush 150, 3) := by decide +kernel
theorem dX0_init_17 : decode cX0_init 17 = .ok (.newarray .int, 2) := by decide +kernel
theorem dX0_init_19 : decode cX0_init 19 = .ok (.putfield 15, 3) := by decide +kernel
theorem dX0_init_22 : decode cX0_init 22 = .ok (.aload_n 0, 1) := by decide +kernel
theorem dX0_init_23 : decode cX0_init 23 = .ok (.sipush 150, 3) := by decide +kernel
theorem dX0_init_26 : decode cX0_init 26 = .ok (.newarray .int, 2) := by decide +kernel
theorem dX0_init_28 : decode cX0_init 28 = .ok (.putfield 18, 3) := by decide +kernel
theorem dX0_init_31 : decode cX0_init 31 = .ok (.aload_n 0, 1) := by decide +kernel
theorem dX0_init_32 : decode cX0_init 32 = .ok (.sipush 150, 3) := by decide +kernel
theorem dX0_init_35 : decode cX0_init 35 = .ok (.newarray .int, 2) := by decide +kernel
theorem dX0_init_37 : decode cX0_init 37 = .ok (.putfield 21, 3) := by decide +kernel
theorem dX0_init_40 : decode cX0_init 40 = .ok (.aload_n 0, 1) := by decide +kernel
theorem dX0_init_41 : decode cX0_init 41 = .ok (.sipush 150, 3) := by decide +kernel
theorem dX0_init_44 : decode cX0_init 44 = .ok (.newarray .long, 2) := by decide +kernel
theorem dX0_init_46 : decode cX0_init 46 = .ok (.putfield 24, 3) := by decide +kernel
theorem dX0_init_49 : decode cX0_init 49 = .ok (.aload_n 0, 1) := by decide +kernel
theorem dX0_init_50 : decode cX0_init 50 = .ok (.sipush 150, 3) := by decide +kernel
theorem dX0_init_53 : decode cX0_init 53 = .ok (.newarray .long, 2) := by decide +kernel
theorem dX0_init_55 : decode cX0_init 55 = .ok (.putfield 28, 3) := by decide +kernel
theorem dX0_init_58 : decode cX0_init 58 = .ok (.aload_n 0, 1) := by decide +kernel
theorem dX0_init_59 : decode cX0_init 59 = .ok (.sipush 150, 3) := by decide +kernel
theorem dX0_init_62 : decode cX0_init 62 = .ok (.newarray .long, 2) := by decide +kernel
theorem dX0_init_64 : decode cX0_init 64 = .ok (.putfield 31, 3) := by decide +kernel
theorem dX0_init_67 : decode cX0_init 67 = .ok (.aload_n 0, 1) := by decide +kernel
theorem dX0_init_68 : decode cX0_init 68 = .ok (.sipush 150, 3) := by decide +kernel
theorem dX0_init_71 : decode cX0_init 71 = .ok (.newarray .int, 2) := by decide +kernel
theorem dX0_init_73 : decode cX0_init 73 = .ok (.putfield 34, 3) := by decide +kernel
theorem dX0_init_76 : decode cX0_init 76 = .ok (.aload_n 0, 1) := by decide +kernel
theorem dX0_init_77 : decode cX0_init 77 = .ok (.sipush 150, 3) := by decide +kernel
theorem dX0_init_80 : decode cX0_init 80 = .ok (.newarray .int, 2) := by decide +kernel
theorem dX0_init_82 : decode cX0_init 82 = .ok (.putfield 37, 3) := by decide +kernel
theorem dX0_init_85 : decode cX0_init 85 = .ok (.aload_n 0, 1) := by decide +kernel
theorem dX0_init_86 : decode cX0_init 86 = .ok (.aload_n 1, 1) := by decide +kernel
theorem dX0_init_87 : decode cX0_init 87 = .ok (.putfield 40, 3) := by decide +kernel
theorem dX0_init_90 : decode cX0_init 90 = .ok (.aload_n 0, 1) := by decide +kernel
theorem dX0_init_91 : decode cX0_init 91 = .ok (.getfield 34, 3) := by decide +kernel
theorem dX0_init_94 : decode cX0_init 94 = .ok (.iconst (-1), 1) := by decide +kernel
theorem dX0_init_95 : decode cX0_init 95 = .ok (.invokestatic 44, 3) := by decide +kernel
theorem dX0_init_98 : decode cX0_init 98 = .ok (.aload_n 0, 1) := by decide +kernel
theorem dX0_init_99 : decode cX0_init 99 = .ok (.getfield 37, 3) := by decide +kernel
theorem dX0_init_102 : decode cX0_init 102 = .ok (.iconst (-1), 1) := by decide +kernel
theorem dX0_init_103 : decode cX0_init 103 = .ok (.invokestatic 44, 3) := by decide +kernel
theorem dX0_init_106 : decode cX0_init 106 = .ok (.return_, 1) := by decide +kernel
theorem dX0_put_0 : decode cX0_put 0 = .ok (.aload_n 0, 1) := by decide +kernel
theorem dX0_put_1 : decode cX0_put 1 = .ok (.aload_n 0, 1) := by decide +kernel
theorem dX0_put_2 : decode cX0_put 2 = .ok (.iload_n 1, 1) := by decide +kernel
theorem dX0_put_3 : decode cX0_put 3 = .ok (.invokevirtual 50, 3) := by decide +kernel
theorem dX0_put_6 : decode cX0_put 6 = .ok (.iload_n 2, 1) := by decide +kernel
theorem dX0_put_7 : decode cX0_put 7 = .ok (.bipush 7, 2) := by decide +kernel
theorem dX0_put_9 : decode cX0_put 9 = .ok (.if_icmp .ne 7, 3) := by decide +kernel
theorem dX0_put_12 : decode cX0_put 12 = .ok (.iconst 1, 1) := by decide +kernel
theorem dX0_put_13 : decode cX0_put 13 = .ok (.goto 4, 3) := by decide +kernel
theorem dX0_put_16 : decode cX0_put 16 = .ok (.iconst 0, 1) := by decide +kernel
theorem dX0_put_17 : decode cX0_put 17 = .ok (.invokestatic 54, 3) := by decide +kernel
theorem dX0_put_20 : decode cX0_put 20 = .ok (.iadd, 1) := by decide +kernel
theorem dX0_put_21 : decode cX0_put 21 = .ok (.putfield 58, 3) := by decide +kernel
theorem dX0_put_24 : decode cX0_put 24 = .ok (.aload_n 0, 1) := by decide +kernel
theorem dX0_put_25 : decode cX0_put 25 = .ok (.getfield 9, 3) := by decide +kernel
theorem dX0_put_28 : decode cX0_put 28 = .ok (.iload_n 1, 1) := by decide +kernel
theorem dX0_put_29 : decode cX0_put 29 = .ok (.iload_n 2, 1) := by decide +kernel
theorem dX0_put_30 : decode cX0_put 30 = .ok (.iastore, 1) := by decide +kernel
theorem dX0_put_31 : decode cX0_put 31 = .ok (.aload_n 0, 1) := by decide +kernel
theorem dX0_put_32 : decode cX0_put 32 = .ok (.getfield 15, 3) := by decide +kernel
theorem dX0_put_35 : decode cX0_put 35 = .ok (.iload_n 1, 1) := by decide +kernel
theorem dX0_put_36 : decode cX0_put 36 = .ok (.iload_n 3, 1) := by decide +kernel
theorem dX0_put_37 : decode cX0_put 37 = .ok (.iastore, 1) := by decide +kernel
theorem dX0_put_38 : decode cX0_put 38 = .ok (.aload_n 0, 1) := by decide +kernel
theorem dX0_put_39 : decode cX0_put 39 = .ok (.getfield 18, 3) := by decide +kernel
theorem dX0_put_42 : decode cX0_put 42 = .ok (.iload_n 1, 1) := by decide +kernel
theorem dX0_put_43 : decode cX0_put 43 = .ok (.iload 4, 2) := by decide +kernel
theorem dX0_put_45 : decode cX0_put 45 = .ok (.iastore, 1) := by decide +kernel
theorem dX0_put_46 : decode cX0_put 46 = .ok (.aload_n 0, 1) := by decide +kernel
theorem dX0_put_47 : decode cX0_put 47 = .ok (.getfield 21, 3) := by decide +kernel
theorem dX0_put_50 : decode cX0_put 50 = .ok (.iload_n 1, 1) := by decide +kernel
theorem dX0_put_51 : decode cX0_put 51 = .ok (.iload 5, 2) := by decide +kernel
theorem dX0_put_53 : decode cX0_put 53 = .ok (.iastore, 1) := by decide +kernel
theorem dX0_put_54 : decode cX0_put 54 = .ok (.aload_n 0, 1) := by decide +kernel
theorem dX0_put_55 : decode cX0_put 55 = .ok (.getfield 24, 3) := by decide +kernel
theorem dX0_put_58 : decode cX0_put 58 = .ok (.iload_n 1, 1) := by decide +kernel
theorem dX0_put_59 : decode cX0_put 59 = .ok (.aload_n 0, 1) := by decide +kernel
theorem dX0_put_60 : decode cX0_put 60 = .ok (.iload_n 2, 1) := by decide +kernel
theorem dX0_put_61 : decode cX0_put 61 = .ok (.iload_n 3, 1) := by decide +kernel
theorem dX0_put_62 : decode cX0_put 62 = .ok (.iload 4, 2) := by decide +kernel
theorem dX0_put_64 : decode cX0_put 64 = .ok (.invokevirtual 62, 3) := by decide +kernel
theorem dX0_put_67 : decode cX0_put 67 = .ok (.lastore, 1) := by decide +kernel
theorem dX0_put_68 : decode cX0_put 68 = .ok (.aload_n 0, 1) := by decide +kernel
theorem dX0_put_69 : decode cX0_put 69 = .ok (.getfield 28, 3) := by decide +kernel
theorem dX0_put_72 : decode cX0_put 72 = .ok (.iload_n 1, 1) := by decide +kernel
theorem dX0_put_73 : decode cX0_put 73 = .ok (.aload_n 0, 1) := by decide +kernel
theorem dX0_put_74 : decode cX0_put 74 = .ok (.iload_n 2, 1) := by decide +kernel
theorem dX0_put_75 : decode cX0_put 75 = .ok (.iload_n 3, 1) := by decide +kernel
theorem dX0_put_76 : decode cX0_put 76 = .ok (.iload 4, 2) := by decide +kernel
theorem dX0_put_78 : decode cX0_put 78 = .ok (.iload 5, 2) := by decide +kernel
theorem dX0_put_80 : decode cX0_put 80 = .ok (.invokevirtual 66, 3) := by decide +kernel
theorem dX0_put_83 : decode cX0_put 83 = .ok (.lastore, 1) := by decide +kernel
theorem dX0_put_84 : decode cX0_put 84 = .ok (.aload_n 0, 1) := by decide +kernel
theorem dX0_put_85 : decode cX0_put 85 = .ok (.getfield 31, 3) := by decide +kernel
theorem dX0_put_88 : decode cX0_put 88 = .ok (.iload_n 1, 1) := by decide +kernel
theorem dX0_put_89 : decode cX0_put 89 = .ok (.aload_n 0, 1) := by decide +kernel
theorem dX0_put_90 : decode cX0_put 90 = .ok (.iload_n 2, 1) := by decide +kernel
theorem dX0_put_91 : decode cX0_put 91 = .ok (.iload_n 3, 1) := by decide +kernel
theorem dX0_put_92 : decode cX0_put 92 = .ok (.iload 4, 2) := by decide +kernel
theorem dX0_put_94 : decode cX0_put 94 = .ok (.invokevirtual 70, 3) := by decide +kernel
theorem dX0_put_97 : decode cX0_put 97 = .ok (.lastore, 1) := by decide +kernel
theorem dX0_put_98 : decode cX0_put 98 = .ok (.aload_n 0, 1) := by decide +kernel
theorem dX0_put_99 : decode cX0_put 99 = .ok (.getfield 34, 3) := by decide +kernel
theorem dX0_put_102 : decode cX0_put 102 = .ok (.iload_n 1, 1) := by decide +kernel
theorem dX0_put_103 : decode cX0_put 103 = .ok (.aload_n 0, 1) := by decide +kernel
theorem dX0_put_104 : decode cX0_put 104 = .ok (.iload_n 2, 1) := by decide +kernel
theorem dX0_put_105 : decode cX0_put 105 = .ok (.iload_n 3, 1) := by decide +kernel
theorem dX0_put_106 : decode cX0_put 106 = .ok (.iload 4, 2) := by decide +kernel
theorem dX0_put_108 : decode cX0_put 108 = .ok (.invokevirtual 73, 3) := by decide +kernel
theorem dX0_put_111 : decode cX0_put 111 = .ok (.iastore, 1) := by decide +kernel
theorem dX0_put_112 : decode cX0_put 112 = .ok (.aload_n 0, 1) := by decide +kernel
theorem dX0_put_113 : decode cX0_put 113 = .ok (.getfield 37, 3) := by decide +kernel
theorem dX0_put_116 : decode cX0_put 116 = .ok (.iload_n 1, 1) := by decide +kernel
theorem dX0_put_117 : decode cX0_put 117 = .ok (.aload_n 0, 1) := by decide +kernel
theorem dX0_put_118 : decode cX0_put 118 = .ok (.iload_n 2, 1) := by decide +kernel
theorem dX0_put_119 : decode cX0_put 119 = .ok (.iload_n 3, 1) := by decide +kernel
theorem dX0_put_120 : decode cX0_put 120 = .ok (.iload 5, 2) := by decide +kernel
theorem dX0_put_122 : decode cX0_put 122 = .ok (.invokevirtual 77, 3) := by decide +kernel
theorem dX0_put_125 : decode cX0_put 125 = .ok (.iastore, 1) := by decide +kernel
theorem dX0_put_126 : decode cX0_put 126 = .ok (.return_, 1) := by decide +kernel
theorem dX0_lendsBeside_0 : decode cX0_lendsBeside 0 = .ok (.aload_n 0, 1) := by decide +kernel
theorem dX0_lendsBeside_1 : decode cX0_lendsBeside 1 = .ok (.getfield 58, 3) := by decide +kernel
theorem dX0_lendsBeside_4 : decode cX0_lendsBeside 4 = .ok (.aload_n 0, 1) := by decide +kernel
theorem dX0_lendsBeside_5 : decode cX0_lendsBeside 5 = .ok (.getfield 9, 3) := by decide +kernel
theorem dX0_lendsBeside_8 : decode cX0_lendsBeside 8 = .ok (.iload_n 1, 1) := by decide +kernel
theorem dX0_lendsBeside_9 : decode cX0_lendsBeside 9 = .ok (.iaload, 1) := by decide +kernel
theorem dX0_lendsBeside_10 : decode cX0_lendsBeside 10 = .ok (.bipush 7, 2) := by decide +kernel
theorem dX0_lendsBeside_12 : decode cX0_lendsBeside 12 = .ok (.if_icmp .ne 7, 3) := by decide +kernel
theorem dX0_lendsBeside_15 : decode cX0_lendsBeside 15 = .ok (.iconst 1, 1) := by decide +kernel
theorem dX0_lendsBeside_16 : decode cX0_lendsBeside 16 = .ok (.goto 4, 3) := by decide +kernel
theorem dX0_lendsBeside_19 : decode cX0_lendsBeside 19 = .ok (.iconst 0, 1) := by decide +kernel
theorem dX0_lendsBeside_20 : decode cX0_lendsBeside 20 = .ok (.invokestatic 54, 3) := by decide +kernel
theorem dX0_lendsBeside_23 : decode cX0_lendsBeside 23 = .ok (.isub, 1) := by decide +kernel
theorem dX0_lendsBeside_24 : decode cX0_lendsBeside 24 = .ok (.ireturn, 1) := by decide +kernel
theorem dX0_leavesWanted_0 : decode cX0_leavesWanted 0 = .ok (.iload_n 1, 1) := by decide +kernel
theorem dX0_leavesWanted_1 : decode cX0_leavesWanted 1 = .ok (.iconst 1, 1) := by decide +kernel
theorem dX0_leavesWanted_2 : decode cX0_leavesWanted 2 = .ok (.if_icmp .eq 42, 3) := by decide +kernel
theorem dX0_leavesWanted_5 : decode cX0_leavesWanted 5 = .ok (.iload_n 1, 1) := by decide +kernel
theorem dX0_leavesWanted_6 : decode cX0_leavesWanted 6 = .ok (.iconst 2, 1) := by decide +kernel
theorem dX0_leavesWanted_7 : decode cX0_leavesWanted 7 = .ok (.if_icmp .eq 37, 3) := by decide +kernel
theorem dX0_leavesWanted_10 : decode cX0_leavesWanted 10 = .ok (.iload_n 1, 1) := by decide +kernel
theorem dX0_leavesWanted_11 : decode cX0_leavesWanted 11 = .ok (.iconst 4, 1) := by decide +kernel
theorem dX0_leavesWanted_12 : decode cX0_leavesWanted 12 = .ok (.if_icmp .eq 32, 3) := by decide +kernel
theorem dX0_leavesWanted_15 : decode cX0_leavesWanted 15 = .ok (.iload_n 1, 1) := by decide +kernel
theorem dX0_leavesWanted_16 : decode cX0_leavesWanted 16 = .ok (.bipush 7, 2) := by decide +kernel
theorem dX0_leavesWanted_18 : decode cX0_leavesWanted 18 = .ok (.if_icmp .eq 26, 3) := by decide +kernel
theorem dX0_leavesWanted_21 : decode cX0_leavesWanted 21 = .ok (.iload_n 1, 1) := by decide +kernel
theorem dX0_leavesWanted_22 : decode cX0_leavesWanted 22 = .ok (.bipush 8, 2) := by decide +kernel
theorem dX0_leavesWanted_24 : decode cX0_leavesWanted 24 = .ok (.if_icmp .eq 20, 3) := by decide +kernel
theorem dX0_leavesWanted_27 : decode cX0_leavesWanted 27 = .ok (.iload_n 1, 1) := by decide +kernel
theorem dX0_leavesWanted_28 : decode cX0_leavesWanted 28 = .ok (.iconst 3, 1) := by decide +kernel
theorem dX0_leavesWanted_29 : decode cX0_leavesWanted 29 = .ok (.if_icmp .ne 19, 3) := by decide +kernel
theorem dX0_leavesWanted_32 : decode cX0_leavesWanted 32 = .ok (.aload_n 0, 1) := by decide +kernel
theorem dX0_leavesWanted_33 : decode cX0_leavesWanted 33 = .ok (.getfield 40, 3) := by decide +kernel
theorem dX0_leavesWanted_36 : decode cX0_leavesWanted 36 = .ok (.iload_n 2, 1) := by decide +kernel
theorem dX0_leavesWanted_37 : decode cX0_leavesWanted 37 = .ok (.iload_n 3, 1) := by decide +kernel
theorem dX0_leavesWanted_38 : decode cX0_leavesWanted 38 = .ok (.invokevirtual 80, 3) := by decide +kernel
theorem dX0_leavesWanted_41 : decode cX0_leavesWanted 41 = .ok (.ifCond .eq 7, 3) := by decide +kernel
theorem dX0_leavesWanted_44 : decode cX0_leavesWanted 44 = .ok (.iconst 1, 1) := by decide +kernel
theorem dX0_leavesWanted_45 : decode cX0_leavesWanted 45 = .ok (.goto 4, 3) := by decide +kernel
theorem dX0_leavesWanted_48 : decode cX0_leavesWanted 48 = .ok (.iconst 0, 1) := by decide +kernel
theorem dX0_leavesWanted_49 : decode cX0_leavesWanted 49 = .ok (.istore 4, 2) := by decide +kernel
theorem dX0_leavesWanted_51 : decode cX0_leavesWanted 51 = .ok (.iload 4, 2) := by decide +kernel
theorem dX0_leavesWanted_53 : decode cX0_leavesWanted 53 = .ok (.ifCond .eq 15, 3) := by decide +kernel
theorem dX0_leavesWanted_56 : decode cX0_leavesWanted 56 = .ok (.aload_n 0, 1) := by decide +kernel
theorem dX0_leavesWanted_57 : decode cX0_leavesWanted 57 = .ok (.getfield 40, 3) := by decide +kernel
theorem dX0_leavesWanted_60 : decode cX0_leavesWanted 60 = .ok (.iload_n 2, 1) := by decide +kernel
theorem dX0_leavesWanted_61 : decode cX0_leavesWanted 61 = .ok (.iload_n 3, 1) := by decide +kernel
theorem dX0_leavesWanted_62 : decode cX0_leavesWanted 62 = .ok (.invokevirtual 86, 3) := by decide +kernel
theorem dX0_leavesWanted_65 : decode cX0_leavesWanted 65 = .ok (.goto 4, 3) := by decide +kernel
theorem dX0_leavesWanted_68 : decode cX0_leavesWanted 68 = .ok (.lconst 0, 1) := by decide +kernel
theorem dX0_leavesWanted_69 : decode cX0_leavesWanted 69 = .ok (.lreturn, 1) := by decide +kernel
theorem dX0_leavesGiven_0 : decode cX0_leavesGiven 0 = .ok (.iload_n 1, 1) := by decide +kernel
theorem dX0_leavesGiven_1 : decode cX0_leavesGiven 1 = .ok (.bipush 7, 2) := by decide +kernel
theorem dX0_leavesGiven_3 : decode cX0_leavesGiven 3 = .ok (.if_icmp .eq 9, 3) := by decide +kernel
theorem dX0_leavesGiven_6 : decode cX0_leavesGiven 6 = .ok (.iload_n 1, 1) := by decide +kernel
theorem dX0_leavesGiven_7 : decode cX0_leavesGiven 7 = .ok (.bipush 8, 2) := by decide +kernel
theorem dX0_leavesGiven_9 : decode cX0_leavesGiven 9 = .ok (.if_icmp .ne 14, 3) := by decide +kernel
theorem dX0_leavesGiven_12 : decode cX0_leavesGiven 12 = .ok (.aload_n 0, 1) := by decide +kernel
theorem dX0_leavesGiven_13 : decode cX0_leavesGiven 13 = .ok (.getfield 40, 3) := by decide +kernel
theorem dX0_leavesGiven_16 : decode cX0_leavesGiven 16 = .ok (.iload 4, 2) := by decide +kernel
theorem dX0_leavesGiven_18 : decode cX0_leavesGiven 18 = .ok (.iconst 0, 1) := by decide +kernel
theorem dX0_leavesGiven_19 : decode cX0_leavesGiven 19 = .ok (.invokevirtual 86, 3) := by decide +kernel
theorem dX0_leavesGiven_22 : decode cX0_leavesGiven 22 = .ok (.lreturn, 1) := by decide +kernel
theorem dX0_leavesGiven_23 : decode cX0_leavesGiven 23 = .ok (.iload_n 1, 1) := by decide +kernel
theorem dX0_leavesGiven_24 : decode cX0_leavesGiven 24 = .ok (.iconst 3, 1) := by decide +kernel
theorem dX0_leavesGiven_25 : decode cX0_leavesGiven 25 = .ok (.if_icmp .ne 19, 3) := by decide +kernel
theorem dX0_leavesGiven_28 : decode cX0_leavesGiven 28 = .ok (.aload_n 0, 1) := by decide +kernel
theorem dX0_leavesGiven_29 : decode cX0_leavesGiven 29 = .ok (.getfield 40, 3) := by decide +kernel
theorem dX0_leavesGiven_32 : decode cX0_leavesGiven 32 = .ok (.iload_n 2, 1) := by decide +kernel
theorem dX0_leavesGiven_33 : decode cX0_leavesGiven 33 = .ok (.iload_n 3, 1) := by decide +kernel
theorem dX0_leavesGiven_34 : decode cX0_leavesGiven 34 = .ok (.invokevirtual 80, 3) := by decide +kernel
theorem dX0_leavesGiven_37 : decode cX0_leavesGiven 37 = .ok (.ifCond .ne 7, 3) := by decide +kernel
theorem dX0_leavesGiven_40 : decode cX0_leavesGiven 40 = .ok (.iconst 1, 1) := by decide +kernel
theorem dX0_leavesGiven_41 : decode cX0_leavesGiven 41 = .ok (.goto 4, 3) := by decide +kernel
theorem dX0_leavesGiven_44 : decode cX0_leavesGiven 44 = .ok (.iconst 0, 1) := by decide +kernel
theorem dX0_leavesGiven_45 : decode cX0_leavesGiven 45 = .ok (.istore 5, 2) := by decide +kernel
theorem dX0_leavesGiven_47 : decode cX0_leavesGiven 47 = .ok (.iload 5, 2) := by decide +kernel
theorem dX0_leavesGiven_49 : decode cX0_leavesGiven 49 = .ok (.ifCond .eq 15, 3) := by decide +kernel
theorem dX0_leavesGiven_52 : decode cX0_leavesGiven 52 = .ok (.aload_n 0, 1) := by decide +kernel
theorem dX0_leavesGiven_53 : decode cX0_leavesGiven 53 = .ok (.getfield 40, 3) := by decide +kernel
theorem dX0_leavesGiven_56 : decode cX0_leavesGiven 56 = .ok (.iload_n 2, 1) := by decide +kernel
theorem dX0_leavesGiven_57 : decode cX0_leavesGiven 57 = .ok (.iload_n 3, 1) := by decide +kernel
theorem dX0_leavesGiven_58 : decode cX0_leavesGiven 58 = .ok (.invokevirtual 86, 3) := by decide +kernel
theorem dX0_leavesGiven_61 : decode cX0_leavesGiven 61 = .ok (.goto 4, 3) := by decide +kernel
theorem dX0_leavesGiven_64 : decode cX0_leavesGiven 64 = .ok (.lconst 0, 1) := by decide +kernel
theorem dX0_leavesGiven_65 : decode cX0_leavesGiven 65 = .ok (.lreturn, 1) := by decide +kernel
theorem dX0_leavesTaken_0 : decode cX0_leavesTaken 0 = .ok (.iload_n 1, 1) := by decide +kernel
theorem dX0_leavesTaken_1 : decode cX0_leavesTaken 1 = .ok (.iconst 2, 1) := by decide +kernel
theorem dX0_leavesTaken_2 : decode cX0_leavesTaken 2 = .ok (.if_icmp .eq 25, 3) := by decide +kernel
theorem dX0_leavesTaken_5 : decode cX0_leavesTaken 5 = .ok (.iload_n 1, 1) := by decide +kernel
theorem dX0_leavesTaken_6 : decode cX0_leavesTaken 6 = .ok (.iconst 5, 1) := by decide +kernel
theorem dX0_leavesTaken_7 : decode cX0_leavesTaken 7 = .ok (.if_icmp .eq 20, 3) := by decide +kernel
theorem dX0_leavesTaken_10 : decode cX0_leavesTaken 10 = .ok (.iload_n 1, 1) := by decide +kernel
theorem dX0_leavesTaken_11 : decode cX0_leavesTaken 11 = .ok (.bipush 8, 2) := by decide +kernel
theorem dX0_leavesTaken_13 : decode cX0_leavesTaken 13 = .ok (.if_icmp .ne 18, 3) := by decide +kernel
theorem dX0_leavesTaken_16 : decode cX0_leavesTaken 16 = .ok (.aload_n 0, 1) := by decide +kernel
theorem dX0_leavesTaken_17 : decode cX0_leavesTaken 17 = .ok (.getfield 40, 3) := by decide +kernel
theorem dX0_leavesTaken_20 : decode cX0_leavesTaken 20 = .ok (.iload_n 2, 1) := by decide +kernel
theorem dX0_leavesTaken_21 : decode cX0_leavesTaken 21 = .ok (.invokevirtual 90, 3) := by decide +kernel
theorem dX0_leavesTaken_24 : decode cX0_leavesTaken 24 = .ok (.ifCond .eq 7, 3) := by decide +kernel
theorem dX0_leavesTaken_27 : decode cX0_leavesTaken 27 = .ok (.iconst 1, 1) := by decide +kernel
theorem dX0_leavesTaken_28 : decode cX0_leavesTaken 28 = .ok (.goto 4, 3) := by decide +kernel
theorem dX0_leavesTaken_31 : decode cX0_leavesTaken 31 = .ok (.iconst 0, 1) := by decide +kernel
theorem dX0_leavesTaken_32 : decode cX0_leavesTaken 32 = .ok (.istore 4, 2) := by decide +kernel
theorem dX0_leavesTaken_34 : decode cX0_leavesTaken 34 = .ok (.iload 4, 2) := by decide +kernel
theorem dX0_leavesTaken_36 : decode cX0_leavesTaken 36 = .ok (.ifCond .eq 15, 3) := by decide +kernel
theorem dX0_leavesTaken_39 : decode cX0_leavesTaken 39 = .ok (.aload_n 0, 1) := by decide +kernel
theorem dX0_leavesTaken_40 : decode cX0_leavesTaken 40 = .ok (.getfield 40, 3) := by decide +kernel
theorem dX0_leavesTaken_43 : decode cX0_leavesTaken 43 = .ok (.iload_n 2, 1) := by decide +kernel
theorem dX0_leavesTaken_44 : decode cX0_leavesTaken 44 = .ok (.iload_n 3, 1) := by decide +kernel
theorem dX0_leavesTaken_45 : decode cX0_leavesTaken 45 = .ok (.invokevirtual 86, 3) := by decide +kernel
theorem dX0_leavesTaken_48 : decode cX0_leavesTaken 48 = .ok (.goto 4, 3) := by decide +kernel
theorem dX0_leavesTaken_51 : decode cX0_leavesTaken 51 = .ok (.lconst 0, 1) := by decide +kernel
theorem dX0_leavesTaken_52 : decode cX0_leavesTaken 52 = .ok (.lreturn, 1) := by decide +kernel
theorem dX0_referenceUsed_0 : decode cX0_referenceUsed 0 = .ok (.iload_n 1, 1) := by decide +kernel
theorem dX0_referenceUsed_1 : decode cX0_referenceUsed 1 = .ok (.invokestatic 94, 3) := by decide +kernel
theorem dX0_referenceUsed_4 : decode cX0_referenceUsed 4 = .ok (.ifCond .eq 19, 3) := by decide +kernel
theorem dX0_referenceUsed_7 : decode cX0_referenceUsed 7 = .ok (.aload_n 0, 1) := by decide +kernel
theorem dX0_referenceUsed_8 : decode cX0_referenceUsed 8 = .ok (.getfield 40, 3) := by decide +kernel
theorem dX0_referenceUsed_11 : decode cX0_referenceUsed 11 = .ok (.iload_n 2, 1) := by decide +kernel
theorem dX0_referenceUsed_12 : decode cX0_referenceUsed 12 = .ok (.iload_n 3, 1) := by decide +kernel
theorem dX0_referenceUsed_13 : decode cX0_referenceUsed 13 = .ok (.invokevirtual 97, 3) := by decide +kernel
theorem dX0_referenceUsed_16 : decode cX0_referenceUsed 16 = .ok (.ifCond .eq 7, 3) := by decide +kernel
theorem dX0_referenceUsed_19 : decode cX0_referenceUsed 19 = .ok (.iconst 1, 1) := by decide +kernel
theorem dX0_referenceUsed_20 : decode cX0_referenceUsed 20 = .ok (.goto 4, 3) := by decide +kernel
theorem dX0_referenceUsed_23 : decode cX0_referenceUsed 23 = .ok (.iconst 0, 1) := by decide +kernel
theorem dX0_referenceUsed_24 : decode cX0_referenceUsed 24 = .ok (.istore 4, 2) := by decide +kernel
theorem dX0_referenceUsed_26 : decode cX0_referenceUsed 26 = .ok (.iload 4, 2) := by decide +kernel
theorem dX0_referenceUsed_28 : decode cX0_referenceUsed 28 = .ok (.ifCond .ne 9, 3) := by decide +kernel
theorem dX0_referenceUsed_31 : decode cX0_referenceUsed 31 = .ok (.iload_n 1, 1) := by decide +kernel
theorem dX0_referenceUsed_32 : decode cX0_referenceUsed 32 = .ok (.bipush 8, 2) := by decide +kernel
theorem dX0_referenceUsed_34 : decode cX0_referenceUsed 34 = .ok (.if_icmp .ne 7, 3) := by decide +kernel
theorem dX0_referenceUsed_37 : decode cX0_referenceUsed 37 = .ok (.iload_n 2, 1) := by decide +kernel
theorem dX0_referenceUsed_38 : decode cX0_referenceUsed 38 = .ok (.goto 4, 3) := by decide +kernel
theorem dX0_referenceUsed_41 : decode cX0_referenceUsed 41 = .ok (.iconst (-1), 1) := by decide +kernel
theorem dX0_referenceUsed_42 : decode cX0_referenceUsed 42 = .ok (.ireturn, 1) := by decide +kernel
theorem dX0_referenceRenewed_0 : decode cX0_referenceRenewed 0 = .ok (.iload_n 1, 1) := by decide +kernel
theorem dX0_referenceRenewed_1 : decode cX0_referenceRenewed 1 = .ok (.iconst 5, 1) := by decide +kernel
theorem dX0_referenceRenewed_2 : decode cX0_referenceRenewed 2 = .ok (.if_icmp .ne 20, 3) := by decide +kernel
theorem dX0_referenceRenewed_5 : decode cX0_referenceRenewed 5 = .ok (.aload_n 0, 1) := by decide +kernel
theorem dX0_referenceRenewed_6 : decode cX0_referenceRenewed 6 = .ok (.getfield 40, 3) := by decide +kernel
theorem dX0_referenceRenewed_9 : decode cX0_referenceRenewed 9 = .ok (.iload_n 2, 1) := by decide +kernel
theorem dX0_referenceRenewed_10 : decode cX0_referenceRenewed 10 = .ok (.invokevirtual 100, 3) := by decide +kernel
theorem dX0_referenceRenewed_13 : decode cX0_referenceRenewed 13 = .ok (.ifCond .eq 7, 3) := by decide +kernel
theorem dX0_referenceRenewed_16 : decode cX0_referenceRenewed 16 = .ok (.iload_n 2, 1) := by decide +kernel
theorem dX0_referenceRenewed_17 : decode cX0_referenceRenewed 17 = .ok (.goto 4, 3) := by decide +kernel
theorem dX0_referenceRenewed_20 : decode cX0_referenceRenewed 20 = .ok (.iconst (-1), 1) := by decide +kernel
theorem dX0_referenceRenewed_21 : decode cX0_referenceRenewed 21 = .ok (.ireturn, 1) := by decide +kernel
theorem dX0_referenceRenewed_22 : decode cX0_referenceRenewed 22 = .ok (.iload_n 1, 1) := by decide +kernel
theorem dX0_referenceRenewed_23 : decode cX0_referenceRenewed 23 = .ok (.bipush 7, 2) := by decide +kernel
theorem dX0_referenceRenewed_25 : decode cX0_referenceRenewed 25 = .ok (.if_icmp .eq 9, 3) := by decide +kernel
theorem dX0_referenceRenewed_28 : decode cX0_referenceRenewed 28 = .ok (.iload_n 1, 1) := by decide +kernel
theorem dX0_referenceRenewed_29 : decode cX0_referenceRenewed 29 = .ok (.bipush 8, 2) := by decide +kernel
theorem dX0_referenceRenewed_31 : decode cX0_referenceRenewed 31 = .ok (.if_icmp .ne 7, 3) := by decide +kernel
theorem dX0_referenceRenewed_34 : decode cX0_referenceRenewed 34 = .ok (.iload_n 3, 1) := by decide +kernel
theorem dX0_referenceRenewed_35 : decode cX0_referenceRenewed 35 = .ok (.goto 4, 3) := by decide +kernel
theorem dX0_referenceRenewed_38 : decode cX0_referenceRenewed 38 = .ok (.iconst (-1), 1) := by decide +kernel
theorem dX0_referenceRenewed_39 : decode cX0_referenceRenewed 39 = .ok (.ireturn, 1) := by decide +kernel
theorem dX0_isOnPlace_0 : decode cX0_isOnPlace 0 = .ok (.iload_n 0, 1) := by decide +kernel
theorem dX0_isOnPlace_1 : decode cX0_isOnPlace 1 = .ok (.iconst 1, 1) := by decide +kernel
theorem dX0_isOnPlace_2 : decode cX0_isOnPlace 2 = .ok (.if_icmp .eq 24, 3) := by decide +kernel
theorem dX0_isOnPlace_5 : decode cX0_isOnPlace 5 = .ok (.iload_n 0, 1) := by decide +kernel
theorem dX0_isOnPlace_6 : decode cX0_isOnPlace 6 = .ok (.iconst 2, 1) := by decide +kernel
theorem dX0_isOnPlace_7 : decode cX0_isOnPlace 7 = .ok (.if_icmp .eq 19, 3) := by decide +kernel
theorem dX0_isOnPlace_10 : decode cX0_isOnPlace 10 = .ok (.iload_n 0, 1) := by decide +kernel
theorem dX0_isOnPlace_11 : decode cX0_isOnPlace 11 = .ok (.iconst 3, 1) := by decide +kernel
theorem dX0_isOnPlace_12 : decode cX0_isOnPlace 12 = .ok (.if_icmp .eq 14, 3) := by decide +kernel
theorem dX0_isOnPlace_15 : decode cX0_isOnPlace 15 = .ok (.iload_n 0, 1) := by decide +kernel
theorem dX0_isOnPlace_16 : decode cX0_isOnPlace 16 = .ok (.iconst 4, 1) := by decide +kernel
theorem dX0_isOnPlace_17 : decode cX0_isOnPlace 17 = .ok (.if_icmp .eq 9, 3) := by decide +kernel
theorem dX0_isOnPlace_20 : decode cX0_isOnPlace 20 = .ok (.iload_n 0, 1) := by decide +kernel
theorem dX0_isOnPlace_21 : decode cX0_isOnPlace 21 = .ok (.bipush 7, 2) := by decide +kernel
theorem dX0_isOnPlace_23 : decode cX0_isOnPlace 23 = .ok (.if_icmp .ne 7, 3) := by decide +kernel
theorem dX0_isOnPlace_26 : decode cX0_isOnPlace 26 = .ok (.iconst 1, 1) := by decide +kernel
theorem dX0_isOnPlace_27 : decode cX0_isOnPlace 27 = .ok (.goto 4, 3) := by decide +kernel
theorem dX0_isOnPlace_30 : decode cX0_isOnPlace 30 = .ok (.iconst 0, 1) := by decide +kernel
theorem dX0_isOnPlace_31 : decode cX0_isOnPlace 31 = .ok (.ireturn, 1) := by decide +kernel
theorem dX0_wantedAt_0 : decode cX0_wantedAt 0 = .ok (.aload_n 0, 1) := by decide +kernel
theorem dX0_wantedAt_1 : decode cX0_wantedAt 1 = .ok (.getfield 24, 3) := by decide +kernel
theorem dX0_wantedAt_4 : decode cX0_wantedAt 4 = .ok (.iload_n 1, 1) := by decide +kernel
theorem dX0_wantedAt_5 : decode cX0_wantedAt 5 = .ok (.laload, 1) := by decide +kernel
theorem dX0_wantedAt_6 : decode cX0_wantedAt 6 = .ok (.lreturn, 1) := by decide +kernel
theorem dX0_givenAt_0 : decode cX0_givenAt 0 = .ok (.aload_n 0, 1) := by decide +kernel
theorem dX0_givenAt_1 : decode cX0_givenAt 1 = .ok (.getfield 28, 3) := by decide +kernel
theorem dX0_givenAt_4 : decode cX0_givenAt 4 = .ok (.iload_n 1, 1) := by decide +kernel
theorem dX0_givenAt_5 : decode cX0_givenAt 5 = .ok (.laload, 1) := by decide +kernel
theorem dX0_givenAt_6 : decode cX0_givenAt 6 = .ok (.lreturn, 1) := by decide +kernel
theorem dX0_takenAt_0 : decode cX0_takenAt 0 = .ok (.aload_n 0, 1) := by decide +kernel
theorem dX0_takenAt_1 : decode cX0_takenAt 1 = .ok (.getfield 31, 3) := by decide +kernel
theorem dX0_takenAt_4 : decode cX0_takenAt 4 = .ok (.iload_n 1, 1) := by decide +kernel
theorem dX0_takenAt_5 : decode cX0_takenAt 5 = .ok (.laload, 1) := by decide +kernel
theorem dX0_takenAt_6 : decode cX0_takenAt 6 = .ok (.lreturn, 1) := by decide +kernel
theorem dX0_variableAt_0 : decode cX0_variableAt 0 = .ok (.aload_n 0, 1) := by decide +kernel
theorem dX0_variableAt_1 : decode cX0_variableAt 1 = .ok (.getfield 15, 3) := by decide +kernel
theorem dX0_variableAt_4 : decode cX0_variableAt 4 = .ok (.iload_n 1, 1) := by decide +kernel
theorem dX0_variableAt_5 : decode cX0_variableAt 5 = .ok (.iaload, 1) := by decide +kernel
theorem dX0_variableAt_6 : decode cX0_variableAt 6 = .ok (.ireturn, 1) := by decide +kernel
theorem dX0_pathAt_0 : decode cX0_pathAt 0 = .ok (.aload_n 0, 1) := by decide +kernel
theorem dX0_pathAt_1 : decode cX0_pathAt 1 = .ok (.getfield 18, 3) := by decide +kernel
theorem dX0_pathAt_4 : decode cX0_pathAt 4 = .ok (.iload_n 1, 1) := by decide +kernel
theorem dX0_pathAt_5 : decode cX0_pathAt 5 = .ok (.iaload, 1) := by decide +kernel
theorem dX0_pathAt_6 : decode cX0_pathAt 6 = .ok (.ireturn, 1) := by decide +kernel
theorem dX0_makesLoan_0 : decode cX0_makesLoan 0 = .ok (.aload_n 0, 1) := by decide +kernel
theorem dX0_makesLoan_1 : decode cX0_makesLoan 1 = .ok (.getfield 9, 3) := by decide +kernel
theorem dX0_makesLoan_4 : decode cX0_makesLoan 4 = .ok (.iload_n 1, 1) := by decide +kernel
theorem dX0_makesLoan_5 : decode cX0_makesLoan 5 = .ok (.iaload, 1) := by decide +kernel
theorem dX0_makesLoan_6 : decode cX0_makesLoan 6 = .ok (.bipush 7, 2) := by decide +kernel
theorem dX0_makesLoan_8 : decode cX0_makesLoan 8 = .ok (.if_icmp .ne 23, 3) := by decide +kernel
theorem dX0_makesLoan_11 : decode cX0_makesLoan 11 = .ok (.aload_n 0, 1) := by decide +kernel
theorem dX0_makesLoan_12 : decode cX0_makesLoan 12 = .ok (.getfield 40, 3) := by decide +kernel
theorem dX0_makesLoan_15 : decode cX0_makesLoan 15 = .ok (.aload_n 0, 1) := by decide +kernel
theorem dX0_makesLoan_16 : decode cX0_makesLoan 16 = .ok (.getfield 15, 3) := by decide +kernel
theorem dX0_makesLoan_19 : decode cX0_makesLoan 19 = .ok (.iload_n 1, 1) := by decide +kernel
theorem dX0_makesLoan_20 : decode cX0_makesLoan 20 = .ok (.iaload, 1) := by decide +kernel
theorem dX0_makesLoan_21 : decode cX0_makesLoan 21 = .ok (.invokevirtual 103, 3) := by decide +kernel
theorem dX0_makesLoan_24 : decode cX0_makesLoan 24 = .ok (.ifCond .ne 7, 3) := by decide +kernel
theorem dX0_makesLoan_27 : decode cX0_makesLoan 27 = .ok (.iconst 1, 1) := by decide +kernel
theorem dX0_makesLoan_28 : decode cX0_makesLoan 28 = .ok (.goto 4, 3) := by decide +kernel
theorem dX0_makesLoan_31 : decode cX0_makesLoan 31 = .ok (.iconst 0, 1) := by decide +kernel
theorem dX0_makesLoan_32 : decode cX0_makesLoan 32 = .ok (.ireturn, 1) := by decide +kernel
theorem dX0_makesSoleLoan_0 : decode cX0_makesSoleLoan 0 = .ok (.aload_n 0, 1) := by decide +kernel
theorem dX0_makesSoleLoan_1 : decode cX0_makesSoleLoan 1 = .ok (.iload_n 1, 1) := by decide +kernel
theorem dX0_makesSoleLoan_2 : decode cX0_makesSoleLoan 2 = .ok (.invokevirtual 106, 3) := by decide +kernel
theorem dX0_makesSoleLoan_5 : decode cX0_makesSoleLoan 5 = .ok (.ifCond .eq 23, 3) := by decide +kernel
theorem dX0_makesSoleLoan_8 : decode cX0_makesSoleLoan 8 = .ok (.aload_n 0, 1) := by decide +kernel
theorem dX0_makesSoleLoan_9 : decode cX0_makesSoleLoan 9 = .ok (.getfield 40, 3) := by decide +kernel
theorem dX0_makesSoleLoan_12 : decode cX0_makesSoleLoan 12 = .ok (.aload_n 0, 1) := by decide +kernel
theorem dX0_makesSoleLoan_13 : decode cX0_makesSoleLoan 13 = .ok (.getfield 21, 3) := by decide +kernel
theorem dX0_makesSoleLoan_16 : decode cX0_makesSoleLoan 16 = .ok (.iload_n 1, 1) := by decide +kernel
theorem dX0_makesSoleLoan_17 : decode cX0_makesSoleLoan 17 = .ok (.iaload, 1) := by decide +kernel
theorem dX0_makesSoleLoan_18 : decode cX0_makesSoleLoan 18 = .ok (.invokevirtual 90, 3) := by decide +kernel
theorem dX0_makesSoleLoan_21 : decode cX0_makesSoleLoan 21 = .ok (.ifCond .eq 7, 3) := by decide +kernel
theorem dX0_makesSoleLoan_24 : decode cX0_makesSoleLoan 24 = .ok (.iconst 1, 1) := by decide +kernel
theorem dX0_makesSoleLoan_25 : decode cX0_makesSoleLoan 25 = .ok (.goto 4, 3) := by decide +kernel
theorem dX0_makesSoleLoan_28 : decode cX0_makesSoleLoan 28 = .ok (.iconst 0, 1) := by decide +kernel
theorem dX0_makesSoleLoan_29 : decode cX0_makesSoleLoan 29 = .ok (.ireturn, 1) := by decide +kernel
theorem dX0_usedAt_0 : decode cX0_usedAt 0 = .ok (.aload_n 0, 1) := by decide +kernel
theorem dX0_usedAt_1 : decode cX0_usedAt 1 = .ok (.getfield 34, 3) := by decide +kernel
theorem dX0_usedAt_4 : decode cX0_usedAt 4 = .ok (.iload_n 1, 1) := by decide +kernel
theorem dX0_usedAt_5 : decode cX0_usedAt 5 = .ok (.iaload, 1) := by decide +kernel
theorem dX0_usedAt_6 : decode cX0_usedAt 6 = .ok (.ireturn, 1) := by decide +kernel
theorem dX0_renewedAt_0 : decode cX0_renewedAt 0 = .ok (.aload_n 0, 1) := by decide +kernel
theorem dX0_renewedAt_1 : decode cX0_renewedAt 1 = .ok (.getfield 37, 3) := by decide +kernel
theorem dX0_renewedAt_4 : decode cX0_renewedAt 4 = .ok (.iload_n 1, 1) := by decide +kernel
theorem dX0_renewedAt_5 : decode cX0_renewedAt 5 = .ok (.iaload, 1) := by decide +kernel
theorem dX0_renewedAt_6 : decode cX0_renewedAt 6 = .ok (.ireturn, 1) := by decide +kernel
theorem dX0_canClash_0 : decode cX0_canClash 0 = .ok (.aload_n 0, 1) := by decide +kernel
theorem dX0_canClash_1 : decode cX0_canClash 1 = .ok (.getfield 9, 3) := by decide +kernel
theorem dX0_canClash_4 : decode cX0_canClash 4 = .ok (.iload_n 1, 1) := by decide +kernel
theorem dX0_canClash_5 : decode cX0_canClash 5 = .ok (.iaload, 1) := by decide +kernel
theorem dX0_canClash_6 : decode cX0_canClash 6 = .ok (.bipush 6, 2) := by decide +kernel
theorem dX0_canClash_8 : decode cX0_canClash 8 = .ok (.if_icmp .ne 25, 3) := by decide +kernel
theorem dX0_canClash_11 : decode cX0_canClash 11 = .ok (.aload_n 0, 1) := by decide +kernel
theorem dX0_canClash_12 : decode cX0_canClash 12 = .ok (.getfield 40, 3) := by decide +kernel
theorem dX0_canClash_15 : decode cX0_canClash 15 = .ok (.aload_n 0, 1) := by decide +kernel
theorem dX0_canClash_16 : decode cX0_canClash 16 = .ok (.getfield 15, 3) := by decide +kernel
theorem dX0_canClash_19 : decode cX0_canClash 19 = .ok (.iload_n 1, 1) := by decide +kernel
theorem dX0_canClash_20 : decode cX0_canClash 20 = .ok (.iaload, 1) := by decide +kernel
theorem dX0_canClash_21 : decode cX0_canClash 21 = .ok (.invokevirtual 100, 3) := by decide +kernel
theorem dX0_canClash_24 : decode cX0_canClash 24 = .ok (.ifCond .ne 7, 3) := by decide +kernel
theorem dX0_canClash_27 : decode cX0_canClash 27 = .ok (.iconst 1, 1) := by decide +kernel
theorem dX0_canClash_28 : decode cX0_canClash 28 = .ok (.goto 4, 3) := by decide +kernel
theorem dX0_canClash_31 : decode cX0_canClash 31 = .ok (.iconst 0, 1) := by decide +kernel
theorem dX0_canClash_32 : decode cX0_canClash 32 = .ok (.ireturn, 1) := by decide +kernel
theorem dX0_canClash_33 : decode cX0_canClash 33 = .ok (.aload_n 0, 1) := by decide +kernel
theorem dX0_canClash_34 : decode cX0_canClash 34 = .ok (.getfield 9, 3) := by decide +kernel
theorem dX0_canClash_37 : decode cX0_canClash 37 = .ok (.iload_n 1, 1) := by decide +kernel
theorem dX0_canClash_38 : decode cX0_canClash 38 = .ok (.iaload, 1) := by decide +kernel
theorem dX0_canClash_39 : decode cX0_canClash 39 = .ok (.invokestatic 94, 3) := by decide +kernel
theorem dX0_canClash_42 : decode cX0_canClash 42 = .ok (.ifCond .ne 14, 3) := by decide +kernel
theorem dX0_canClash_45 : decode cX0_canClash 45 = .ok (.aload_n 0, 1) := by decide +kernel
theorem dX0_canClash_46 : decode cX0_canClash 46 = .ok (.getfield 9, 3) := by decide +kernel
theorem dX0_canClash_49 : decode cX0_canClash 49 = .ok (.iload_n 1, 1) := by decide +kernel
theorem dX0_canClash_50 : decode cX0_canClash 50 = .ok (.iaload, 1) := by decide +kernel
theorem dX0_canClash_51 : decode cX0_canClash 51 = .ok (.bipush 8, 2) := by decide +kernel
theorem dX0_canClash_53 : decode cX0_canClash 53 = .ok (.if_icmp .ne 7, 3) := by decide +kernel
theorem dX0_canClash_56 : decode cX0_canClash 56 = .ok (.iconst 1, 1) := by decide +kernel
theorem dX0_canClash_57 : decode cX0_canClash 57 = .ok (.goto 4, 3) := by decide +kernel
theorem dX0_canClash_60 : decode cX0_canClash 60 = .ok (.iconst 0, 1) := by decide +kernel
theorem dX0_canClash_61 : decode cX0_canClash 61 = .ok (.ireturn, 1) := by decide +kernel
theorem dX0_onlyLooks_0 : decode cX0_onlyLooks 0 = .ok (.aload_n 0, 1) := by decide +kernel
theorem dX0_onlyLooks_1 : decode cX0_onlyLooks 1 = .ok (.getfield 9, 3) := by decide +kernel
theorem dX0_onlyLooks_4 : decode cX0_onlyLooks 4 = .ok (.iload_n 1, 1) := by decide +kernel
theorem dX0_onlyLooks_5 : decode cX0_onlyLooks 5 = .ok (.iaload, 1) := by decide +kernel
theorem dX0_onlyLooks_6 : decode cX0_onlyLooks 6 = .ok (.istore_n 2, 1) := by decide +kernel
theorem dX0_onlyLooks_7 : decode cX0_onlyLooks 7 = .ok (.iload_n 2, 1) := by decide +kernel
theorem dX0_onlyLooks_8 : decode cX0_onlyLooks 8 = .ok (.iconst 1, 1) := by decide +kernel
theorem dX0_onlyLooks_9 : decode cX0_onlyLooks 9 = .ok (.if_icmp .eq 47, 3) := by decide +kernel
theorem dX0_onlyLooks_12 : decode cX0_onlyLooks 12 = .ok (.iload_n 2, 1) := by decide +kernel
theorem dX0_onlyLooks_13 : decode cX0_onlyLooks 13 = .ok (.bipush 7, 2) := by decide +kernel
theorem dX0_onlyLooks_15 : decode cX0_onlyLooks 15 = .ok (.if_icmp .ne 19, 3) := by decide +kernel
theorem dX0_onlyLooks_18 : decode cX0_onlyLooks 18 = .ok (.aload_n 0, 1) := by decide +kernel
theorem dX0_onlyLooks_19 : decode cX0_onlyLooks 19 = .ok (.getfield 40, 3) := by decide +kernel
theorem dX0_onlyLooks_22 : decode cX0_onlyLooks 22 = .ok (.aload_n 0, 1) := by decide +kernel
theorem dX0_onlyLooks_23 : decode cX0_onlyLooks 23 = .ok (.getfield 21, 3) := by decide +kernel
theorem dX0_onlyLooks_26 : decode cX0_onlyLooks 26 = .ok (.iload_n 1, 1) := by decide +kernel
theorem dX0_onlyLooks_27 : decode cX0_onlyLooks 27 = .ok (.iaload, 1) := by decide +kernel
theorem dX0_onlyLooks_28 : decode cX0_onlyLooks 28 = .ok (.invokevirtual 103, 3) := by decide +kernel
theorem dX0_onlyLooks_31 : decode cX0_onlyLooks 31 = .ok (.ifCond .ne 25, 3) := by decide +kernel
theorem dX0_onlyLooks_34 : decode cX0_onlyLooks 34 = .ok (.iload_n 2, 1) := by decide +kernel
theorem dX0_onlyLooks_35 : decode cX0_onlyLooks 35 = .ok (.bipush 8, 2) := by decide +kernel
theorem dX0_onlyLooks_37 : decode cX0_onlyLooks 37 = .ok (.if_icmp .ne 23, 3) := by decide +kernel
theorem dX0_onlyLooks_40 : decode cX0_onlyLooks 40 = .ok (.aload_n 0, 1) := by decide +kernel
theorem dX0_onlyLooks_41 : decode cX0_onlyLooks 41 = .ok (.getfield 40, 3) := by decide +kernel
theorem dX0_onlyLooks_44 : decode cX0_onlyLooks 44 = .ok (.aload_n 0, 1) := by decide +kernel
theorem dX0_onlyLooks_45 : decode cX0_onlyLooks 45 = .ok (.getfield 15, 3) := by decide +kernel
theorem dX0_onlyLooks_48 : decode cX0_onlyLooks 48 = .ok (.iload_n 1, 1) := by decide +kernel
theorem dX0_onlyLooks_49 : decode cX0_onlyLooks 49 = .ok (.iaload, 1) := by decide +kernel
theorem dX0_onlyLooks_50 : decode cX0_onlyLooks 50 = .ok (.invokevirtual 103, 3) := by decide +kernel
theorem dX0_onlyLooks_53 : decode cX0_onlyLooks 53 = .ok (.ifCond .eq 7, 3) := by decide +kernel
theorem dX0_onlyLooks_56 : decode cX0_onlyLooks 56 = .ok (.iconst 1, 1) := by decide +kernel
theorem dX0_onlyLooks_57 : decode cX0_onlyLooks 57 = .ok (.goto 4, 3) := by decide +kernel
theorem dX0_onlyLooks_60 : decode cX0_onlyLooks 60 = .ok (.iconst 0, 1) := by decide +kernel
theorem dX0_onlyLooks_61 : decode cX0_onlyLooks 61 = .ok (.ireturn, 1) := by decide +kernel
theorem dX1_init_0 : decode cX1_init 0 = .ok (.aload_n 0, 1) := by decide +kernel
theorem dX1_init_1 : decode cX1_init 1 = .ok (.invokespecial 3, 3) := by decide +kernel
theorem dX1_init_4 : decode cX1_init 4 = .ok (.aload_n 0, 1) := by decide +kernel
theorem dX1_init_5 : decode cX1_init 5 = .ok (.sipush 150, 3) := by decide +kernel
theorem dX1_init_8 : decode cX1_init 8 = .ok (.newarray .long, 2) := by decide +kernel
theorem dX1_init_10 : decode cX1_init 10 = .ok (.putfield 9, 3) := by decide +kernel
theorem dX1_init_13 : decode cX1_init 13 = .ok (.aload_n 0, 1) := by decide +kernel
theorem dX1_init_14 : decode cX1_init 14 = .ok (.sipush 150, 3) := by decide +kernel
theorem dX1_init_17 : decode cX1_init 17 = .ok (.newarray .long, 2) := by decide +kernel
theorem dX1_init_19 : decode cX1_init 19 = .ok (.putfield 15, 3) := by decide +kernel
theorem dX1_init_22 : decode cX1_init 22 = .ok (.aload_n 0, 1) := by decide +kernel
theorem dX1_init_23 : decode cX1_init 23 = .ok (.sipush 150, 3) := by decide +kernel
theorem dX1_init_26 : decode cX1_init 26 = .ok (.newarray .int, 2) := by decide +kernel
theorem dX1_init_28 : decode cX1_init 28 = .ok (.putfield 18, 3) := by decide +kernel
theorem dX1_init_31 : decode cX1_init 31 = .ok (.aload_n 0, 1) := by decide +kernel
theorem dX1_init_32 : decode cX1_init 32 = .ok (.aload_n 1, 1) := by decide +kernel
theorem dX1_init_33 : decode cX1_init 33 = .ok (.putfield 22, 3) := by decide +kernel
theorem dX1_init_36 : decode cX1_init 36 = .ok (.aload_n 0, 1) := by decide +kernel
theorem dX1_init_37 : decode cX1_init 37 = .ok (.aload_n 2, 1) := by decide +kernel
theorem dX1_init_38 : decode cX1_init 38 = .ok (.putfield 26, 3) := by decide +kernel
theorem dX1_init_41 : decode cX1_init 41 = .ok (.return_, 1) := by decide +kernel
theorem dX1_flow_0 : decode cX1_flow 0 = .ok (.aload_n 0, 1) := by decide +kernel
theorem dX1_flow_1 : decode cX1_flow 1 = .ok (.getfield 9, 3) := by decide +kernel
theorem dX1_flow_4 : decode cX1_flow 4 = .ok (.ldc2_w 30, 3) := by decide +kernel
theorem dX1_flow_7 : decode cX1_flow 7 = .ok (.invokestatic 32, 3) := by decide +kernel
theorem dX1_flow_10 : decode cX1_flow 10 = .ok (.aload_n 0, 1) := by decide +kernel
theorem dX1_flow_11 : decode cX1_flow 11 = .ok (.getfield 15, 3) := by decide +kernel
theorem dX1_flow_14 : decode cX1_flow 14 = .ok (.lconst 0, 1) := by decide +kernel
theorem dX1_flow_15 : decode cX1_flow 15 = .ok (.invokestatic 32, 3) := by decide +kernel
theorem dX1_flow_18 : decode cX1_flow 18 = .ok (.aload_n 0, 1) := by decide +kernel
theorem dX1_flow_19 : decode cX1_flow 19 = .ok (.getfield 9, 3) := by decide +kernel
theorem dX1_flow_22 : decode cX1_flow 22 = .ok (.iconst 0, 1) := by decide +kernel
theorem dX1_flow_23 : decode cX1_flow 23 = .ok (.lload_n 1, 1) := by decide +kernel
theorem dX1_flow_24 : decode cX1_flow 24 = .ok (.lastore, 1) := by decide +kernel
theorem dX1_flow_25 : decode cX1_flow 25 = .ok (.aload_n 0, 1) := by decide +kernel
theorem dX1_flow_26 : decode cX1_flow 26 = .ok (.getfield 15, 3) := by decide +kernel
theorem dX1_flow_29 : decode cX1_flow 29 = .ok (.iconst 0, 1) := by decide +kernel
theorem dX1_flow_30 : decode cX1_flow 30 = .ok (.lload_n 1, 1) := by decide +kernel
theorem dX1_flow_31 : decode cX1_flow 31 = .ok (.lastore, 1) := by decide +kernel
theorem dX1_flow_32 : decode cX1_flow 32 = .ok (.iconst 1, 1) := by decide +kernel
theorem dX1_flow_33 : decode cX1_flow 33 = .ok (.istore_n 3, 1) := by decide +kernel
theorem dX1_flow_34 : decode cX1_flow 34 = .ok (.iconst 0, 1) := by decide +kernel
theorem dX1_flow_35 : decode cX1_flow 35 = .ok (.istore 4, 2) := by decide +kernel
theorem dX1_flow_37 : decode cX1_flow 37 = .ok (.iload 4, 2) := by decide +kernel
theorem dX1_flow_39 : decode cX1_flow 39 = .ok (.ldc 38, 2) := by decide +kernel
theorem dX1_flow_41 : decode cX1_flow 41 = .ok (.if_icmp .ge 54, 3) := by decide +kernel
theorem dX1_flow_44 : decode cX1_flow 44 = .ok (.iload_n 3, 1) := by decide +kernel
theorem dX1_flow_45 : decode cX1_flow 45 = .ok (.ifCond .eq 50, 3) := by decide +kernel
theorem dX1_flow_48 : decode cX1_flow 48 = .ok (.iconst 0, 1) := by decide +kernel
theorem dX1_flow_49 : decode cX1_flow 49 = .ok (.istore_n 3, 1) := by decide +kernel
theorem dX1_flow_50 : decode cX1_flow 50 = .ok (.iconst 0, 1) := by decide +kernel
theorem dX1_flow_51 : decode cX1_flow 51 = .ok (.istore 5, 2) := by decide +kernel
theorem dX1_flow_53 : decode cX1_flow 53 = .ok (.iload 5, 2) := by decide +kernel
theorem dX1_flow_55 : decode cX1_flow 55 = .ok (.aload_n 0, 1) := by decide +kernel
theorem dX1_flow_56 : decode cX1_flow 56 = .ok (.getfield 26, 3) := by decide +kernel
theorem dX1_flow_59 : decode cX1_flow 59 = .ok (.invokevirtual 39, 3) := by decide +kernel
theorem dX1_flow_62 : decode cX1_flow 62 = .ok (.if_icmp .ge 27, 3) := by decide +kernel
theorem dX1_flow_65 : decode cX1_flow 65 = .ok (.aload_n 0, 1) := by decide +kernel
theorem dX1_flow_66 : decode cX1_flow 66 = .ok (.aload_n 0, 1) := by decide +kernel
theorem dX1_flow_67 : decode cX1_flow 67 = .ok (.getfield 26, 3) := by decide +kernel
theorem dX1_flow_70 : decode cX1_flow 70 = .ok (.iload 5, 2) := by decide +kernel
theorem dX1_flow_72 : decode cX1_flow 72 = .ok (.invokevirtual 45, 3) := by decide +kernel
theorem dX1_flow_75 : decode cX1_flow 75 = .ok (.invokevirtual 49, 3) := by decide +kernel
theorem dX1_flow_78 : decode cX1_flow 78 = .ok (.ifCond .eq 5, 3) := by decide +kernel
theorem dX1_flow_81 : decode cX1_flow 81 = .ok (.iconst 1, 1) := by decide +kernel
theorem dX1_flow_82 : decode cX1_flow 82 = .ok (.istore_n 3, 1) := by decide +kernel
theorem dX1_flow_83 : decode cX1_flow 83 = .ok (.iinc 5 1, 3) := by decide +kernel
theorem dX1_flow_86 : decode cX1_flow 86 = .ok (.goto (-33), 3) := by decide +kernel
theorem dX1_flow_89 : decode cX1_flow 89 = .ok (.iinc 4 1, 3) := by decide +kernel
theorem dX1_flow_92 : decode cX1_flow 92 = .ok (.goto (-55), 3) := by decide +kernel
theorem dX1_flow_95 : decode cX1_flow 95 = .ok (.return_, 1) := by decide +kernel
theorem dX1_handOn_0 : decode cX1_handOn 0 = .ok (.aload_n 0, 1) := by decide +kernel
theorem dX1_handOn_1 : decode cX1_handOn 1 = .ok (.getfield 9, 3) := by decide +kernel
theorem dX1_handOn_4 : decode cX1_handOn 4 = .ok (.iload_n 1, 1) := by decide +kernel
theorem dX1_handOn_5 : decode cX1_handOn 5 = .ok (.laload, 1) := by decide +kernel
theorem dX1_handOn_6 : decode cX1_handOn 6 = .ok (.aload_n 0, 1) := by decide +kernel
theorem dX1_handOn_7 : decode cX1_handOn 7 = .ok (.getfield 22, 3) := by decide +kernel
theorem dX1_handOn_10 : decode cX1_handOn 10 = .ok (.iload_n 1, 1) := by decide +kernel
theorem dX1_handOn_11 : decode cX1_handOn 11 = .ok (.invokevirtual 53, 3) := by decide +kernel
theorem dX1_handOn_14 : decode cX1_handOn 14 = .ok (.ldc2_w 30, 3) := by decide +kernel
theorem dX1_handOn_17 : decode cX1_handOn 17 = .ok (.lxor, 1) := by decide +kernel
theorem dX1_handOn_18 : decode cX1_handOn 18 = .ok (.land, 1) := by decide +kernel
theorem dX1_handOn_19 : decode cX1_handOn 19 = .ok (.aload_n 0, 1) := by decide +kernel
theorem dX1_handOn_20 : decode cX1_handOn 20 = .ok (.getfield 22, 3) := by decide +kernel
theorem dX1_handOn_23 : decode cX1_handOn 23 = .ok (.iload_n 1, 1) := by decide +kernel
theorem dX1_handOn_24 : decode cX1_handOn 24 = .ok (.invokevirtual 59, 3) := by decide +kernel
theorem dX1_handOn_27 : decode cX1_handOn 27 = .ok (.lor, 1) := by decide +kernel
theorem dX1_handOn_28 : decode cX1_handOn 28 = .ok (.lstore_n 2, 1) := by decide +kernel
theorem dX1_handOn_29 : decode cX1_handOn 29 = .ok (.aload_n 0, 1) := by decide +kernel
theorem dX1_handOn_30 : decode cX1_handOn 30 = .ok (.getfield 15, 3) := by decide +kernel
theorem dX1_handOn_33 : decode cX1_handOn 33 = .ok (.iload_n 1, 1) := by decide +kernel
theorem dX1_handOn_34 : decode cX1_handOn 34 = .ok (.laload, 1) := by decide +kernel
theorem dX1_handOn_35 : decode cX1_handOn 35 = .ok (.aload_n 0, 1) := by decide +kernel
theorem dX1_handOn_36 : decode cX1_handOn 36 = .ok (.getfield 22, 3) := by decide +kernel
theorem dX1_handOn_39 : decode cX1_handOn 39 = .ok (.iload_n 1, 1) := by decide +kernel
theorem dX1_handOn_40 : decode cX1_handOn 40 = .ok (.invokevirtual 53, 3) := by decide +kernel
theorem dX1_handOn_43 : decode cX1_handOn 43 = .ok (.ldc2_w 30, 3) := by decide +kernel
theorem dX1_handOn_46 : decode cX1_handOn 46 = .ok (.lxor, 1) := by decide +kernel
theorem dX1_handOn_47 : decode cX1_handOn 47 = .ok (.land, 1) := by decide +kernel
theorem dX1_handOn_48 : decode cX1_handOn 48 = .ok (.aload_n 0, 1) := by decide +kernel
theorem dX1_handOn_49 : decode cX1_handOn 49 = .ok (.getfield 22, 3) := by decide +kernel
theorem dX1_handOn_52 : decode cX1_handOn 52 = .ok (.iload_n 1, 1) := by decide +kernel
theorem dX1_handOn_53 : decode cX1_handOn 53 = .ok (.invokevirtual 59, 3) := by decide +kernel
theorem dX1_handOn_56 : decode cX1_handOn 56 = .ok (.lor, 1) := by decide +kernel
theorem dX1_handOn_57 : decode cX1_handOn 57 = .ok (.lstore 4, 2) := by decide +kernel
theorem dX1_handOn_59 : decode cX1_handOn 59 = .ok (.iconst 0, 1) := by decide +kernel
theorem dX1_handOn_60 : decode cX1_handOn 60 = .ok (.istore 6, 2) := by decide +kernel
theorem dX1_handOn_62 : decode cX1_handOn 62 = .ok (.iconst 0, 1) := by decide +kernel
theorem dX1_handOn_63 : decode cX1_handOn 63 = .ok (.istore 7, 2) := by decide +kernel
theorem dX1_handOn_65 : decode cX1_handOn 65 = .ok (.iload 7, 2) := by decide +kernel
theorem dX1_handOn_67 : decode cX1_handOn 67 = .ok (.aload_n 0, 1) := by decide +kernel
theorem dX1_handOn_68 : decode cX1_handOn 68 = .ok (.getfield 26, 3) := by decide +kernel
theorem dX1_handOn_71 : decode cX1_handOn 71 = .ok (.iload_n 1, 1) := by decide +kernel
theorem dX1_handOn_72 : decode cX1_handOn 72 = .ok (.invokevirtual 62, 3) := by decide +kernel
theorem dX1_handOn_75 : decode cX1_handOn 75 = .ok (.if_icmp .ge 84, 3) := by decide +kernel
theorem dX1_handOn_78 : decode cX1_handOn 78 = .ok (.aload_n 0, 1) := by decide +kernel
theorem dX1_handOn_79 : decode cX1_handOn 79 = .ok (.getfield 26, 3) := by decide +kernel
theorem dX1_handOn_82 : decode cX1_handOn 82 = .ok (.iload_n 1, 1) := by decide +kernel
theorem dX1_handOn_83 : decode cX1_handOn 83 = .ok (.iload 7, 2) := by decide +kernel
theorem dX1_handOn_85 : decode cX1_handOn 85 = .ok (.invokevirtual 65, 3) := by decide +kernel
theorem dX1_handOn_88 : decode cX1_handOn 88 = .ok (.istore 8, 2) := by decide +kernel
theorem dX1_handOn_90 : decode cX1_handOn 90 = .ok (.aload_n 0, 1) := by decide +kernel
theorem dX1_handOn_91 : decode cX1_handOn 91 = .ok (.getfield 9, 3) := by decide +kernel
theorem dX1_handOn_94 : decode cX1_handOn 94 = .ok (.iload 8, 2) := by decide +kernel
theorem dX1_handOn_96 : decode cX1_handOn 96 = .ok (.laload, 1) := by decide +kernel
theorem dX1_handOn_97 : decode cX1_handOn 97 = .ok (.lload_n 2, 1) := by decide +kernel
theorem dX1_handOn_98 : decode cX1_handOn 98 = .ok (.ldc2_w 30, 3) := by decide +kernel
theorem dX1_handOn_101 : decode cX1_handOn 101 = .ok (.lxor, 1) := by decide +kernel
theorem dX1_handOn_102 : decode cX1_handOn 102 = .ok (.land, 1) := by decide +kernel
theorem dX1_handOn_103 : decode cX1_handOn 103 = .ok (.lconst 0, 1) := by decide +kernel
theorem dX1_handOn_104 : decode cX1_handOn 104 = .ok (.lcmp, 1) := by decide +kernel
theorem dX1_handOn_105 : decode cX1_handOn 105 = .ok (.ifCond .ne 22, 3) := by decide +kernel
theorem dX1_handOn_108 : decode cX1_handOn 108 = .ok (.lload 4, 2) := by decide +kernel
theorem dX1_handOn_110 : decode cX1_handOn 110 = .ok (.aload_n 0, 1) := by decide +kernel
theorem dX1_handOn_111 : decode cX1_handOn 111 = .ok (.getfield 15, 3) := by decide +kernel
theorem dX1_handOn_114 : decode cX1_handOn 114 = .ok (.iload 8, 2) := by decide +kernel
theorem dX1_handOn_116 : decode cX1_handOn 116 = .ok (.laload, 1) := by decide +kernel
theorem dX1_handOn_117 : decode cX1_handOn 117 = .ok (.ldc2_w 30, 3) := by decide +kernel
theorem dX1_handOn_120 : decode cX1_handOn 120 = .ok (.lxor, 1) := by decide +kernel
theorem dX1_handOn_121 : decode cX1_handOn 121 = .ok (.land, 1) := by decide +kernel
theorem dX1_handOn_122 : decode cX1_handOn 122 = .ok (.lconst 0, 1) := by decide +kernel
theorem dX1_handOn_123 : decode cX1_handOn 123 = .ok (.lcmp, 1) := by decide +kernel
theorem dX1_handOn_124 : decode cX1_handOn 124 = .ok (.ifCond .eq 29, 3) := by decide +kernel
theorem dX1_handOn_127 : decode cX1_handOn 127 = .ok (.aload_n 0, 1) := by decide +kernel
theorem dX1_handOn_128 : decode cX1_handOn 128 = .ok (.getfield 9, 3) := by decide +kernel
theorem dX1_handOn_131 : decode cX1_handOn 131 = .ok (.iload 8, 2) := by decide +kernel
theorem dX1_handOn_133 : decode cX1_handOn 133 = .ok (.dup2, 1) := by decide +kernel
theorem dX1_handOn_134 : decode cX1_handOn 134 = .ok (.laload, 1) := by decide +kernel
theorem dX1_handOn_135 : decode cX1_handOn 135 = .ok (.lload_n 2, 1) := by decide +kernel
theorem dX1_handOn_136 : decode cX1_handOn 136 = .ok (.land, 1) := by decide +kernel
theorem dX1_handOn_137 : decode cX1_handOn 137 = .ok (.lastore, 1) := by decide +kernel
theorem dX1_handOn_138 : decode cX1_handOn 138 = .ok (.aload_n 0, 1) := by decide +kernel
theorem dX1_handOn_139 : decode cX1_handOn 139 = .ok (.getfield 15, 3) := by decide +kernel
theorem dX1_handOn_142 : decode cX1_handOn 142 = .ok (.iload 8, 2) := by decide +kernel
theorem dX1_handOn_144 : decode cX1_handOn 144 = .ok (.dup2, 1) := by decide +kernel
theorem dX1_handOn_145 : decode cX1_handOn 145 = .ok (.laload, 1) := by decide +kernel
theorem dX1_handOn_146 : decode cX1_handOn 146 = .ok (.lload 4, 2) := by decide +kernel
theorem dX1_handOn_148 : decode cX1_handOn 148 = .ok (.lor, 1) := by decide +kernel
theorem dX1_handOn_149 : decode cX1_handOn 149 = .ok (.lastore, 1) := by decide +kernel
theorem dX1_handOn_150 : decode cX1_handOn 150 = .ok (.iconst 1, 1) := by decide +kernel
theorem dX1_handOn_151 : decode cX1_handOn 151 = .ok (.istore 6, 2) := by decide +kernel
theorem dX1_handOn_153 : decode cX1_handOn 153 = .ok (.iinc 7 1, 3) := by decide +kernel
theorem dX1_handOn_156 : decode cX1_handOn 156 = .ok (.goto (-91), 3) := by decide +kernel
theorem dX1_handOn_159 : decode cX1_handOn 159 = .ok (.iload 6, 2) := by decide +kernel
theorem dX1_handOn_161 : decode cX1_handOn 161 = .ok (.ireturn, 1) := by decide +kernel
theorem dX1_state_0 : decode cX1_state 0 = .ok (.aload_n 0, 1) := by decide +kernel
theorem dX1_state_1 : decode cX1_state 1 = .ok (.getfield 9, 3) := by decide +kernel
theorem dX1_state_4 : decode cX1_state 4 = .ok (.iload_n 1, 1) := by decide +kernel
theorem dX1_state_5 : decode cX1_state 5 = .ok (.laload, 1) := by decide +kernel
theorem dX1_state_6 : decode cX1_state 6 = .ok (.lload_n 2, 1) := by decide +kernel
theorem dX1_state_7 : decode cX1_state 7 = .ok (.land, 1) := by decide +kernel
theorem dX1_state_8 : decode cX1_state 8 = .ok (.lconst 0, 1) := by decide +kernel
theorem dX1_state_9 : decode cX1_state 9 = .ok (.lcmp, 1) := by decide +kernel
theorem dX1_state_10 : decode cX1_state 10 = .ok (.ifCond .eq 5, 3) := by decide +kernel
theorem dX1_state_13 : decode cX1_state 13 = .ok (.iconst 1, 1) := by decide +kernel
theorem dX1_state_14 : decode cX1_state 14 = .ok (.ireturn, 1) := by decide +kernel
theorem dX1_state_15 : decode cX1_state 15 = .ok (.aload_n 0, 1) := by decide +kernel
theorem dX1_state_16 : decode cX1_state 16 = .ok (.getfield 15, 3) := by decide +kernel
theorem dX1_state_19 : decode cX1_state 19 = .ok (.iload_n 1, 1) := by decide +kernel
theorem dX1_state_20 : decode cX1_state 20 = .ok (.laload, 1) := by decide +kernel
theorem dX1_state_21 : decode cX1_state 21 = .ok (.lload_n 2, 1) := by decide +kernel
theorem dX1_state_22 : decode cX1_state 22 = .ok (.land, 1) := by decide +kernel
theorem dX1_state_23 : decode cX1_state 23 = .ok (.lconst 0, 1) := by decide +kernel
theorem dX1_state_24 : decode cX1_state 24 = .ok (.lcmp, 1) := by decide +kernel
theorem dX1_state_25 : decode cX1_state 25 = .ok (.ifCond .eq 7, 3) := by decide +kernel
theorem dX1_state_28 : decode cX1_state 28 = .ok (.iconst 2, 1) := by decide +kernel
theorem dX1_state_29 : decode cX1_state 29 = .ok (.goto 4, 3) := by decide +kernel
theorem dX1_state_32 : decode cX1_state 32 = .ok (.iconst 0, 1) := by decide +kernel
theorem dX1_state_33 : decode cX1_state 33 = .ok (.ireturn, 1) := by decide +kernel
theorem dX1_missing_0 : decode cX1_missing 0 = .ok (.aload_n 0, 1) := by decide +kernel
theorem dX1_missing_1 : decode cX1_missing 1 = .ok (.getfield 26, 3) := by decide +kernel
theorem dX1_missing_4 : decode cX1_missing 4 = .ok (.iload_n 1, 1) := by decide +kernel
theorem dX1_missing_5 : decode cX1_missing 5 = .ok (.invokevirtual 69, 3) := by decide +kernel
theorem dX1_missing_8 : decode cX1_missing 8 = .ok (.ifCond .eq 25, 3) := by decide +kernel
theorem dX1_missing_11 : decode cX1_missing 11 = .ok (.aload_n 0, 1) := by decide +kernel
theorem dX1_missing_12 : decode cX1_missing 12 = .ok (.getfield 22, 3) := by decide +kernel
theorem dX1_missing_15 : decode cX1_missing 15 = .ok (.iload_n 1, 1) := by decide +kernel
theorem dX1_missing_16 : decode cX1_missing 16 = .ok (.invokevirtual 72, 3) := by decide +kernel
theorem dX1_missing_19 : decode cX1_missing 19 = .ok (.aload_n 0, 1) := by decide +kernel
theorem dX1_missing_20 : decode cX1_missing 20 = .ok (.getfield 9, 3) := by decide +kernel
theorem dX1_missing_23 : decode cX1_missing 23 = .ok (.iload_n 1, 1) := by decide +kernel
theorem dX1_missing_24 : decode cX1_missing 24 = .ok (.laload, 1) := by decide +kernel
theorem dX1_missing_25 : decode cX1_missing 25 = .ok (.ldc2_w 30, 3) := by decide +kernel
theorem dX1_missing_28 : decode cX1_missing 28 = .ok (.lxor, 1) := by decide +kernel
theorem dX1_missing_29 : decode cX1_missing 29 = .ok (.land, 1) := by decide +kernel
theorem dX1_missing_30 : decode cX1_missing 30 = .ok (.goto 4, 3) := by decide +kernel
theorem dX1_missing_33 : decode cX1_missing 33 = .ok (.lconst 0, 1) := by decide +kernel
theorem dX1_missing_34 : decode cX1_missing 34 = .ok (.lreturn, 1) := by decide +kernel
theorem dX1_leastTaker_0 : decode cX1_leastTaker 0 = .ok (.aload_n 0, 1) := by decide +kernel
theorem dX1_leastTaker_1 : decode cX1_leastTaker 1 = .ok (.iload_n 1, 1) := by decide +kernel
theorem dX1_leastTaker_2 : decode cX1_leastTaker 2 = .ok (.invokevirtual 75, 3) := by decide +kernel
theorem dX1_leastTaker_5 : decode cX1_leastTaker 5 = .ok (.lstore_n 2, 1) := by decide +kernel
theorem dX1_leastTaker_6 : decode cX1_leastTaker 6 = .ok (.lload_n 2, 1) := by decide +kernel
theorem dX1_leastTaker_7 : decode cX1_leastTaker 7 = .ok (.lload_n 2, 1) := by decide +kernel
theorem dX1_leastTaker_8 : decode cX1_leastTaker 8 = .ok (.lneg, 1) := by decide +kernel
theorem dX1_leastTaker_9 : decode cX1_leastTaker 9 = .ok (.land, 1) := by decide +kernel
theorem dX1_leastTaker_10 : decode cX1_leastTaker 10 = .ok (.lstore 4, 2) := by decide +kernel
theorem dX1_leastTaker_12 : decode cX1_leastTaker 12 = .ok (.aload_n 0, 1) := by decide +kernel
theorem dX1_leastTaker_13 : decode cX1_leastTaker 13 = .ok (.iload_n 1, 1) := by decide +kernel
theorem dX1_leastTaker_14 : decode cX1_leastTaker 14 = .ok (.lload 4, 2) := by decide +kernel
theorem dX1_leastTaker_16 : decode cX1_leastTaker 16 = .ok (.invokevirtual 78, 3) := by decide +kernel
theorem dX1_leastTaker_19 : decode cX1_leastTaker 19 = .ok (.iconst 0, 1) := by decide +kernel
theorem dX1_leastTaker_20 : decode cX1_leastTaker 20 = .ok (.istore 6, 2) := by decide +kernel
theorem dX1_leastTaker_22 : decode cX1_leastTaker 22 = .ok (.iload 6, 2) := by decide +kernel
theorem dX1_leastTaker_24 : decode cX1_leastTaker 24 = .ok (.sipush 150, 3) := by decide +kernel
theorem dX1_leastTaker_27 : decode cX1_leastTaker 27 = .ok (.if_icmp .ge 50, 3) := by decide +kernel
theorem dX1_leastTaker_30 : decode cX1_leastTaker 30 = .ok (.aload_n 0, 1) := by decide +kernel
theorem dX1_leastTaker_31 : decode cX1_leastTaker 31 = .ok (.getfield 26, 3) := by decide +kernel
theorem dX1_leastTaker_34 : decode cX1_leastTaker 34 = .ok (.iload 6, 2) := by decide +kernel
theorem dX1_leastTaker_36 : decode cX1_leastTaker 36 = .ok (.invokevirtual 69, 3) := by decide +kernel
theorem dX1_leastTaker_39 : decode cX1_leastTaker 39 = .ok (.ifCond .eq 32, 3) := by decide +kernel
theorem dX1_leastTaker_42 : decode cX1_leastTaker 42 = .ok (.aload_n 0, 1) := by decide +kernel
theorem dX1_leastTaker_43 : decode cX1_leastTaker 43 = .ok (.getfield 22, 3) := by decide +kernel
theorem dX1_leastTaker_46 : decode cX1_leastTaker 46 = .ok (.iload 6, 2) := by decide +kernel
theorem dX1_leastTaker_48 : decode cX1_leastTaker 48 = .ok (.invokevirtual 53, 3) := by decide +kernel
theorem dX1_leastTaker_51 : decode cX1_leastTaker 51 = .ok (.lload 4, 2) := by decide +kernel
theorem dX1_leastTaker_53 : decode cX1_leastTaker 53 = .ok (.land, 1) := by decide +kernel
theorem dX1_leastTaker_54 : decode cX1_leastTaker 54 = .ok (.lconst 0, 1) := by decide +kernel
theorem dX1_leastTaker_55 : decode cX1_leastTaker 55 = .ok (.lcmp, 1) := by decide +kernel
theorem dX1_leastTaker_56 : decode cX1_leastTaker 56 = .ok (.ifCond .eq 15, 3) := by decide +kernel
theorem dX1_leastTaker_59 : decode cX1_leastTaker 59 = .ok (.aload_n 0, 1) := by decide +kernel
theorem dX1_leastTaker_60 : decode cX1_leastTaker 60 = .ok (.iload 6, 2) := by decide +kernel
theorem dX1_leastTaker_62 : decode cX1_leastTaker 62 = .ok (.invokevirtual 82, 3) := by decide +kernel
theorem dX1_leastTaker_65 : decode cX1_leastTaker 65 = .ok (.ifCond .eq 6, 3) := by decide +kernel
theorem dX1_leastTaker_68 : decode cX1_leastTaker 68 = .ok (.iload 6, 2) := by decide +kernel
theorem dX1_leastTaker_70 : decode cX1_leastTaker 70 = .ok (.ireturn, 1) := by decide +kernel
theorem dX1_leastTaker_71 : decode cX1_leastTaker 71 = .ok (.iinc 6 1, 3) := by decide +kernel
theorem dX1_leastTaker_74 : decode cX1_leastTaker 74 = .ok (.goto (-52), 3) := by decide +kernel
theorem dX1_leastTaker_77 : decode cX1_leastTaker 77 = .ok (.iconst (-1), 1) := by decide +kernel
theorem dX1_leastTaker_78 : decode cX1_leastTaker 78 = .ok (.ireturn, 1) := by decide +kernel
theorem dX1_findLeading_0 : decode cX1_findLeading 0 = .ok (.aload_n 0, 1) := by decide +kernel
theorem dX1_findLeading_1 : decode cX1_findLeading 1 = .ok (.getfield 18, 3) := by decide +kernel
theorem dX1_findLeading_4 : decode cX1_findLeading 4 = .ok (.iconst 0, 1) := by decide +kernel
theorem dX1_findLeading_5 : decode cX1_findLeading 5 = .ok (.invokestatic 85, 3) := by decide +kernel
theorem dX1_findLeading_8 : decode cX1_findLeading 8 = .ok (.aload_n 0, 1) := by decide +kernel
theorem dX1_findLeading_9 : decode cX1_findLeading 9 = .ok (.getfield 18, 3) := by decide +kernel
theorem dX1_findLeading_12 : decode cX1_findLeading 12 = .ok (.iload_n 1, 1) := by decide +kernel
theorem dX1_findLeading_13 : decode cX1_findLeading 13 = .ok (.iconst 1, 1) := by decide +kernel
theorem dX1_findLeading_14 : decode cX1_findLeading 14 = .ok (.iastore, 1) := by decide +kernel
theorem dX1_findLeading_15 : decode cX1_findLeading 15 = .ok (.iconst 1, 1) := by decide +kernel
theorem dX1_findLeading_16 : decode cX1_findLeading 16 = .ok (.istore 4, 2) := by decide +kernel
theorem dX1_findLeading_18 : decode cX1_findLeading 18 = .ok (.iconst 0, 1) := by decide +kernel
theorem dX1_findLeading_19 : decode cX1_findLeading 19 = .ok (.istore 5, 2) := by decide +kernel
theorem dX1_findLeading_21 : decode cX1_findLeading 21 = .ok (.iload 5, 2) := by decide +kernel
theorem dX1_findLeading_23 : decode cX1_findLeading 23 = .ok (.sipush 150, 3) := by decide +kernel
theorem dX1_findLeading_26 : decode cX1_findLeading 26 = .ok (.if_icmp .ge 95, 3) := by decide +kernel
theorem dX1_findLeading_29 : decode cX1_findLeading 29 = .ok (.iload 4, 2) := by decide +kernel
theorem dX1_findLeading_31 : decode cX1_findLeading 31 = .ok (.ifCond .eq 90, 3) := by decide +kernel
theorem dX1_findLeading_34 : decode cX1_findLeading 34 = .ok (.iconst 0, 1) := by decide +kernel
theorem dX1_findLeading_35 : decode cX1_findLeading 35 = .ok (.istore 4, 2) := by decide +kernel
theorem dX1_findLeading_37 : decode cX1_findLeading 37 = .ok (.iconst 0, 1) := by decide +kernel
theorem dX1_findLeading_38 : decode cX1_findLeading 38 = .ok (.istore 6, 2) := by decide +kernel
theorem dX1_findLeading_40 : decode cX1_findLeading 40 = .ok (.iload 6, 2) := by decide +kernel
theorem dX1_findLeading_42 : decode cX1_findLeading 42 = .ok (.aload_n 0, 1) := by decide +kernel
theorem dX1_findLeading_43 : decode cX1_findLeading 43 = .ok (.getfield 26, 3) := by decide +kernel
theorem dX1_findLeading_46 : decode cX1_findLeading 46 = .ok (.invokevirtual 39, 3) := by decide +kernel
theorem dX1_findLeading_49 : decode cX1_findLeading 49 = .ok (.if_icmp .ge 66, 3) := by decide +kernel
theorem dX1_findLeading_52 : decode cX1_findLeading 52 = .ok (.aload_n 0, 1) := by decide +kernel
theorem dX1_findLeading_53 : decode cX1_findLeading 53 = .ok (.getfield 26, 3) := by decide +kernel
theorem dX1_findLeading_56 : decode cX1_findLeading 56 = .ok (.iload 6, 2) := by decide +kernel
theorem dX1_findLeading_58 : decode cX1_findLeading 58 = .ok (.invokevirtual 88, 3) := by decide +kernel
theorem dX1_findLeading_61 : decode cX1_findLeading 61 = .ok (.istore 7, 2) := by decide +kernel
theorem dX1_findLeading_63 : decode cX1_findLeading 63 = .ok (.aload_n 0, 1) := by decide +kernel
theorem dX1_findLeading_64 : decode cX1_findLeading 64 = .ok (.getfield 18, 3) := by decide +kernel
theorem dX1_findLeading_67 : decode cX1_findLeading 67 = .ok (.iload 7, 2) := by decide +kernel
theorem dX1_findLeading_69 : decode cX1_findLeading 69 = .ok (.iaload, 1) := by decide +kernel
theorem dX1_findLeading_70 : decode cX1_findLeading 70 = .ok (.ifCond .ne 39, 3) := by decide +kernel
theorem dX1_findLeading_73 : decode cX1_findLeading 73 = .ok (.aload_n 0, 1) := by decide +kernel
theorem dX1_findLeading_74 : decode cX1_findLeading 74 = .ok (.getfield 22, 3) := by decide +kernel
theorem dX1_findLeading_77 : decode cX1_findLeading 77 = .ok (.iload 7, 2) := by decide +kernel
theorem dX1_findLeading_79 : decode cX1_findLeading 79 = .ok (.invokevirtual 59, 3) := by decide +kernel
theorem dX1_findLeading_82 : decode cX1_findLeading 82 = .ok (.lload_n 2, 1) := by decide +kernel
theorem dX1_findLeading_83 : decode cX1_findLeading 83 = .ok (.land, 1) := by decide +kernel
theorem dX1_findLeading_84 : decode cX1_findLeading 84 = .ok (.lconst 0, 1) := by decide +kernel
theorem dX1_findLeading_85 : decode cX1_findLeading 85 = .ok (.lcmp, 1) := by decide +kernel
theorem dX1_findLeading_86 : decode cX1_findLeading 86 = .ok (.ifCond .ne 23, 3) := by decide +kernel
theorem dX1_findLeading_89 : decode cX1_findLeading 89 = .ok (.aload_n 0, 1) := by decide +kernel
theorem dX1_findLeading_90 : decode cX1_findLeading 90 = .ok (.iload 7, 2) := by decide +kernel
theorem dX1_findLeading_92 : decode cX1_findLeading 92 = .ok (.invokevirtual 82, 3) := by decide +kernel
theorem dX1_findLeading_95 : decode cX1_findLeading 95 = .ok (.ifCond .eq 14, 3) := by decide +kernel
theorem dX1_findLeading_98 : decode cX1_findLeading 98 = .ok (.aload_n 0, 1) := by decide +kernel
theorem dX1_findLeading_99 : decode cX1_findLeading 99 = .ok (.getfield 18, 3) := by decide +kernel
theorem dX1_findLeading_102 : decode cX1_findLeading 102 = .ok (.iload 7, 2) := by decide +kernel
theorem dX1_findLeading_104 : decode cX1_findLeading 104 = .ok (.iconst 1, 1) := by decide +kernel
theorem dX1_findLeading_105 : decode cX1_findLeading 105 = .ok (.iastore, 1) := by decide +kernel
theorem dX1_findLeading_106 : decode cX1_findLeading 106 = .ok (.iconst 1, 1) := by decide +kernel
theorem dX1_findLeading_107 : decode cX1_findLeading 107 = .ok (.istore 4, 2) := by decide +kernel
theorem dX1_findLeading_109 : decode cX1_findLeading 109 = .ok (.iinc 6 1, 3) := by decide +kernel
theorem dX1_findLeading_112 : decode cX1_findLeading 112 = .ok (.goto (-72), 3) := by decide +kernel
theorem dX1_findLeading_115 : decode cX1_findLeading 115 = .ok (.iinc 5 1, 3) := by decide +kernel
theorem dX1_findLeading_118 : decode cX1_findLeading 118 = .ok (.goto (-97), 3) := by decide +kernel
theorem dX1_findLeading_121 : decode cX1_findLeading 121 = .ok (.return_, 1) := by decide +kernel
theorem dX1_leadsOn_0 : decode cX1_leadsOn 0 = .ok (.iconst 0, 1) := by decide +kernel
theorem dX1_leadsOn_1 : decode cX1_leadsOn 1 = .ok (.istore_n 2, 1) := by decide +kernel
theorem dX1_leadsOn_2 : decode cX1_leadsOn 2 = .ok (.iload_n 2, 1) := by decide +kernel
theorem dX1_leadsOn_3 : decode cX1_leadsOn 3 = .ok (.aload_n 0, 1) := by decide +kernel
theorem dX1_leadsOn_4 : decode cX1_leadsOn 4 = .ok (.getfield 26, 3) := by decide +kernel
theorem dX1_leadsOn_7 : decode cX1_leadsOn 7 = .ok (.iload_n 1, 1) := by decide +kernel
theorem dX1_leadsOn_8 : decode cX1_leadsOn 8 = .ok (.invokevirtual 62, 3) := by decide +kernel
theorem dX1_leadsOn_11 : decode cX1_leadsOn 11 = .ok (.if_icmp .ge 28, 3) := by decide +kernel
theorem dX1_leadsOn_14 : decode cX1_leadsOn 14 = .ok (.aload_n 0, 1) := by decide +kernel
theorem dX1_leadsOn_15 : decode cX1_leadsOn 15 = .ok (.getfield 18, 3) := by decide +kernel
theorem dX1_leadsOn_18 : decode cX1_leadsOn 18 = .ok (.aload_n 0, 1) := by decide +kernel
theorem dX1_leadsOn_19 : decode cX1_leadsOn 19 = .ok (.getfield 26, 3) := by decide +kernel
theorem dX1_leadsOn_22 : decode cX1_leadsOn 22 = .ok (.iload_n 1, 1) := by decide +kernel
theorem dX1_leadsOn_23 : decode cX1_leadsOn 23 = .ok (.iload_n 2, 1) := by decide +kernel
theorem dX1_leadsOn_24 : decode cX1_leadsOn 24 = .ok (.invokevirtual 65, 3) := by decide +kernel
theorem dX1_leadsOn_27 : decode cX1_leadsOn 27 = .ok (.iaload, 1) := by decide +kernel
theorem dX1_leadsOn_28 : decode cX1_leadsOn 28 = .ok (.ifCond .eq 5, 3) := by decide +kernel
theorem dX1_leadsOn_31 : decode cX1_leadsOn 31 = .ok (.iconst 1, 1) := by decide +kernel
theorem dX1_leadsOn_32 : decode cX1_leadsOn 32 = .ok (.ireturn, 1) := by decide +kernel
theorem dX1_leadsOn_33 : decode cX1_leadsOn 33 = .ok (.iinc 2 1, 3) := by decide +kernel
theorem dX1_leadsOn_36 : decode cX1_leadsOn 36 = .ok (.goto (-34), 3) := by decide +kernel
theorem dX1_leadsOn_39 : decode cX1_leadsOn 39 = .ok (.iconst 0, 1) := by decide +kernel
theorem dX1_leadsOn_40 : decode cX1_leadsOn 40 = .ok (.ireturn, 1) := by decide +kernel
theorem dX3_isPath_0 : decode cX3_isPath 0 = .ok (.iload_n 0, 1) := by decide +kernel
theorem dX3_isPath_1 : decode cX3_isPath 1 = .ok (.ifCond .lt 10, 3) := by decide +kernel
theorem dX3_isPath_4 : decode cX3_isPath 4 = .ok (.iload_n 0, 1) := by decide +kernel
theorem dX3_isPath_5 : decode cX3_isPath 5 = .ok (.sipush 4096, 3) := by decide +kernel
theorem dX3_isPath_8 : decode cX3_isPath 8 = .ok (.if_icmp .lt 5, 3) := by decide +kernel
theorem dX3_isPath_11 : decode cX3_isPath 11 = .ok (.iconst 0, 1) := by decide +kernel
theorem dX3_isPath_12 : decode cX3_isPath 12 = .ok (.ireturn, 1) := by decide +kernel
theorem dX3_isPath_13 : decode cX3_isPath 13 = .ok (.iload_n 0, 1) := by decide +kernel
theorem dX3_isPath_14 : decode cX3_isPath 14 = .ok (.istore_n 1, 1) := by decide +kernel
theorem dX3_isPath_15 : decode cX3_isPath 15 = .ok (.iconst 0, 1) := by decide +kernel
theorem dX3_isPath_16 : decode cX3_isPath 16 = .ok (.istore_n 2, 1) := by decide +kernel
theorem dX3_isPath_17 : decode cX3_isPath 17 = .ok (.iload_n 2, 1) := by decide +kernel
theorem dX3_isPath_18 : decode cX3_isPath 18 = .ok (.iconst 4, 1) := by decide +kernel
theorem dX3_isPath_19 : decode cX3_isPath 19 = .ok (.if_icmp .ge 35, 3) := by decide +kernel
theorem dX3_isPath_22 : decode cX3_isPath 22 = .ok (.iload_n 1, 1) := by decide +kernel
theorem dX3_isPath_23 : decode cX3_isPath 23 = .ok (.ifCond .eq 31, 3) := by decide +kernel
theorem dX3_isPath_26 : decode cX3_isPath 26 = .ok (.iload_n 1, 1) := by decide +kernel
theorem dX3_isPath_27 : decode cX3_isPath 27 = .ok (.invokestatic 9, 3) := by decide +kernel
theorem dX3_isPath_30 : decode cX3_isPath 30 = .ok (.istore_n 3, 1) := by decide +kernel
theorem dX3_isPath_31 : decode cX3_isPath 31 = .ok (.iload_n 3, 1) := by decide +kernel
theorem dX3_isPath_32 : decode cX3_isPath 32 = .ok (.ifCond .eq 9, 3) := by decide +kernel
theorem dX3_isPath_35 : decode cX3_isPath 35 = .ok (.iload_n 3, 1) := by decide +kernel
theorem dX3_isPath_36 : decode cX3_isPath 36 = .ok (.bipush 6, 2) := by decide +kernel
theorem dX3_isPath_38 : decode cX3_isPath 38 = .ok (.if_icmp .le 5, 3) := by decide +kernel
theorem dX3_isPath_41 : decode cX3_isPath 41 = .ok (.iconst 0, 1) := by decide +kernel
theorem dX3_isPath_42 : decode cX3_isPath 42 = .ok (.ireturn, 1) := by decide +kernel
theorem dX3_isPath_43 : decode cX3_isPath 43 = .ok (.iload_n 1, 1) := by decide +kernel
theorem dX3_isPath_44 : decode cX3_isPath 44 = .ok (.invokestatic 15, 3) := by decide +kernel
theorem dX3_isPath_47 : decode cX3_isPath 47 = .ok (.istore_n 1, 1) := by decide +kernel
theorem dX3_isPath_48 : decode cX3_isPath 48 = .ok (.iinc 2 1, 3) := by decide +kernel
theorem dX3_isPath_51 : decode cX3_isPath 51 = .ok (.goto (-34), 3) := by decide +kernel
theorem dX3_isPath_54 : decode cX3_isPath 54 = .ok (.iconst 1, 1) := by decide +kernel
theorem dX3_isPath_55 : decode cX3_isPath 55 = .ok (.ireturn, 1) := by decide +kernel
theorem dX3_firstDigit_0 : decode cX3_firstDigit 0 = .ok (.iload_n 0, 1) := by decide +kernel
theorem dX3_firstDigit_1 : decode cX3_firstDigit 1 = .ok (.bipush 7, 2) := by decide +kernel
theorem dX3_firstDigit_3 : decode cX3_firstDigit 3 = .ok (.iand, 1) := by decide +kernel
theorem dX3_firstDigit_4 : decode cX3_firstDigit 4 = .ok (.ireturn, 1) := by decide +kernel
theorem dX3_behindFirst_0 : decode cX3_behindFirst 0 = .ok (.iload_n 0, 1) := by decide +kernel
theorem dX3_behindFirst_1 : decode cX3_behindFirst 1 = .ok (.iconst 3, 1) := by decide +kernel
theorem dX3_behindFirst_2 : decode cX3_behindFirst 2 = .ok (.ishr, 1) := by decide +kernel
theorem dX3_behindFirst_3 : decode cX3_behindFirst 3 = .ok (.ireturn, 1) := by decide +kernel
theorem dX3_oneBeginsTheOther_0 : decode cX3_oneBeginsTheOther 0 = .ok (.iload_n 0, 1) := by decide +kernel
theorem dX3_oneBeginsTheOther_1 : decode cX3_oneBeginsTheOther 1 = .ok (.istore_n 2, 1) := by decide +kernel
theorem dX3_oneBeginsTheOther_2 : decode cX3_oneBeginsTheOther 2 = .ok (.iload_n 1, 1) := by decide +kernel
theorem dX3_oneBeginsTheOther_3 : decode cX3_oneBeginsTheOther 3 = .ok (.istore_n 3, 1) := by decide +kernel
theorem dX3_oneBeginsTheOther_4 : decode cX3_oneBeginsTheOther 4 = .ok (.iconst 0, 1) := by decide +kernel
theorem dX3_oneBeginsTheOther_5 : decode cX3_oneBeginsTheOther 5 = .ok (.istore 4, 2) := by decide +kernel
theorem dX3_oneBeginsTheOther_7 : decode cX3_oneBeginsTheOther 7 = .ok (.iload 4, 2) := by decide +kernel
theorem dX3_oneBeginsTheOther_9 : decode cX3_oneBeginsTheOther 9 = .ok (.iconst 4, 1) := by decide +kernel
theorem dX3_oneBeginsTheOther_10 : decode cX3_oneBeginsTheOther 10 = .ok (.if_icmp .ge 40, 3) := by decide +kernel
theorem dX3_oneBeginsTheOther_13 : decode cX3_oneBeginsTheOther 13 = .ok (.iload_n 2, 1) := by decide +kernel
theorem dX3_oneBeginsTheOther_14 : decode cX3_oneBeginsTheOther 14 = .ok (.ifCond .eq 36, 3) := by decide +kernel
theorem dX3_oneBeginsTheOther_17 : decode cX3_oneBeginsTheOther 17 = .ok (.iload_n 3, 1) := by decide +kernel
theorem dX3_oneBeginsTheOther_18 : decode cX3_oneBeginsTheOther 18 = .ok (.ifCond .eq 32, 3) := by decide +kernel
theorem dX3_oneBeginsTheOther_21 : decode cX3_oneBeginsTheOther 21 = .ok (.iload_n 2, 1) := by decide +kernel
theorem dX3_oneBeginsTheOther_22 : decode cX3_oneBeginsTheOther 22 = .ok (.invokestatic 9, 3) := by decide +kernel
theorem dX3_oneBeginsTheOther_25 : decode cX3_oneBeginsTheOther 25 = .ok (.iload_n 3, 1) := by decide +kernel
theorem dX3_oneBeginsTheOther_26 : decode cX3_oneBeginsTheOther 26 = .ok (.invokestatic 9, 3) := by decide +kernel
theorem dX3_oneBeginsTheOther_29 : decode cX3_oneBeginsTheOther 29 = .ok (.if_icmp .eq 5, 3) := by decide +kernel
theorem dX3_oneBeginsTheOther_32 : decode cX3_oneBeginsTheOther 32 = .ok (.iconst 0, 1) := by decide +kernel
theorem dX3_oneBeginsTheOther_33 : decode cX3_oneBeginsTheOther 33 = .ok (.ireturn, 1) := by decide +kernel
theorem dX3_oneBeginsTheOther_34 : decode cX3_oneBeginsTheOther 34 = .ok (.iload_n 2, 1) := by decide +kernel
theorem dX3_oneBeginsTheOther_35 : decode cX3_oneBeginsTheOther 35 = .ok (.invokestatic 15, 3) := by decide +kernel
theorem dX3_oneBeginsTheOther_38 : decode cX3_oneBeginsTheOther 38 = .ok (.istore_n 2, 1) := by decide +kernel
theorem dX3_oneBeginsTheOther_39 : decode cX3_oneBeginsTheOther 39 = .ok (.iload_n 3, 1) := by decide +kernel
theorem dX3_oneBeginsTheOther_40 : decode cX3_oneBeginsTheOther 40 = .ok (.invokestatic 15, 3) := by decide +kernel
theorem dX3_oneBeginsTheOther_43 : decode cX3_oneBeginsTheOther 43 = .ok (.istore_n 3, 1) := by decide +kernel
theorem dX3_oneBeginsTheOther_44 : decode cX3_oneBeginsTheOther 44 = .ok (.iinc 4 1, 3) := by decide +kernel
theorem dX3_oneBeginsTheOther_47 : decode cX3_oneBeginsTheOther 47 = .ok (.goto (-40), 3) := by decide +kernel
theorem dX3_oneBeginsTheOther_50 : decode cX3_oneBeginsTheOther 50 = .ok (.iconst 1, 1) := by decide +kernel
theorem dX3_oneBeginsTheOther_51 : decode cX3_oneBeginsTheOther 51 = .ok (.ireturn, 1) := by decide +kernel
theorem dX4_init_0 : decode cX4_init 0 = .ok (.aload_n 0, 1) := by decide +kernel
theorem dX4_init_1 : decode cX4_init 1 = .ok (.invokespecial 3, 3) := by decide +kernel
theorem dX4_init_4 : decode cX4_init 4 = .ok (.aload_n 0, 1) := by decide +kernel
theorem dX4_init_5 : decode cX4_init 5 = .ok (.bipush 16, 2) := by decide +kernel
theorem dX4_init_7 : decode cX4_init 7 = .ok (.newarray .int, 2) := by decide +kernel
theorem dX4_init_9 : decode cX4_init 9 = .ok (.putfield 9, 3) := by decide +kernel
theorem dX4_init_12 : decode cX4_init 12 = .ok (.aload_n 0, 1) := by decide +kernel
theorem dX4_init_13 : decode cX4_init 13 = .ok (.bipush 16, 2) := by decide +kernel
theorem dX4_init_15 : decode cX4_init 15 = .ok (.newarray .int, 2) := by decide +kernel
theorem dX4_init_17 : decode cX4_init 17 = .ok (.putfield 15, 3) := by decide +kernel
theorem dX4_init_20 : decode cX4_init 20 = .ok (.return_, 1) := by decide +kernel
theorem dX4_isFull_0 : decode cX4_isFull 0 = .ok (.aload_n 0, 1) := by decide +kernel
theorem dX4_isFull_1 : decode cX4_isFull 1 = .ok (.getfield 18, 3) := by decide +kernel
theorem dX4_isFull_4 : decode cX4_isFull 4 = .ok (.bipush 16, 2) := by decide +kernel
theorem dX4_isFull_6 : decode cX4_isFull 6 = .ok (.if_icmp .lt 7, 3) := by decide +kernel
theorem dX4_isFull_9 : decode cX4_isFull 9 = .ok (.iconst 1, 1) := by decide +kernel
theorem dX4_isFull_10 : decode cX4_isFull 10 = .ok (.goto 4, 3) := by decide +kernel
theorem dX4_isFull_13 : decode cX4_isFull 13 = .ok (.iconst 0, 1) := by decide +kernel
theorem dX4_isFull_14 : decode cX4_isFull 14 = .ok (.ireturn, 1) := by decide +kernel
theorem dX4_add_0 : decode cX4_add 0 = .ok (.aload_n 0, 1) := by decide +kernel
theorem dX4_add_1 : decode cX4_add 1 = .ok (.getfield 9, 3) := by decide +kernel
theorem dX4_add_4 : decode cX4_add 4 = .ok (.aload_n 0, 1) := by decide +kernel
theorem dX4_add_5 : decode cX4_add 5 = .ok (.getfield 18, 3) := by decide +kernel
theorem dX4_add_8 : decode cX4_add 8 = .ok (.iload_n 1, 1) := by decide +kernel
theorem dX4_add_9 : decode cX4_add 9 = .ok (.iastore, 1) := by decide +kernel
theorem dX4_add_10 : decode cX4_add 10 = .ok (.aload_n 0, 1) := by decide +kernel
theorem dX4_add_11 : decode cX4_add 11 = .ok (.getfield 15, 3) := by decide +kernel
theorem dX4_add_14 : decode cX4_add 14 = .ok (.aload_n 0, 1) := by decide +kernel
theorem dX4_add_15 : decode cX4_add 15 = .ok (.getfield 18, 3) := by decide +kernel
theorem dX4_add_18 : decode cX4_add 18 = .ok (.iload_n 2, 1) := by decide +kernel
theorem dX4_add_19 : decode cX4_add 19 = .ok (.iastore, 1) := by decide +kernel
theorem dX4_add_20 : decode cX4_add 20 = .ok (.aload_n 0, 1) := by decide +kernel
theorem dX4_add_21 : decode cX4_add 21 = .ok (.dup, 1) := by decide +kernel
theorem dX4_add_22 : decode cX4_add 22 = .ok (.getfield 18, 3) := by decide +kernel
theorem dX4_add_25 : decode cX4_add 25 = .ok (.iconst 1, 1) := by decide +kernel
theorem dX4_add_26 : decode cX4_add 26 = .ok (.iadd, 1) := by decide +kernel
theorem dX4_add_27 : decode cX4_add 27 = .ok (.putfield 18, 3) := by decide +kernel
theorem dX4_add_30 : decode cX4_add 30 = .ok (.aload_n 0, 1) := by decide +kernel
theorem dX4_add_31 : decode cX4_add 31 = .ok (.getfield 18, 3) := by decide +kernel
theorem dX4_add_34 : decode cX4_add 34 = .ok (.iconst 1, 1) := by decide +kernel
theorem dX4_add_35 : decode cX4_add 35 = .ok (.isub, 1) := by decide +kernel
theorem dX4_add_36 : decode cX4_add 36 = .ok (.ireturn, 1) := by decide +kernel
theorem dX4_size_0 : decode cX4_size 0 = .ok (.aload_n 0, 1) := by decide +kernel
theorem dX4_size_1 : decode cX4_size 1 = .ok (.getfield 18, 3) := by decide +kernel
theorem dX4_size_4 : decode cX4_size 4 = .ok (.ireturn, 1) := by decide +kernel
theorem dX4_has_0 : decode cX4_has 0 = .ok (.iload_n 1, 1) := by decide +kernel
theorem dX4_has_1 : decode cX4_has 1 = .ok (.ifCond .lt 15, 3) := by decide +kernel
theorem dX4_has_4 : decode cX4_has 4 = .ok (.iload_n 1, 1) := by decide +kernel
theorem dX4_has_5 : decode cX4_has 5 = .ok (.aload_n 0, 1) := by decide +kernel
theorem dX4_has_6 : decode cX4_has 6 = .ok (.getfield 18, 3) := by decide +kernel
theorem dX4_has_9 : decode cX4_has 9 = .ok (.if_icmp .ge 7, 3) := by decide +kernel
theorem dX4_has_12 : decode cX4_has 12 = .ok (.iconst 1, 1) := by decide +kernel
theorem dX4_has_13 : decode cX4_has 13 = .ok (.goto 4, 3) := by decide +kernel
theorem dX4_has_16 : decode cX4_has 16 = .ok (.iconst 0, 1) := by decide +kernel
theorem dX4_has_17 : decode cX4_has 17 = .ok (.ireturn, 1) := by decide +kernel
theorem dX4_hasLeaf_0 : decode cX4_hasLeaf 0 = .ok (.aload_n 0, 1) := by decide +kernel
theorem dX4_hasLeaf_1 : decode cX4_hasLeaf 1 = .ok (.iload_n 1, 1) := by decide +kernel
theorem dX4_hasLeaf_2 : decode cX4_hasLeaf 2 = .ok (.invokevirtual 22, 3) := by decide +kernel
theorem dX4_hasLeaf_5 : decode cX4_hasLeaf 5 = .ok (.ifCond .eq 21, 3) := by decide +kernel
theorem dX4_hasLeaf_8 : decode cX4_hasLeaf 8 = .ok (.iload_n 2, 1) := by decide +kernel
theorem dX4_hasLeaf_9 : decode cX4_hasLeaf 9 = .ok (.ifCond .lt 17, 3) := by decide +kernel
theorem dX4_hasLeaf_12 : decode cX4_hasLeaf 12 = .ok (.iload_n 2, 1) := by decide +kernel
theorem dX4_hasLeaf_13 : decode cX4_hasLeaf 13 = .ok (.aload_n 0, 1) := by decide +kernel
theorem dX4_hasLeaf_14 : decode cX4_hasLeaf 14 = .ok (.getfield 15, 3) := by decide +kernel
theorem dX4_hasLeaf_17 : decode cX4_hasLeaf 17 = .ok (.iload_n 1, 1) := by decide +kernel
theorem dX4_hasLeaf_18 : decode cX4_hasLeaf 18 = .ok (.iaload, 1) := by decide +kernel
theorem dX4_hasLeaf_19 : decode cX4_hasLeaf 19 = .ok (.if_icmp .ge 7, 3) := by decide +kernel
theorem dX4_hasLeaf_22 : decode cX4_hasLeaf 22 = .ok (.iconst 1, 1) := by decide +kernel
theorem dX4_hasLeaf_23 : decode cX4_hasLeaf 23 = .ok (.goto 4, 3) := by decide +kernel
theorem dX4_hasLeaf_26 : decode cX4_hasLeaf 26 = .ok (.iconst 0, 1) := by decide +kernel
theorem dX4_hasLeaf_27 : decode cX4_hasLeaf 27 = .ok (.ireturn, 1) := by decide +kernel
theorem dX4_isReference_0 : decode cX4_isReference 0 = .ok (.aload_n 0, 1) := by decide +kernel
theorem dX4_isReference_1 : decode cX4_isReference 1 = .ok (.iload_n 1, 1) := by decide +kernel
theorem dX4_isReference_2 : decode cX4_isReference 2 = .ok (.invokevirtual 22, 3) := by decide +kernel
theorem dX4_isReference_5 : decode cX4_isReference 5 = .ok (.ifCond .eq 16, 3) := by decide +kernel
theorem dX4_isReference_8 : decode cX4_isReference 8 = .ok (.aload_n 0, 1) := by decide +kernel
theorem dX4_isReference_9 : decode cX4_isReference 9 = .ok (.getfield 9, 3) := by decide +kernel
theorem dX4_isReference_12 : decode cX4_isReference 12 = .ok (.iload_n 1, 1) := by decide +kernel
theorem dX4_isReference_13 : decode cX4_isReference 13 = .ok (.iaload, 1) := by decide +kernel
theorem dX4_isReference_14 : decode cX4_isReference 14 = .ok (.ifCond .eq 7, 3) := by decide +kernel
theorem dX4_isReference_17 : decode cX4_isReference 17 = .ok (.iconst 1, 1) := by decide +kernel
theorem dX4_isReference_18 : decode cX4_isReference 18 = .ok (.goto 4, 3) := by decide +kernel
theorem dX4_isReference_21 : decode cX4_isReference 21 = .ok (.iconst 0, 1) := by decide +kernel
theorem dX4_isReference_22 : decode cX4_isReference 22 = .ok (.ireturn, 1) := by decide +kernel
theorem dX4_isShared_0 : decode cX4_isShared 0 = .ok (.aload_n 0, 1) := by decide +kernel
theorem dX4_isShared_1 : decode cX4_isShared 1 = .ok (.iload_n 1, 1) := by decide +kernel
theorem dX4_isShared_2 : decode cX4_isShared 2 = .ok (.invokevirtual 22, 3) := by decide +kernel
theorem dX4_isShared_5 : decode cX4_isShared 5 = .ok (.ifCond .eq 17, 3) := by decide +kernel
theorem dX4_isShared_8 : decode cX4_isShared 8 = .ok (.aload_n 0, 1) := by decide +kernel
theorem dX4_isShared_9 : decode cX4_isShared 9 = .ok (.getfield 9, 3) := by decide +kernel
theorem dX4_isShared_12 : decode cX4_isShared 12 = .ok (.iload_n 1, 1) := by decide +kernel
theorem dX4_isShared_13 : decode cX4_isShared 13 = .ok (.iaload, 1) := by decide +kernel
theorem dX4_isShared_14 : decode cX4_isShared 14 = .ok (.iconst 1, 1) := by decide +kernel
theorem dX4_isShared_15 : decode cX4_isShared 15 = .ok (.if_icmp .ne 7, 3) := by decide +kernel
theorem dX4_isShared_18 : decode cX4_isShared 18 = .ok (.iconst 1, 1) := by decide +kernel
theorem dX4_isShared_19 : decode cX4_isShared 19 = .ok (.goto 4, 3) := by decide +kernel
theorem dX4_isShared_22 : decode cX4_isShared 22 = .ok (.iconst 0, 1) := by decide +kernel
theorem dX4_isShared_23 : decode cX4_isShared 23 = .ok (.ireturn, 1) := by decide +kernel
theorem dX4_isSole_0 : decode cX4_isSole 0 = .ok (.aload_n 0, 1) := by decide +kernel
theorem dX4_isSole_1 : decode cX4_isSole 1 = .ok (.iload_n 1, 1) := by decide +kernel
theorem dX4_isSole_2 : decode cX4_isSole 2 = .ok (.invokevirtual 22, 3) := by decide +kernel
theorem dX4_isSole_5 : decode cX4_isSole 5 = .ok (.ifCond .eq 17, 3) := by decide +kernel
theorem dX4_isSole_8 : decode cX4_isSole 8 = .ok (.aload_n 0, 1) := by decide +kernel
theorem dX4_isSole_9 : decode cX4_isSole 9 = .ok (.getfield 9, 3) := by decide +kernel
theorem dX4_isSole_12 : decode cX4_isSole 12 = .ok (.iload_n 1, 1) := by decide +kernel
theorem dX4_isSole_13 : decode cX4_isSole 13 = .ok (.iaload, 1) := by decide +kernel
theorem dX4_isSole_14 : decode cX4_isSole 14 = .ok (.iconst 2, 1) := by decide +kernel
theorem dX4_isSole_15 : decode cX4_isSole 15 = .ok (.if_icmp .ne 7, 3) := by decide +kernel
theorem dX4_isSole_18 : decode cX4_isSole 18 = .ok (.iconst 1, 1) := by decide +kernel
theorem dX4_isSole_19 : decode cX4_isSole 19 = .ok (.goto 4, 3) := by decide +kernel
theorem dX4_isSole_22 : decode cX4_isSole 22 = .ok (.iconst 0, 1) := by decide +kernel
theorem dX4_isSole_23 : decode cX4_isSole 23 = .ok (.ireturn, 1) := by decide +kernel
theorem dX4_hasParts_0 : decode cX4_hasParts 0 = .ok (.aload_n 0, 1) := by decide +kernel
theorem dX4_hasParts_1 : decode cX4_hasParts 1 = .ok (.iload_n 1, 1) := by decide +kernel
theorem dX4_hasParts_2 : decode cX4_hasParts 2 = .ok (.invokevirtual 22, 3) := by decide +kernel
theorem dX4_hasParts_5 : decode cX4_hasParts 5 = .ok (.ifCond .eq 17, 3) := by decide +kernel
theorem dX4_hasParts_8 : decode cX4_hasParts 8 = .ok (.aload_n 0, 1) := by decide +kernel
theorem dX4_hasParts_9 : decode cX4_hasParts 9 = .ok (.getfield 15, 3) := by decide +kernel
theorem dX4_hasParts_12 : decode cX4_hasParts 12 = .ok (.iload_n 1, 1) := by decide +kernel
theorem dX4_hasParts_13 : decode cX4_hasParts 13 = .ok (.iaload, 1) := by decide +kernel
theorem dX4_hasParts_14 : decode cX4_hasParts 14 = .ok (.iconst 1, 1) := by decide +kernel
theorem dX4_hasParts_15 : decode cX4_hasParts 15 = .ok (.if_icmp .le 7, 3) := by decide +kernel
theorem dX4_hasParts_18 : decode cX4_hasParts 18 = .ok (.iconst 1, 1) := by decide +kernel
theorem dX4_hasParts_19 : decode cX4_hasParts 19 = .ok (.goto 4, 3) := by decide +kernel
theorem dX4_hasParts_22 : decode cX4_hasParts 22 = .ok (.iconst 0, 1) := by decide +kernel
theorem dX4_hasParts_23 : decode cX4_hasParts 23 = .ok (.ireturn, 1) := by decide +kernel
theorem dX4_begin_0 : decode cX4_begin 0 = .ok (.aload_n 0, 1) := by decide +kernel
theorem dX4_begin_1 : decode cX4_begin 1 = .ok (.iload_n 1, 1) := by decide +kernel
theorem dX4_begin_2 : decode cX4_begin 2 = .ok (.iconst 0, 1) := by decide +kernel
theorem dX4_begin_3 : decode cX4_begin 3 = .ok (.invokevirtual 26, 3) := by decide +kernel
theorem dX4_begin_6 : decode cX4_begin 6 = .ok (.lstore_n 3, 1) := by decide +kernel
theorem dX4_begin_7 : decode cX4_begin 7 = .ok (.aload_n 0, 1) := by decide +kernel
theorem dX4_begin_8 : decode cX4_begin 8 = .ok (.iload_n 2, 1) := by decide +kernel
theorem dX4_begin_9 : decode cX4_begin 9 = .ok (.ifCond .eq 12, 3) := by decide +kernel
theorem dX4_begin_12 : decode cX4_begin 12 = .ok (.aload_n 0, 1) := by decide +kernel
theorem dX4_begin_13 : decode cX4_begin 13 = .ok (.getfield 30, 3) := by decide +kernel
theorem dX4_begin_16 : decode cX4_begin 16 = .ok (.lload_n 3, 1) := by decide +kernel
theorem dX4_begin_17 : decode cX4_begin 17 = .ok (.lor, 1) := by decide +kernel
theorem dX4_begin_18 : decode cX4_begin 18 = .ok (.goto 13, 3) := by decide +kernel
theorem dX4_begin_21 : decode cX4_begin 21 = .ok (.aload_n 0, 1) := by decide +kernel
theorem dX4_begin_22 : decode cX4_begin 22 = .ok (.getfield 30, 3) := by decide +kernel
theorem dX4_begin_25 : decode cX4_begin 25 = .ok (.lload_n 3, 1) := by decide +kernel
theorem dX4_begin_26 : decode cX4_begin 26 = .ok (.ldc2_w 34, 3) := by decide +kernel
theorem dX4_begin_29 : decode cX4_begin 29 = .ok (.lxor, 1) := by decide +kernel
theorem dX4_begin_30 : decode cX4_begin 30 = .ok (.land, 1) := by decide +kernel
theorem dX4_begin_31 : decode cX4_begin 31 = .ok (.putfield 30, 3) := by decide +kernel
theorem dX4_begin_34 : decode cX4_begin 34 = .ok (.return_, 1) := by decide +kernel
theorem dX4_begun_0 : decode cX4_begun 0 = .ok (.aload_n 0, 1) := by decide +kernel
theorem dX4_begun_1 : decode cX4_begun 1 = .ok (.getfield 30, 3) := by decide +kernel
theorem dX4_begun_4 : decode cX4_begun 4 = .ok (.lreturn, 1) := by decide +kernel
theorem dX4_isPlace_0 : decode cX4_isPlace 0 = .ok (.aload_n 0, 1) := by decide +kernel
theorem dX4_isPlace_1 : decode cX4_isPlace 1 = .ok (.iload_n 1, 1) := by decide +kernel
theorem dX4_isPlace_2 : decode cX4_isPlace 2 = .ok (.invokevirtual 22, 3) := by decide +kernel
theorem dX4_isPlace_5 : decode cX4_isPlace 5 = .ok (.ifCond .eq 10, 3) := by decide +kernel
theorem dX4_isPlace_8 : decode cX4_isPlace 8 = .ok (.iload_n 2, 1) := by decide +kernel
theorem dX4_isPlace_9 : decode cX4_isPlace 9 = .ok (.invokestatic 36, 3) := by decide +kernel
theorem dX4_isPlace_12 : decode cX4_isPlace 12 = .ok (.ifCond .ne 5, 3) := by decide +kernel
theorem dX4_isPlace_15 : decode cX4_isPlace 15 = .ok (.iconst 0, 1) := by decide +kernel
theorem dX4_isPlace_16 : decode cX4_isPlace 16 = .ok (.ireturn, 1) := by decide +kernel
theorem dX4_isPlace_17 : decode cX4_isPlace 17 = .ok (.iload_n 2, 1) := by decide +kernel
theorem dX4_isPlace_18 : decode cX4_isPlace 18 = .ok (.ifCond .ne 5, 3) := by decide +kernel
theorem dX4_isPlace_21 : decode cX4_isPlace 21 = .ok (.iconst 1, 1) := by decide +kernel
theorem dX4_isPlace_22 : decode cX4_isPlace 22 = .ok (.ireturn, 1) := by decide +kernel
theorem dX4_isPlace_23 : decode cX4_isPlace 23 = .ok (.aload_n 0, 1) := by decide +kernel
theorem dX4_isPlace_24 : decode cX4_isPlace 24 = .ok (.iload_n 1, 1) := by decide +kernel
theorem dX4_isPlace_25 : decode cX4_isPlace 25 = .ok (.invokevirtual 41, 3) := by decide +kernel
theorem dX4_isPlace_28 : decode cX4_isPlace 28 = .ok (.ifCond .eq 17, 3) := by decide +kernel
theorem dX4_isPlace_31 : decode cX4_isPlace 31 = .ok (.iload_n 2, 1) := by decide +kernel
theorem dX4_isPlace_32 : decode cX4_isPlace 32 = .ok (.invokestatic 44, 3) := by decide +kernel
theorem dX4_isPlace_35 : decode cX4_isPlace 35 = .ok (.iconst 5, 1) := by decide +kernel
theorem dX4_isPlace_36 : decode cX4_isPlace 36 = .ok (.if_icmp .ne 7, 3) := by decide +kernel
theorem dX4_isPlace_39 : decode cX4_isPlace 39 = .ok (.iconst 1, 1) := by decide +kernel
theorem dX4_isPlace_40 : decode cX4_isPlace 40 = .ok (.goto 4, 3) := by decide +kernel
theorem dX4_isPlace_43 : decode cX4_isPlace 43 = .ok (.iconst 0, 1) := by decide +kernel
theorem dX4_isPlace_44 : decode cX4_isPlace 44 = .ok (.ireturn, 1) := by decide +kernel
theorem dX4_isPlace_45 : decode cX4_isPlace 45 = .ok (.aload_n 0, 1) := by decide +kernel
theorem dX4_isPlace_46 : decode cX4_isPlace 46 = .ok (.iload_n 1, 1) := by decide +kernel
theorem dX4_isPlace_47 : decode cX4_isPlace 47 = .ok (.invokevirtual 48, 3) := by decide +kernel
theorem dX4_isPlace_50 : decode cX4_isPlace 50 = .ok (.ifCond .eq 16, 3) := by decide +kernel
theorem dX4_isPlace_53 : decode cX4_isPlace 53 = .ok (.iload_n 2, 1) := by decide +kernel
theorem dX4_isPlace_54 : decode cX4_isPlace 54 = .ok (.invokestatic 44, 3) := by decide +kernel
theorem dX4_isPlace_57 : decode cX4_isPlace 57 = .ok (.aload_n 0, 1) := by decide +kernel
theorem dX4_isPlace_58 : decode cX4_isPlace 58 = .ok (.getfield 15, 3) := by decide +kernel
theorem dX4_isPlace_61 : decode cX4_isPlace 61 = .ok (.iload_n 1, 1) := by decide +kernel
theorem dX4_isPlace_62 : decode cX4_isPlace 62 = .ok (.iaload, 1) := by decide +kernel
theorem dX4_isPlace_63 : decode cX4_isPlace 63 = .ok (.if_icmp .gt 7, 3) := by decide +kernel
theorem dX4_isPlace_66 : decode cX4_isPlace 66 = .ok (.iconst 1, 1) := by decide +kernel
theorem dX4_isPlace_67 : decode cX4_isPlace 67 = .ok (.goto 4, 3) := by decide +kernel
theorem dX4_isPlace_70 : decode cX4_isPlace 70 = .ok (.iconst 0, 1) := by decide +kernel
theorem dX4_isPlace_71 : decode cX4_isPlace 71 = .ok (.ireturn, 1) := by decide +kernel
theorem dX4_goesThrough_0 : decode cX4_goesThrough 0 = .ok (.aload_n 0, 1) := by decide +kernel
theorem dX4_goesThrough_1 : decode cX4_goesThrough 1 = .ok (.iload_n 1, 1) := by decide +kernel
theorem dX4_goesThrough_2 : decode cX4_goesThrough 2 = .ok (.invokevirtual 41, 3) := by decide +kernel
theorem dX4_goesThrough_5 : decode cX4_goesThrough 5 = .ok (.ifCond .eq 15, 3) := by decide +kernel
theorem dX4_goesThrough_8 : decode cX4_goesThrough 8 = .ok (.iload_n 2, 1) := by decide +kernel
theorem dX4_goesThrough_9 : decode cX4_goesThrough 9 = .ok (.invokestatic 44, 3) := by decide +kernel
theorem dX4_goesThrough_12 : decode cX4_goesThrough 12 = .ok (.iconst 5, 1) := by decide +kernel
theorem dX4_goesThrough_13 : decode cX4_goesThrough 13 = .ok (.if_icmp .ne 7, 3) := by decide +kernel
theorem dX4_goesThrough_16 : decode cX4_goesThrough 16 = .ok (.iconst 1, 1) := by decide +kernel
theorem dX4_goesThrough_17 : decode cX4_goesThrough 17 = .ok (.goto 4, 3) := by decide +kernel
theorem dX4_goesThrough_20 : decode cX4_goesThrough 20 = .ok (.iconst 0, 1) := by decide +kernel
theorem dX4_goesThrough_21 : decode cX4_goesThrough 21 = .ok (.ireturn, 1) := by decide +kernel
theorem dX4_isWithin_0 : decode cX4_isWithin 0 = .ok (.aload_n 0, 1) := by decide +kernel
theorem dX4_isWithin_1 : decode cX4_isWithin 1 = .ok (.iload_n 1, 1) := by decide +kernel
theorem dX4_isWithin_2 : decode cX4_isWithin 2 = .ok (.invokevirtual 48, 3) := by decide +kernel
theorem dX4_isWithin_5 : decode cX4_isWithin 5 = .ok (.ifCond .eq 18, 3) := by decide +kernel
theorem dX4_isWithin_8 : decode cX4_isWithin 8 = .ok (.iload_n 2, 1) := by decide +kernel
theorem dX4_isWithin_9 : decode cX4_isWithin 9 = .ok (.invokestatic 51, 3) := by decide +kernel
theorem dX4_isWithin_12 : decode cX4_isWithin 12 = .ok (.ifCond .eq 7, 3) := by decide +kernel
theorem dX4_isWithin_15 : decode cX4_isWithin 15 = .ok (.iconst 1, 1) := by decide +kernel
theorem dX4_isWithin_16 : decode cX4_isWithin 16 = .ok (.goto 16, 3) := by decide +kernel
theorem dX4_isWithin_19 : decode cX4_isWithin 19 = .ok (.iconst 0, 1) := by decide +kernel
theorem dX4_isWithin_20 : decode cX4_isWithin 20 = .ok (.goto 12, 3) := by decide +kernel
theorem dX4_isWithin_23 : decode cX4_isWithin 23 = .ok (.iload_n 2, 1) := by decide +kernel
theorem dX4_isWithin_24 : decode cX4_isWithin 24 = .ok (.ifCond .eq 7, 3) := by decide +kernel
theorem dX4_isWithin_27 : decode cX4_isWithin 27 = .ok (.iconst 1, 1) := by decide +kernel
theorem dX4_isWithin_28 : decode cX4_isWithin 28 = .ok (.goto 4, 3) := by decide +kernel
theorem dX4_isWithin_31 : decode cX4_isWithin 31 = .ok (.iconst 0, 1) := by decide +kernel
theorem dX4_isWithin_32 : decode cX4_isWithin 32 = .ok (.ireturn, 1) := by decide +kernel
theorem dX4_leavesOf_0 : decode cX4_leavesOf 0 = .ok (.aload_n 0, 1) := by decide +kernel
theorem dX4_leavesOf_1 : decode cX4_leavesOf 1 = .ok (.iload_n 1, 1) := by decide +kernel
theorem dX4_leavesOf_2 : decode cX4_leavesOf 2 = .ok (.invokevirtual 22, 3) := by decide +kernel
theorem dX4_leavesOf_5 : decode cX4_leavesOf 5 = .ok (.ifCond .ne 5, 3) := by decide +kernel
theorem dX4_leavesOf_8 : decode cX4_leavesOf 8 = .ok (.lconst 0, 1) := by decide +kernel
theorem dX4_leavesOf_9 : decode cX4_leavesOf 9 = .ok (.lreturn, 1) := by decide +kernel
theorem dX4_leavesOf_10 : decode cX4_leavesOf 10 = .ok (.aload_n 0, 1) := by decide +kernel
theorem dX4_leavesOf_11 : decode cX4_leavesOf 11 = .ok (.iload_n 1, 1) := by decide +kernel
theorem dX4_leavesOf_12 : decode cX4_leavesOf 12 = .ok (.invokevirtual 48, 3) := by decide +kernel
theorem dX4_leavesOf_15 : decode cX4_leavesOf 15 = .ok (.ifCond .eq 18, 3) := by decide +kernel
theorem dX4_leavesOf_18 : decode cX4_leavesOf 18 = .ok (.iload_n 2, 1) := by decide +kernel
theorem dX4_leavesOf_19 : decode cX4_leavesOf 19 = .ok (.ifCond .eq 14, 3) := by decide +kernel
theorem dX4_leavesOf_22 : decode cX4_leavesOf 22 = .ok (.iload_n 1, 1) := by decide +kernel
theorem dX4_leavesOf_23 : decode cX4_leavesOf 23 = .ok (.iload_n 2, 1) := by decide +kernel
theorem dX4_leavesOf_24 : decode cX4_leavesOf 24 = .ok (.invokestatic 44, 3) := by decide +kernel
theorem dX4_leavesOf_27 : decode cX4_leavesOf 27 = .ok (.iconst 1, 1) := by decide +kernel
theorem dX4_leavesOf_28 : decode cX4_leavesOf 28 = .ok (.isub, 1) := by decide +kernel
theorem dX4_leavesOf_29 : decode cX4_leavesOf 29 = .ok (.invokestatic 54, 3) := by decide +kernel
theorem dX4_leavesOf_32 : decode cX4_leavesOf 32 = .ok (.lreturn, 1) := by decide +kernel
theorem dX4_leavesOf_33 : decode cX4_leavesOf 33 = .ok (.lconst 1, 1) := by decide +kernel
theorem dX4_leavesOf_34 : decode cX4_leavesOf 34 = .ok (.aload_n 0, 1) := by decide +kernel
theorem dX4_leavesOf_35 : decode cX4_leavesOf 35 = .ok (.getfield 15, 3) := by decide +kernel
theorem dX4_leavesOf_38 : decode cX4_leavesOf 38 = .ok (.iload_n 1, 1) := by decide +kernel
theorem dX4_leavesOf_39 : decode cX4_leavesOf 39 = .ok (.iaload, 1) := by decide +kernel
theorem dX4_leavesOf_40 : decode cX4_leavesOf 40 = .ok (.lshl, 1) := by decide +kernel
theorem dX4_leavesOf_41 : decode cX4_leavesOf 41 = .ok (.lconst 1, 1) := by decide +kernel
theorem dX4_leavesOf_42 : decode cX4_leavesOf 42 = .ok (.lsub, 1) := by decide +kernel
theorem dX4_leavesOf_43 : decode cX4_leavesOf 43 = .ok (.lstore_n 3, 1) := by decide +kernel
theorem dX4_leavesOf_44 : decode cX4_leavesOf 44 = .ok (.lload_n 3, 1) := by decide +kernel
theorem dX4_leavesOf_45 : decode cX4_leavesOf 45 = .ok (.iload_n 1, 1) := by decide +kernel
theorem dX4_leavesOf_46 : decode cX4_leavesOf 46 = .ok (.iconst 4, 1) := by decide +kernel
theorem dX4_leavesOf_47 : decode cX4_leavesOf 47 = .ok (.imul, 1) := by decide +kernel
theorem dX4_leavesOf_48 : decode cX4_leavesOf 48 = .ok (.lshl, 1) := by decide +kernel
theorem dX4_leavesOf_49 : decode cX4_leavesOf 49 = .ok (.lreturn, 1) := by decide +kernel
theorem dX4_mayAct_0 : decode cX4_mayAct 0 = .ok (.aload_n 0, 1) := by decide +kernel
theorem dX4_mayAct_1 : decode cX4_mayAct 1 = .ok (.iload_n 2, 1) := by decide +kernel
theorem dX4_mayAct_2 : decode cX4_mayAct 2 = .ok (.iload_n 3, 1) := by decide +kernel
theorem dX4_mayAct_3 : decode cX4_mayAct 3 = .ok (.invokevirtual 57, 3) := by decide +kernel
theorem dX4_mayAct_6 : decode cX4_mayAct 6 = .ok (.ifCond .ne 5, 3) := by decide +kernel
theorem dX4_mayAct_9 : decode cX4_mayAct 9 = .ok (.iconst 0, 1) := by decide +kernel
theorem dX4_mayAct_10 : decode cX4_mayAct 10 = .ok (.ireturn, 1) := by decide +kernel
theorem dX4_mayAct_11 : decode cX4_mayAct 11 = .ok (.iload_n 1, 1) := by decide +kernel
theorem dX4_mayAct_12 : decode cX4_mayAct 12 = .ok (.iconst 2, 1) := by decide +kernel
theorem dX4_mayAct_13 : decode cX4_mayAct 13 = .ok (.if_icmp .ne 26, 3) := by decide +kernel
theorem dX4_mayAct_16 : decode cX4_mayAct 16 = .ok (.aload_n 0, 1) := by decide +kernel
theorem dX4_mayAct_17 : decode cX4_mayAct 17 = .ok (.iload_n 2, 1) := by decide +kernel
theorem dX4_mayAct_18 : decode cX4_mayAct 18 = .ok (.invokevirtual 41, 3) := by decide +kernel
theorem dX4_mayAct_21 : decode cX4_mayAct 21 = .ok (.ifCond .ne 16, 3) := by decide +kernel
theorem dX4_mayAct_24 : decode cX4_mayAct 24 = .ok (.aload_n 0, 1) := by decide +kernel
theorem dX4_mayAct_25 : decode cX4_mayAct 25 = .ok (.iload_n 2, 1) := by decide +kernel
theorem dX4_mayAct_26 : decode cX4_mayAct 26 = .ok (.iload_n 3, 1) := by decide +kernel
theorem dX4_mayAct_27 : decode cX4_mayAct 27 = .ok (.invokevirtual 61, 3) := by decide +kernel
theorem dX4_mayAct_30 : decode cX4_mayAct 30 = .ok (.ifCond .ne 7, 3) := by decide +kernel
theorem dX4_mayAct_33 : decode cX4_mayAct 33 = .ok (.iconst 1, 1) := by decide +kernel
theorem dX4_mayAct_34 : decode cX4_mayAct 34 = .ok (.goto 4, 3) := by decide +kernel
theorem dX4_mayAct_37 : decode cX4_mayAct 37 = .ok (.iconst 0, 1) := by decide +kernel
theorem dX4_mayAct_38 : decode cX4_mayAct 38 = .ok (.ireturn, 1) := by decide +kernel
theorem dX4_mayAct_39 : decode cX4_mayAct 39 = .ok (.aload_n 0, 1) := by decide +kernel
theorem dX4_mayAct_40 : decode cX4_mayAct 40 = .ok (.iload_n 2, 1) := by decide +kernel
theorem dX4_mayAct_41 : decode cX4_mayAct 41 = .ok (.invokevirtual 41, 3) := by decide +kernel
theorem dX4_mayAct_44 : decode cX4_mayAct 44 = .ok (.ifCond .ne 5, 3) := by decide +kernel
theorem dX4_mayAct_47 : decode cX4_mayAct 47 = .ok (.iconst 1, 1) := by decide +kernel
theorem dX4_mayAct_48 : decode cX4_mayAct 48 = .ok (.ireturn, 1) := by decide +kernel
theorem dX4_mayAct_49 : decode cX4_mayAct 49 = .ok (.iload_n 3, 1) := by decide +kernel
theorem dX4_mayAct_50 : decode cX4_mayAct 50 = .ok (.ifCond .eq 20, 3) := by decide +kernel
theorem dX4_mayAct_53 : decode cX4_mayAct 53 = .ok (.iload_n 1, 1) := by decide +kernel
theorem dX4_mayAct_54 : decode cX4_mayAct 54 = .ok (.iconst 1, 1) := by decide +kernel
theorem dX4_mayAct_55 : decode cX4_mayAct 55 = .ok (.if_icmp .eq 11, 3) := by decide +kernel
theorem dX4_mayAct_58 : decode cX4_mayAct 58 = .ok (.aload_n 0, 1) := by decide +kernel
theorem dX4_mayAct_59 : decode cX4_mayAct 59 = .ok (.iload_n 2, 1) := by decide +kernel
theorem dX4_mayAct_60 : decode cX4_mayAct 60 = .ok (.invokevirtual 64, 3) := by decide +kernel
theorem dX4_mayAct_63 : decode cX4_mayAct 63 = .ok (.ifCond .eq 7, 3) := by decide +kernel
theorem dX4_mayAct_66 : decode cX4_mayAct 66 = .ok (.iconst 1, 1) := by decide +kernel
theorem dX4_mayAct_67 : decode cX4_mayAct 67 = .ok (.goto 4, 3) := by decide +kernel
theorem dX4_mayAct_70 : decode cX4_mayAct 70 = .ok (.iconst 0, 1) := by decide +kernel
theorem dX4_mayAct_71 : decode cX4_mayAct 71 = .ok (.ireturn, 1) := by decide +kernel
theorem dX4_mayLend_0 : decode cX4_mayLend 0 = .ok (.aload_n 0, 1) := by decide +kernel
theorem dX4_mayLend_1 : decode cX4_mayLend 1 = .ok (.iload_n 1, 1) := by decide +kernel
theorem dX4_mayLend_2 : decode cX4_mayLend 2 = .ok (.invokevirtual 41, 3) := by decide +kernel
theorem dX4_mayLend_5 : decode cX4_mayLend 5 = .ok (.ifCond .eq 12, 3) := by decide +kernel
theorem dX4_mayLend_8 : decode cX4_mayLend 8 = .ok (.aload_n 0, 1) := by decide +kernel
theorem dX4_mayLend_9 : decode cX4_mayLend 9 = .ok (.iload_n 2, 1) := by decide +kernel
theorem dX4_mayLend_10 : decode cX4_mayLend 10 = .ok (.iload_n 3, 1) := by decide +kernel
theorem dX4_mayLend_11 : decode cX4_mayLend 11 = .ok (.invokevirtual 57, 3) := by decide +kernel
theorem dX4_mayLend_14 : decode cX4_mayLend 14 = .ok (.ifCond .ne 5, 3) := by decide +kernel
theorem dX4_mayLend_17 : decode cX4_mayLend 17 = .ok (.iconst 0, 1) := by decide +kernel
theorem dX4_mayLend_18 : decode cX4_mayLend 18 = .ok (.ireturn, 1) := by decide +kernel
theorem dX4_mayLend_19 : decode cX4_mayLend 19 = .ok (.aload_n 0, 1) := by decide +kernel
theorem dX4_mayLend_20 : decode cX4_mayLend 20 = .ok (.iload_n 2, 1) := by decide +kernel
theorem dX4_mayLend_21 : decode cX4_mayLend 21 = .ok (.invokevirtual 41, 3) := by decide +kernel
theorem dX4_mayLend_24 : decode cX4_mayLend 24 = .ok (.ifCond .ne 5, 3) := by decide +kernel
theorem dX4_mayLend_27 : decode cX4_mayLend 27 = .ok (.iconst 1, 1) := by decide +kernel
theorem dX4_mayLend_28 : decode cX4_mayLend 28 = .ok (.ireturn, 1) := by decide +kernel
theorem dX4_mayLend_29 : decode cX4_mayLend 29 = .ok (.iload_n 3, 1) := by decide +kernel
theorem dX4_mayLend_30 : decode cX4_mayLend 30 = .ok (.ifCond .eq 23, 3) := by decide +kernel
theorem dX4_mayLend_33 : decode cX4_mayLend 33 = .ok (.aload_n 0, 1) := by decide +kernel
theorem dX4_mayLend_34 : decode cX4_mayLend 34 = .ok (.iload_n 1, 1) := by decide +kernel
theorem dX4_mayLend_35 : decode cX4_mayLend 35 = .ok (.invokevirtual 67, 3) := by decide +kernel
theorem dX4_mayLend_38 : decode cX4_mayLend 38 = .ok (.ifCond .ne 11, 3) := by decide +kernel
theorem dX4_mayLend_41 : decode cX4_mayLend 41 = .ok (.aload_n 0, 1) := by decide +kernel
theorem dX4_mayLend_42 : decode cX4_mayLend 42 = .ok (.iload_n 2, 1) := by decide +kernel
theorem dX4_mayLend_43 : decode cX4_mayLend 43 = .ok (.invokevirtual 64, 3) := by decide +kernel
theorem dX4_mayLend_46 : decode cX4_mayLend 46 = .ok (.ifCond .eq 7, 3) := by decide +kernel
theorem dX4_mayLend_49 : decode cX4_mayLend 49 = .ok (.iconst 1, 1) := by decide +kernel
theorem dX4_mayLend_50 : decode cX4_mayLend 50 = .ok (.goto 4, 3) := by decide +kernel
theorem dX4_mayLend_53 : decode cX4_mayLend 53 = .ok (.iconst 0, 1) := by decide +kernel
theorem dX4_mayLend_54 : decode cX4_mayLend 54 = .ok (.ireturn, 1) := by decide +kernel
theorem dX4_mayCopy_0 : decode cX4_mayCopy 0 = .ok (.iload_n 1, 1) := by decide +kernel
theorem dX4_mayCopy_1 : decode cX4_mayCopy 1 = .ok (.iload_n 2, 1) := by decide +kernel
theorem dX4_mayCopy_2 : decode cX4_mayCopy 2 = .ok (.if_icmp .eq 38, 3) := by decide +kernel
theorem dX4_mayCopy_5 : decode cX4_mayCopy 5 = .ok (.aload_n 0, 1) := by decide +kernel
theorem dX4_mayCopy_6 : decode cX4_mayCopy 6 = .ok (.iload_n 1, 1) := by decide +kernel
theorem dX4_mayCopy_7 : decode cX4_mayCopy 7 = .ok (.invokevirtual 41, 3) := by decide +kernel
theorem dX4_mayCopy_10 : decode cX4_mayCopy 10 = .ok (.ifCond .eq 30, 3) := by decide +kernel
theorem dX4_mayCopy_13 : decode cX4_mayCopy 13 = .ok (.aload_n 0, 1) := by decide +kernel
theorem dX4_mayCopy_14 : decode cX4_mayCopy 14 = .ok (.iload_n 2, 1) := by decide +kernel
theorem dX4_mayCopy_15 : decode cX4_mayCopy 15 = .ok (.invokevirtual 41, 3) := by decide +kernel
theorem dX4_mayCopy_18 : decode cX4_mayCopy 18 = .ok (.ifCond .eq 22, 3) := by decide +kernel
theorem dX4_mayCopy_21 : decode cX4_mayCopy 21 = .ok (.aload_n 0, 1) := by decide +kernel
theorem dX4_mayCopy_22 : decode cX4_mayCopy 22 = .ok (.getfield 9, 3) := by decide +kernel
theorem dX4_mayCopy_25 : decode cX4_mayCopy 25 = .ok (.iload_n 1, 1) := by decide +kernel
theorem dX4_mayCopy_26 : decode cX4_mayCopy 26 = .ok (.iaload, 1) := by decide +kernel
theorem dX4_mayCopy_27 : decode cX4_mayCopy 27 = .ok (.aload_n 0, 1) := by decide +kernel
theorem dX4_mayCopy_28 : decode cX4_mayCopy 28 = .ok (.getfield 9, 3) := by decide +kernel
theorem dX4_mayCopy_31 : decode cX4_mayCopy 31 = .ok (.iload_n 2, 1) := by decide +kernel
theorem dX4_mayCopy_32 : decode cX4_mayCopy 32 = .ok (.iaload, 1) := by decide +kernel
theorem dX4_mayCopy_33 : decode cX4_mayCopy 33 = .ok (.if_icmp .ne 7, 3) := by decide +kernel
theorem dX4_mayCopy_36 : decode cX4_mayCopy 36 = .ok (.iconst 1, 1) := by decide +kernel
theorem dX4_mayCopy_37 : decode cX4_mayCopy 37 = .ok (.goto 4, 3) := by decide +kernel
theorem dX4_mayCopy_40 : decode cX4_mayCopy 40 = .ok (.iconst 0, 1) := by decide +kernel
theorem dX4_mayCopy_41 : decode cX4_mayCopy 41 = .ok (.ireturn, 1) := by decide +kernel
theorem dX5_init_0 : decode cX5_init 0 = .ok (.aload_n 0, 1) := by decide +kernel
theorem dX5_init_1 : decode cX5_init 1 = .ok (.invokespecial 3, 3) := by decide +kernel
theorem dX5_init_4 : decode cX5_init 4 = .ok (.aload_n 0, 1) := by decide +kernel
theorem dX5_init_5 : decode cX5_init 5 = .ok (.sipush 600, 3) := by decide +kernel
theorem dX5_init_8 : decode cX5_init 8 = .ok (.newarray .int, 2) := by decide +kernel
theorem dX5_init_10 : decode cX5_init 10 = .ok (.putfield 9, 3) := by decide +kernel
theorem dX5_init_13 : decode cX5_init 13 = .ok (.aload_n 0, 1) := by decide +kernel
theorem dX5_init_14 : decode cX5_init 14 = .ok (.sipush 150, 3) := by decide +kernel
theorem dX5_init_17 : decode cX5_init 17 = .ok (.newarray .int, 2) := by decide +kernel
theorem dX5_init_19 : decode cX5_init 19 = .ok (.putfield 15, 3) := by decide +kernel
theorem dX5_init_22 : decode cX5_init 22 = .ok (.aload_n 0, 1) := by decide +kernel
theorem dX5_init_23 : decode cX5_init 23 = .ok (.sipush 150, 3) := by decide +kernel
theorem dX5_init_26 : decode cX5_init 26 = .ok (.newarray .int, 2) := by decide +kernel
theorem dX5_init_28 : decode cX5_init 28 = .ok (.putfield 18, 3) := by decide +kernel
theorem dX5_init_31 : decode cX5_init 31 = .ok (.aload_n 0, 1) := by decide +kernel
theorem dX5_init_32 : decode cX5_init 32 = .ok (.sipush 150, 3) := by decide +kernel
theorem dX5_init_35 : decode cX5_init 35 = .ok (.newarray .int, 2) := by decide +kernel
theorem dX5_init_37 : decode cX5_init 37 = .ok (.putfield 21, 3) := by decide +kernel
theorem dX5_init_40 : decode cX5_init 40 = .ok (.aload_n 0, 1) := by decide +kernel
theorem dX5_init_41 : decode cX5_init 41 = .ok (.sipush 150, 3) := by decide +kernel
theorem dX5_init_44 : decode cX5_init 44 = .ok (.newarray .int, 2) := by decide +kernel
theorem dX5_init_46 : decode cX5_init 46 = .ok (.putfield 24, 3) := by decide +kernel
theorem dX5_init_49 : decode cX5_init 49 = .ok (.return_, 1) := by decide +kernel
theorem dX5_add_0 : decode cX5_add 0 = .ok (.aload_n 0, 1) := by decide +kernel
theorem dX5_add_1 : decode cX5_add 1 = .ok (.iload_n 1, 1) := by decide +kernel
theorem dX5_add_2 : decode cX5_add 2 = .ok (.iload_n 2, 1) := by decide +kernel
theorem dX5_add_3 : decode cX5_add 3 = .ok (.invokevirtual 27, 3) := by decide +kernel
theorem dX5_add_6 : decode cX5_add 6 = .ok (.iconst (-1), 1) := by decide +kernel
theorem dX5_add_7 : decode cX5_add 7 = .ok (.if_icmp .eq 5, 3) := by decide +kernel
theorem dX5_add_10 : decode cX5_add 10 = .ok (.iconst 1, 1) := by decide +kernel
theorem dX5_add_11 : decode cX5_add 11 = .ok (.ireturn, 1) := by decide +kernel
theorem dX5_add_12 : decode cX5_add 12 = .ok (.aload_n 0, 1) := by decide +kernel
theorem dX5_add_13 : decode cX5_add 13 = .ok (.getfield 15, 3) := by decide +kernel
theorem dX5_add_16 : decode cX5_add 16 = .ok (.iload_n 1, 1) := by decide +kernel
theorem dX5_add_17 : decode cX5_add 17 = .ok (.iaload, 1) := by decide +kernel
theorem dX5_add_18 : decode cX5_add 18 = .ok (.iconst 4, 1) := by decide +kernel
theorem dX5_add_19 : decode cX5_add 19 = .ok (.if_icmp .lt 5, 3) := by decide +kernel
theorem dX5_add_22 : decode cX5_add 22 = .ok (.iconst 0, 1) := by decide +kernel
theorem dX5_add_23 : decode cX5_add 23 = .ok (.ireturn, 1) := by decide +kernel
theorem dX5_add_24 : decode cX5_add 24 = .ok (.aload_n 0, 1) := by decide +kernel
theorem dX5_add_25 : decode cX5_add 25 = .ok (.getfield 9, 3) := by decide +kernel
theorem dX5_add_28 : decode cX5_add 28 = .ok (.iload_n 1, 1) := by decide +kernel
theorem dX5_add_29 : decode cX5_add 29 = .ok (.iconst 4, 1) := by decide +kernel
theorem dX5_add_30 : decode cX5_add 30 = .ok (.imul, 1) := by decide +kernel
theorem dX5_add_31 : decode cX5_add 31 = .ok (.aload_n 0, 1) := by decide +kernel
theorem dX5_add_32 : decode cX5_add 32 = .ok (.getfield 15, 3) := by decide +kernel
theorem dX5_add_35 : decode cX5_add 35 = .ok (.iload_n 1, 1) := by decide +kernel
theorem dX5_add_36 : decode cX5_add 36 = .ok (.iaload, 1) := by decide +kernel
theorem dX5_add_37 : decode cX5_add 37 = .ok (.iadd, 1) := by decide +kernel
theorem dX5_add_38 : decode cX5_add 38 = .ok (.iload_n 2, 1) := by decide +kernel
theorem dX5_add_39 : decode cX5_add 39 = .ok (.iastore, 1) := by decide +kernel
theorem dX5_add_40 : decode cX5_add 40 = .ok (.aload_n 0, 1) := by decide +kernel
theorem dX5_add_41 : decode cX5_add 41 = .ok (.getfield 15, 3) := by decide +kernel
theorem dX5_add_44 : decode cX5_add 44 = .ok (.iload_n 1, 1) := by decide +kernel
theorem dX5_add_45 : decode cX5_add 45 = .ok (.dup2, 1) := by decide +kernel
theorem dX5_add_46 : decode cX5_add 46 = .ok (.iaload, 1) := by decide +kernel
theorem dX5_add_47 : decode cX5_add 47 = .ok (.iconst 1, 1) := by decide +kernel
theorem dX5_add_48 : decode cX5_add 48 = .ok (.iadd, 1) := by decide +kernel
theorem dX5_add_49 : decode cX5_add 49 = .ok (.iastore, 1) := by decide +kernel
theorem dX5_add_50 : decode cX5_add 50 = .ok (.iconst 1, 1) := by decide +kernel
theorem dX5_add_51 : decode cX5_add 51 = .ok (.ireturn, 1) := by decide +kernel
theorem dX5_remove_0 : decode cX5_remove 0 = .ok (.aload_n 0, 1) := by decide +kernel
theorem dX5_remove_1 : decode cX5_remove 1 = .ok (.iload_n 1, 1) := by decide +kernel
theorem dX5_remove_2 : decode cX5_remove 2 = .ok (.iload_n 2, 1) := by decide +kernel
theorem dX5_remove_3 : decode cX5_remove 3 = .ok (.invokevirtual 27, 3) := by decide +kernel
theorem dX5_remove_6 : decode cX5_remove 6 = .ok (.istore_n 3, 1) := by decide +kernel
theorem dX5_remove_7 : decode cX5_remove 7 = .ok (.iload_n 3, 1) := by decide +kernel
theorem dX5_remove_8 : decode cX5_remove 8 = .ok (.iconst (-1), 1) := by decide +kernel
theorem dX5_remove_9 : decode cX5_remove 9 = .ok (.if_icmp .eq 38, 3) := by decide +kernel
theorem dX5_remove_12 : decode cX5_remove 12 = .ok (.aload_n 0, 1) := by decide +kernel
theorem dX5_remove_13 : decode cX5_remove 13 = .ok (.getfield 15, 3) := by decide +kernel
theorem dX5_remove_16 : decode cX5_remove 16 = .ok (.iload_n 1, 1) := by decide +kernel
theorem dX5_remove_17 : decode cX5_remove 17 = .ok (.dup2, 1) := by decide +kernel
theorem dX5_remove_18 : decode cX5_remove 18 = .ok (.iaload, 1) := by decide +kernel
theorem dX5_remove_19 : decode cX5_remove 19 = .ok (.iconst 1, 1) := by decide +kernel
theorem dX5_remove_20 : decode cX5_remove 20 = .ok (.isub, 1) := by decide +kernel
theorem dX5_remove_21 : decode cX5_remove 21 = .ok (.iastore, 1) := by decide +kernel
theorem dX5_remove_22 : decode cX5_remove 22 = .ok (.aload_n 0, 1) := by decide +kernel
theorem dX5_remove_23 : decode cX5_remove 23 = .ok (.getfield 9, 3) := by decide +kernel
theorem dX5_remove_26 : decode cX5_remove 26 = .ok (.iload_n 1, 1) := by decide +kernel
theorem dX5_remove_27 : decode cX5_remove 27 = .ok (.iconst 4, 1) := by decide +kernel
theorem dX5_remove_28 : decode cX5_remove 28 = .ok (.imul, 1) := by decide +kernel
theorem dX5_remove_29 : decode cX5_remove 29 = .ok (.iload_n 3, 1) := by decide +kernel
theorem dX5_remove_30 : decode cX5_remove 30 = .ok (.iadd, 1) := by decide +kernel
theorem dX5_remove_31 : decode cX5_remove 31 = .ok (.aload_n 0, 1) := by decide +kernel
theorem dX5_remove_32 : decode cX5_remove 32 = .ok (.getfield 9, 3) := by decide +kernel
theorem dX5_remove_35 : decode cX5_remove 35 = .ok (.iload_n 1, 1) := by decide +kernel
theorem dX5_remove_36 : decode cX5_remove 36 = .ok (.iconst 4, 1) := by decide +kernel
theorem dX5_remove_37 : decode cX5_remove 37 = .ok (.imul, 1) := by decide +kernel
theorem dX5_remove_38 : decode cX5_remove 38 = .ok (.aload_n 0, 1) := by decide +kernel
theorem dX5_remove_39 : decode cX5_remove 39 = .ok (.getfield 15, 3) := by decide +kernel
theorem dX5_remove_42 : decode cX5_remove 42 = .ok (.iload_n 1, 1) := by decide +kernel
theorem dX5_remove_43 : decode cX5_remove 43 = .ok (.iaload, 1) := by decide +kernel
theorem dX5_remove_44 : decode cX5_remove 44 = .ok (.iadd, 1) := by decide +kernel
theorem dX5_remove_45 : decode cX5_remove 45 = .ok (.iaload, 1) := by decide +kernel
theorem dX5_remove_46 : decode cX5_remove 46 = .ok (.iastore, 1) := by decide +kernel
theorem dX5_remove_47 : decode cX5_remove 47 = .ok (.return_, 1) := by decide +kernel
theorem dX5_indexOf_0 : decode cX5_indexOf 0 = .ok (.iconst 0, 1) := by decide +kernel
theorem dX5_indexOf_1 : decode cX5_indexOf 1 = .ok (.istore_n 3, 1) := by decide +kernel
theorem dX5_indexOf_2 : decode cX5_indexOf 2 = .ok (.iload_n 3, 1) := by decide +kernel
theorem dX5_indexOf_3 : decode cX5_indexOf 3 = .ok (.aload_n 0, 1) := by decide +kernel
theorem dX5_indexOf_4 : decode cX5_indexOf 4 = .ok (.getfield 15, 3) := by decide +kernel
theorem dX5_indexOf_7 : decode cX5_indexOf 7 = .ok (.iload_n 1, 1) := by decide +kernel
theorem dX5_indexOf_8 : decode cX5_indexOf 8 = .ok (.iaload, 1) := by decide +kernel
theorem dX5_indexOf_9 : decode cX5_indexOf 9 = .ok (.if_icmp .ge 21, 3) := by decide +kernel
theorem dX5_indexOf_12 : decode cX5_indexOf 12 = .ok (.aload_n 0, 1) := by decide +kernel
theorem dX5_indexOf_13 : decode cX5_indexOf 13 = .ok (.iload_n 1, 1) := by decide +kernel
theorem dX5_indexOf_14 : decode cX5_indexOf 14 = .ok (.iload_n 3, 1) := by decide +kernel
theorem dX5_indexOf_15 : decode cX5_indexOf 15 = .ok (.invokevirtual 31, 3) := by decide +kernel
theorem dX5_indexOf_18 : decode cX5_indexOf 18 = .ok (.iload_n 2, 1) := by decide +kernel
theorem dX5_indexOf_19 : decode cX5_indexOf 19 = .ok (.if_icmp .ne 5, 3) := by decide +kernel
theorem dX5_indexOf_22 : decode cX5_indexOf 22 = .ok (.iload_n 3, 1) := by decide +kernel
theorem dX5_indexOf_23 : decode cX5_indexOf 23 = .ok (.ireturn, 1) := by decide +kernel
theorem dX5_indexOf_24 : decode cX5_indexOf 24 = .ok (.iinc 3 1, 3) := by decide +kernel
theorem dX5_indexOf_27 : decode cX5_indexOf 27 = .ok (.goto (-25), 3) := by decide +kernel
theorem dX5_indexOf_30 : decode cX5_indexOf 30 = .ok (.iconst (-1), 1) := by decide +kernel
theorem dX5_indexOf_31 : decode cX5_indexOf 31 = .ok (.ireturn, 1) := by decide +kernel
theorem dX5_nextCount_0 : decode cX5_nextCount 0 = .ok (.aload_n 0, 1) := by decide +kernel
theorem dX5_nextCount_1 : decode cX5_nextCount 1 = .ok (.getfield 15, 3) := by decide +kernel
theorem dX5_nextCount_4 : decode cX5_nextCount 4 = .ok (.iload_n 1, 1) := by decide +kernel
theorem dX5_nextCount_5 : decode cX5_nextCount 5 = .ok (.iaload, 1) := by decide +kernel
theorem dX5_nextCount_6 : decode cX5_nextCount 6 = .ok (.ireturn, 1) := by decide +kernel
theorem dX5_nextOf_0 : decode cX5_nextOf 0 = .ok (.aload_n 0, 1) := by decide +kernel
theorem dX5_nextOf_1 : decode cX5_nextOf 1 = .ok (.getfield 9, 3) := by decide +kernel
theorem dX5_nextOf_4 : decode cX5_nextOf 4 = .ok (.iload_n 1, 1) := by decide +kernel
theorem dX5_nextOf_5 : decode cX5_nextOf 5 = .ok (.iconst 4, 1) := by decide +kernel
theorem dX5_nextOf_6 : decode cX5_nextOf 6 = .ok (.imul, 1) := by decide +kernel
theorem dX5_nextOf_7 : decode cX5_nextOf 7 = .ok (.iload_n 2, 1) := by decide +kernel
theorem dX5_nextOf_8 : decode cX5_nextOf 8 = .ok (.iadd, 1) := by decide +kernel
theorem dX5_nextOf_9 : decode cX5_nextOf 9 = .ok (.iaload, 1) := by decide +kernel
theorem dX5_nextOf_10 : decode cX5_nextOf 10 = .ok (.ireturn, 1) := by decide +kernel
theorem dX5_walk_0 : decode cX5_walk 0 = .ok (.aload_n 0, 1) := by decide +kernel
theorem dX5_walk_1 : decode cX5_walk 1 = .ok (.getfield 18, 3) := by decide +kernel
theorem dX5_walk_4 : decode cX5_walk 4 = .ok (.iconst (-1), 1) := by decide +kernel
theorem dX5_walk_5 : decode cX5_walk 5 = .ok (.invokestatic 34, 3) := by decide +kernel
theorem dX5_walk_8 : decode cX5_walk 8 = .ok (.aload_n 0, 1) := by decide +kernel
theorem dX5_walk_9 : decode cX5_walk 9 = .ok (.iconst 0, 1) := by decide +kernel
theorem dX5_walk_10 : decode cX5_walk 10 = .ok (.putfield 40, 3) := by decide +kernel
theorem dX5_walk_13 : decode cX5_walk 13 = .ok (.aload_n 0, 1) := by decide +kernel
theorem dX5_walk_14 : decode cX5_walk 14 = .ok (.getfield 21, 3) := by decide +kernel
theorem dX5_walk_17 : decode cX5_walk 17 = .ok (.iconst 0, 1) := by decide +kernel
theorem dX5_walk_18 : decode cX5_walk 18 = .ok (.iconst 0, 1) := by decide +kernel
theorem dX5_walk_19 : decode cX5_walk 19 = .ok (.iastore, 1) := by decide +kernel
theorem dX5_walk_20 : decode cX5_walk 20 = .ok (.aload_n 0, 1) := by decide +kernel
theorem dX5_walk_21 : decode cX5_walk 21 = .ok (.getfield 18, 3) := by decide +kernel
theorem dX5_walk_24 : decode cX5_walk 24 = .ok (.iconst 0, 1) := by decide +kernel
theorem dX5_walk_25 : decode cX5_walk 25 = .ok (.iconst 0, 1) := by decide +kernel
theorem dX5_walk_26 : decode cX5_walk 26 = .ok (.iastore, 1) := by decide +kernel
theorem dX5_walk_27 : decode cX5_walk 27 = .ok (.iconst 1, 1) := by decide +kernel
theorem dX5_walk_28 : decode cX5_walk 28 = .ok (.istore_n 1, 1) := by decide +kernel
theorem dX5_walk_29 : decode cX5_walk 29 = .ok (.iconst 0, 1) := by decide +kernel
theorem dX5_walk_30 : decode cX5_walk 30 = .ok (.istore_n 2, 1) := by decide +kernel
theorem dX5_walk_31 : decode cX5_walk 31 = .ok (.iload_n 2, 1) := by decide +kernel
theorem dX5_walk_32 : decode cX5_walk 32 = .ok (.sipush 750, 3) := by decide +kernel
theorem dX5_walk_35 : decode cX5_walk 35 = .ok (.if_icmp .ge 116, 3) := by decide +kernel
theorem dX5_walk_38 : decode cX5_walk 38 = .ok (.iload_n 1, 1) := by decide +kernel
theorem dX5_walk_39 : decode cX5_walk 39 = .ok (.ifCond .le 112, 3) := by decide +kernel
theorem dX5_walk_42 : decode cX5_walk 42 = .ok (.aload_n 0, 1) := by decide +kernel
theorem dX5_walk_43 : decode cX5_walk 43 = .ok (.getfield 21, 3) := by decide +kernel
theorem dX5_walk_46 : decode cX5_walk 46 = .ok (.iload_n 1, 1) := by decide +kernel
theorem dX5_walk_47 : decode cX5_walk 47 = .ok (.iconst 1, 1) := by decide +kernel
theorem dX5_walk_48 : decode cX5_walk 48 = .ok (.isub, 1) := by decide +kernel
theorem dX5_walk_49 : decode cX5_walk 49 = .ok (.iaload, 1) := by decide +kernel
theorem dX5_walk_50 : decode cX5_walk 50 = .ok (.istore_n 3, 1) := by decide +kernel
theorem dX5_walk_51 : decode cX5_walk 51 = .ok (.aload_n 0, 1) := by decide +kernel
theorem dX5_walk_52 : decode cX5_walk 52 = .ok (.getfield 18, 3) := by decide +kernel
theorem dX5_walk_55 : decode cX5_walk 55 = .ok (.iload_n 3, 1) := by decide +kernel
theorem dX5_walk_56 : decode cX5_walk 56 = .ok (.iaload, 1) := by decide +kernel
theorem dX5_walk_57 : decode cX5_walk 57 = .ok (.aload_n 0, 1) := by decide +kernel
theorem dX5_walk_58 : decode cX5_walk 58 = .ok (.getfield 15, 3) := by decide +kernel
theorem dX5_walk_61 : decode cX5_walk 61 = .ok (.iload_n 3, 1) := by decide +kernel
theorem dX5_walk_62 : decode cX5_walk 62 = .ok (.iaload, 1) := by decide +kernel
theorem dX5_walk_63 : decode cX5_walk 63 = .ok (.if_icmp .lt 29, 3) := by decide +kernel
theorem dX5_walk_66 : decode cX5_walk 66 = .ok (.aload_n 0, 1) := by decide +kernel
theorem dX5_walk_67 : decode cX5_walk 67 = .ok (.getfield 24, 3) := by decide +kernel
theorem dX5_walk_70 : decode cX5_walk 70 = .ok (.aload_n 0, 1) := by decide +kernel
theorem dX5_walk_71 : decode cX5_walk 71 = .ok (.getfield 40, 3) := by decide +kernel
theorem dX5_walk_74 : decode cX5_walk 74 = .ok (.iload_n 3, 1) := by decide +kernel
theorem dX5_walk_75 : decode cX5_walk 75 = .ok (.iastore, 1) := by decide +kernel
theorem dX5_walk_76 : decode cX5_walk 76 = .ok (.aload_n 0, 1) := by decide +kernel
theorem dX5_walk_77 : decode cX5_walk 77 = .ok (.dup, 1) := by decide +kernel
theorem dX5_walk_78 : decode cX5_walk 78 = .ok (.getfield 40, 3) := by decide +kernel
theorem dX5_walk_81 : decode cX5_walk 81 = .ok (.iconst 1, 1) := by decide +kernel
theorem dX5_walk_82 : decode cX5_walk 82 = .ok (.iadd, 1) := by decide +kernel
theorem dX5_walk_83 : decode cX5_walk 83 = .ok (.putfield 40, 3) := by decide +kernel
theorem dX5_walk_86 : decode cX5_walk 86 = .ok (.iinc 1 (-1), 3) := by decide +kernel
theorem dX5_walk_89 : decode cX5_walk 89 = .ok (.goto 56, 3) := by decide +kernel
theorem dX5_walk_92 : decode cX5_walk 92 = .ok (.aload_n 0, 1) := by decide +kernel
theorem dX5_walk_93 : decode cX5_walk 93 = .ok (.iload_n 3, 1) := by decide +kernel
theorem dX5_walk_94 : decode cX5_walk 94 = .ok (.aload_n 0, 1) := by decide +kernel
theorem dX5_walk_95 : decode cX5_walk 95 = .ok (.getfield 18, 3) := by decide +kernel
theorem dX5_walk_98 : decode cX5_walk 98 = .ok (.iload_n 3, 1) := by decide +kernel
theorem dX5_walk_99 : decode cX5_walk 99 = .ok (.iaload, 1) := by decide +kernel
theorem dX5_walk_100 : decode cX5_walk 100 = .ok (.invokevirtual 31, 3) := by decide +kernel
theorem dX5_walk_103 : decode cX5_walk 103 = .ok (.istore 4, 2) := by decide +kernel
theorem dX5_walk_105 : decode cX5_walk 105 = .ok (.aload_n 0, 1) := by decide +kernel
theorem dX5_walk_106 : decode cX5_walk 106 = .ok (.getfield 18, 3) := by decide +kernel
theorem dX5_walk_109 : decode cX5_walk 109 = .ok (.iload_n 3, 1) := by decide +kernel
theorem dX5_walk_110 : decode cX5_walk 110 = .ok (.dup2, 1) := by decide +kernel
theorem dX5_walk_111 : decode cX5_walk 111 = .ok (.iaload, 1) := by decide +kernel
theorem dX5_walk_112 : decode cX5_walk 112 = .ok (.iconst 1, 1) := by decide +kernel
theorem dX5_walk_113 : decode cX5_walk 113 = .ok (.iadd, 1) := by decide +kernel
theorem dX5_walk_114 : decode cX5_walk 114 = .ok (.iastore, 1) := by decide +kernel
theorem dX5_walk_115 : decode cX5_walk 115 = .ok (.aload_n 0, 1) := by decide +kernel
theorem dX5_walk_116 : decode cX5_walk 116 = .ok (.getfield 18, 3) := by decide +kernel
theorem dX5_walk_119 : decode cX5_walk 119 = .ok (.iload 4, 2) := by decide +kernel
theorem dX5_walk_121 : decode cX5_walk 121 = .ok (.iaload, 1) := by decide +kernel
theorem dX5_walk_122 : decode cX5_walk 122 = .ok (.iconst (-1), 1) := by decide +kernel
theorem dX5_walk_123 : decode cX5_walk 123 = .ok (.if_icmp .ne 22, 3) := by decide +kernel
theorem dX5_walk_126 : decode cX5_walk 126 = .ok (.aload_n 0, 1) := by decide +kernel
theorem dX5_walk_127 : decode cX5_walk 127 = .ok (.getfield 18, 3) := by decide +kernel
theorem dX5_walk_130 : decode cX5_walk 130 = .ok (.iload 4, 2) := by decide +kernel
theorem dX5_walk_132 : decode cX5_walk 132 = .ok (.iconst 0, 1) := by decide +kernel
theorem dX5_walk_133 : decode cX5_walk 133 = .ok (.iastore, 1) := by decide +kernel
theorem dX5_walk_134 : decode cX5_walk 134 = .ok (.aload_n 0, 1) := by decide +kernel
theorem dX5_walk_135 : decode cX5_walk 135 = .ok (.getfield 21, 3) := by decide +kernel
theorem dX5_walk_138 : decode cX5_walk 138 = .ok (.iload_n 1, 1) := by decide +kernel
theorem dX5_walk_139 : decode cX5_walk 139 = .ok (.iload 4, 2) := by decide +kernel
theorem dX5_walk_141 : decode cX5_walk 141 = .ok (.iastore, 1) := by decide +kernel
theorem dX5_walk_142 : decode cX5_walk 142 = .ok (.iinc 1 1, 3) := by decide +kernel
theorem dX5_walk_145 : decode cX5_walk 145 = .ok (.iinc 2 1, 3) := by decide +kernel
theorem dX5_walk_148 : decode cX5_walk 148 = .ok (.goto (-117), 3) := by decide +kernel
theorem dX5_walk_151 : decode cX5_walk 151 = .ok (.return_, 1) := by decide +kernel
theorem dX5_comeTo_0 : decode cX5_comeTo 0 = .ok (.aload_n 0, 1) := by decide +kernel
theorem dX5_comeTo_1 : decode cX5_comeTo 1 = .ok (.getfield 18, 3) := by decide +kernel
theorem dX5_comeTo_4 : decode cX5_comeTo 4 = .ok (.iload_n 1, 1) := by decide +kernel
theorem dX5_comeTo_5 : decode cX5_comeTo 5 = .ok (.iaload, 1) := by decide +kernel
theorem dX5_comeTo_6 : decode cX5_comeTo 6 = .ok (.iconst (-1), 1) := by decide +kernel
theorem dX5_comeTo_7 : decode cX5_comeTo 7 = .ok (.if_icmp .eq 7, 3) := by decide +kernel
theorem dX5_comeTo_10 : decode cX5_comeTo 10 = .ok (.iconst 1, 1) := by decide +kernel
theorem dX5_comeTo_11 : decode cX5_comeTo 11 = .ok (.goto 4, 3) := by decide +kernel
theorem dX5_comeTo_14 : decode cX5_comeTo 14 = .ok (.iconst 0, 1) := by decide +kernel
theorem dX5_comeTo_15 : decode cX5_comeTo 15 = .ok (.ireturn, 1) := by decide +kernel
theorem dX5_size_0 : decode cX5_size 0 = .ok (.aload_n 0, 1) := by decide +kernel
theorem dX5_size_1 : decode cX5_size 1 = .ok (.getfield 40, 3) := by decide +kernel
theorem dX5_size_4 : decode cX5_size 4 = .ok (.ireturn, 1) := by decide +kernel
theorem dX5_fromTheEnd_0 : decode cX5_fromTheEnd 0 = .ok (.aload_n 0, 1) := by decide +kernel
theorem dX5_fromTheEnd_1 : decode cX5_fromTheEnd 1 = .ok (.getfield 24, 3) := by decide +kernel
theorem dX5_fromTheEnd_4 : decode cX5_fromTheEnd 4 = .ok (.iload_n 1, 1) := by decide +kernel
theorem dX5_fromTheEnd_5 : decode cX5_fromTheEnd 5 = .ok (.iaload, 1) := by decide +kernel
theorem dX5_fromTheEnd_6 : decode cX5_fromTheEnd 6 = .ok (.ireturn, 1) := by decide +kernel
theorem dX5_fromTheBeginning_0 : decode cX5_fromTheBeginning 0 = .ok (.aload_n 0, 1) := by decide +kernel
theorem dX5_fromTheBeginning_1 : decode cX5_fromTheBeginning 1 = .ok (.getfield 24, 3) := by decide +kernel
theorem dX5_fromTheBeginning_4 : decode cX5_fromTheBeginning 4 = .ok (.aload_n 0, 1) := by decide +kernel
theorem dX5_fromTheBeginning_5 : decode cX5_fromTheBeginning 5 = .ok (.getfield 40, 3) := by decide +kernel
theorem dX5_fromTheBeginning_8 : decode cX5_fromTheBeginning 8 = .ok (.iconst 1, 1) := by decide +kernel
theorem dX5_fromTheBeginning_9 : decode cX5_fromTheBeginning 9 = .ok (.isub, 1) := by decide +kernel
theorem dX5_fromTheBeginning_10 : decode cX5_fromTheBeginning 10 = .ok (.iload_n 1, 1) := by decide +kernel
theorem dX5_fromTheBeginning_11 : decode cX5_fromTheBeginning 11 = .ok (.isub, 1) := by decide +kernel
theorem dX5_fromTheBeginning_12 : decode cX5_fromTheBeginning 12 = .ok (.iaload, 1) := by decide +kernel
theorem dX5_fromTheBeginning_13 : decode cX5_fromTheBeginning 13 = .ok (.ireturn, 1) := by decide +kernel
end
section
theorem dX2_init_0 : decode cX2_init 0 = .ok (.aload_n 0, 1) := by decide +kernel
theorem dX2_init_1 : decode cX2_init 1 = .ok (.invokespecial 3, 3) := by decide +kernel
theorem dX2_init_4 : decode cX2_init 4 = .ok (.aload_n 0, 1) := by decide +kernel
theorem dX2_init_5 : decode cX2_init 5 = .ok (.bipush 60, 2) := by decide +kernel
theorem dX2_init_7 : decode cX2_init 7 = .ok (.newarray .int, 2) := by decide +kernel
theorem dX2_init_9 : decode cX2_init 9 = .ok (.putfield 9, 3) := by decide +kernel
theorem dX2_init_12 : decode cX2_init 12 = .ok (.aload_n 0, 1) := by decide +kernel
theorem dX2_init_13 : decode cX2_init 13 = .ok (.sipush 150, 3) := by decide +kernel
theorem dX2_init_16 : decode cX2_init 16 = .ok (.newarray .long, 2) := by decide +kernel
theorem dX2_init_18 : decode cX2_init 18 = .ok (.putfield 15, 3) := by decide +kernel
theorem dX2_init_21 : decode cX2_init 21 = .ok (.aload_n 0, 1) := by decide +kernel
theorem dX2_init_22 : decode cX2_init 22 = .ok (.bipush 16, 2) := by decide +kernel
theorem dX2_init_24 : decode cX2_init 24 = .ok (.newarray .long, 2) := by decide +kernel
theorem dX2_init_26 : decode cX2_init 26 = .ok (.putfield 19, 3) := by decide +kernel
theorem dX2_init_29 : decode cX2_init 29 = .ok (.aload_n 0, 1) := by decide +kernel
theorem dX2_init_30 : decode cX2_init 30 = .ok (.sipush 2400, 3) := by decide +kernel
theorem dX2_init_33 : decode cX2_init 33 = .ok (.newarray .long, 2) := by decide +kernel
theorem dX2_init_35 : decode cX2_init 35 = .ok (.putfield 22, 3) := by decide +kernel
theorem dX2_init_38 : decode cX2_init 38 = .ok (.aload_n 0, 1) := by decide +kernel
theorem dX2_init_39 : decode cX2_init 39 = .ok (.bipush 16, 2) := by decide +kernel
theorem dX2_init_41 : decode cX2_init 41 = .ok (.newarray .long, 2) := by decide +kernel
theorem dX2_init_43 : decode cX2_init 43 = .ok (.putfield 25, 3) := by decide +kernel
theorem dX2_init_46 : decode cX2_init 46 = .ok (.aload_n 0, 1) := by decide +kernel
theorem dX2_init_47 : decode cX2_init 47 = .ok (.sipush 150, 3) := by decide +kernel
theorem dX2_init_50 : decode cX2_init 50 = .ok (.newarray .int, 2) := by decide +kernel
theorem dX2_init_52 : decode cX2_init 52 = .ok (.putfield 28, 3) := by decide +kernel
theorem dX2_init_55 : decode cX2_init 55 = .ok (.aload_n 0, 1) := by decide +kernel
theorem dX2_init_56 : decode cX2_init 56 = .ok (.aload_n 1, 1) := by decide +kernel
theorem dX2_init_57 : decode cX2_init 57 = .ok (.putfield 31, 3) := by decide +kernel
theorem dX2_init_60 : decode cX2_init 60 = .ok (.aload_n 0, 1) := by decide +kernel
theorem dX2_init_61 : decode cX2_init 61 = .ok (.aload_n 2, 1) := by decide +kernel
theorem dX2_init_62 : decode cX2_init 62 = .ok (.putfield 35, 3) := by decide +kernel
theorem dX2_init_65 : decode cX2_init 65 = .ok (.aload_n 0, 1) := by decide +kernel
theorem dX2_init_66 : decode cX2_init 66 = .ok (.aload_n 3, 1) := by decide +kernel
theorem dX2_init_67 : decode cX2_init 67 = .ok (.putfield 39, 3) := by decide +kernel
theorem dX2_init_70 : decode cX2_init 70 = .ok (.return_, 1) := by decide +kernel
theorem dX2_number_0 : decode cX2_number 0 = .ok (.aload_n 0, 1) := by decide +kernel
theorem dX2_number_1 : decode cX2_number 1 = .ok (.getfield 15, 3) := by decide +kernel
theorem dX2_number_4 : decode cX2_number 4 = .ok (.lconst 0, 1) := by decide +kernel
theorem dX2_number_5 : decode cX2_number 5 = .ok (.invokestatic 43, 3) := by decide +kernel
theorem dX2_number_8 : decode cX2_number 8 = .ok (.aload_n 0, 1) := by decide +kernel
theorem dX2_number_9 : decode cX2_number 9 = .ok (.getfield 19, 3) := by decide +kernel
theorem dX2_number_12 : decode cX2_number 12 = .ok (.lconst 0, 1) := by decide +kernel
theorem dX2_number_13 : decode cX2_number 13 = .ok (.invokestatic 43, 3) := by decide +kernel
theorem dX2_number_16 : decode cX2_number 16 = .ok (.aload_n 0, 1) := by decide +kernel
theorem dX2_number_17 : decode cX2_number 17 = .ok (.lconst 0, 1) := by decide +kernel
theorem dX2_number_18 : decode cX2_number 18 = .ok (.putfield 49, 3) := by decide +kernel
theorem dX2_number_21 : decode cX2_number 21 = .ok (.aload_n 0, 1) := by decide +kernel
theorem dX2_number_22 : decode cX2_number 22 = .ok (.iconst 0, 1) := by decide +kernel
theorem dX2_number_23 : decode cX2_number 23 = .ok (.putfield 53, 3) := by decide +kernel
theorem dX2_number_26 : decode cX2_number 26 = .ok (.iconst 0, 1) := by decide +kernel
theorem dX2_number_27 : decode cX2_number 27 = .ok (.istore_n 1, 1) := by decide +kernel
theorem dX2_number_28 : decode cX2_number 28 = .ok (.iload_n 1, 1) := by decide +kernel
theorem dX2_number_29 : decode cX2_number 29 = .ok (.sipush 150, 3) := by decide +kernel
theorem dX2_number_32 : decode cX2_number 32 = .ok (.if_icmp .ge 113, 3) := by decide +kernel
theorem dX2_number_35 : decode cX2_number 35 = .ok (.aload_n 0, 1) := by decide +kernel
theorem dX2_number_36 : decode cX2_number 36 = .ok (.getfield 53, 3) := by decide +kernel
theorem dX2_number_39 : decode cX2_number 39 = .ok (.bipush 60, 2) := by decide +kernel
theorem dX2_number_41 : decode cX2_number 41 = .ok (.if_icmp .ge 104, 3) := by decide +kernel
theorem dX2_number_44 : decode cX2_number 44 = .ok (.aload_n 0, 1) := by decide +kernel
theorem dX2_number_45 : decode cX2_number 45 = .ok (.getfield 35, 3) := by decide +kernel
theorem dX2_number_48 : decode cX2_number 48 = .ok (.iload_n 1, 1) := by decide +kernel
theorem dX2_number_49 : decode cX2_number 49 = .ok (.invokevirtual 57, 3) := by decide +kernel
theorem dX2_number_52 : decode cX2_number 52 = .ok (.ifCond .eq 87, 3) := by decide +kernel
theorem dX2_number_55 : decode cX2_number 55 = .ok (.aload_n 0, 1) := by decide +kernel
theorem dX2_number_56 : decode cX2_number 56 = .ok (.getfield 15, 3) := by decide +kernel
theorem dX2_number_59 : decode cX2_number 59 = .ok (.iload_n 1, 1) := by decide +kernel
theorem dX2_number_60 : decode cX2_number 60 = .ok (.lconst 1, 1) := by decide +kernel
theorem dX2_number_61 : decode cX2_number 61 = .ok (.aload_n 0, 1) := by decide +kernel
theorem dX2_number_62 : decode cX2_number 62 = .ok (.getfield 53, 3) := by decide +kernel
theorem dX2_number_65 : decode cX2_number 65 = .ok (.lshl, 1) := by decide +kernel
theorem dX2_number_66 : decode cX2_number 66 = .ok (.lastore, 1) := by decide +kernel
theorem dX2_number_67 : decode cX2_number 67 = .ok (.aload_n 0, 1) := by decide +kernel
theorem dX2_number_68 : decode cX2_number 68 = .ok (.getfield 9, 3) := by decide +kernel
theorem dX2_number_71 : decode cX2_number 71 = .ok (.aload_n 0, 1) := by decide +kernel
theorem dX2_number_72 : decode cX2_number 72 = .ok (.getfield 53, 3) := by decide +kernel
theorem dX2_number_75 : decode cX2_number 75 = .ok (.iload_n 1, 1) := by decide +kernel
theorem dX2_number_76 : decode cX2_number 76 = .ok (.iastore, 1) := by decide +kernel
theorem dX2_number_77 : decode cX2_number 77 = .ok (.aload_n 0, 1) := by decide +kernel
theorem dX2_number_78 : decode cX2_number 78 = .ok (.dup, 1) := by decide +kernel
theorem dX2_number_79 : decode cX2_number 79 = .ok (.getfield 53, 3) := by decide +kernel
theorem dX2_number_82 : decode cX2_number 82 = .ok (.iconst 1, 1) := by decide +kernel
theorem dX2_number_83 : decode cX2_number 83 = .ok (.iadd, 1) := by decide +kernel
theorem dX2_number_84 : decode cX2_number 84 = .ok (.putfield 53, 3) := by decide +kernel
theorem dX2_number_87 : decode cX2_number 87 = .ok (.aload_n 0, 1) := by decide +kernel
theorem dX2_number_88 : decode cX2_number 88 = .ok (.getfield 19, 3) := by decide +kernel
theorem dX2_number_91 : decode cX2_number 91 = .ok (.aload_n 0, 1) := by decide +kernel
theorem dX2_number_92 : decode cX2_number 92 = .ok (.getfield 35, 3) := by decide +kernel
theorem dX2_number_95 : decode cX2_number 95 = .ok (.iload_n 1, 1) := by decide +kernel
theorem dX2_number_96 : decode cX2_number 96 = .ok (.invokevirtual 63, 3) := by decide +kernel
theorem dX2_number_99 : decode cX2_number 99 = .ok (.dup2, 1) := by decide +kernel
theorem dX2_number_100 : decode cX2_number 100 = .ok (.laload, 1) := by decide +kernel
theorem dX2_number_101 : decode cX2_number 101 = .ok (.aload_n 0, 1) := by decide +kernel
theorem dX2_number_102 : decode cX2_number 102 = .ok (.getfield 15, 3) := by decide +kernel
theorem dX2_number_105 : decode cX2_number 105 = .ok (.iload_n 1, 1) := by decide +kernel
theorem dX2_number_106 : decode cX2_number 106 = .ok (.laload, 1) := by decide +kernel
theorem dX2_number_107 : decode cX2_number 107 = .ok (.lor, 1) := by decide +kernel
theorem dX2_number_108 : decode cX2_number 108 = .ok (.lastore, 1) := by decide +kernel
theorem dX2_number_109 : decode cX2_number 109 = .ok (.aload_n 0, 1) := by decide +kernel
theorem dX2_number_110 : decode cX2_number 110 = .ok (.dup, 1) := by decide +kernel
theorem dX2_number_111 : decode cX2_number 111 = .ok (.getfield 49, 3) := by decide +kernel
theorem dX2_number_114 : decode cX2_number 114 = .ok (.aload_n 0, 1) := by decide +kernel
theorem dX2_number_115 : decode cX2_number 115 = .ok (.getfield 35, 3) := by decide +kernel
theorem dX2_number_118 : decode cX2_number 118 = .ok (.iload_n 1, 1) := by decide +kernel
theorem dX2_number_119 : decode cX2_number 119 = .ok (.invokevirtual 67, 3) := by decide +kernel
theorem dX2_number_122 : decode cX2_number 122 = .ok (.ifCond .eq 12, 3) := by decide +kernel
theorem dX2_number_125 : decode cX2_number 125 = .ok (.aload_n 0, 1) := by decide +kernel
theorem dX2_number_126 : decode cX2_number 126 = .ok (.getfield 15, 3) := by decide +kernel
theorem dX2_number_129 : decode cX2_number 129 = .ok (.iload_n 1, 1) := by decide +kernel
theorem dX2_number_130 : decode cX2_number 130 = .ok (.laload, 1) := by decide +kernel
theorem dX2_number_131 : decode cX2_number 131 = .ok (.goto 4, 3) := by decide +kernel
theorem dX2_number_134 : decode cX2_number 134 = .ok (.lconst 0, 1) := by decide +kernel
theorem dX2_number_135 : decode cX2_number 135 = .ok (.lor, 1) := by decide +kernel
theorem dX2_number_136 : decode cX2_number 136 = .ok (.putfield 49, 3) := by decide +kernel
theorem dX2_number_139 : decode cX2_number 139 = .ok (.iinc 1 1, 3) := by decide +kernel
theorem dX2_number_142 : decode cX2_number 142 = .ok (.goto (-114), 3) := by decide +kernel
theorem dX2_number_145 : decode cX2_number 145 = .ok (.return_, 1) := by decide +kernel
theorem dX2_flowHoldings_0 : decode cX2_flowHoldings 0 = .ok (.aload_n 0, 1) := by decide +kernel
theorem dX2_flowHoldings_1 : decode cX2_flowHoldings 1 = .ok (.getfield 22, 3) := by decide +kernel
theorem dX2_flowHoldings_4 : decode cX2_flowHoldings 4 = .ok (.lconst 0, 1) := by decide +kernel
theorem dX2_flowHoldings_5 : decode cX2_flowHoldings 5 = .ok (.invokestatic 43, 3) := by decide +kernel
theorem dX2_flowHoldings_8 : decode cX2_flowHoldings 8 = .ok (.aload_n 0, 1) := by decide +kernel
theorem dX2_flowHoldings_9 : decode cX2_flowHoldings 9 = .ok (.getfield 53, 3) := by decide +kernel
theorem dX2_flowHoldings_12 : decode cX2_flowHoldings 12 = .ok (.ifCond .le 7, 3) := by decide +kernel
theorem dX2_flowHoldings_15 : decode cX2_flowHoldings 15 = .ok (.iconst 1, 1) := by decide +kernel
theorem dX2_flowHoldings_16 : decode cX2_flowHoldings 16 = .ok (.goto 4, 3) := by decide +kernel
theorem dX2_flowHoldings_19 : decode cX2_flowHoldings 19 = .ok (.iconst 0, 1) := by decide +kernel
theorem dX2_flowHoldings_20 : decode cX2_flowHoldings 20 = .ok (.istore_n 1, 1) := by decide +kernel
theorem dX2_flowHoldings_21 : decode cX2_flowHoldings 21 = .ok (.iconst 0, 1) := by decide +kernel
theorem dX2_flowHoldings_22 : decode cX2_flowHoldings 22 = .ok (.istore_n 2, 1) := by decide +kernel
theorem dX2_flowHoldings_23 : decode cX2_flowHoldings 23 = .ok (.iload_n 2, 1) := by decide +kernel
theorem dX2_flowHoldings_24 : decode cX2_flowHoldings 24 = .ok (.ldc 70, 2) := by decide +kernel
theorem dX2_flowHoldings_26 : decode cX2_flowHoldings 26 = .ok (.if_icmp .ge 51, 3) := by decide +kernel
theorem dX2_flowHoldings_29 : decode cX2_flowHoldings 29 = .ok (.iload_n 1, 1) := by decide +kernel
theorem dX2_flowHoldings_30 : decode cX2_flowHoldings 30 = .ok (.ifCond .eq 47, 3) := by decide +kernel
theorem dX2_flowHoldings_33 : decode cX2_flowHoldings 33 = .ok (.iconst 0, 1) := by decide +kernel
theorem dX2_flowHoldings_34 : decode cX2_flowHoldings 34 = .ok (.istore_n 1, 1) := by decide +kernel
theorem dX2_flowHoldings_35 : decode cX2_flowHoldings 35 = .ok (.iconst 0, 1) := by decide +kernel
theorem dX2_flowHoldings_36 : decode cX2_flowHoldings 36 = .ok (.istore_n 3, 1) := by decide +kernel
theorem dX2_flowHoldings_37 : decode cX2_flowHoldings 37 = .ok (.iload_n 3, 1) := by decide +kernel
theorem dX2_flowHoldings_38 : decode cX2_flowHoldings 38 = .ok (.aload_n 0, 1) := by decide +kernel
theorem dX2_flowHoldings_39 : decode cX2_flowHoldings 39 = .ok (.getfield 39, 3) := by decide +kernel
theorem dX2_flowHoldings_42 : decode cX2_flowHoldings 42 = .ok (.invokevirtual 71, 3) := by decide +kernel
theorem dX2_flowHoldings_45 : decode cX2_flowHoldings 45 = .ok (.if_icmp .ge 26, 3) := by decide +kernel
theorem dX2_flowHoldings_48 : decode cX2_flowHoldings 48 = .ok (.aload_n 0, 1) := by decide +kernel
theorem dX2_flowHoldings_49 : decode cX2_flowHoldings 49 = .ok (.aload_n 0, 1) := by decide +kernel
theorem dX2_flowHoldings_50 : decode cX2_flowHoldings 50 = .ok (.getfield 39, 3) := by decide +kernel
theorem dX2_flowHoldings_53 : decode cX2_flowHoldings 53 = .ok (.iload_n 3, 1) := by decide +kernel
theorem dX2_flowHoldings_54 : decode cX2_flowHoldings 54 = .ok (.invokevirtual 77, 3) := by decide +kernel
theorem dX2_flowHoldings_57 : decode cX2_flowHoldings 57 = .ok (.invokevirtual 80, 3) := by decide +kernel
theorem dX2_flowHoldings_60 : decode cX2_flowHoldings 60 = .ok (.ifCond .eq 5, 3) := by decide +kernel
theorem dX2_flowHoldings_63 : decode cX2_flowHoldings 63 = .ok (.iconst 1, 1) := by decide +kernel
theorem dX2_flowHoldings_64 : decode cX2_flowHoldings 64 = .ok (.istore_n 1, 1) := by decide +kernel
theorem dX2_flowHoldings_65 : decode cX2_flowHoldings 65 = .ok (.iinc 3 1, 3) := by decide +kernel
theorem dX2_flowHoldings_68 : decode cX2_flowHoldings 68 = .ok (.goto (-31), 3) := by decide +kernel
theorem dX2_flowHoldings_71 : decode cX2_flowHoldings 71 = .ok (.iinc 2 1, 3) := by decide +kernel
theorem dX2_flowHoldings_74 : decode cX2_flowHoldings 74 = .ok (.goto (-51), 3) := by decide +kernel
theorem dX2_flowHoldings_77 : decode cX2_flowHoldings 77 = .ok (.return_, 1) := by decide +kernel
theorem dX2_handOn_0 : decode cX2_handOn 0 = .ok (.aload_n 0, 1) := by decide +kernel
theorem dX2_handOn_1 : decode cX2_handOn 1 = .ok (.getfield 22, 3) := by decide +kernel
theorem dX2_handOn_4 : decode cX2_handOn 4 = .ok (.iload_n 1, 1) := by decide +kernel
theorem dX2_handOn_5 : decode cX2_handOn 5 = .ok (.bipush 16, 2) := by decide +kernel
theorem dX2_handOn_7 : decode cX2_handOn 7 = .ok (.imul, 1) := by decide +kernel
theorem dX2_handOn_8 : decode cX2_handOn 8 = .ok (.aload_n 0, 1) := by decide +kernel
theorem dX2_handOn_9 : decode cX2_handOn 9 = .ok (.getfield 25, 3) := by decide +kernel
theorem dX2_handOn_12 : decode cX2_handOn 12 = .ok (.iconst 0, 1) := by decide +kernel
theorem dX2_handOn_13 : decode cX2_handOn 13 = .ok (.bipush 16, 2) := by decide +kernel
theorem dX2_handOn_15 : decode cX2_handOn 15 = .ok (.invokestatic 83, 3) := by decide +kernel
theorem dX2_handOn_18 : decode cX2_handOn 18 = .ok (.aload_n 0, 1) := by decide +kernel
theorem dX2_handOn_19 : decode cX2_handOn 19 = .ok (.iload_n 1, 1) := by decide +kernel
theorem dX2_handOn_20 : decode cX2_handOn 20 = .ok (.invokevirtual 89, 3) := by decide +kernel
theorem dX2_handOn_23 : decode cX2_handOn 23 = .ok (.iconst 0, 1) := by decide +kernel
theorem dX2_handOn_24 : decode cX2_handOn 24 = .ok (.istore_n 2, 1) := by decide +kernel
theorem dX2_handOn_25 : decode cX2_handOn 25 = .ok (.iconst 0, 1) := by decide +kernel
theorem dX2_handOn_26 : decode cX2_handOn 26 = .ok (.istore_n 3, 1) := by decide +kernel
theorem dX2_handOn_27 : decode cX2_handOn 27 = .ok (.iload_n 3, 1) := by decide +kernel
theorem dX2_handOn_28 : decode cX2_handOn 28 = .ok (.aload_n 0, 1) := by decide +kernel
theorem dX2_handOn_29 : decode cX2_handOn 29 = .ok (.getfield 39, 3) := by decide +kernel
theorem dX2_handOn_32 : decode cX2_handOn 32 = .ok (.iload_n 1, 1) := by decide +kernel
theorem dX2_handOn_33 : decode cX2_handOn 33 = .ok (.invokevirtual 93, 3) := by decide +kernel
theorem dX2_handOn_36 : decode cX2_handOn 36 = .ok (.if_icmp .ge 27, 3) := by decide +kernel
theorem dX2_handOn_39 : decode cX2_handOn 39 = .ok (.aload_n 0, 1) := by decide +kernel
theorem dX2_handOn_40 : decode cX2_handOn 40 = .ok (.aload_n 0, 1) := by decide +kernel
theorem dX2_handOn_41 : decode cX2_handOn 41 = .ok (.getfield 39, 3) := by decide +kernel
theorem dX2_handOn_44 : decode cX2_handOn 44 = .ok (.iload_n 1, 1) := by decide +kernel
theorem dX2_handOn_45 : decode cX2_handOn 45 = .ok (.iload_n 3, 1) := by decide +kernel
theorem dX2_handOn_46 : decode cX2_handOn 46 = .ok (.invokevirtual 96, 3) := by decide +kernel
theorem dX2_handOn_49 : decode cX2_handOn 49 = .ok (.invokevirtual 100, 3) := by decide +kernel
theorem dX2_handOn_52 : decode cX2_handOn 52 = .ok (.ifCond .eq 5, 3) := by decide +kernel
theorem dX2_handOn_55 : decode cX2_handOn 55 = .ok (.iconst 1, 1) := by decide +kernel
theorem dX2_handOn_56 : decode cX2_handOn 56 = .ok (.istore_n 2, 1) := by decide +kernel
theorem dX2_handOn_57 : decode cX2_handOn 57 = .ok (.iinc 3 1, 3) := by decide +kernel
theorem dX2_handOn_60 : decode cX2_handOn 60 = .ok (.goto (-33), 3) := by decide +kernel
theorem dX2_handOn_63 : decode cX2_handOn 63 = .ok (.iload_n 2, 1) := by decide +kernel
theorem dX2_handOn_64 : decode cX2_handOn 64 = .ok (.ireturn, 1) := by decide +kernel
theorem dX2_renew_0 : decode cX2_renew 0 = .ok (.aload_n 0, 1) := by decide +kernel
theorem dX2_renew_1 : decode cX2_renew 1 = .ok (.getfield 35, 3) := by decide +kernel
theorem dX2_renew_4 : decode cX2_renew 4 = .ok (.iload_n 1, 1) := by decide +kernel
theorem dX2_renew_5 : decode cX2_renew 5 = .ok (.invokevirtual 103, 3) := by decide +kernel
theorem dX2_renew_8 : decode cX2_renew 8 = .ok (.istore_n 2, 1) := by decide +kernel
theorem dX2_renew_9 : decode cX2_renew 9 = .ok (.iload_n 2, 1) := by decide +kernel
theorem dX2_renew_10 : decode cX2_renew 10 = .ok (.iconst (-1), 1) := by decide +kernel
theorem dX2_renew_11 : decode cX2_renew 11 = .ok (.if_icmp .ne 4, 3) := by decide +kernel
theorem dX2_renew_14 : decode cX2_renew 14 = .ok (.return_, 1) := by decide +kernel
theorem dX2_renew_15 : decode cX2_renew 15 = .ok (.aload_n 0, 1) := by decide +kernel
theorem dX2_renew_16 : decode cX2_renew 16 = .ok (.getfield 35, 3) := by decide +kernel
theorem dX2_renew_19 : decode cX2_renew 19 = .ok (.iload_n 1, 1) := by decide +kernel
theorem dX2_renew_20 : decode cX2_renew 20 = .ok (.invokevirtual 106, 3) := by decide +kernel
theorem dX2_renew_23 : decode cX2_renew 23 = .ok (.istore_n 3, 1) := by decide +kernel
theorem dX2_renew_24 : decode cX2_renew 24 = .ok (.aload_n 0, 1) := by decide +kernel
theorem dX2_renew_25 : decode cX2_renew 25 = .ok (.getfield 25, 3) := by decide +kernel
theorem dX2_renew_28 : decode cX2_renew 28 = .ok (.iload_n 2, 1) := by decide +kernel
theorem dX2_renew_29 : decode cX2_renew 29 = .ok (.aload_n 0, 1) := by decide +kernel
theorem dX2_renew_30 : decode cX2_renew 30 = .ok (.getfield 15, 3) := by decide +kernel
theorem dX2_renew_33 : decode cX2_renew 33 = .ok (.iload_n 1, 1) := by decide +kernel
theorem dX2_renew_34 : decode cX2_renew 34 = .ok (.laload, 1) := by decide +kernel
theorem dX2_renew_35 : decode cX2_renew 35 = .ok (.iload_n 3, 1) := by decide +kernel
theorem dX2_renew_36 : decode cX2_renew 36 = .ok (.iconst (-1), 1) := by decide +kernel
theorem dX2_renew_37 : decode cX2_renew 37 = .ok (.if_icmp .ne 7, 3) := by decide +kernel
theorem dX2_renew_40 : decode cX2_renew 40 = .ok (.lconst 0, 1) := by decide +kernel
theorem dX2_renew_41 : decode cX2_renew 41 = .ok (.goto 9, 3) := by decide +kernel
theorem dX2_renew_44 : decode cX2_renew 44 = .ok (.aload_n 0, 1) := by decide +kernel
theorem dX2_renew_45 : decode cX2_renew 45 = .ok (.getfield 25, 3) := by decide +kernel
theorem dX2_renew_48 : decode cX2_renew 48 = .ok (.iload_n 3, 1) := by decide +kernel
theorem dX2_renew_49 : decode cX2_renew 49 = .ok (.laload, 1) := by decide +kernel
theorem dX2_renew_50 : decode cX2_renew 50 = .ok (.lor, 1) := by decide +kernel
theorem dX2_renew_51 : decode cX2_renew 51 = .ok (.lastore, 1) := by decide +kernel
theorem dX2_renew_52 : decode cX2_renew 52 = .ok (.iconst 0, 1) := by decide +kernel
theorem dX2_renew_53 : decode cX2_renew 53 = .ok (.istore 4, 2) := by decide +kernel
theorem dX2_renew_55 : decode cX2_renew 55 = .ok (.iload 4, 2) := by decide +kernel
theorem dX2_renew_57 : decode cX2_renew 57 = .ok (.aload_n 0, 1) := by decide +kernel
theorem dX2_renew_58 : decode cX2_renew 58 = .ok (.getfield 31, 3) := by decide +kernel
theorem dX2_renew_61 : decode cX2_renew 61 = .ok (.invokevirtual 109, 3) := by decide +kernel
theorem dX2_renew_64 : decode cX2_renew 64 = .ok (.if_icmp .ge 29, 3) := by decide +kernel
theorem dX2_renew_67 : decode cX2_renew 67 = .ok (.aload_n 0, 1) := by decide +kernel
theorem dX2_renew_68 : decode cX2_renew 68 = .ok (.getfield 25, 3) := by decide +kernel
theorem dX2_renew_71 : decode cX2_renew 71 = .ok (.iload 4, 2) := by decide +kernel
theorem dX2_renew_73 : decode cX2_renew 73 = .ok (.dup2, 1) := by decide +kernel
theorem dX2_renew_74 : decode cX2_renew 74 = .ok (.laload, 1) := by decide +kernel
theorem dX2_renew_75 : decode cX2_renew 75 = .ok (.aload_n 0, 1) := by decide +kernel
theorem dX2_renew_76 : decode cX2_renew 76 = .ok (.getfield 19, 3) := by decide +kernel
theorem dX2_renew_79 : decode cX2_renew 79 = .ok (.iload_n 2, 1) := by decide +kernel
theorem dX2_renew_80 : decode cX2_renew 80 = .ok (.laload, 1) := by decide +kernel
theorem dX2_renew_81 : decode cX2_renew 81 = .ok (.ldc2_w 112, 3) := by decide +kernel
theorem dX2_renew_84 : decode cX2_renew 84 = .ok (.lxor, 1) := by decide +kernel
theorem dX2_renew_85 : decode cX2_renew 85 = .ok (.land, 1) := by decide +kernel
theorem dX2_renew_86 : decode cX2_renew 86 = .ok (.lastore, 1) := by decide +kernel
theorem dX2_renew_87 : decode cX2_renew 87 = .ok (.iinc 4 1, 3) := by decide +kernel
theorem dX2_renew_90 : decode cX2_renew 90 = .ok (.goto (-35), 3) := by decide +kernel
theorem dX2_renew_93 : decode cX2_renew 93 = .ok (.return_, 1) := by decide +kernel
theorem dX2_takeOver_0 : decode cX2_takeOver 0 = .ok (.iconst 0, 1) := by decide +kernel
theorem dX2_takeOver_1 : decode cX2_takeOver 1 = .ok (.istore_n 2, 1) := by decide +kernel
theorem dX2_takeOver_2 : decode cX2_takeOver 2 = .ok (.iconst 0, 1) := by decide +kernel
theorem dX2_takeOver_3 : decode cX2_takeOver 3 = .ok (.istore_n 3, 1) := by decide +kernel
theorem dX2_takeOver_4 : decode cX2_takeOver 4 = .ok (.iload_n 3, 1) := by decide +kernel
theorem dX2_takeOver_5 : decode cX2_takeOver 5 = .ok (.aload_n 0, 1) := by decide +kernel
theorem dX2_takeOver_6 : decode cX2_takeOver 6 = .ok (.getfield 31, 3) := by decide +kernel
theorem dX2_takeOver_9 : decode cX2_takeOver 9 = .ok (.invokevirtual 109, 3) := by decide +kernel
theorem dX2_takeOver_12 : decode cX2_takeOver 12 = .ok (.if_icmp .ge 58, 3) := by decide +kernel
theorem dX2_takeOver_15 : decode cX2_takeOver 15 = .ok (.iload_n 1, 1) := by decide +kernel
theorem dX2_takeOver_16 : decode cX2_takeOver 16 = .ok (.bipush 16, 2) := by decide +kernel
theorem dX2_takeOver_18 : decode cX2_takeOver 18 = .ok (.imul, 1) := by decide +kernel
theorem dX2_takeOver_19 : decode cX2_takeOver 19 = .ok (.iload_n 3, 1) := by decide +kernel
theorem dX2_takeOver_20 : decode cX2_takeOver 20 = .ok (.iadd, 1) := by decide +kernel
theorem dX2_takeOver_21 : decode cX2_takeOver 21 = .ok (.istore 4, 2) := by decide +kernel
theorem dX2_takeOver_23 : decode cX2_takeOver 23 = .ok (.aload_n 0, 1) := by decide +kernel
theorem dX2_takeOver_24 : decode cX2_takeOver 24 = .ok (.getfield 25, 3) := by decide +kernel
theorem dX2_takeOver_27 : decode cX2_takeOver 27 = .ok (.iload_n 3, 1) := by decide +kernel
theorem dX2_takeOver_28 : decode cX2_takeOver 28 = .ok (.laload, 1) := by decide +kernel
theorem dX2_takeOver_29 : decode cX2_takeOver 29 = .ok (.aload_n 0, 1) := by decide +kernel
theorem dX2_takeOver_30 : decode cX2_takeOver 30 = .ok (.getfield 22, 3) := by decide +kernel
theorem dX2_takeOver_33 : decode cX2_takeOver 33 = .ok (.iload 4, 2) := by decide +kernel
theorem dX2_takeOver_35 : decode cX2_takeOver 35 = .ok (.laload, 1) := by decide +kernel
theorem dX2_takeOver_36 : decode cX2_takeOver 36 = .ok (.ldc2_w 112, 3) := by decide +kernel
theorem dX2_takeOver_39 : decode cX2_takeOver 39 = .ok (.lxor, 1) := by decide +kernel
theorem dX2_takeOver_40 : decode cX2_takeOver 40 = .ok (.land, 1) := by decide +kernel
theorem dX2_takeOver_41 : decode cX2_takeOver 41 = .ok (.lconst 0, 1) := by decide +kernel
theorem dX2_takeOver_42 : decode cX2_takeOver 42 = .ok (.lcmp, 1) := by decide +kernel
theorem dX2_takeOver_43 : decode cX2_takeOver 43 = .ok (.ifCond .eq 21, 3) := by decide +kernel
theorem dX2_takeOver_46 : decode cX2_takeOver 46 = .ok (.aload_n 0, 1) := by decide +kernel
theorem dX2_takeOver_47 : decode cX2_takeOver 47 = .ok (.getfield 22, 3) := by decide +kernel
theorem dX2_takeOver_50 : decode cX2_takeOver 50 = .ok (.iload 4, 2) := by decide +kernel
theorem dX2_takeOver_52 : decode cX2_takeOver 52 = .ok (.dup2, 1) := by decide +kernel
theorem dX2_takeOver_53 : decode cX2_takeOver 53 = .ok (.laload, 1) := by decide +kernel
theorem dX2_takeOver_54 : decode cX2_takeOver 54 = .ok (.aload_n 0, 1) := by decide +kernel
theorem dX2_takeOver_55 : decode cX2_takeOver 55 = .ok (.getfield 25, 3) := by decide +kernel
theorem dX2_takeOver_58 : decode cX2_takeOver 58 = .ok (.iload_n 3, 1) := by decide +kernel
theorem dX2_takeOver_59 : decode cX2_takeOver 59 = .ok (.laload, 1) := by decide +kernel
theorem dX2_takeOver_60 : decode cX2_takeOver 60 = .ok (.lor, 1) := by decide +kernel
theorem dX2_takeOver_61 : decode cX2_takeOver 61 = .ok (.lastore, 1) := by decide +kernel
theorem dX2_takeOver_62 : decode cX2_takeOver 62 = .ok (.iconst 1, 1) := by decide +kernel
theorem dX2_takeOver_63 : decode cX2_takeOver 63 = .ok (.istore_n 2, 1) := by decide +kernel
theorem dX2_takeOver_64 : decode cX2_takeOver 64 = .ok (.iinc 3 1, 3) := by decide +kernel
theorem dX2_takeOver_67 : decode cX2_takeOver 67 = .ok (.goto (-63), 3) := by decide +kernel
theorem dX2_takeOver_70 : decode cX2_takeOver 70 = .ok (.iload_n 2, 1) := by decide +kernel
theorem dX2_takeOver_71 : decode cX2_takeOver 71 = .ok (.ireturn, 1) := by decide +kernel
theorem dX2_flowUses_0 : decode cX2_flowUses 0 = .ok (.aload_n 0, 1) := by decide +kernel
theorem dX2_flowUses_1 : decode cX2_flowUses 1 = .ok (.getfield 28, 3) := by decide +kernel
theorem dX2_flowUses_4 : decode cX2_flowUses 4 = .ok (.iconst 0, 1) := by decide +kernel
theorem dX2_flowUses_5 : decode cX2_flowUses 5 = .ok (.invokestatic 114, 3) := by decide +kernel
theorem dX2_flowUses_8 : decode cX2_flowUses 8 = .ok (.iconst 1, 1) := by decide +kernel
theorem dX2_flowUses_9 : decode cX2_flowUses 9 = .ok (.istore_n 1, 1) := by decide +kernel
theorem dX2_flowUses_10 : decode cX2_flowUses 10 = .ok (.iconst 0, 1) := by decide +kernel
theorem dX2_flowUses_11 : decode cX2_flowUses 11 = .ok (.istore_n 2, 1) := by decide +kernel
theorem dX2_flowUses_12 : decode cX2_flowUses 12 = .ok (.iload_n 2, 1) := by decide +kernel
theorem dX2_flowUses_13 : decode cX2_flowUses 13 = .ok (.ldc 70, 2) := by decide +kernel
theorem dX2_flowUses_15 : decode cX2_flowUses 15 = .ok (.if_icmp .ge 75, 3) := by decide +kernel
theorem dX2_flowUses_18 : decode cX2_flowUses 18 = .ok (.iload_n 1, 1) := by decide +kernel
theorem dX2_flowUses_19 : decode cX2_flowUses 19 = .ok (.ifCond .eq 71, 3) := by decide +kernel
theorem dX2_flowUses_22 : decode cX2_flowUses 22 = .ok (.iconst 0, 1) := by decide +kernel
theorem dX2_flowUses_23 : decode cX2_flowUses 23 = .ok (.istore_n 1, 1) := by decide +kernel
theorem dX2_flowUses_24 : decode cX2_flowUses 24 = .ok (.iconst 0, 1) := by decide +kernel
theorem dX2_flowUses_25 : decode cX2_flowUses 25 = .ok (.istore_n 3, 1) := by decide +kernel
theorem dX2_flowUses_26 : decode cX2_flowUses 26 = .ok (.iload_n 3, 1) := by decide +kernel
theorem dX2_flowUses_27 : decode cX2_flowUses 27 = .ok (.aload_n 0, 1) := by decide +kernel
theorem dX2_flowUses_28 : decode cX2_flowUses 28 = .ok (.getfield 39, 3) := by decide +kernel
theorem dX2_flowUses_31 : decode cX2_flowUses 31 = .ok (.invokevirtual 71, 3) := by decide +kernel
theorem dX2_flowUses_34 : decode cX2_flowUses 34 = .ok (.if_icmp .ge 50, 3) := by decide +kernel
theorem dX2_flowUses_37 : decode cX2_flowUses 37 = .ok (.aload_n 0, 1) := by decide +kernel
theorem dX2_flowUses_38 : decode cX2_flowUses 38 = .ok (.getfield 39, 3) := by decide +kernel
theorem dX2_flowUses_41 : decode cX2_flowUses 41 = .ok (.iload_n 3, 1) := by decide +kernel
theorem dX2_flowUses_42 : decode cX2_flowUses 42 = .ok (.invokevirtual 117, 3) := by decide +kernel
theorem dX2_flowUses_45 : decode cX2_flowUses 45 = .ok (.istore 4, 2) := by decide +kernel
theorem dX2_flowUses_47 : decode cX2_flowUses 47 = .ok (.aload_n 0, 1) := by decide +kernel
theorem dX2_flowUses_48 : decode cX2_flowUses 48 = .ok (.iload 4, 2) := by decide +kernel
theorem dX2_flowUses_50 : decode cX2_flowUses 50 = .ok (.invokevirtual 120, 3) := by decide +kernel
theorem dX2_flowUses_53 : decode cX2_flowUses 53 = .ok (.istore 5, 2) := by decide +kernel
theorem dX2_flowUses_55 : decode cX2_flowUses 55 = .ok (.iload 5, 2) := by decide +kernel
theorem dX2_flowUses_57 : decode cX2_flowUses 57 = .ok (.aload_n 0, 1) := by decide +kernel
theorem dX2_flowUses_58 : decode cX2_flowUses 58 = .ok (.getfield 28, 3) := by decide +kernel
theorem dX2_flowUses_61 : decode cX2_flowUses 61 = .ok (.iload 4, 2) := by decide +kernel
theorem dX2_flowUses_63 : decode cX2_flowUses 63 = .ok (.iaload, 1) := by decide +kernel
theorem dX2_flowUses_64 : decode cX2_flowUses 64 = .ok (.if_icmp .eq 14, 3) := by decide +kernel
theorem dX2_flowUses_67 : decode cX2_flowUses 67 = .ok (.aload_n 0, 1) := by decide +kernel
theorem dX2_flowUses_68 : decode cX2_flowUses 68 = .ok (.getfield 28, 3) := by decide +kernel
theorem dX2_flowUses_71 : decode cX2_flowUses 71 = .ok (.iload 4, 2) := by decide +kernel
theorem dX2_flowUses_73 : decode cX2_flowUses 73 = .ok (.iload 5, 2) := by decide +kernel
theorem dX2_flowUses_75 : decode cX2_flowUses 75 = .ok (.iastore, 1) := by decide +kernel
theorem dX2_flowUses_76 : decode cX2_flowUses 76 = .ok (.iconst 1, 1) := by decide +kernel
theorem dX2_flowUses_77 : decode cX2_flowUses 77 = .ok (.istore_n 1, 1) := by decide +kernel
theorem dX2_flowUses_78 : decode cX2_flowUses 78 = .ok (.iinc 3 1, 3) := by decide +kernel
theorem dX2_flowUses_81 : decode cX2_flowUses 81 = .ok (.goto (-55), 3) := by decide +kernel
theorem dX2_flowUses_84 : decode cX2_flowUses 84 = .ok (.iinc 2 1, 3) := by decide +kernel
theorem dX2_flowUses_87 : decode cX2_flowUses 87 = .ok (.goto (-75), 3) := by decide +kernel
theorem dX2_flowUses_90 : decode cX2_flowUses 90 = .ok (.return_, 1) := by decide +kernel
theorem dX2_usesBehind_0 : decode cX2_usesBehind 0 = .ok (.iconst 0, 1) := by decide +kernel
theorem dX2_usesBehind_1 : decode cX2_usesBehind 1 = .ok (.istore_n 2, 1) := by decide +kernel
theorem dX2_usesBehind_2 : decode cX2_usesBehind 2 = .ok (.iconst 0, 1) := by decide +kernel
theorem dX2_usesBehind_3 : decode cX2_usesBehind 3 = .ok (.istore_n 3, 1) := by decide +kernel
theorem dX2_usesBehind_4 : decode cX2_usesBehind 4 = .ok (.iload_n 3, 1) := by decide +kernel
theorem dX2_usesBehind_5 : decode cX2_usesBehind 5 = .ok (.aload_n 0, 1) := by decide +kernel
theorem dX2_usesBehind_6 : decode cX2_usesBehind 6 = .ok (.getfield 39, 3) := by decide +kernel
theorem dX2_usesBehind_9 : decode cX2_usesBehind 9 = .ok (.iload_n 1, 1) := by decide +kernel
theorem dX2_usesBehind_10 : decode cX2_usesBehind 10 = .ok (.invokevirtual 93, 3) := by decide +kernel
theorem dX2_usesBehind_13 : decode cX2_usesBehind 13 = .ok (.if_icmp .ge 58, 3) := by decide +kernel
theorem dX2_usesBehind_16 : decode cX2_usesBehind 16 = .ok (.aload_n 0, 1) := by decide +kernel
theorem dX2_usesBehind_17 : decode cX2_usesBehind 17 = .ok (.getfield 39, 3) := by decide +kernel
theorem dX2_usesBehind_20 : decode cX2_usesBehind 20 = .ok (.iload_n 1, 1) := by decide +kernel
theorem dX2_usesBehind_21 : decode cX2_usesBehind 21 = .ok (.iload_n 3, 1) := by decide +kernel
theorem dX2_usesBehind_22 : decode cX2_usesBehind 22 = .ok (.invokevirtual 96, 3) := by decide +kernel
theorem dX2_usesBehind_25 : decode cX2_usesBehind 25 = .ok (.istore 4, 2) := by decide +kernel
theorem dX2_usesBehind_27 : decode cX2_usesBehind 27 = .ok (.iload_n 2, 1) := by decide +kernel
theorem dX2_usesBehind_28 : decode cX2_usesBehind 28 = .ok (.aload_n 0, 1) := by decide +kernel
theorem dX2_usesBehind_29 : decode cX2_usesBehind 29 = .ok (.getfield 28, 3) := by decide +kernel
theorem dX2_usesBehind_32 : decode cX2_usesBehind 32 = .ok (.iload 4, 2) := by decide +kernel
theorem dX2_usesBehind_34 : decode cX2_usesBehind 34 = .ok (.iaload, 1) := by decide +kernel
theorem dX2_usesBehind_35 : decode cX2_usesBehind 35 = .ok (.aload_n 0, 1) := by decide +kernel
theorem dX2_usesBehind_36 : decode cX2_usesBehind 36 = .ok (.getfield 35, 3) := by decide +kernel
theorem dX2_usesBehind_39 : decode cX2_usesBehind 39 = .ok (.iload 4, 2) := by decide +kernel
theorem dX2_usesBehind_41 : decode cX2_usesBehind 41 = .ok (.invokevirtual 103, 3) := by decide +kernel
theorem dX2_usesBehind_44 : decode cX2_usesBehind 44 = .ok (.invokestatic 123, 3) := by decide +kernel
theorem dX2_usesBehind_47 : decode cX2_usesBehind 47 = .ok (.iconst (-1), 1) := by decide +kernel
theorem dX2_usesBehind_48 : decode cX2_usesBehind 48 = .ok (.ixor, 1) := by decide +kernel
theorem dX2_usesBehind_49 : decode cX2_usesBehind 49 = .ok (.iand, 1) := by decide +kernel
theorem dX2_usesBehind_50 : decode cX2_usesBehind 50 = .ok (.aload_n 0, 1) := by decide +kernel
theorem dX2_usesBehind_51 : decode cX2_usesBehind 51 = .ok (.getfield 35, 3) := by decide +kernel
theorem dX2_usesBehind_54 : decode cX2_usesBehind 54 = .ok (.iload 4, 2) := by decide +kernel
theorem dX2_usesBehind_56 : decode cX2_usesBehind 56 = .ok (.invokevirtual 106, 3) := by decide +kernel
theorem dX2_usesBehind_59 : decode cX2_usesBehind 59 = .ok (.invokestatic 123, 3) := by decide +kernel
theorem dX2_usesBehind_62 : decode cX2_usesBehind 62 = .ok (.ior, 1) := by decide +kernel
theorem dX2_usesBehind_63 : decode cX2_usesBehind 63 = .ok (.ior, 1) := by decide +kernel
theorem dX2_usesBehind_64 : decode cX2_usesBehind 64 = .ok (.istore_n 2, 1) := by decide +kernel
theorem dX2_usesBehind_65 : decode cX2_usesBehind 65 = .ok (.iinc 3 1, 3) := by decide +kernel
theorem dX2_usesBehind_68 : decode cX2_usesBehind 68 = .ok (.goto (-64), 3) := by decide +kernel
theorem dX2_usesBehind_71 : decode cX2_usesBehind 71 = .ok (.iload_n 2, 1) := by decide +kernel
theorem dX2_usesBehind_72 : decode cX2_usesBehind 72 = .ok (.ireturn, 1) := by decide +kernel
theorem dX2_variableBit_0 : decode cX2_variableBit 0 = .ok (.iload_n 0, 1) := by decide +kernel
theorem dX2_variableBit_1 : decode cX2_variableBit 1 = .ok (.iconst (-1), 1) := by decide +kernel
theorem dX2_variableBit_2 : decode cX2_variableBit 2 = .ok (.if_icmp .ne 7, 3) := by decide +kernel
theorem dX2_variableBit_5 : decode cX2_variableBit 5 = .ok (.iconst 0, 1) := by decide +kernel
theorem dX2_variableBit_6 : decode cX2_variableBit 6 = .ok (.goto 6, 3) := by decide +kernel
theorem dX2_variableBit_9 : decode cX2_variableBit 9 = .ok (.iconst 1, 1) := by decide +kernel
theorem dX2_variableBit_10 : decode cX2_variableBit 10 = .ok (.iload_n 0, 1) := by decide +kernel
theorem dX2_variableBit_11 : decode cX2_variableBit 11 = .ok (.ishl, 1) := by decide +kernel
theorem dX2_variableBit_12 : decode cX2_variableBit 12 = .ok (.ireturn, 1) := by decide +kernel
theorem dX2_size_0 : decode cX2_size 0 = .ok (.aload_n 0, 1) := by decide +kernel
theorem dX2_size_1 : decode cX2_size 1 = .ok (.getfield 53, 3) := by decide +kernel
theorem dX2_size_4 : decode cX2_size 4 = .ok (.ireturn, 1) := by decide +kernel
theorem dX2_isHeldBy_0 : decode cX2_isHeldBy 0 = .ok (.aload_n 0, 1) := by decide +kernel
theorem dX2_isHeldBy_1 : decode cX2_isHeldBy 1 = .ok (.getfield 22, 3) := by decide +kernel
theorem dX2_isHeldBy_4 : decode cX2_isHeldBy 4 = .ok (.iload_n 1, 1) := by decide +kernel
theorem dX2_isHeldBy_5 : decode cX2_isHeldBy 5 = .ok (.bipush 16, 2) := by decide +kernel
theorem dX2_isHeldBy_7 : decode cX2_isHeldBy 7 = .ok (.imul, 1) := by decide +kernel
theorem dX2_isHeldBy_8 : decode cX2_isHeldBy 8 = .ok (.iload_n 2, 1) := by decide +kernel
theorem dX2_isHeldBy_9 : decode cX2_isHeldBy 9 = .ok (.iadd, 1) := by decide +kernel
theorem dX2_isHeldBy_10 : decode cX2_isHeldBy 10 = .ok (.laload, 1) := by decide +kernel
theorem dX2_isHeldBy_11 : decode cX2_isHeldBy 11 = .ok (.aload_n 0, 1) := by decide +kernel
theorem dX2_isHeldBy_12 : decode cX2_isHeldBy 12 = .ok (.getfield 15, 3) := by decide +kernel
theorem dX2_isHeldBy_15 : decode cX2_isHeldBy 15 = .ok (.iload_n 3, 1) := by decide +kernel
theorem dX2_isHeldBy_16 : decode cX2_isHeldBy 16 = .ok (.laload, 1) := by decide +kernel
theorem dX2_isHeldBy_17 : decode cX2_isHeldBy 17 = .ok (.land, 1) := by decide +kernel
theorem dX2_isHeldBy_18 : decode cX2_isHeldBy 18 = .ok (.lconst 0, 1) := by decide +kernel
theorem dX2_isHeldBy_19 : decode cX2_isHeldBy 19 = .ok (.lcmp, 1) := by decide +kernel
theorem dX2_isHeldBy_20 : decode cX2_isHeldBy 20 = .ok (.ifCond .eq 7, 3) := by decide +kernel
theorem dX2_isHeldBy_23 : decode cX2_isHeldBy 23 = .ok (.iconst 1, 1) := by decide +kernel
theorem dX2_isHeldBy_24 : decode cX2_isHeldBy 24 = .ok (.goto 4, 3) := by decide +kernel
theorem dX2_isHeldBy_27 : decode cX2_isHeldBy 27 = .ok (.iconst 0, 1) := by decide +kernel
theorem dX2_isHeldBy_28 : decode cX2_isHeldBy 28 = .ok (.ireturn, 1) := by decide +kernel
theorem dX2_isUsedBehind_0 : decode cX2_isUsedBehind 0 = .ok (.aload_n 0, 1) := by decide +kernel
theorem dX2_isUsedBehind_1 : decode cX2_isUsedBehind 1 = .ok (.getfield 28, 3) := by decide +kernel
theorem dX2_isUsedBehind_4 : decode cX2_isUsedBehind 4 = .ok (.iload_n 1, 1) := by decide +kernel
theorem dX2_isUsedBehind_5 : decode cX2_isUsedBehind 5 = .ok (.iaload, 1) := by decide +kernel
theorem dX2_isUsedBehind_6 : decode cX2_isUsedBehind 6 = .ok (.iload_n 2, 1) := by decide +kernel
theorem dX2_isUsedBehind_7 : decode cX2_isUsedBehind 7 = .ok (.invokestatic 123, 3) := by decide +kernel
theorem dX2_isUsedBehind_10 : decode cX2_isUsedBehind 10 = .ok (.iand, 1) := by decide +kernel
theorem dX2_isUsedBehind_11 : decode cX2_isUsedBehind 11 = .ok (.ifCond .eq 7, 3) := by decide +kernel
theorem dX2_isUsedBehind_14 : decode cX2_isUsedBehind 14 = .ok (.iconst 1, 1) := by decide +kernel
theorem dX2_isUsedBehind_15 : decode cX2_isUsedBehind 15 = .ok (.goto 4, 3) := by decide +kernel
theorem dX2_isUsedBehind_18 : decode cX2_isUsedBehind 18 = .ok (.iconst 0, 1) := by decide +kernel
theorem dX2_isUsedBehind_19 : decode cX2_isUsedBehind 19 = .ok (.ireturn, 1) := by decide +kernel
theorem dX2_isInForce_0 : decode cX2_isInForce 0 = .ok (.aload_n 0, 1) := by decide +kernel
theorem dX2_isInForce_1 : decode cX2_isInForce 1 = .ok (.iload_n 2, 1) := by decide +kernel
theorem dX2_isInForce_2 : decode cX2_isInForce 2 = .ok (.invokevirtual 126, 3) := by decide +kernel
theorem dX2_isInForce_5 : decode cX2_isInForce 5 = .ok (.aload_n 0, 1) := by decide +kernel
theorem dX2_isInForce_6 : decode cX2_isInForce 6 = .ok (.getfield 15, 3) := by decide +kernel
theorem dX2_isInForce_9 : decode cX2_isInForce 9 = .ok (.iload_n 1, 1) := by decide +kernel
theorem dX2_isInForce_10 : decode cX2_isInForce 10 = .ok (.laload, 1) := by decide +kernel
theorem dX2_isInForce_11 : decode cX2_isInForce 11 = .ok (.land, 1) := by decide +kernel
theorem dX2_isInForce_12 : decode cX2_isInForce 12 = .ok (.lconst 0, 1) := by decide +kernel
theorem dX2_isInForce_13 : decode cX2_isInForce 13 = .ok (.lcmp, 1) := by decide +kernel
theorem dX2_isInForce_14 : decode cX2_isInForce 14 = .ok (.ifCond .eq 7, 3) := by decide +kernel
theorem dX2_isInForce_17 : decode cX2_isInForce 17 = .ok (.iconst 1, 1) := by decide +kernel
theorem dX2_isInForce_18 : decode cX2_isInForce 18 = .ok (.goto 4, 3) := by decide +kernel
theorem dX2_isInForce_21 : decode cX2_isInForce 21 = .ok (.iconst 0, 1) := by decide +kernel
theorem dX2_isInForce_22 : decode cX2_isInForce 22 = .ok (.ireturn, 1) := by decide +kernel
theorem dX2_inForce_0 : decode cX2_inForce 0 = .ok (.aload_n 0, 1) := by decide +kernel
theorem dX2_inForce_1 : decode cX2_inForce 1 = .ok (.getfield 28, 3) := by decide +kernel
theorem dX2_inForce_4 : decode cX2_inForce 4 = .ok (.iload_n 1, 1) := by decide +kernel
theorem dX2_inForce_5 : decode cX2_inForce 5 = .ok (.iaload, 1) := by decide +kernel
theorem dX2_inForce_6 : decode cX2_inForce 6 = .ok (.aload_n 0, 1) := by decide +kernel
theorem dX2_inForce_7 : decode cX2_inForce 7 = .ok (.getfield 35, 3) := by decide +kernel
theorem dX2_inForce_10 : decode cX2_inForce 10 = .ok (.iload_n 1, 1) := by decide +kernel
theorem dX2_inForce_11 : decode cX2_inForce 11 = .ok (.invokevirtual 103, 3) := by decide +kernel
theorem dX2_inForce_14 : decode cX2_inForce 14 = .ok (.invokestatic 123, 3) := by decide +kernel
theorem dX2_inForce_17 : decode cX2_inForce 17 = .ok (.iconst (-1), 1) := by decide +kernel
theorem dX2_inForce_18 : decode cX2_inForce 18 = .ok (.ixor, 1) := by decide +kernel
theorem dX2_inForce_19 : decode cX2_inForce 19 = .ok (.iand, 1) := by decide +kernel
theorem dX2_inForce_20 : decode cX2_inForce 20 = .ok (.istore_n 2, 1) := by decide +kernel
theorem dX2_inForce_21 : decode cX2_inForce 21 = .ok (.lconst 0, 1) := by decide +kernel
theorem dX2_inForce_22 : decode cX2_inForce 22 = .ok (.lstore_n 3, 1) := by decide +kernel
theorem dX2_inForce_23 : decode cX2_inForce 23 = .ok (.iconst 0, 1) := by decide +kernel
theorem dX2_inForce_24 : decode cX2_inForce 24 = .ok (.istore 5, 2) := by decide +kernel
theorem dX2_inForce_26 : decode cX2_inForce 26 = .ok (.iload 5, 2) := by decide +kernel
theorem dX2_inForce_28 : decode cX2_inForce 28 = .ok (.aload_n 0, 1) := by decide +kernel
theorem dX2_inForce_29 : decode cX2_inForce 29 = .ok (.getfield 31, 3) := by decide +kernel
theorem dX2_inForce_32 : decode cX2_inForce 32 = .ok (.invokevirtual 109, 3) := by decide +kernel
theorem dX2_inForce_35 : decode cX2_inForce 35 = .ok (.if_icmp .ge 34, 3) := by decide +kernel
theorem dX2_inForce_38 : decode cX2_inForce 38 = .ok (.iload_n 2, 1) := by decide +kernel
theorem dX2_inForce_39 : decode cX2_inForce 39 = .ok (.iload 5, 2) := by decide +kernel
theorem dX2_inForce_41 : decode cX2_inForce 41 = .ok (.invokestatic 123, 3) := by decide +kernel
theorem dX2_inForce_44 : decode cX2_inForce 44 = .ok (.iand, 1) := by decide +kernel
theorem dX2_inForce_45 : decode cX2_inForce 45 = .ok (.ifCond .eq 18, 3) := by decide +kernel
theorem dX2_inForce_48 : decode cX2_inForce 48 = .ok (.lload_n 3, 1) := by decide +kernel
theorem dX2_inForce_49 : decode cX2_inForce 49 = .ok (.aload_n 0, 1) := by decide +kernel
theorem dX2_inForce_50 : decode cX2_inForce 50 = .ok (.getfield 22, 3) := by decide +kernel
theorem dX2_inForce_53 : decode cX2_inForce 53 = .ok (.iload_n 1, 1) := by decide +kernel
theorem dX2_inForce_54 : decode cX2_inForce 54 = .ok (.bipush 16, 2) := by decide +kernel
theorem dX2_inForce_56 : decode cX2_inForce 56 = .ok (.imul, 1) := by decide +kernel
theorem dX2_inForce_57 : decode cX2_inForce 57 = .ok (.iload 5, 2) := by decide +kernel
theorem dX2_inForce_59 : decode cX2_inForce 59 = .ok (.iadd, 1) := by decide +kernel
theorem dX2_inForce_60 : decode cX2_inForce 60 = .ok (.laload, 1) := by decide +kernel
theorem dX2_inForce_61 : decode cX2_inForce 61 = .ok (.lor, 1) := by decide +kernel
theorem dX2_inForce_62 : decode cX2_inForce 62 = .ok (.lstore_n 3, 1) := by decide +kernel
theorem dX2_inForce_63 : decode cX2_inForce 63 = .ok (.iinc 5 1, 3) := by decide +kernel
theorem dX2_inForce_66 : decode cX2_inForce 66 = .ok (.goto (-40), 3) := by decide +kernel
theorem dX2_inForce_69 : decode cX2_inForce 69 = .ok (.lload_n 3, 1) := by decide +kernel
theorem dX2_inForce_70 : decode cX2_inForce 70 = .ok (.lreturn, 1) := by decide +kernel
theorem dX2_leastClash_0 : decode cX2_leastClash 0 = .ok (.aload_n 0, 1) := by decide +kernel
theorem dX2_leastClash_1 : decode cX2_leastClash 1 = .ok (.getfield 35, 3) := by decide +kernel
theorem dX2_leastClash_4 : decode cX2_leastClash 4 = .ok (.iload_n 1, 1) := by decide +kernel
theorem dX2_leastClash_5 : decode cX2_leastClash 5 = .ok (.invokevirtual 130, 3) := by decide +kernel
theorem dX2_leastClash_8 : decode cX2_leastClash 8 = .ok (.ifCond .ne 5, 3) := by decide +kernel
theorem dX2_leastClash_11 : decode cX2_leastClash 11 = .ok (.iconst (-1), 1) := by decide +kernel
theorem dX2_leastClash_12 : decode cX2_leastClash 12 = .ok (.ireturn, 1) := by decide +kernel
theorem dX2_leastClash_13 : decode cX2_leastClash 13 = .ok (.aload_n 0, 1) := by decide +kernel
theorem dX2_leastClash_14 : decode cX2_leastClash 14 = .ok (.iload_n 1, 1) := by decide +kernel
theorem dX2_leastClash_15 : decode cX2_leastClash 15 = .ok (.invokevirtual 126, 3) := by decide +kernel
theorem dX2_leastClash_18 : decode cX2_leastClash 18 = .ok (.aload_n 0, 1) := by decide +kernel
theorem dX2_leastClash_19 : decode cX2_leastClash 19 = .ok (.getfield 19, 3) := by decide +kernel
theorem dX2_leastClash_22 : decode cX2_leastClash 22 = .ok (.aload_n 0, 1) := by decide +kernel
theorem dX2_leastClash_23 : decode cX2_leastClash 23 = .ok (.getfield 35, 3) := by decide +kernel
theorem dX2_leastClash_26 : decode cX2_leastClash 26 = .ok (.iload_n 1, 1) := by decide +kernel
theorem dX2_leastClash_27 : decode cX2_leastClash 27 = .ok (.invokevirtual 63, 3) := by decide +kernel
theorem dX2_leastClash_30 : decode cX2_leastClash 30 = .ok (.laload, 1) := by decide +kernel
theorem dX2_leastClash_31 : decode cX2_leastClash 31 = .ok (.land, 1) := by decide +kernel
theorem dX2_leastClash_32 : decode cX2_leastClash 32 = .ok (.lstore_n 2, 1) := by decide +kernel
theorem dX2_leastClash_33 : decode cX2_leastClash 33 = .ok (.aload_n 0, 1) := by decide +kernel
theorem dX2_leastClash_34 : decode cX2_leastClash 34 = .ok (.getfield 35, 3) := by decide +kernel
theorem dX2_leastClash_37 : decode cX2_leastClash 37 = .ok (.iload_n 1, 1) := by decide +kernel
theorem dX2_leastClash_38 : decode cX2_leastClash 38 = .ok (.invokevirtual 133, 3) := by decide +kernel
theorem dX2_leastClash_41 : decode cX2_leastClash 41 = .ok (.ifCond .eq 10, 3) := by decide +kernel
theorem dX2_leastClash_44 : decode cX2_leastClash 44 = .ok (.lload_n 2, 1) := by decide +kernel
theorem dX2_leastClash_45 : decode cX2_leastClash 45 = .ok (.aload_n 0, 1) := by decide +kernel
theorem dX2_leastClash_46 : decode cX2_leastClash 46 = .ok (.getfield 49, 3) := by decide +kernel
theorem dX2_leastClash_49 : decode cX2_leastClash 49 = .ok (.land, 1) := by decide +kernel
theorem dX2_leastClash_50 : decode cX2_leastClash 50 = .ok (.lstore_n 2, 1) := by decide +kernel
theorem dX2_leastClash_51 : decode cX2_leastClash 51 = .ok (.iconst 0, 1) := by decide +kernel
theorem dX2_leastClash_52 : decode cX2_leastClash 52 = .ok (.istore 4, 2) := by decide +kernel
theorem dX2_leastClash_54 : decode cX2_leastClash 54 = .ok (.iload 4, 2) := by decide +kernel
theorem dX2_leastClash_56 : decode cX2_leastClash 56 = .ok (.aload_n 0, 1) := by decide +kernel
theorem dX2_leastClash_57 : decode cX2_leastClash 57 = .ok (.getfield 53, 3) := by decide +kernel
theorem dX2_leastClash_60 : decode cX2_leastClash 60 = .ok (.if_icmp .ge 66, 3) := by decide +kernel
theorem dX2_leastClash_63 : decode cX2_leastClash 63 = .ok (.lload_n 2, 1) := by decide +kernel
theorem dX2_leastClash_64 : decode cX2_leastClash 64 = .ok (.lconst 0, 1) := by decide +kernel
theorem dX2_leastClash_65 : decode cX2_leastClash 65 = .ok (.lcmp, 1) := by decide +kernel
theorem dX2_leastClash_66 : decode cX2_leastClash 66 = .ok (.ifCond .eq 60, 3) := by decide +kernel
theorem dX2_leastClash_69 : decode cX2_leastClash 69 = .ok (.aload_n 0, 1) := by decide +kernel
theorem dX2_leastClash_70 : decode cX2_leastClash 70 = .ok (.getfield 35, 3) := by decide +kernel
theorem dX2_leastClash_73 : decode cX2_leastClash 73 = .ok (.aload_n 0, 1) := by decide +kernel
theorem dX2_leastClash_74 : decode cX2_leastClash 74 = .ok (.getfield 9, 3) := by decide +kernel
theorem dX2_leastClash_77 : decode cX2_leastClash 77 = .ok (.iload 4, 2) := by decide +kernel
theorem dX2_leastClash_79 : decode cX2_leastClash 79 = .ok (.iaload, 1) := by decide +kernel
theorem dX2_leastClash_80 : decode cX2_leastClash 80 = .ok (.invokevirtual 136, 3) := by decide +kernel
theorem dX2_leastClash_83 : decode cX2_leastClash 83 = .ok (.istore 5, 2) := by decide +kernel
theorem dX2_leastClash_85 : decode cX2_leastClash 85 = .ok (.lload_n 2, 1) := by decide +kernel
theorem dX2_leastClash_86 : decode cX2_leastClash 86 = .ok (.iload 4, 2) := by decide +kernel
theorem dX2_leastClash_88 : decode cX2_leastClash 88 = .ok (.lshr, 1) := by decide +kernel
theorem dX2_leastClash_89 : decode cX2_leastClash 89 = .ok (.lconst 1, 1) := by decide +kernel
theorem dX2_leastClash_90 : decode cX2_leastClash 90 = .ok (.land, 1) := by decide +kernel
theorem dX2_leastClash_91 : decode cX2_leastClash 91 = .ok (.lconst 0, 1) := by decide +kernel
theorem dX2_leastClash_92 : decode cX2_leastClash 92 = .ok (.lcmp, 1) := by decide +kernel
theorem dX2_leastClash_93 : decode cX2_leastClash 93 = .ok (.ifCond .eq 27, 3) := by decide +kernel
theorem dX2_leastClash_96 : decode cX2_leastClash 96 = .ok (.iload 5, 2) := by decide +kernel
theorem dX2_leastClash_98 : decode cX2_leastClash 98 = .ok (.aload_n 0, 1) := by decide +kernel
theorem dX2_leastClash_99 : decode cX2_leastClash 99 = .ok (.getfield 35, 3) := by decide +kernel
theorem dX2_leastClash_102 : decode cX2_leastClash 102 = .ok (.iload_n 1, 1) := by decide +kernel
theorem dX2_leastClash_103 : decode cX2_leastClash 103 = .ok (.invokevirtual 136, 3) := by decide +kernel
theorem dX2_leastClash_106 : decode cX2_leastClash 106 = .ok (.invokestatic 139, 3) := by decide +kernel
theorem dX2_leastClash_109 : decode cX2_leastClash 109 = .ok (.ifCond .eq 11, 3) := by decide +kernel
theorem dX2_leastClash_112 : decode cX2_leastClash 112 = .ok (.aload_n 0, 1) := by decide +kernel
theorem dX2_leastClash_113 : decode cX2_leastClash 113 = .ok (.getfield 9, 3) := by decide +kernel
theorem dX2_leastClash_116 : decode cX2_leastClash 116 = .ok (.iload 4, 2) := by decide +kernel
theorem dX2_leastClash_118 : decode cX2_leastClash 118 = .ok (.iaload, 1) := by decide +kernel
theorem dX2_leastClash_119 : decode cX2_leastClash 119 = .ok (.ireturn, 1) := by decide +kernel
theorem dX2_leastClash_120 : decode cX2_leastClash 120 = .ok (.iinc 4 1, 3) := by decide +kernel
theorem dX2_leastClash_123 : decode cX2_leastClash 123 = .ok (.goto (-69), 3) := by decide +kernel
theorem dX2_leastClash_126 : decode cX2_leastClash 126 = .ok (.iconst (-1), 1) := by decide +kernel
theorem dX2_leastClash_127 : decode cX2_leastClash 127 = .ok (.ireturn, 1) := by decide +kernel
theorem dX6_init_0 : decode cX6_init 0 = .ok (.aload_n 0, 1) := by decide +kernel
theorem dX6_init_1 : decode cX6_init 1 = .ok (.invokespecial 3, 3) := by decide +kernel
theorem dX6_init_4 : decode cX6_init 4 = .ok (.aload_n 0, 1) := by decide +kernel
theorem dX6_init_5 : decode cX6_init 5 = .ok (.new 9, 3) := by decide +kernel
theorem dX6_init_8 : decode cX6_init 8 = .ok (.dup, 1) := by decide +kernel
theorem dX6_init_9 : decode cX6_init 9 = .ok (.invokespecial 11, 3) := by decide +kernel
theorem dX6_init_12 : decode cX6_init 12 = .ok (.putfield 12, 3) := by decide +kernel
theorem dX6_init_15 : decode cX6_init 15 = .ok (.aload_n 0, 1) := by decide +kernel
theorem dX6_init_16 : decode cX6_init 16 = .ok (.new 16, 3) := by decide +kernel
theorem dX6_init_19 : decode cX6_init 19 = .ok (.dup, 1) := by decide +kernel
theorem dX6_init_20 : decode cX6_init 20 = .ok (.aload_n 0, 1) := by decide +kernel
theorem dX6_init_21 : decode cX6_init 21 = .ok (.getfield 12, 3) := by decide +kernel
theorem dX6_init_24 : decode cX6_init 24 = .ok (.invokespecial 18, 3) := by decide +kernel
theorem dX6_init_27 : decode cX6_init 27 = .ok (.putfield 21, 3) := by decide +kernel
theorem dX6_init_30 : decode cX6_init 30 = .ok (.aload_n 0, 1) := by decide +kernel
theorem dX6_init_31 : decode cX6_init 31 = .ok (.new 25, 3) := by decide +kernel
theorem dX6_init_34 : decode cX6_init 34 = .ok (.dup, 1) := by decide +kernel
theorem dX6_init_35 : decode cX6_init 35 = .ok (.invokespecial 27, 3) := by decide +kernel
theorem dX6_init_38 : decode cX6_init 38 = .ok (.putfield 28, 3) := by decide +kernel
theorem dX6_init_41 : decode cX6_init 41 = .ok (.aload_n 0, 1) := by decide +kernel
theorem dX6_init_42 : decode cX6_init 42 = .ok (.new 32, 3) := by decide +kernel
theorem dX6_init_45 : decode cX6_init 45 = .ok (.dup, 1) := by decide +kernel
theorem dX6_init_46 : decode cX6_init 46 = .ok (.aload_n 0, 1) := by decide +kernel
theorem dX6_init_47 : decode cX6_init 47 = .ok (.getfield 21, 3) := by decide +kernel
theorem dX6_init_50 : decode cX6_init 50 = .ok (.aload_n 0, 1) := by decide +kernel
theorem dX6_init_51 : decode cX6_init 51 = .ok (.getfield 28, 3) := by decide +kernel
theorem dX6_init_54 : decode cX6_init 54 = .ok (.invokespecial 34, 3) := by decide +kernel
theorem dX6_init_57 : decode cX6_init 57 = .ok (.putfield 37, 3) := by decide +kernel
theorem dX6_init_60 : decode cX6_init 60 = .ok (.aload_n 0, 1) := by decide +kernel
theorem dX6_init_61 : decode cX6_init 61 = .ok (.new 41, 3) := by decide +kernel
theorem dX6_init_64 : decode cX6_init 64 = .ok (.dup, 1) := by decide +kernel
theorem dX6_init_65 : decode cX6_init 65 = .ok (.aload_n 0, 1) := by decide +kernel
theorem dX6_init_66 : decode cX6_init 66 = .ok (.getfield 12, 3) := by decide +kernel
theorem dX6_init_69 : decode cX6_init 69 = .ok (.aload_n 0, 1) := by decide +kernel
theorem dX6_init_70 : decode cX6_init 70 = .ok (.getfield 21, 3) := by decide +kernel
theorem dX6_init_73 : decode cX6_init 73 = .ok (.aload_n 0, 1) := by decide +kernel
theorem dX6_init_74 : decode cX6_init 74 = .ok (.getfield 28, 3) := by decide +kernel
theorem dX6_init_77 : decode cX6_init 77 = .ok (.invokespecial 43, 3) := by decide +kernel
theorem dX6_init_80 : decode cX6_init 80 = .ok (.putfield 46, 3) := by decide +kernel
theorem dX6_init_83 : decode cX6_init 83 = .ok (.return_, 1) := by decide +kernel
theorem dX6_variable_0 : decode cX6_variable 0 = .ok (.iload_n 1, 1) := by decide +kernel
theorem dX6_variable_1 : decode cX6_variable 1 = .ok (.iload_n 2, 1) := by decide +kernel
theorem dX6_variable_2 : decode cX6_variable 2 = .ok (.invokestatic 50, 3) := by decide +kernel
theorem dX6_variable_5 : decode cX6_variable 5 = .ok (.ifCond .eq 13, 3) := by decide +kernel
theorem dX6_variable_8 : decode cX6_variable 8 = .ok (.aload_n 0, 1) := by decide +kernel
theorem dX6_variable_9 : decode cX6_variable 9 = .ok (.getfield 12, 3) := by decide +kernel
theorem dX6_variable_12 : decode cX6_variable 12 = .ok (.invokevirtual 54, 3) := by decide +kernel
theorem dX6_variable_15 : decode cX6_variable 15 = .ok (.ifCond .eq 5, 3) := by decide +kernel
theorem dX6_variable_18 : decode cX6_variable 18 = .ok (.iconst (-1), 1) := by decide +kernel
theorem dX6_variable_19 : decode cX6_variable 19 = .ok (.ireturn, 1) := by decide +kernel
theorem dX6_variable_20 : decode cX6_variable 20 = .ok (.aload_n 0, 1) := by decide +kernel
theorem dX6_variable_21 : decode cX6_variable 21 = .ok (.invokevirtual 58, 3) := by decide +kernel
theorem dX6_variable_24 : decode cX6_variable 24 = .ok (.aload_n 0, 1) := by decide +kernel
theorem dX6_variable_25 : decode cX6_variable 25 = .ok (.getfield 12, 3) := by decide +kernel
theorem dX6_variable_28 : decode cX6_variable 28 = .ok (.iload_n 1, 1) := by decide +kernel
theorem dX6_variable_29 : decode cX6_variable 29 = .ok (.iload_n 2, 1) := by decide +kernel
theorem dX6_variable_30 : decode cX6_variable 30 = .ok (.invokevirtual 61, 3) := by decide +kernel
theorem dX6_variable_33 : decode cX6_variable 33 = .ok (.ireturn, 1) := by decide +kernel
theorem dX6_begins_0 : decode cX6_begins 0 = .ok (.aload_n 0, 1) := by decide +kernel
theorem dX6_begins_1 : decode cX6_begins 1 = .ok (.getfield 12, 3) := by decide +kernel
theorem dX6_begins_4 : decode cX6_begins 4 = .ok (.iload_n 1, 1) := by decide +kernel
theorem dX6_begins_5 : decode cX6_begins 5 = .ok (.invokevirtual 65, 3) := by decide +kernel
theorem dX6_begins_8 : decode cX6_begins 8 = .ok (.ifCond .ne 5, 3) := by decide +kernel
theorem dX6_begins_11 : decode cX6_begins 11 = .ok (.iconst (-1), 1) := by decide +kernel
theorem dX6_begins_12 : decode cX6_begins 12 = .ok (.ireturn, 1) := by decide +kernel
theorem dX6_begins_13 : decode cX6_begins 13 = .ok (.aload_n 0, 1) := by decide +kernel
theorem dX6_begins_14 : decode cX6_begins 14 = .ok (.getfield 12, 3) := by decide +kernel
theorem dX6_begins_17 : decode cX6_begins 17 = .ok (.iload_n 1, 1) := by decide +kernel
theorem dX6_begins_18 : decode cX6_begins 18 = .ok (.iload_n 2, 1) := by decide +kernel
theorem dX6_begins_19 : decode cX6_begins 19 = .ok (.invokevirtual 69, 3) := by decide +kernel
theorem dX6_begins_22 : decode cX6_begins 22 = .ok (.aload_n 0, 1) := by decide +kernel
theorem dX6_begins_23 : decode cX6_begins 23 = .ok (.invokevirtual 58, 3) := by decide +kernel
theorem dX6_begins_26 : decode cX6_begins 26 = .ok (.iconst 1, 1) := by decide +kernel
theorem dX6_begins_27 : decode cX6_begins 27 = .ok (.ireturn, 1) := by decide +kernel
theorem dX6_act_0 : decode cX6_act 0 = .ok (.iload_n 1, 1) := by decide +kernel
theorem dX6_act_1 : decode cX6_act 1 = .ok (.invokestatic 73, 3) := by decide +kernel
theorem dX6_act_4 : decode cX6_act 4 = .ok (.ifCond .eq 13, 3) := by decide +kernel
theorem dX6_act_7 : decode cX6_act 7 = .ok (.iload_n 2, 1) := by decide +kernel
theorem dX6_act_8 : decode cX6_act 8 = .ok (.ifCond .lt 9, 3) := by decide +kernel
theorem dX6_act_11 : decode cX6_act 11 = .ok (.iload_n 2, 1) := by decide +kernel
theorem dX6_act_12 : decode cX6_act 12 = .ok (.bipush 6, 2) := by decide +kernel
theorem dX6_act_14 : decode cX6_act 14 = .ok (.if_icmp .le 5, 3) := by decide +kernel
theorem dX6_act_17 : decode cX6_act 17 = .ok (.iconst (-1), 1) := by decide +kernel
theorem dX6_act_18 : decode cX6_act 18 = .ok (.ireturn, 1) := by decide +kernel
theorem dX6_act_19 : decode cX6_act 19 = .ok (.iload_n 2, 1) := by decide +kernel
theorem dX6_act_20 : decode cX6_act 20 = .ok (.ifCond .ne 13, 3) := by decide +kernel
theorem dX6_act_23 : decode cX6_act 23 = .ok (.aload_n 0, 1) := by decide +kernel
theorem dX6_act_24 : decode cX6_act 24 = .ok (.iload_n 1, 1) := by decide +kernel
theorem dX6_act_25 : decode cX6_act 25 = .ok (.iconst 0, 1) := by decide +kernel
theorem dX6_act_26 : decode cX6_act 26 = .ok (.iconst 0, 1) := by decide +kernel
theorem dX6_act_27 : decode cX6_act 27 = .ok (.iconst 0, 1) := by decide +kernel
theorem dX6_act_28 : decode cX6_act 28 = .ok (.iconst (-1), 1) := by decide +kernel
theorem dX6_act_29 : decode cX6_act 29 = .ok (.invokevirtual 76, 3) := by decide +kernel
theorem dX6_act_32 : decode cX6_act 32 = .ok (.ireturn, 1) := by decide +kernel
theorem dX6_act_33 : decode cX6_act 33 = .ok (.iload_n 2, 1) := by decide +kernel
theorem dX6_act_34 : decode cX6_act 34 = .ok (.iconst 5, 1) := by decide +kernel
theorem dX6_act_35 : decode cX6_act 35 = .ok (.if_icmp .eq 9, 3) := by decide +kernel
theorem dX6_act_38 : decode cX6_act 38 = .ok (.iload_n 2, 1) := by decide +kernel
theorem dX6_act_39 : decode cX6_act 39 = .ok (.bipush 6, 2) := by decide +kernel
theorem dX6_act_41 : decode cX6_act 41 = .ok (.if_icmp .ne 28, 3) := by decide +kernel
theorem dX6_act_44 : decode cX6_act 44 = .ok (.aload_n 0, 1) := by decide +kernel
theorem dX6_act_45 : decode cX6_act 45 = .ok (.getfield 12, 3) := by decide +kernel
theorem dX6_act_48 : decode cX6_act 48 = .ok (.iload_n 3, 1) := by decide +kernel
theorem dX6_act_49 : decode cX6_act 49 = .ok (.invokevirtual 65, 3) := by decide +kernel
theorem dX6_act_52 : decode cX6_act 52 = .ok (.ifCond .eq 15, 3) := by decide +kernel
theorem dX6_act_55 : decode cX6_act 55 = .ok (.aload_n 0, 1) := by decide +kernel
theorem dX6_act_56 : decode cX6_act 56 = .ok (.iload_n 1, 1) := by decide +kernel
theorem dX6_act_57 : decode cX6_act 57 = .ok (.iload_n 2, 1) := by decide +kernel
theorem dX6_act_58 : decode cX6_act 58 = .ok (.iload_n 3, 1) := by decide +kernel
theorem dX6_act_59 : decode cX6_act 59 = .ok (.iconst 0, 1) := by decide +kernel
theorem dX6_act_60 : decode cX6_act 60 = .ok (.iconst (-1), 1) := by decide +kernel
theorem dX6_act_61 : decode cX6_act 61 = .ok (.invokevirtual 76, 3) := by decide +kernel
theorem dX6_act_64 : decode cX6_act 64 = .ok (.goto 4, 3) := by decide +kernel
theorem dX6_act_67 : decode cX6_act 67 = .ok (.iconst (-1), 1) := by decide +kernel
theorem dX6_act_68 : decode cX6_act 68 = .ok (.ireturn, 1) := by decide +kernel
theorem dX6_act_69 : decode cX6_act 69 = .ok (.aload_n 0, 1) := by decide +kernel
theorem dX6_act_70 : decode cX6_act 70 = .ok (.getfield 12, 3) := by decide +kernel
theorem dX6_act_73 : decode cX6_act 73 = .ok (.iload_n 2, 1) := by decide +kernel
theorem dX6_act_74 : decode cX6_act 74 = .ok (.iload_n 3, 1) := by decide +kernel
theorem dX6_act_75 : decode cX6_act 75 = .ok (.iload 4, 2) := by decide +kernel
theorem dX6_act_77 : decode cX6_act 77 = .ok (.invokevirtual 80, 3) := by decide +kernel
theorem dX6_act_80 : decode cX6_act 80 = .ok (.ifCond .eq 16, 3) := by decide +kernel
theorem dX6_act_83 : decode cX6_act 83 = .ok (.aload_n 0, 1) := by decide +kernel
theorem dX6_act_84 : decode cX6_act 84 = .ok (.iload_n 1, 1) := by decide +kernel
theorem dX6_act_85 : decode cX6_act 85 = .ok (.iload_n 2, 1) := by decide +kernel
theorem dX6_act_86 : decode cX6_act 86 = .ok (.iload_n 3, 1) := by decide +kernel
theorem dX6_act_87 : decode cX6_act 87 = .ok (.iload 4, 2) := by decide +kernel
theorem dX6_act_89 : decode cX6_act 89 = .ok (.iconst (-1), 1) := by decide +kernel
theorem dX6_act_90 : decode cX6_act 90 = .ok (.invokevirtual 76, 3) := by decide +kernel
theorem dX6_act_93 : decode cX6_act 93 = .ok (.goto 4, 3) := by decide +kernel
theorem dX6_act_96 : decode cX6_act 96 = .ok (.iconst (-1), 1) := by decide +kernel
theorem dX6_act_97 : decode cX6_act 97 = .ok (.ireturn, 1) := by decide +kernel
theorem dX6_lend_0 : decode cX6_lend 0 = .ok (.iload_n 1, 1) := by decide +kernel
theorem dX6_lend_1 : decode cX6_lend 1 = .ok (.invokestatic 73, 3) := by decide +kernel
theorem dX6_lend_4 : decode cX6_lend 4 = .ok (.ifCond .eq 30, 3) := by decide +kernel
theorem dX6_lend_7 : decode cX6_lend 7 = .ok (.aload_n 0, 1) := by decide +kernel
theorem dX6_lend_8 : decode cX6_lend 8 = .ok (.getfield 12, 3) := by decide +kernel
theorem dX6_lend_11 : decode cX6_lend 11 = .ok (.iload_n 2, 1) := by decide +kernel
theorem dX6_lend_12 : decode cX6_lend 12 = .ok (.iload_n 3, 1) := by decide +kernel
theorem dX6_lend_13 : decode cX6_lend 13 = .ok (.iload 4, 2) := by decide +kernel
theorem dX6_lend_15 : decode cX6_lend 15 = .ok (.invokevirtual 84, 3) := by decide +kernel
theorem dX6_lend_18 : decode cX6_lend 18 = .ok (.ifCond .eq 16, 3) := by decide +kernel
theorem dX6_lend_21 : decode cX6_lend 21 = .ok (.aload_n 0, 1) := by decide +kernel
theorem dX6_lend_22 : decode cX6_lend 22 = .ok (.getfield 21, 3) := by decide +kernel
theorem dX6_lend_25 : decode cX6_lend 25 = .ok (.iload_n 1, 1) := by decide +kernel
theorem dX6_lend_26 : decode cX6_lend 26 = .ok (.invokevirtual 87, 3) := by decide +kernel
theorem dX6_lend_29 : decode cX6_lend 29 = .ok (.bipush 60, 2) := by decide +kernel
theorem dX6_lend_31 : decode cX6_lend 31 = .ok (.if_icmp .lt 5, 3) := by decide +kernel
theorem dX6_lend_34 : decode cX6_lend 34 = .ok (.iconst (-1), 1) := by decide +kernel
theorem dX6_lend_35 : decode cX6_lend 35 = .ok (.ireturn, 1) := by decide +kernel
theorem dX6_lend_36 : decode cX6_lend 36 = .ok (.aload_n 0, 1) := by decide +kernel
theorem dX6_lend_37 : decode cX6_lend 37 = .ok (.iload_n 1, 1) := by decide +kernel
theorem dX6_lend_38 : decode cX6_lend 38 = .ok (.bipush 7, 2) := by decide +kernel
theorem dX6_lend_40 : decode cX6_lend 40 = .ok (.iload_n 3, 1) := by decide +kernel
theorem dX6_lend_41 : decode cX6_lend 41 = .ok (.iload 4, 2) := by decide +kernel
theorem dX6_lend_43 : decode cX6_lend 43 = .ok (.iload_n 2, 1) := by decide +kernel
theorem dX6_lend_44 : decode cX6_lend 44 = .ok (.invokevirtual 76, 3) := by decide +kernel
theorem dX6_lend_47 : decode cX6_lend 47 = .ok (.ireturn, 1) := by decide +kernel
theorem dX6_copy_0 : decode cX6_copy 0 = .ok (.iload_n 1, 1) := by decide +kernel
theorem dX6_copy_1 : decode cX6_copy 1 = .ok (.invokestatic 73, 3) := by decide +kernel
theorem dX6_copy_4 : decode cX6_copy 4 = .ok (.ifCond .eq 15, 3) := by decide +kernel
theorem dX6_copy_7 : decode cX6_copy 7 = .ok (.aload_n 0, 1) := by decide +kernel
theorem dX6_copy_8 : decode cX6_copy 8 = .ok (.getfield 12, 3) := by decide +kernel
theorem dX6_copy_11 : decode cX6_copy 11 = .ok (.iload_n 2, 1) := by decide +kernel
theorem dX6_copy_12 : decode cX6_copy 12 = .ok (.iload_n 3, 1) := by decide +kernel
theorem dX6_copy_13 : decode cX6_copy 13 = .ok (.invokevirtual 91, 3) := by decide +kernel
theorem dX6_copy_16 : decode cX6_copy 16 = .ok (.ifCond .ne 5, 3) := by decide +kernel
theorem dX6_copy_19 : decode cX6_copy 19 = .ok (.iconst (-1), 1) := by decide +kernel
theorem dX6_copy_20 : decode cX6_copy 20 = .ok (.ireturn, 1) := by decide +kernel
theorem dX6_copy_21 : decode cX6_copy 21 = .ok (.aload_n 0, 1) := by decide +kernel
theorem dX6_copy_22 : decode cX6_copy 22 = .ok (.iload_n 1, 1) := by decide +kernel
theorem dX6_copy_23 : decode cX6_copy 23 = .ok (.bipush 8, 2) := by decide +kernel
theorem dX6_copy_25 : decode cX6_copy 25 = .ok (.iload_n 3, 1) := by decide +kernel
theorem dX6_copy_26 : decode cX6_copy 26 = .ok (.iconst 0, 1) := by decide +kernel
theorem dX6_copy_27 : decode cX6_copy 27 = .ok (.iload_n 2, 1) := by decide +kernel
theorem dX6_copy_28 : decode cX6_copy 28 = .ok (.invokevirtual 76, 3) := by decide +kernel
theorem dX6_copy_31 : decode cX6_copy 31 = .ok (.ireturn, 1) := by decide +kernel
theorem dX6_next_0 : decode cX6_next 0 = .ok (.iload_n 1, 1) := by decide +kernel
theorem dX6_next_1 : decode cX6_next 1 = .ok (.invokestatic 73, 3) := by decide +kernel
theorem dX6_next_4 : decode cX6_next 4 = .ok (.ifCond .eq 10, 3) := by decide +kernel
theorem dX6_next_7 : decode cX6_next 7 = .ok (.iload_n 2, 1) := by decide +kernel
theorem dX6_next_8 : decode cX6_next 8 = .ok (.invokestatic 73, 3) := by decide +kernel
theorem dX6_next_11 : decode cX6_next 11 = .ok (.ifCond .ne 5, 3) := by decide +kernel
theorem dX6_next_14 : decode cX6_next 14 = .ok (.iconst (-1), 1) := by decide +kernel
theorem dX6_next_15 : decode cX6_next 15 = .ok (.ireturn, 1) := by decide +kernel
theorem dX6_next_16 : decode cX6_next 16 = .ok (.iload_n 3, 1) := by decide +kernel
theorem dX6_next_17 : decode cX6_next 17 = .ok (.ifCond .eq 17, 3) := by decide +kernel
theorem dX6_next_20 : decode cX6_next 20 = .ok (.aload_n 0, 1) := by decide +kernel
theorem dX6_next_21 : decode cX6_next 21 = .ok (.getfield 28, 3) := by decide +kernel
theorem dX6_next_24 : decode cX6_next 24 = .ok (.iload_n 1, 1) := by decide +kernel
theorem dX6_next_25 : decode cX6_next 25 = .ok (.iload_n 2, 1) := by decide +kernel
theorem dX6_next_26 : decode cX6_next 26 = .ok (.invokevirtual 94, 3) := by decide +kernel
theorem dX6_next_29 : decode cX6_next 29 = .ok (.ifCond .ne 5, 3) := by decide +kernel
theorem dX6_next_32 : decode cX6_next 32 = .ok (.iconst (-1), 1) := by decide +kernel
theorem dX6_next_33 : decode cX6_next 33 = .ok (.ireturn, 1) := by decide +kernel
theorem dX6_next_34 : decode cX6_next 34 = .ok (.iload_n 3, 1) := by decide +kernel
theorem dX6_next_35 : decode cX6_next 35 = .ok (.ifCond .ne 12, 3) := by decide +kernel
theorem dX6_next_38 : decode cX6_next 38 = .ok (.aload_n 0, 1) := by decide +kernel
theorem dX6_next_39 : decode cX6_next 39 = .ok (.getfield 28, 3) := by decide +kernel
theorem dX6_next_42 : decode cX6_next 42 = .ok (.iload_n 1, 1) := by decide +kernel
theorem dX6_next_43 : decode cX6_next 43 = .ok (.iload_n 2, 1) := by decide +kernel
theorem dX6_next_44 : decode cX6_next 44 = .ok (.invokevirtual 96, 3) := by decide +kernel
theorem dX6_next_47 : decode cX6_next 47 = .ok (.aload_n 0, 1) := by decide +kernel
theorem dX6_next_48 : decode cX6_next 48 = .ok (.invokevirtual 58, 3) := by decide +kernel
theorem dX6_next_51 : decode cX6_next 51 = .ok (.iconst 1, 1) := by decide +kernel
theorem dX6_next_52 : decode cX6_next 52 = .ok (.ireturn, 1) := by decide +kernel
theorem dX6_judge_0 : decode cX6_judge 0 = .ok (.aload_n 0, 1) := by decide +kernel
theorem dX6_judge_1 : decode cX6_judge 1 = .ok (.invokevirtual 100, 3) := by decide +kernel
theorem dX6_judge_4 : decode cX6_judge 4 = .ok (.aload_n 0, 1) := by decide +kernel
theorem dX6_judge_5 : decode cX6_judge 5 = .ok (.invokevirtual 103, 3) := by decide +kernel
theorem dX6_judge_8 : decode cX6_judge 8 = .ok (.iconst (-1), 1) := by decide +kernel
theorem dX6_judge_9 : decode cX6_judge 9 = .ok (.if_icmp .eq 5, 3) := by decide +kernel
theorem dX6_judge_12 : decode cX6_judge 12 = .ok (.iconst 3, 1) := by decide +kernel
theorem dX6_judge_13 : decode cX6_judge 13 = .ok (.ireturn, 1) := by decide +kernel
theorem dX6_judge_14 : decode cX6_judge 14 = .ok (.aload_n 0, 1) := by decide +kernel
theorem dX6_judge_15 : decode cX6_judge 15 = .ok (.invokevirtual 107, 3) := by decide +kernel
theorem dX6_judge_18 : decode cX6_judge 18 = .ok (.aload_n 0, 1) := by decide +kernel
theorem dX6_judge_19 : decode cX6_judge 19 = .ok (.invokevirtual 110, 3) := by decide +kernel
theorem dX6_judge_22 : decode cX6_judge 22 = .ok (.iconst (-1), 1) := by decide +kernel
theorem dX6_judge_23 : decode cX6_judge 23 = .ok (.if_icmp .eq 7, 3) := by decide +kernel
theorem dX6_judge_26 : decode cX6_judge 26 = .ok (.iconst 4, 1) := by decide +kernel
theorem dX6_judge_27 : decode cX6_judge 27 = .ok (.goto 4, 3) := by decide +kernel
theorem dX6_judge_30 : decode cX6_judge 30 = .ok (.iconst 0, 1) := by decide +kernel
theorem dX6_judge_31 : decode cX6_judge 31 = .ok (.ireturn, 1) := by decide +kernel
theorem dX6_fault_0 : decode cX6_fault 0 = .ok (.iload_n 1, 1) := by decide +kernel
theorem dX6_fault_1 : decode cX6_fault 1 = .ok (.iconst 1, 1) := by decide +kernel
theorem dX6_fault_2 : decode cX6_fault 2 = .ok (.if_icmp .eq 10, 3) := by decide +kernel
theorem dX6_fault_5 : decode cX6_fault 5 = .ok (.iload_n 1, 1) := by decide +kernel
theorem dX6_fault_6 : decode cX6_fault 6 = .ok (.iconst 2, 1) := by decide +kernel
theorem dX6_fault_7 : decode cX6_fault 7 = .ok (.if_icmp .eq 5, 3) := by decide +kernel
theorem dX6_fault_10 : decode cX6_fault 10 = .ok (.iconst (-1), 1) := by decide +kernel
theorem dX6_fault_11 : decode cX6_fault 11 = .ok (.ireturn, 1) := by decide +kernel
theorem dX6_fault_12 : decode cX6_fault 12 = .ok (.aload_n 0, 1) := by decide +kernel
theorem dX6_fault_13 : decode cX6_fault 13 = .ok (.invokevirtual 100, 3) := by decide +kernel
theorem dX6_fault_16 : decode cX6_fault 16 = .ok (.aload_n 0, 1) := by decide +kernel
theorem dX6_fault_17 : decode cX6_fault 17 = .ok (.invokevirtual 103, 3) := by decide +kernel
theorem dX6_fault_20 : decode cX6_fault 20 = .ok (.istore_n 2, 1) := by decide +kernel
theorem dX6_fault_21 : decode cX6_fault 21 = .ok (.iload_n 2, 1) := by decide +kernel
theorem dX6_fault_22 : decode cX6_fault 22 = .ok (.iconst (-1), 1) := by decide +kernel
theorem dX6_fault_23 : decode cX6_fault 23 = .ok (.if_icmp .eq 21, 3) := by decide +kernel
theorem dX6_fault_26 : decode cX6_fault 26 = .ok (.iload_n 1, 1) := by decide +kernel
theorem dX6_fault_27 : decode cX6_fault 27 = .ok (.iconst 1, 1) := by decide +kernel
theorem dX6_fault_28 : decode cX6_fault 28 = .ok (.if_icmp .ne 7, 3) := by decide +kernel
theorem dX6_fault_31 : decode cX6_fault 31 = .ok (.iload_n 2, 1) := by decide +kernel
theorem dX6_fault_32 : decode cX6_fault 32 = .ok (.goto 11, 3) := by decide +kernel
theorem dX6_fault_35 : decode cX6_fault 35 = .ok (.aload_n 0, 1) := by decide +kernel
theorem dX6_fault_36 : decode cX6_fault 36 = .ok (.getfield 37, 3) := by decide +kernel
theorem dX6_fault_39 : decode cX6_fault 39 = .ok (.iload_n 2, 1) := by decide +kernel
theorem dX6_fault_40 : decode cX6_fault 40 = .ok (.invokevirtual 113, 3) := by decide +kernel
theorem dX6_fault_43 : decode cX6_fault 43 = .ok (.ireturn, 1) := by decide +kernel
theorem dX6_fault_44 : decode cX6_fault 44 = .ok (.aload_n 0, 1) := by decide +kernel
theorem dX6_fault_45 : decode cX6_fault 45 = .ok (.invokevirtual 107, 3) := by decide +kernel
theorem dX6_fault_48 : decode cX6_fault 48 = .ok (.aload_n 0, 1) := by decide +kernel
theorem dX6_fault_49 : decode cX6_fault 49 = .ok (.invokevirtual 110, 3) := by decide +kernel
theorem dX6_fault_52 : decode cX6_fault 52 = .ok (.istore_n 3, 1) := by decide +kernel
theorem dX6_fault_53 : decode cX6_fault 53 = .ok (.iload_n 3, 1) := by decide +kernel
theorem dX6_fault_54 : decode cX6_fault 54 = .ok (.iconst (-1), 1) := by decide +kernel
theorem dX6_fault_55 : decode cX6_fault 55 = .ok (.if_icmp .ne 5, 3) := by decide +kernel
theorem dX6_fault_58 : decode cX6_fault 58 = .ok (.iconst (-1), 1) := by decide +kernel
theorem dX6_fault_59 : decode cX6_fault 59 = .ok (.ireturn, 1) := by decide +kernel
theorem dX6_fault_60 : decode cX6_fault 60 = .ok (.iload_n 1, 1) := by decide +kernel
theorem dX6_fault_61 : decode cX6_fault 61 = .ok (.iconst 1, 1) := by decide +kernel
theorem dX6_fault_62 : decode cX6_fault 62 = .ok (.if_icmp .ne 7, 3) := by decide +kernel
theorem dX6_fault_65 : decode cX6_fault 65 = .ok (.iload_n 3, 1) := by decide +kernel
theorem dX6_fault_66 : decode cX6_fault 66 = .ok (.goto 11, 3) := by decide +kernel
theorem dX6_fault_69 : decode cX6_fault 69 = .ok (.aload_n 0, 1) := by decide +kernel
theorem dX6_fault_70 : decode cX6_fault 70 = .ok (.getfield 46, 3) := by decide +kernel
theorem dX6_fault_73 : decode cX6_fault 73 = .ok (.iload_n 3, 1) := by decide +kernel
theorem dX6_fault_74 : decode cX6_fault 74 = .ok (.invokevirtual 116, 3) := by decide +kernel
theorem dX6_fault_77 : decode cX6_fault 77 = .ok (.ireturn, 1) := by decide +kernel
theorem dX6_comes_0 : decode cX6_comes 0 = .ok (.iload_n 1, 1) := by decide +kernel
theorem dX6_comes_1 : decode cX6_comes 1 = .ok (.invokestatic 73, 3) := by decide +kernel
theorem dX6_comes_4 : decode cX6_comes 4 = .ok (.ifCond .ne 5, 3) := by decide +kernel
theorem dX6_comes_7 : decode cX6_comes 7 = .ok (.iconst (-1), 1) := by decide +kernel
theorem dX6_comes_8 : decode cX6_comes 8 = .ok (.ireturn, 1) := by decide +kernel
theorem dX6_comes_9 : decode cX6_comes 9 = .ok (.aload_n 0, 1) := by decide +kernel
theorem dX6_comes_10 : decode cX6_comes 10 = .ok (.invokevirtual 119, 3) := by decide +kernel
theorem dX6_comes_13 : decode cX6_comes 13 = .ok (.aload_n 0, 1) := by decide +kernel
theorem dX6_comes_14 : decode cX6_comes 14 = .ok (.getfield 28, 3) := by decide +kernel
theorem dX6_comes_17 : decode cX6_comes 17 = .ok (.iload_n 1, 1) := by decide +kernel
theorem dX6_comes_18 : decode cX6_comes 18 = .ok (.invokevirtual 122, 3) := by decide +kernel
theorem dX6_comes_21 : decode cX6_comes 21 = .ok (.invokestatic 125, 3) := by decide +kernel
theorem dX6_comes_24 : decode cX6_comes 24 = .ok (.ireturn, 1) := by decide +kernel
theorem dX6_held_0 : decode cX6_held 0 = .ok (.iload_n 1, 1) := by decide +kernel
theorem dX6_held_1 : decode cX6_held 1 = .ok (.invokestatic 73, 3) := by decide +kernel
theorem dX6_held_4 : decode cX6_held 4 = .ok (.ifCond .eq 15, 3) := by decide +kernel
theorem dX6_held_7 : decode cX6_held 7 = .ok (.aload_n 0, 1) := by decide +kernel
theorem dX6_held_8 : decode cX6_held 8 = .ok (.getfield 12, 3) := by decide +kernel
theorem dX6_held_11 : decode cX6_held 11 = .ok (.iload_n 2, 1) := by decide +kernel
theorem dX6_held_12 : decode cX6_held 12 = .ok (.iload_n 3, 1) := by decide +kernel
theorem dX6_held_13 : decode cX6_held 13 = .ok (.invokevirtual 129, 3) := by decide +kernel
theorem dX6_held_16 : decode cX6_held 16 = .ok (.ifCond .ne 5, 3) := by decide +kernel
theorem dX6_held_19 : decode cX6_held 19 = .ok (.iconst (-1), 1) := by decide +kernel
theorem dX6_held_20 : decode cX6_held 20 = .ok (.ireturn, 1) := by decide +kernel
theorem dX6_held_21 : decode cX6_held 21 = .ok (.aload_n 0, 1) := by decide +kernel
theorem dX6_held_22 : decode cX6_held 22 = .ok (.invokevirtual 100, 3) := by decide +kernel
theorem dX6_held_25 : decode cX6_held 25 = .ok (.aload_n 0, 1) := by decide +kernel
theorem dX6_held_26 : decode cX6_held 26 = .ok (.getfield 28, 3) := by decide +kernel
theorem dX6_held_29 : decode cX6_held 29 = .ok (.iload_n 1, 1) := by decide +kernel
theorem dX6_held_30 : decode cX6_held 30 = .ok (.invokevirtual 122, 3) := by decide +kernel
theorem dX6_held_33 : decode cX6_held 33 = .ok (.ifCond .eq 19, 3) := by decide +kernel
theorem dX6_held_36 : decode cX6_held 36 = .ok (.aload_n 0, 1) := by decide +kernel
theorem dX6_held_37 : decode cX6_held 37 = .ok (.getfield 37, 3) := by decide +kernel
theorem dX6_held_40 : decode cX6_held 40 = .ok (.iload_n 1, 1) := by decide +kernel
theorem dX6_held_41 : decode cX6_held 41 = .ok (.iload_n 2, 1) := by decide +kernel
theorem dX6_held_42 : decode cX6_held 42 = .ok (.iload_n 3, 1) := by decide +kernel
theorem dX6_held_43 : decode cX6_held 43 = .ok (.invokestatic 132, 3) := by decide +kernel
theorem dX6_held_46 : decode cX6_held 46 = .ok (.invokevirtual 136, 3) := by decide +kernel
theorem dX6_held_49 : decode cX6_held 49 = .ok (.goto 4, 3) := by decide +kernel
theorem dX6_held_52 : decode cX6_held 52 = .ok (.iconst (-1), 1) := by decide +kernel
theorem dX6_held_53 : decode cX6_held 53 = .ok (.ireturn, 1) := by decide +kernel
theorem dX6_holds_0 : decode cX6_holds 0 = .ok (.iload_n 1, 1) := by decide +kernel
theorem dX6_holds_1 : decode cX6_holds 1 = .ok (.invokestatic 73, 3) := by decide +kernel
theorem dX6_holds_4 : decode cX6_holds 4 = .ok (.ifCond .eq 22, 3) := by decide +kernel
theorem dX6_holds_7 : decode cX6_holds 7 = .ok (.aload_n 0, 1) := by decide +kernel
theorem dX6_holds_8 : decode cX6_holds 8 = .ok (.getfield 12, 3) := by decide +kernel
theorem dX6_holds_11 : decode cX6_holds 11 = .ok (.iload_n 2, 1) := by decide +kernel
theorem dX6_holds_12 : decode cX6_holds 12 = .ok (.invokevirtual 140, 3) := by decide +kernel
theorem dX6_holds_15 : decode cX6_holds 15 = .ok (.ifCond .eq 11, 3) := by decide +kernel
theorem dX6_holds_18 : decode cX6_holds 18 = .ok (.aload_n 0, 1) := by decide +kernel
theorem dX6_holds_19 : decode cX6_holds 19 = .ok (.iload_n 3, 1) := by decide +kernel
theorem dX6_holds_20 : decode cX6_holds 20 = .ok (.invokevirtual 143, 3) := by decide +kernel
theorem dX6_holds_23 : decode cX6_holds 23 = .ok (.ifCond .ne 5, 3) := by decide +kernel
theorem dX6_holds_26 : decode cX6_holds 26 = .ok (.iconst (-1), 1) := by decide +kernel
theorem dX6_holds_27 : decode cX6_holds 27 = .ok (.ireturn, 1) := by decide +kernel
theorem dX6_holds_28 : decode cX6_holds 28 = .ok (.aload_n 0, 1) := by decide +kernel
theorem dX6_holds_29 : decode cX6_holds 29 = .ok (.invokevirtual 107, 3) := by decide +kernel
theorem dX6_holds_32 : decode cX6_holds 32 = .ok (.aload_n 0, 1) := by decide +kernel
theorem dX6_holds_33 : decode cX6_holds 33 = .ok (.getfield 46, 3) := by decide +kernel
theorem dX6_holds_36 : decode cX6_holds 36 = .ok (.iload_n 1, 1) := by decide +kernel
theorem dX6_holds_37 : decode cX6_holds 37 = .ok (.iload_n 2, 1) := by decide +kernel
theorem dX6_holds_38 : decode cX6_holds 38 = .ok (.iload_n 3, 1) := by decide +kernel
theorem dX6_holds_39 : decode cX6_holds 39 = .ok (.invokevirtual 146, 3) := by decide +kernel
theorem dX6_holds_42 : decode cX6_holds 42 = .ok (.invokestatic 125, 3) := by decide +kernel
theorem dX6_holds_45 : decode cX6_holds 45 = .ok (.ireturn, 1) := by decide +kernel
theorem dX6_used_0 : decode cX6_used 0 = .ok (.iload_n 1, 1) := by decide +kernel
theorem dX6_used_1 : decode cX6_used 1 = .ok (.invokestatic 73, 3) := by decide +kernel
theorem dX6_used_4 : decode cX6_used 4 = .ok (.ifCond .eq 14, 3) := by decide +kernel
theorem dX6_used_7 : decode cX6_used 7 = .ok (.aload_n 0, 1) := by decide +kernel
theorem dX6_used_8 : decode cX6_used 8 = .ok (.getfield 12, 3) := by decide +kernel
theorem dX6_used_11 : decode cX6_used 11 = .ok (.iload_n 2, 1) := by decide +kernel
theorem dX6_used_12 : decode cX6_used 12 = .ok (.invokevirtual 140, 3) := by decide +kernel
theorem dX6_used_15 : decode cX6_used 15 = .ok (.ifCond .ne 5, 3) := by decide +kernel
theorem dX6_used_18 : decode cX6_used 18 = .ok (.iconst (-1), 1) := by decide +kernel
theorem dX6_used_19 : decode cX6_used 19 = .ok (.ireturn, 1) := by decide +kernel
theorem dX6_used_20 : decode cX6_used 20 = .ok (.aload_n 0, 1) := by decide +kernel
theorem dX6_used_21 : decode cX6_used 21 = .ok (.invokevirtual 107, 3) := by decide +kernel
theorem dX6_used_24 : decode cX6_used 24 = .ok (.aload_n 0, 1) := by decide +kernel
theorem dX6_used_25 : decode cX6_used 25 = .ok (.getfield 46, 3) := by decide +kernel
theorem dX6_used_28 : decode cX6_used 28 = .ok (.iload_n 1, 1) := by decide +kernel
theorem dX6_used_29 : decode cX6_used 29 = .ok (.iload_n 2, 1) := by decide +kernel
theorem dX6_used_30 : decode cX6_used 30 = .ok (.invokevirtual 149, 3) := by decide +kernel
theorem dX6_used_33 : decode cX6_used 33 = .ok (.invokestatic 125, 3) := by decide +kernel
theorem dX6_used_36 : decode cX6_used 36 = .ok (.ireturn, 1) := by decide +kernel
theorem dX6_force_0 : decode cX6_force 0 = .ok (.iload_n 2, 1) := by decide +kernel
theorem dX6_force_1 : decode cX6_force 1 = .ok (.invokestatic 73, 3) := by decide +kernel
theorem dX6_force_4 : decode cX6_force 4 = .ok (.ifCond .eq 11, 3) := by decide +kernel
theorem dX6_force_7 : decode cX6_force 7 = .ok (.aload_n 0, 1) := by decide +kernel
theorem dX6_force_8 : decode cX6_force 8 = .ok (.iload_n 1, 1) := by decide +kernel
theorem dX6_force_9 : decode cX6_force 9 = .ok (.invokevirtual 143, 3) := by decide +kernel
theorem dX6_force_12 : decode cX6_force 12 = .ok (.ifCond .ne 5, 3) := by decide +kernel
theorem dX6_force_15 : decode cX6_force 15 = .ok (.iconst (-1), 1) := by decide +kernel
theorem dX6_force_16 : decode cX6_force 16 = .ok (.ireturn, 1) := by decide +kernel
theorem dX6_force_17 : decode cX6_force 17 = .ok (.aload_n 0, 1) := by decide +kernel
theorem dX6_force_18 : decode cX6_force 18 = .ok (.invokevirtual 107, 3) := by decide +kernel
theorem dX6_force_21 : decode cX6_force 21 = .ok (.aload_n 0, 1) := by decide +kernel
theorem dX6_force_22 : decode cX6_force 22 = .ok (.getfield 46, 3) := by decide +kernel
theorem dX6_force_25 : decode cX6_force 25 = .ok (.iload_n 1, 1) := by decide +kernel
theorem dX6_force_26 : decode cX6_force 26 = .ok (.iload_n 2, 1) := by decide +kernel
theorem dX6_force_27 : decode cX6_force 27 = .ok (.invokevirtual 152, 3) := by decide +kernel
theorem dX6_force_30 : decode cX6_force 30 = .ok (.invokestatic 125, 3) := by decide +kernel
theorem dX6_force_33 : decode cX6_force 33 = .ok (.ireturn, 1) := by decide +kernel
theorem dX6_count_0 : decode cX6_count 0 = .ok (.iload_n 1, 1) := by decide +kernel
theorem dX6_count_1 : decode cX6_count 1 = .ok (.tableswitch 98 0 5 #[39, 47, 59, 71, 80, 89], 39) := by decide +kernel
theorem dX6_count_40 : decode cX6_count 40 = .ok (.aload_n 0, 1) := by decide +kernel
theorem dX6_count_41 : decode cX6_count 41 = .ok (.getfield 12, 3) := by decide +kernel
theorem dX6_count_44 : decode cX6_count 44 = .ok (.invokevirtual 155, 3) := by decide +kernel
theorem dX6_count_47 : decode cX6_count 47 = .ok (.ireturn, 1) := by decide +kernel
theorem dX6_count_48 : decode cX6_count 48 = .ok (.aload_n 0, 1) := by decide +kernel
theorem dX6_count_49 : decode cX6_count 49 = .ok (.invokevirtual 107, 3) := by decide +kernel
theorem dX6_count_52 : decode cX6_count 52 = .ok (.aload_n 0, 1) := by decide +kernel
theorem dX6_count_53 : decode cX6_count 53 = .ok (.getfield 46, 3) := by decide +kernel
theorem dX6_count_56 : decode cX6_count 56 = .ok (.invokevirtual 158, 3) := by decide +kernel
theorem dX6_count_59 : decode cX6_count 59 = .ok (.ireturn, 1) := by decide +kernel
theorem dX6_count_60 : decode cX6_count 60 = .ok (.aload_n 0, 1) := by decide +kernel
theorem dX6_count_61 : decode cX6_count 61 = .ok (.invokevirtual 119, 3) := by decide +kernel
theorem dX6_count_64 : decode cX6_count 64 = .ok (.aload_n 0, 1) := by decide +kernel
theorem dX6_count_65 : decode cX6_count 65 = .ok (.getfield 28, 3) := by decide +kernel
theorem dX6_count_68 : decode cX6_count 68 = .ok (.invokevirtual 159, 3) := by decide +kernel
theorem dX6_count_71 : decode cX6_count 71 = .ok (.ireturn, 1) := by decide +kernel
theorem dX6_count_72 : decode cX6_count 72 = .ok (.aload_n 0, 1) := by decide +kernel
theorem dX6_count_73 : decode cX6_count 73 = .ok (.invokevirtual 107, 3) := by decide +kernel
theorem dX6_count_76 : decode cX6_count 76 = .ok (.aload_n 0, 1) := by decide +kernel
theorem dX6_count_77 : decode cX6_count 77 = .ok (.invokevirtual 160, 3) := by decide +kernel
theorem dX6_count_80 : decode cX6_count 80 = .ok (.ireturn, 1) := by decide +kernel
theorem dX6_count_81 : decode cX6_count 81 = .ok (.aload_n 0, 1) := by decide +kernel
theorem dX6_count_82 : decode cX6_count 82 = .ok (.invokevirtual 100, 3) := by decide +kernel
theorem dX6_count_85 : decode cX6_count 85 = .ok (.aload_n 0, 1) := by decide +kernel
theorem dX6_count_86 : decode cX6_count 86 = .ok (.invokevirtual 163, 3) := by decide +kernel
theorem dX6_count_89 : decode cX6_count 89 = .ok (.ireturn, 1) := by decide +kernel
theorem dX6_count_90 : decode cX6_count 90 = .ok (.aload_n 0, 1) := by decide +kernel
theorem dX6_count_91 : decode cX6_count 91 = .ok (.invokevirtual 107, 3) := by decide +kernel
theorem dX6_count_94 : decode cX6_count 94 = .ok (.aload_n 0, 1) := by decide +kernel
theorem dX6_count_95 : decode cX6_count 95 = .ok (.invokevirtual 166, 3) := by decide +kernel
theorem dX6_count_98 : decode cX6_count 98 = .ok (.ireturn, 1) := by decide +kernel
theorem dX6_count_99 : decode cX6_count 99 = .ok (.iconst (-1), 1) := by decide +kernel
theorem dX6_count_100 : decode cX6_count 100 = .ok (.ireturn, 1) := by decide +kernel
theorem dX6_isPoint_0 : decode cX6_isPoint 0 = .ok (.iload_n 0, 1) := by decide +kernel
theorem dX6_isPoint_1 : decode cX6_isPoint 1 = .ok (.ifCond .lt 14, 3) := by decide +kernel
theorem dX6_isPoint_4 : decode cX6_isPoint 4 = .ok (.iload_n 0, 1) := by decide +kernel
theorem dX6_isPoint_5 : decode cX6_isPoint 5 = .ok (.sipush 150, 3) := by decide +kernel
theorem dX6_isPoint_8 : decode cX6_isPoint 8 = .ok (.if_icmp .ge 7, 3) := by decide +kernel
theorem dX6_isPoint_11 : decode cX6_isPoint 11 = .ok (.iconst 1, 1) := by decide +kernel
theorem dX6_isPoint_12 : decode cX6_isPoint 12 = .ok (.goto 4, 3) := by decide +kernel
theorem dX6_isPoint_15 : decode cX6_isPoint 15 = .ok (.iconst 0, 1) := by decide +kernel
theorem dX6_isPoint_16 : decode cX6_isPoint 16 = .ok (.ireturn, 1) := by decide +kernel
theorem dX6_isSort_0 : decode cX6_isSort 0 = .ok (.iload_n 0, 1) := by decide +kernel
theorem dX6_isSort_1 : decode cX6_isSort 1 = .ok (.ifCond .ne 19, 3) := by decide +kernel
theorem dX6_isSort_4 : decode cX6_isSort 4 = .ok (.iload_n 1, 1) := by decide +kernel
theorem dX6_isSort_5 : decode cX6_isSort 5 = .ok (.iconst 1, 1) := by decide +kernel
theorem dX6_isSort_6 : decode cX6_isSort 6 = .ok (.if_icmp .lt 12, 3) := by decide +kernel
theorem dX6_isSort_9 : decode cX6_isSort 9 = .ok (.iload_n 1, 1) := by decide +kernel
theorem dX6_isSort_10 : decode cX6_isSort 10 = .ok (.iconst 4, 1) := by decide +kernel
theorem dX6_isSort_11 : decode cX6_isSort 11 = .ok (.if_icmp .gt 7, 3) := by decide +kernel
theorem dX6_isSort_14 : decode cX6_isSort 14 = .ok (.iconst 1, 1) := by decide +kernel
theorem dX6_isSort_15 : decode cX6_isSort 15 = .ok (.goto 4, 3) := by decide +kernel
theorem dX6_isSort_18 : decode cX6_isSort 18 = .ok (.iconst 0, 1) := by decide +kernel
theorem dX6_isSort_19 : decode cX6_isSort 19 = .ok (.ireturn, 1) := by decide +kernel
theorem dX6_isSort_20 : decode cX6_isSort 20 = .ok (.iload_n 0, 1) := by decide +kernel
theorem dX6_isSort_21 : decode cX6_isSort 21 = .ok (.iconst 1, 1) := by decide +kernel
theorem dX6_isSort_22 : decode cX6_isSort 22 = .ok (.if_icmp .eq 8, 3) := by decide +kernel
theorem dX6_isSort_25 : decode cX6_isSort 25 = .ok (.iload_n 0, 1) := by decide +kernel
theorem dX6_isSort_26 : decode cX6_isSort 26 = .ok (.iconst 2, 1) := by decide +kernel
theorem dX6_isSort_27 : decode cX6_isSort 27 = .ok (.if_icmp .ne 12, 3) := by decide +kernel
theorem dX6_isSort_30 : decode cX6_isSort 30 = .ok (.iload_n 1, 1) := by decide +kernel
theorem dX6_isSort_31 : decode cX6_isSort 31 = .ok (.iconst 1, 1) := by decide +kernel
theorem dX6_isSort_32 : decode cX6_isSort 32 = .ok (.if_icmp .ne 7, 3) := by decide +kernel
theorem dX6_isSort_35 : decode cX6_isSort 35 = .ok (.iconst 1, 1) := by decide +kernel
theorem dX6_isSort_36 : decode cX6_isSort 36 = .ok (.goto 4, 3) := by decide +kernel
theorem dX6_isSort_39 : decode cX6_isSort 39 = .ok (.iconst 0, 1) := by decide +kernel
theorem dX6_isSort_40 : decode cX6_isSort 40 = .ok (.ireturn, 1) := by decide +kernel
theorem dX6_answer_0 : decode cX6_answer 0 = .ok (.iload_n 0, 1) := by decide +kernel
theorem dX6_answer_1 : decode cX6_answer 1 = .ok (.ifCond .eq 7, 3) := by decide +kernel
theorem dX6_answer_4 : decode cX6_answer 4 = .ok (.iconst 1, 1) := by decide +kernel
theorem dX6_answer_5 : decode cX6_answer 5 = .ok (.goto 4, 3) := by decide +kernel
theorem dX6_answer_8 : decode cX6_answer 8 = .ok (.iconst 0, 1) := by decide +kernel
theorem dX6_answer_9 : decode cX6_answer 9 = .ok (.ireturn, 1) := by decide +kernel
theorem dX6_leafBit_0 : decode cX6_leafBit 0 = .ok (.lconst 1, 1) := by decide +kernel
theorem dX6_leafBit_1 : decode cX6_leafBit 1 = .ok (.iload_n 0, 1) := by decide +kernel
theorem dX6_leafBit_2 : decode cX6_leafBit 2 = .ok (.iconst 4, 1) := by decide +kernel
theorem dX6_leafBit_3 : decode cX6_leafBit 3 = .ok (.imul, 1) := by decide +kernel
theorem dX6_leafBit_4 : decode cX6_leafBit 4 = .ok (.iload_n 1, 1) := by decide +kernel
theorem dX6_leafBit_5 : decode cX6_leafBit 5 = .ok (.iadd, 1) := by decide +kernel
theorem dX6_leafBit_6 : decode cX6_leafBit 6 = .ok (.lshl, 1) := by decide +kernel
theorem dX6_leafBit_7 : decode cX6_leafBit 7 = .ok (.lreturn, 1) := by decide +kernel
theorem dX6_isLoan_0 : decode cX6_isLoan 0 = .ok (.iload_n 1, 1) := by decide +kernel
theorem dX6_isLoan_1 : decode cX6_isLoan 1 = .ok (.invokestatic 73, 3) := by decide +kernel
theorem dX6_isLoan_4 : decode cX6_isLoan 4 = .ok (.ifCond .eq 18, 3) := by decide +kernel
theorem dX6_isLoan_7 : decode cX6_isLoan 7 = .ok (.aload_n 0, 1) := by decide +kernel
theorem dX6_isLoan_8 : decode cX6_isLoan 8 = .ok (.getfield 21, 3) := by decide +kernel
theorem dX6_isLoan_11 : decode cX6_isLoan 11 = .ok (.iload_n 1, 1) := by decide +kernel
theorem dX6_isLoan_12 : decode cX6_isLoan 12 = .ok (.invokevirtual 169, 3) := by decide +kernel
theorem dX6_isLoan_15 : decode cX6_isLoan 15 = .ok (.ifCond .eq 7, 3) := by decide +kernel
theorem dX6_isLoan_18 : decode cX6_isLoan 18 = .ok (.iconst 1, 1) := by decide +kernel
theorem dX6_isLoan_19 : decode cX6_isLoan 19 = .ok (.goto 4, 3) := by decide +kernel
theorem dX6_isLoan_22 : decode cX6_isLoan 22 = .ok (.iconst 0, 1) := by decide +kernel
theorem dX6_isLoan_23 : decode cX6_isLoan 23 = .ok (.ireturn, 1) := by decide +kernel
theorem dX6_put_0 : decode cX6_put 0 = .ok (.aload_n 0, 1) := by decide +kernel
theorem dX6_put_1 : decode cX6_put 1 = .ok (.getfield 21, 3) := by decide +kernel
theorem dX6_put_4 : decode cX6_put 4 = .ok (.iload_n 1, 1) := by decide +kernel
theorem dX6_put_5 : decode cX6_put 5 = .ok (.iload_n 2, 1) := by decide +kernel
theorem dX6_put_6 : decode cX6_put 6 = .ok (.iload_n 3, 1) := by decide +kernel
theorem dX6_put_7 : decode cX6_put 7 = .ok (.iload 4, 2) := by decide +kernel
theorem dX6_put_9 : decode cX6_put 9 = .ok (.iload 5, 2) := by decide +kernel
theorem dX6_put_11 : decode cX6_put 11 = .ok (.invokevirtual 172, 3) := by decide +kernel
theorem dX6_put_14 : decode cX6_put 14 = .ok (.aload_n 0, 1) := by decide +kernel
theorem dX6_put_15 : decode cX6_put 15 = .ok (.invokevirtual 58, 3) := by decide +kernel
theorem dX6_put_18 : decode cX6_put 18 = .ok (.iconst 1, 1) := by decide +kernel
theorem dX6_put_19 : decode cX6_put 19 = .ok (.ireturn, 1) := by decide +kernel
theorem dX6_forget_0 : decode cX6_forget 0 = .ok (.aload_n 0, 1) := by decide +kernel
theorem dX6_forget_1 : decode cX6_forget 1 = .ok (.iconst 0, 1) := by decide +kernel
theorem dX6_forget_2 : decode cX6_forget 2 = .ok (.putfield 175, 3) := by decide +kernel
theorem dX6_forget_5 : decode cX6_forget 5 = .ok (.aload_n 0, 1) := by decide +kernel
theorem dX6_forget_6 : decode cX6_forget 6 = .ok (.iconst 0, 1) := by decide +kernel
theorem dX6_forget_7 : decode cX6_forget 7 = .ok (.putfield 179, 3) := by decide +kernel
theorem dX6_forget_10 : decode cX6_forget 10 = .ok (.aload_n 0, 1) := by decide +kernel
theorem dX6_forget_11 : decode cX6_forget 11 = .ok (.iconst 0, 1) := by decide +kernel
theorem dX6_forget_12 : decode cX6_forget 12 = .ok (.putfield 182, 3) := by decide +kernel
theorem dX6_forget_15 : decode cX6_forget 15 = .ok (.return_, 1) := by decide +kernel
theorem dX6_knowWays_0 : decode cX6_knowWays 0 = .ok (.aload_n 0, 1) := by decide +kernel
theorem dX6_knowWays_1 : decode cX6_knowWays 1 = .ok (.getfield 175, 3) := by decide +kernel
theorem dX6_knowWays_4 : decode cX6_knowWays 4 = .ok (.ifCond .ne 15, 3) := by decide +kernel
theorem dX6_knowWays_7 : decode cX6_knowWays 7 = .ok (.aload_n 0, 1) := by decide +kernel
theorem dX6_knowWays_8 : decode cX6_knowWays 8 = .ok (.getfield 28, 3) := by decide +kernel
theorem dX6_knowWays_11 : decode cX6_knowWays 11 = .ok (.invokevirtual 185, 3) := by decide +kernel
theorem dX6_knowWays_14 : decode cX6_knowWays 14 = .ok (.aload_n 0, 1) := by decide +kernel
theorem dX6_knowWays_15 : decode cX6_knowWays 15 = .ok (.iconst 1, 1) := by decide +kernel
theorem dX6_knowWays_16 : decode cX6_knowWays 16 = .ok (.putfield 175, 3) := by decide +kernel
theorem dX6_knowWays_19 : decode cX6_knowWays 19 = .ok (.return_, 1) := by decide +kernel
theorem dX6_knowLeaves_0 : decode cX6_knowLeaves 0 = .ok (.aload_n 0, 1) := by decide +kernel
theorem dX6_knowLeaves_1 : decode cX6_knowLeaves 1 = .ok (.invokevirtual 119, 3) := by decide +kernel
theorem dX6_knowLeaves_4 : decode cX6_knowLeaves 4 = .ok (.aload_n 0, 1) := by decide +kernel
theorem dX6_knowLeaves_5 : decode cX6_knowLeaves 5 = .ok (.getfield 179, 3) := by decide +kernel
theorem dX6_knowLeaves_8 : decode cX6_knowLeaves 8 = .ok (.ifCond .ne 22, 3) := by decide +kernel
theorem dX6_knowLeaves_11 : decode cX6_knowLeaves 11 = .ok (.aload_n 0, 1) := by decide +kernel
theorem dX6_knowLeaves_12 : decode cX6_knowLeaves 12 = .ok (.getfield 37, 3) := by decide +kernel
theorem dX6_knowLeaves_15 : decode cX6_knowLeaves 15 = .ok (.aload_n 0, 1) := by decide +kernel
theorem dX6_knowLeaves_16 : decode cX6_knowLeaves 16 = .ok (.getfield 12, 3) := by decide +kernel
theorem dX6_knowLeaves_19 : decode cX6_knowLeaves 19 = .ok (.invokevirtual 188, 3) := by decide +kernel
theorem dX6_knowLeaves_22 : decode cX6_knowLeaves 22 = .ok (.invokevirtual 192, 3) := by decide +kernel
theorem dX6_knowLeaves_25 : decode cX6_knowLeaves 25 = .ok (.aload_n 0, 1) := by decide +kernel
theorem dX6_knowLeaves_26 : decode cX6_knowLeaves 26 = .ok (.iconst 1, 1) := by decide +kernel
theorem dX6_knowLeaves_27 : decode cX6_knowLeaves 27 = .ok (.putfield 179, 3) := by decide +kernel
theorem dX6_knowLeaves_30 : decode cX6_knowLeaves 30 = .ok (.return_, 1) := by decide +kernel
theorem dX6_knowLoans_0 : decode cX6_knowLoans 0 = .ok (.aload_n 0, 1) := by decide +kernel
theorem dX6_knowLoans_1 : decode cX6_knowLoans 1 = .ok (.invokevirtual 119, 3) := by decide +kernel
theorem dX6_knowLoans_4 : decode cX6_knowLoans 4 = .ok (.aload_n 0, 1) := by decide +kernel
theorem dX6_knowLoans_5 : decode cX6_knowLoans 5 = .ok (.getfield 182, 3) := by decide +kernel
theorem dX6_knowLoans_8 : decode cX6_knowLoans 8 = .ok (.ifCond .ne 29, 3) := by decide +kernel
theorem dX6_knowLoans_11 : decode cX6_knowLoans 11 = .ok (.aload_n 0, 1) := by decide +kernel
theorem dX6_knowLoans_12 : decode cX6_knowLoans 12 = .ok (.getfield 46, 3) := by decide +kernel
theorem dX6_knowLoans_15 : decode cX6_knowLoans 15 = .ok (.invokevirtual 196, 3) := by decide +kernel
theorem dX6_knowLoans_18 : decode cX6_knowLoans 18 = .ok (.aload_n 0, 1) := by decide +kernel
theorem dX6_knowLoans_19 : decode cX6_knowLoans 19 = .ok (.getfield 46, 3) := by decide +kernel
theorem dX6_knowLoans_22 : decode cX6_knowLoans 22 = .ok (.invokevirtual 199, 3) := by decide +kernel
theorem dX6_knowLoans_25 : decode cX6_knowLoans 25 = .ok (.aload_n 0, 1) := by decide +kernel
theorem dX6_knowLoans_26 : decode cX6_knowLoans 26 = .ok (.getfield 46, 3) := by decide +kernel
theorem dX6_knowLoans_29 : decode cX6_knowLoans 29 = .ok (.invokevirtual 202, 3) := by decide +kernel
theorem dX6_knowLoans_32 : decode cX6_knowLoans 32 = .ok (.aload_n 0, 1) := by decide +kernel
theorem dX6_knowLoans_33 : decode cX6_knowLoans 33 = .ok (.iconst 1, 1) := by decide +kernel
theorem dX6_knowLoans_34 : decode cX6_knowLoans 34 = .ok (.putfield 182, 3) := by decide +kernel
theorem dX6_knowLoans_37 : decode cX6_knowLoans 37 = .ok (.return_, 1) := by decide +kernel
theorem dX6_leastUnheld_0 : decode cX6_leastUnheld 0 = .ok (.iconst 0, 1) := by decide +kernel
theorem dX6_leastUnheld_1 : decode cX6_leastUnheld 1 = .ok (.istore_n 1, 1) := by decide +kernel
theorem dX6_leastUnheld_2 : decode cX6_leastUnheld 2 = .ok (.iload_n 1, 1) := by decide +kernel
theorem dX6_leastUnheld_3 : decode cX6_leastUnheld 3 = .ok (.sipush 150, 3) := by decide +kernel
theorem dX6_leastUnheld_6 : decode cX6_leastUnheld 6 = .ok (.if_icmp .ge 24, 3) := by decide +kernel
theorem dX6_leastUnheld_9 : decode cX6_leastUnheld 9 = .ok (.aload_n 0, 1) := by decide +kernel
theorem dX6_leastUnheld_10 : decode cX6_leastUnheld 10 = .ok (.getfield 37, 3) := by decide +kernel
theorem dX6_leastUnheld_13 : decode cX6_leastUnheld 13 = .ok (.iload_n 1, 1) := by decide +kernel
theorem dX6_leastUnheld_14 : decode cX6_leastUnheld 14 = .ok (.invokevirtual 205, 3) := by decide +kernel
theorem dX6_leastUnheld_17 : decode cX6_leastUnheld 17 = .ok (.lconst 0, 1) := by decide +kernel
theorem dX6_leastUnheld_18 : decode cX6_leastUnheld 18 = .ok (.lcmp, 1) := by decide +kernel
theorem dX6_leastUnheld_19 : decode cX6_leastUnheld 19 = .ok (.ifCond .eq 5, 3) := by decide +kernel
theorem dX6_leastUnheld_22 : decode cX6_leastUnheld 22 = .ok (.iload_n 1, 1) := by decide +kernel
theorem dX6_leastUnheld_23 : decode cX6_leastUnheld 23 = .ok (.ireturn, 1) := by decide +kernel
theorem dX6_leastUnheld_24 : decode cX6_leastUnheld 24 = .ok (.iinc 1 1, 3) := by decide +kernel
theorem dX6_leastUnheld_27 : decode cX6_leastUnheld 27 = .ok (.goto (-25), 3) := by decide +kernel
theorem dX6_leastUnheld_30 : decode cX6_leastUnheld 30 = .ok (.iconst (-1), 1) := by decide +kernel
theorem dX6_leastUnheld_31 : decode cX6_leastUnheld 31 = .ok (.ireturn, 1) := by decide +kernel
theorem dX6_leastClashing_0 : decode cX6_leastClashing 0 = .ok (.iconst 0, 1) := by decide +kernel
theorem dX6_leastClashing_1 : decode cX6_leastClashing 1 = .ok (.istore_n 1, 1) := by decide +kernel
theorem dX6_leastClashing_2 : decode cX6_leastClashing 2 = .ok (.iload_n 1, 1) := by decide +kernel
theorem dX6_leastClashing_3 : decode cX6_leastClashing 3 = .ok (.sipush 150, 3) := by decide +kernel
theorem dX6_leastClashing_6 : decode cX6_leastClashing 6 = .ok (.if_icmp .ge 23, 3) := by decide +kernel
theorem dX6_leastClashing_9 : decode cX6_leastClashing 9 = .ok (.aload_n 0, 1) := by decide +kernel
theorem dX6_leastClashing_10 : decode cX6_leastClashing 10 = .ok (.getfield 46, 3) := by decide +kernel
theorem dX6_leastClashing_13 : decode cX6_leastClashing 13 = .ok (.iload_n 1, 1) := by decide +kernel
theorem dX6_leastClashing_14 : decode cX6_leastClashing 14 = .ok (.invokevirtual 116, 3) := by decide +kernel
theorem dX6_leastClashing_17 : decode cX6_leastClashing 17 = .ok (.iconst (-1), 1) := by decide +kernel
theorem dX6_leastClashing_18 : decode cX6_leastClashing 18 = .ok (.if_icmp .eq 5, 3) := by decide +kernel
theorem dX6_leastClashing_21 : decode cX6_leastClashing 21 = .ok (.iload_n 1, 1) := by decide +kernel
theorem dX6_leastClashing_22 : decode cX6_leastClashing 22 = .ok (.ireturn, 1) := by decide +kernel
theorem dX6_leastClashing_23 : decode cX6_leastClashing 23 = .ok (.iinc 1 1, 3) := by decide +kernel
theorem dX6_leastClashing_26 : decode cX6_leastClashing 26 = .ok (.goto (-24), 3) := by decide +kernel
theorem dX6_leastClashing_29 : decode cX6_leastClashing 29 = .ok (.iconst (-1), 1) := by decide +kernel
theorem dX6_leastClashing_30 : decode cX6_leastClashing 30 = .ok (.ireturn, 1) := by decide +kernel
theorem dX6_countInForce_0 : decode cX6_countInForce 0 = .ok (.iconst 0, 1) := by decide +kernel
theorem dX6_countInForce_1 : decode cX6_countInForce 1 = .ok (.istore_n 1, 1) := by decide +kernel
theorem dX6_countInForce_2 : decode cX6_countInForce 2 = .ok (.iconst 0, 1) := by decide +kernel
theorem dX6_countInForce_3 : decode cX6_countInForce 3 = .ok (.istore_n 2, 1) := by decide +kernel
theorem dX6_countInForce_4 : decode cX6_countInForce 4 = .ok (.iload_n 2, 1) := by decide +kernel
theorem dX6_countInForce_5 : decode cX6_countInForce 5 = .ok (.sipush 150, 3) := by decide +kernel
theorem dX6_countInForce_8 : decode cX6_countInForce 8 = .ok (.if_icmp .ge 23, 3) := by decide +kernel
theorem dX6_countInForce_11 : decode cX6_countInForce 11 = .ok (.iload_n 1, 1) := by decide +kernel
theorem dX6_countInForce_12 : decode cX6_countInForce 12 = .ok (.aload_n 0, 1) := by decide +kernel
theorem dX6_countInForce_13 : decode cX6_countInForce 13 = .ok (.getfield 46, 3) := by decide +kernel
theorem dX6_countInForce_16 : decode cX6_countInForce 16 = .ok (.iload_n 2, 1) := by decide +kernel
theorem dX6_countInForce_17 : decode cX6_countInForce 17 = .ok (.invokevirtual 209, 3) := by decide +kernel
theorem dX6_countInForce_20 : decode cX6_countInForce 20 = .ok (.invokestatic 212, 3) := by decide +kernel
theorem dX6_countInForce_23 : decode cX6_countInForce 23 = .ok (.iadd, 1) := by decide +kernel
theorem dX6_countInForce_24 : decode cX6_countInForce 24 = .ok (.istore_n 1, 1) := by decide +kernel
theorem dX6_countInForce_25 : decode cX6_countInForce 25 = .ok (.iinc 2 1, 3) := by decide +kernel
theorem dX6_countInForce_28 : decode cX6_countInForce 28 = .ok (.goto (-24), 3) := by decide +kernel
theorem dX6_countInForce_31 : decode cX6_countInForce 31 = .ok (.iload_n 1, 1) := by decide +kernel
theorem dX6_countInForce_32 : decode cX6_countInForce 32 = .ok (.ireturn, 1) := by decide +kernel
theorem dX6_countUnheld_0 : decode cX6_countUnheld 0 = .ok (.iconst 0, 1) := by decide +kernel
theorem dX6_countUnheld_1 : decode cX6_countUnheld 1 = .ok (.istore_n 1, 1) := by decide +kernel
theorem dX6_countUnheld_2 : decode cX6_countUnheld 2 = .ok (.iconst 0, 1) := by decide +kernel
theorem dX6_countUnheld_3 : decode cX6_countUnheld 3 = .ok (.istore_n 2, 1) := by decide +kernel
theorem dX6_countUnheld_4 : decode cX6_countUnheld 4 = .ok (.iload_n 2, 1) := by decide +kernel
theorem dX6_countUnheld_5 : decode cX6_countUnheld 5 = .ok (.sipush 150, 3) := by decide +kernel
theorem dX6_countUnheld_8 : decode cX6_countUnheld 8 = .ok (.if_icmp .ge 33, 3) := by decide +kernel
theorem dX6_countUnheld_11 : decode cX6_countUnheld 11 = .ok (.iload_n 1, 1) := by decide +kernel
theorem dX6_countUnheld_12 : decode cX6_countUnheld 12 = .ok (.aload_n 0, 1) := by decide +kernel
theorem dX6_countUnheld_13 : decode cX6_countUnheld 13 = .ok (.getfield 37, 3) := by decide +kernel
theorem dX6_countUnheld_16 : decode cX6_countUnheld 16 = .ok (.iload_n 2, 1) := by decide +kernel
theorem dX6_countUnheld_17 : decode cX6_countUnheld 17 = .ok (.invokevirtual 205, 3) := by decide +kernel
theorem dX6_countUnheld_20 : decode cX6_countUnheld 20 = .ok (.lconst 0, 1) := by decide +kernel
theorem dX6_countUnheld_21 : decode cX6_countUnheld 21 = .ok (.lcmp, 1) := by decide +kernel
theorem dX6_countUnheld_22 : decode cX6_countUnheld 22 = .ok (.ifCond .eq 7, 3) := by decide +kernel
theorem dX6_countUnheld_25 : decode cX6_countUnheld 25 = .ok (.iconst 1, 1) := by decide +kernel
theorem dX6_countUnheld_26 : decode cX6_countUnheld 26 = .ok (.goto 4, 3) := by decide +kernel
theorem dX6_countUnheld_29 : decode cX6_countUnheld 29 = .ok (.iconst 0, 1) := by decide +kernel
theorem dX6_countUnheld_30 : decode cX6_countUnheld 30 = .ok (.invokestatic 125, 3) := by decide +kernel
theorem dX6_countUnheld_33 : decode cX6_countUnheld 33 = .ok (.iadd, 1) := by decide +kernel
theorem dX6_countUnheld_34 : decode cX6_countUnheld 34 = .ok (.istore_n 1, 1) := by decide +kernel
theorem dX6_countUnheld_35 : decode cX6_countUnheld 35 = .ok (.iinc 2 1, 3) := by decide +kernel
theorem dX6_countUnheld_38 : decode cX6_countUnheld 38 = .ok (.goto (-34), 3) := by decide +kernel
theorem dX6_countUnheld_41 : decode cX6_countUnheld 41 = .ok (.iload_n 1, 1) := by decide +kernel
theorem dX6_countUnheld_42 : decode cX6_countUnheld 42 = .ok (.ireturn, 1) := by decide +kernel
theorem dX6_countClashing_0 : decode cX6_countClashing 0 = .ok (.iconst 0, 1) := by decide +kernel
theorem dX6_countClashing_1 : decode cX6_countClashing 1 = .ok (.istore_n 1, 1) := by decide +kernel
theorem dX6_countClashing_2 : decode cX6_countClashing 2 = .ok (.iconst 0, 1) := by decide +kernel
theorem dX6_countClashing_3 : decode cX6_countClashing 3 = .ok (.istore_n 2, 1) := by decide +kernel
theorem dX6_countClashing_4 : decode cX6_countClashing 4 = .ok (.iload_n 2, 1) := by decide +kernel
theorem dX6_countClashing_5 : decode cX6_countClashing 5 = .ok (.sipush 150, 3) := by decide +kernel
theorem dX6_countClashing_8 : decode cX6_countClashing 8 = .ok (.if_icmp .ge 32, 3) := by decide +kernel
theorem dX6_countClashing_11 : decode cX6_countClashing 11 = .ok (.iload_n 1, 1) := by decide +kernel
theorem dX6_countClashing_12 : decode cX6_countClashing 12 = .ok (.aload_n 0, 1) := by decide +kernel
theorem dX6_countClashing_13 : decode cX6_countClashing 13 = .ok (.getfield 46, 3) := by decide +kernel
theorem dX6_countClashing_16 : decode cX6_countClashing 16 = .ok (.iload_n 2, 1) := by decide +kernel
theorem dX6_countClashing_17 : decode cX6_countClashing 17 = .ok (.invokevirtual 116, 3) := by decide +kernel
theorem dX6_countClashing_20 : decode cX6_countClashing 20 = .ok (.iconst (-1), 1) := by decide +kernel
theorem dX6_countClashing_21 : decode cX6_countClashing 21 = .ok (.if_icmp .eq 7, 3) := by decide +kernel
theorem dX6_countClashing_24 : decode cX6_countClashing 24 = .ok (.iconst 1, 1) := by decide +kernel
theorem dX6_countClashing_25 : decode cX6_countClashing 25 = .ok (.goto 4, 3) := by decide +kernel
theorem dX6_countClashing_28 : decode cX6_countClashing 28 = .ok (.iconst 0, 1) := by decide +kernel
theorem dX6_countClashing_29 : decode cX6_countClashing 29 = .ok (.invokestatic 125, 3) := by decide +kernel
theorem dX6_countClashing_32 : decode cX6_countClashing 32 = .ok (.iadd, 1) := by decide +kernel
theorem dX6_countClashing_33 : decode cX6_countClashing 33 = .ok (.istore_n 1, 1) := by decide +kernel
theorem dX6_countClashing_34 : decode cX6_countClashing 34 = .ok (.iinc 2 1, 3) := by decide +kernel
theorem dX6_countClashing_37 : decode cX6_countClashing 37 = .ok (.goto (-33), 3) := by decide +kernel
theorem dX6_countClashing_40 : decode cX6_countClashing 40 = .ok (.iload_n 1, 1) := by decide +kernel
theorem dX6_countClashing_41 : decode cX6_countClashing 41 = .ok (.ireturn, 1) := by decide +kernel
theorem dJ13_bitCount_95d88_0 : decode cJ13_bitCount_95d88 0 = .ok (.lload_n 0, 1) := by decide +kernel
theorem dJ13_bitCount_95d88_1 : decode cJ13_bitCount_95d88 1 = .ok (.lload_n 0, 1) := by decide +kernel
theorem dJ13_bitCount_95d88_2 : decode cJ13_bitCount_95d88 2 = .ok (.iconst 1, 1) := by decide +kernel
theorem dJ13_bitCount_95d88_3 : decode cJ13_bitCount_95d88 3 = .ok (.lushr, 1) := by decide +kernel
theorem dJ13_bitCount_95d88_4 : decode cJ13_bitCount_95d88 4 = .ok (.ldc2_w 314, 3) := by decide +kernel
theorem dJ13_bitCount_95d88_7 : decode cJ13_bitCount_95d88 7 = .ok (.land, 1) := by decide +kernel
theorem dJ13_bitCount_95d88_8 : decode cJ13_bitCount_95d88 8 = .ok (.lsub, 1) := by decide +kernel
theorem dJ13_bitCount_95d88_9 : decode cJ13_bitCount_95d88 9 = .ok (.lstore_n 0, 1) := by decide +kernel
theorem dJ13_bitCount_95d88_10 : decode cJ13_bitCount_95d88 10 = .ok (.lload_n 0, 1) := by decide +kernel
theorem dJ13_bitCount_95d88_11 : decode cJ13_bitCount_95d88 11 = .ok (.ldc2_w 316, 3) := by decide +kernel
theorem dJ13_bitCount_95d88_14 : decode cJ13_bitCount_95d88 14 = .ok (.land, 1) := by decide +kernel
theorem dJ13_bitCount_95d88_15 : decode cJ13_bitCount_95d88 15 = .ok (.lload_n 0, 1) := by decide +kernel
theorem dJ13_bitCount_95d88_16 : decode cJ13_bitCount_95d88 16 = .ok (.iconst 2, 1) := by decide +kernel
theorem dJ13_bitCount_95d88_17 : decode cJ13_bitCount_95d88 17 = .ok (.lushr, 1) := by decide +kernel
theorem dJ13_bitCount_95d88_18 : decode cJ13_bitCount_95d88 18 = .ok (.ldc2_w 316, 3) := by decide +kernel
theorem dJ13_bitCount_95d88_21 : decode cJ13_bitCount_95d88 21 = .ok (.land, 1) := by decide +kernel
theorem dJ13_bitCount_95d88_22 : decode cJ13_bitCount_95d88 22 = .ok (.ladd, 1) := by decide +kernel
theorem dJ13_bitCount_95d88_23 : decode cJ13_bitCount_95d88 23 = .ok (.lstore_n 0, 1) := by decide +kernel
theorem dJ13_bitCount_95d88_24 : decode cJ13_bitCount_95d88 24 = .ok (.lload_n 0, 1) := by decide +kernel
theorem dJ13_bitCount_95d88_25 : decode cJ13_bitCount_95d88 25 = .ok (.lload_n 0, 1) := by decide +kernel
theorem dJ13_bitCount_95d88_26 : decode cJ13_bitCount_95d88 26 = .ok (.iconst 4, 1) := by decide +kernel
theorem dJ13_bitCount_95d88_27 : decode cJ13_bitCount_95d88 27 = .ok (.lushr, 1) := by decide +kernel
theorem dJ13_bitCount_95d88_28 : decode cJ13_bitCount_95d88 28 = .ok (.ladd, 1) := by decide +kernel
theorem dJ13_bitCount_95d88_29 : decode cJ13_bitCount_95d88 29 = .ok (.ldc2_w 318, 3) := by decide +kernel
theorem dJ13_bitCount_95d88_32 : decode cJ13_bitCount_95d88 32 = .ok (.land, 1) := by decide +kernel
theorem dJ13_bitCount_95d88_33 : decode cJ13_bitCount_95d88 33 = .ok (.lstore_n 0, 1) := by decide +kernel
theorem dJ13_bitCount_95d88_34 : decode cJ13_bitCount_95d88 34 = .ok (.lload_n 0, 1) := by decide +kernel
theorem dJ13_bitCount_95d88_35 : decode cJ13_bitCount_95d88 35 = .ok (.lload_n 0, 1) := by decide +kernel
theorem dJ13_bitCount_95d88_36 : decode cJ13_bitCount_95d88 36 = .ok (.bipush 8, 2) := by decide +kernel
theorem dJ13_bitCount_95d88_38 : decode cJ13_bitCount_95d88 38 = .ok (.lushr, 1) := by decide +kernel
theorem dJ13_bitCount_95d88_39 : decode cJ13_bitCount_95d88 39 = .ok (.ladd, 1) := by decide +kernel
theorem dJ13_bitCount_95d88_40 : decode cJ13_bitCount_95d88 40 = .ok (.lstore_n 0, 1) := by decide +kernel
theorem dJ13_bitCount_95d88_41 : decode cJ13_bitCount_95d88 41 = .ok (.lload_n 0, 1) := by decide +kernel
theorem dJ13_bitCount_95d88_42 : decode cJ13_bitCount_95d88 42 = .ok (.lload_n 0, 1) := by decide +kernel
theorem dJ13_bitCount_95d88_43 : decode cJ13_bitCount_95d88 43 = .ok (.bipush 16, 2) := by decide +kernel
theorem dJ13_bitCount_95d88_45 : decode cJ13_bitCount_95d88 45 = .ok (.lushr, 1) := by decide +kernel
theorem dJ13_bitCount_95d88_46 : decode cJ13_bitCount_95d88 46 = .ok (.ladd, 1) := by decide +kernel
theorem dJ13_bitCount_95d88_47 : decode cJ13_bitCount_95d88 47 = .ok (.lstore_n 0, 1) := by decide +kernel
theorem dJ13_bitCount_95d88_48 : decode cJ13_bitCount_95d88 48 = .ok (.lload_n 0, 1) := by decide +kernel
theorem dJ13_bitCount_95d88_49 : decode cJ13_bitCount_95d88 49 = .ok (.lload_n 0, 1) := by decide +kernel
theorem dJ13_bitCount_95d88_50 : decode cJ13_bitCount_95d88 50 = .ok (.bipush 32, 2) := by decide +kernel
theorem dJ13_bitCount_95d88_52 : decode cJ13_bitCount_95d88 52 = .ok (.lushr, 1) := by decide +kernel
theorem dJ13_bitCount_95d88_53 : decode cJ13_bitCount_95d88 53 = .ok (.ladd, 1) := by decide +kernel
theorem dJ13_bitCount_95d88_54 : decode cJ13_bitCount_95d88 54 = .ok (.lstore_n 0, 1) := by decide +kernel
theorem dJ13_bitCount_95d88_55 : decode cJ13_bitCount_95d88 55 = .ok (.lload_n 0, 1) := by decide +kernel
theorem dJ13_bitCount_95d88_56 : decode cJ13_bitCount_95d88 56 = .ok (.l2i, 1) := by decide +kernel
theorem dJ13_bitCount_95d88_57 : decode cJ13_bitCount_95d88 57 = .ok (.bipush 127, 2) := by decide +kernel
theorem dJ13_bitCount_95d88_59 : decode cJ13_bitCount_95d88 59 = .ok (.iand, 1) := by decide +kernel
theorem dJ13_bitCount_95d88_60 : decode cJ13_bitCount_95d88 60 = .ok (.ireturn, 1) := by decide +kernel
theorem dJ7_fill_d0a16_0 : decode cJ7_fill_d0a16 0 = .ok (.iconst 0, 1) := by decide +kernel
theorem dJ7_fill_d0a16_1 : decode cJ7_fill_d0a16 1 = .ok (.istore_n 3, 1) := by decide +kernel
theorem dJ7_fill_d0a16_2 : decode cJ7_fill_d0a16 2 = .ok (.aload_n 0, 1) := by decide +kernel
theorem dJ7_fill_d0a16_3 : decode cJ7_fill_d0a16 3 = .ok (.arraylength, 1) := by decide +kernel
theorem dJ7_fill_d0a16_4 : decode cJ7_fill_d0a16 4 = .ok (.istore 4, 2) := by decide +kernel
theorem dJ7_fill_d0a16_6 : decode cJ7_fill_d0a16 6 = .ok (.iload_n 3, 1) := by decide +kernel
theorem dJ7_fill_d0a16_7 : decode cJ7_fill_d0a16 7 = .ok (.iload 4, 2) := by decide +kernel
theorem dJ7_fill_d0a16_9 : decode cJ7_fill_d0a16 9 = .ok (.if_icmp .ge 13, 3) := by decide +kernel
theorem dJ7_fill_d0a16_12 : decode cJ7_fill_d0a16 12 = .ok (.aload_n 0, 1) := by decide +kernel
theorem dJ7_fill_d0a16_13 : decode cJ7_fill_d0a16 13 = .ok (.iload_n 3, 1) := by decide +kernel
theorem dJ7_fill_d0a16_14 : decode cJ7_fill_d0a16 14 = .ok (.lload_n 1, 1) := by decide +kernel
theorem dJ7_fill_d0a16_15 : decode cJ7_fill_d0a16 15 = .ok (.lastore, 1) := by decide +kernel
theorem dJ7_fill_d0a16_16 : decode cJ7_fill_d0a16 16 = .ok (.iinc 3 1, 3) := by decide +kernel
theorem dJ7_fill_d0a16_19 : decode cJ7_fill_d0a16 19 = .ok (.goto (-13), 3) := by decide +kernel
theorem dJ7_fill_d0a16_22 : decode cJ7_fill_d0a16 22 = .ok (.return_, 1) := by decide +kernel
theorem dJ7_fill_53178_0 : decode cJ7_fill_53178 0 = .ok (.iconst 0, 1) := by decide +kernel
theorem dJ7_fill_53178_1 : decode cJ7_fill_53178 1 = .ok (.istore_n 2, 1) := by decide +kernel
theorem dJ7_fill_53178_2 : decode cJ7_fill_53178 2 = .ok (.aload_n 0, 1) := by decide +kernel
theorem dJ7_fill_53178_3 : decode cJ7_fill_53178 3 = .ok (.arraylength, 1) := by decide +kernel
theorem dJ7_fill_53178_4 : decode cJ7_fill_53178 4 = .ok (.istore_n 3, 1) := by decide +kernel
theorem dJ7_fill_53178_5 : decode cJ7_fill_53178 5 = .ok (.iload_n 2, 1) := by decide +kernel
theorem dJ7_fill_53178_6 : decode cJ7_fill_53178 6 = .ok (.iload_n 3, 1) := by decide +kernel
theorem dJ7_fill_53178_7 : decode cJ7_fill_53178 7 = .ok (.if_icmp .ge 13, 3) := by decide +kernel
theorem dJ7_fill_53178_10 : decode cJ7_fill_53178 10 = .ok (.aload_n 0, 1) := by decide +kernel
theorem dJ7_fill_53178_11 : decode cJ7_fill_53178 11 = .ok (.iload_n 2, 1) := by decide +kernel
theorem dJ7_fill_53178_12 : decode cJ7_fill_53178 12 = .ok (.iload_n 1, 1) := by decide +kernel
theorem dJ7_fill_53178_13 : decode cJ7_fill_53178 13 = .ok (.iastore, 1) := by decide +kernel
theorem dJ7_fill_53178_14 : decode cJ7_fill_53178 14 = .ok (.iinc 2 1, 3) := by decide +kernel
theorem dJ7_fill_53178_17 : decode cJ7_fill_53178 17 = .ok (.goto (-12), 3) := by decide +kernel
theorem dJ7_fill_53178_20 : decode cJ7_fill_53178 20 = .ok (.return_, 1) := by decide +kernel
theorem dL_law_0 : decode cL_law 0 = .ok (.new 7, 3) := by decide +kernel
theorem dL_law_3 : decode cL_law 3 = .ok (.dup, 1) := by decide +kernel
theorem dL_law_4 : decode cL_law 4 = .ok (.invokespecial 9, 3) := by decide +kernel
theorem dL_law_7 : decode cL_law 7 = .ok (.astore_n 1, 1) := by decide +kernel
theorem dL_law_8 : decode cL_law 8 = .ok (.new 10, 3) := by decide +kernel
theorem dL_law_11 : decode cL_law 11 = .ok (.dup, 1) := by decide +kernel
theorem dL_law_12 : decode cL_law 12 = .ok (.invokespecial 12, 3) := by decide +kernel
theorem dL_law_15 : decode cL_law 15 = .ok (.astore_n 2, 1) := by decide +kernel
theorem dL_law_16 : decode cL_law 16 = .ok (.iconst 0, 1) := by decide +kernel
theorem dL_law_17 : decode cL_law 17 = .ok (.istore_n 3, 1) := by decide +kernel
theorem dL_law_18 : decode cL_law 18 = .ok (.iload_n 3, 1) := by decide +kernel
theorem dL_law_19 : decode cL_law 19 = .ok (.aload_n 0, 1) := by decide +kernel
theorem dL_law_20 : decode cL_law 20 = .ok (.arraylength, 1) := by decide +kernel
theorem dL_law_21 : decode cL_law 21 = .ok (.iconst 5, 1) := by decide +kernel
theorem dL_law_22 : decode cL_law 22 = .ok (.isub, 1) := by decide +kernel
theorem dL_law_23 : decode cL_law 23 = .ok (.if_icmp .gt 611, 3) := by decide +kernel
theorem dL_law_26 : decode cL_law 26 = .ok (.aload_n 0, 1) := by decide +kernel
theorem dL_law_27 : decode cL_law 27 = .ok (.iload_n 3, 1) := by decide +kernel
theorem dL_law_28 : decode cL_law 28 = .ok (.iaload, 1) := by decide +kernel
theorem dL_law_29 : decode cL_law 29 = .ok (.bipush 15, 2) := by decide +kernel
theorem dL_law_31 : decode cL_law 31 = .ok (.iand, 1) := by decide +kernel
theorem dL_law_32 : decode cL_law 32 = .ok (.tableswitch 596 0 13 #[72, 105, 154, 207, 260, 303, 362, 375, 398, 421, 464, 507, 540, 573], 72) := by decide +kernel
theorem dL_law_104 : decode cL_law 104 = .ok (.aload_n 1, 1) := by decide +kernel
theorem dL_law_105 : decode cL_law 105 = .ok (.aload_n 0, 1) := by decide +kernel
theorem dL_law_106 : decode cL_law 106 = .ok (.iload_n 3, 1) := by decide +kernel
theorem dL_law_107 : decode cL_law 107 = .ok (.iconst 1, 1) := by decide +kernel
theorem dL_law_108 : decode cL_law 108 = .ok (.iadd, 1) := by decide +kernel
theorem dL_law_109 : decode cL_law 109 = .ok (.iaload, 1) := by decide +kernel
theorem dL_law_110 : decode cL_law 110 = .ok (.aload_n 0, 1) := by decide +kernel
theorem dL_law_111 : decode cL_law 111 = .ok (.iload_n 3, 1) := by decide +kernel
theorem dL_law_112 : decode cL_law 112 = .ok (.iconst 2, 1) := by decide +kernel
theorem dL_law_113 : decode cL_law 113 = .ok (.iadd, 1) := by decide +kernel
theorem dL_law_114 : decode cL_law 114 = .ok (.iaload, 1) := by decide +kernel
theorem dL_law_115 : decode cL_law 115 = .ok (.invokevirtual 13, 3) := by decide +kernel
theorem dL_law_118 : decode cL_law 118 = .ok (.aload_n 2, 1) := by decide +kernel
theorem dL_law_119 : decode cL_law 119 = .ok (.aload_n 0, 1) := by decide +kernel
theorem dL_law_120 : decode cL_law 120 = .ok (.iload_n 3, 1) := by decide +kernel
theorem dL_law_121 : decode cL_law 121 = .ok (.iconst 1, 1) := by decide +kernel
theorem dL_law_122 : decode cL_law 122 = .ok (.iadd, 1) := by decide +kernel
theorem dL_law_123 : decode cL_law 123 = .ok (.iaload, 1) := by decide +kernel
theorem dL_law_124 : decode cL_law 124 = .ok (.aload_n 0, 1) := by decide +kernel
theorem dL_law_125 : decode cL_law 125 = .ok (.iload_n 3, 1) := by decide +kernel
theorem dL_law_126 : decode cL_law 126 = .ok (.iconst 2, 1) := by decide +kernel
theorem dL_law_127 : decode cL_law 127 = .ok (.iadd, 1) := by decide +kernel
theorem dL_law_128 : decode cL_law 128 = .ok (.iaload, 1) := by decide +kernel
theorem dL_law_129 : decode cL_law 129 = .ok (.invokevirtual 17, 3) := by decide +kernel
theorem dL_law_132 : decode cL_law 132 = .ok (.if_icmp .eq 496, 3) := by decide +kernel
theorem dL_law_135 : decode cL_law 135 = .ok (.iconst 0, 1) := by decide +kernel
theorem dL_law_136 : decode cL_law 136 = .ok (.ireturn, 1) := by decide +kernel
theorem dL_law_137 : decode cL_law 137 = .ok (.aload_n 1, 1) := by decide +kernel
theorem dL_law_138 : decode cL_law 138 = .ok (.aload_n 0, 1) := by decide +kernel
theorem dL_law_139 : decode cL_law 139 = .ok (.iload_n 3, 1) := by decide +kernel
theorem dL_law_140 : decode cL_law 140 = .ok (.iconst 1, 1) := by decide +kernel
theorem dL_law_141 : decode cL_law 141 = .ok (.iadd, 1) := by decide +kernel
theorem dL_law_142 : decode cL_law 142 = .ok (.iaload, 1) := by decide +kernel
theorem dL_law_143 : decode cL_law 143 = .ok (.aload_n 0, 1) := by decide +kernel
theorem dL_law_144 : decode cL_law 144 = .ok (.iload_n 3, 1) := by decide +kernel
theorem dL_law_145 : decode cL_law 145 = .ok (.iconst 2, 1) := by decide +kernel
theorem dL_law_146 : decode cL_law 146 = .ok (.iadd, 1) := by decide +kernel
theorem dL_law_147 : decode cL_law 147 = .ok (.iaload, 1) := by decide +kernel
theorem dL_law_148 : decode cL_law 148 = .ok (.ifCond .eq 7, 3) := by decide +kernel
theorem dL_law_151 : decode cL_law 151 = .ok (.iconst 1, 1) := by decide +kernel
theorem dL_law_152 : decode cL_law 152 = .ok (.goto 4, 3) := by decide +kernel
theorem dL_law_155 : decode cL_law 155 = .ok (.iconst 0, 1) := by decide +kernel
theorem dL_law_156 : decode cL_law 156 = .ok (.invokevirtual 18, 3) := by decide +kernel
theorem dL_law_159 : decode cL_law 159 = .ok (.aload_n 2, 1) := by decide +kernel
theorem dL_law_160 : decode cL_law 160 = .ok (.aload_n 0, 1) := by decide +kernel
theorem dL_law_161 : decode cL_law 161 = .ok (.iload_n 3, 1) := by decide +kernel
theorem dL_law_162 : decode cL_law 162 = .ok (.iconst 1, 1) := by decide +kernel
theorem dL_law_163 : decode cL_law 163 = .ok (.iadd, 1) := by decide +kernel
theorem dL_law_164 : decode cL_law 164 = .ok (.iaload, 1) := by decide +kernel
theorem dL_law_165 : decode cL_law 165 = .ok (.aload_n 0, 1) := by decide +kernel
theorem dL_law_166 : decode cL_law 166 = .ok (.iload_n 3, 1) := by decide +kernel
theorem dL_law_167 : decode cL_law 167 = .ok (.iconst 2, 1) := by decide +kernel
theorem dL_law_168 : decode cL_law 168 = .ok (.iadd, 1) := by decide +kernel
theorem dL_law_169 : decode cL_law 169 = .ok (.iaload, 1) := by decide +kernel
theorem dL_law_170 : decode cL_law 170 = .ok (.ifCond .eq 7, 3) := by decide +kernel
theorem dL_law_173 : decode cL_law 173 = .ok (.iconst 1, 1) := by decide +kernel
theorem dL_law_174 : decode cL_law 174 = .ok (.goto 4, 3) := by decide +kernel
theorem dL_law_177 : decode cL_law 177 = .ok (.iconst 0, 1) := by decide +kernel
theorem dL_law_178 : decode cL_law 178 = .ok (.invokevirtual 22, 3) := by decide +kernel
theorem dL_law_181 : decode cL_law 181 = .ok (.if_icmp .eq 447, 3) := by decide +kernel
theorem dL_law_184 : decode cL_law 184 = .ok (.iconst 0, 1) := by decide +kernel
theorem dL_law_185 : decode cL_law 185 = .ok (.ireturn, 1) := by decide +kernel
theorem dL_law_186 : decode cL_law 186 = .ok (.aload_n 1, 1) := by decide +kernel
theorem dL_law_187 : decode cL_law 187 = .ok (.aload_n 0, 1) := by decide +kernel
theorem dL_law_188 : decode cL_law 188 = .ok (.iload_n 3, 1) := by decide +kernel
theorem dL_law_189 : decode cL_law 189 = .ok (.iconst 1, 1) := by decide +kernel
theorem dL_law_190 : decode cL_law 190 = .ok (.iadd, 1) := by decide +kernel
theorem dL_law_191 : decode cL_law 191 = .ok (.iaload, 1) := by decide +kernel
theorem dL_law_192 : decode cL_law 192 = .ok (.aload_n 0, 1) := by decide +kernel
theorem dL_law_193 : decode cL_law 193 = .ok (.iload_n 3, 1) := by decide +kernel
theorem dL_law_194 : decode cL_law 194 = .ok (.iconst 2, 1) := by decide +kernel
theorem dL_law_195 : decode cL_law 195 = .ok (.iadd, 1) := by decide +kernel
theorem dL_law_196 : decode cL_law 196 = .ok (.iaload, 1) := by decide +kernel
theorem dL_law_197 : decode cL_law 197 = .ok (.aload_n 0, 1) := by decide +kernel
theorem dL_law_198 : decode cL_law 198 = .ok (.iload_n 3, 1) := by decide +kernel
theorem dL_law_199 : decode cL_law 199 = .ok (.iconst 3, 1) := by decide +kernel
theorem dL_law_200 : decode cL_law 200 = .ok (.iadd, 1) := by decide +kernel
theorem dL_law_201 : decode cL_law 201 = .ok (.iaload, 1) := by decide +kernel
theorem dL_law_202 : decode cL_law 202 = .ok (.aload_n 0, 1) := by decide +kernel
theorem dL_law_203 : decode cL_law 203 = .ok (.iload_n 3, 1) := by decide +kernel
theorem dL_law_204 : decode cL_law 204 = .ok (.iconst 4, 1) := by decide +kernel
theorem dL_law_205 : decode cL_law 205 = .ok (.iadd, 1) := by decide +kernel
theorem dL_law_206 : decode cL_law 206 = .ok (.iaload, 1) := by decide +kernel
theorem dL_law_207 : decode cL_law 207 = .ok (.invokevirtual 23, 3) := by decide +kernel
theorem dL_law_210 : decode cL_law 210 = .ok (.aload_n 2, 1) := by decide +kernel
theorem dL_law_211 : decode cL_law 211 = .ok (.aload_n 0, 1) := by decide +kernel
theorem dL_law_212 : decode cL_law 212 = .ok (.iload_n 3, 1) := by decide +kernel
theorem dL_law_213 : decode cL_law 213 = .ok (.iconst 1, 1) := by decide +kernel
theorem dL_law_214 : decode cL_law 214 = .ok (.iadd, 1) := by decide +kernel
theorem dL_law_215 : decode cL_law 215 = .ok (.iaload, 1) := by decide +kernel
theorem dL_law_216 : decode cL_law 216 = .ok (.aload_n 0, 1) := by decide +kernel
theorem dL_law_217 : decode cL_law 217 = .ok (.iload_n 3, 1) := by decide +kernel
theorem dL_law_218 : decode cL_law 218 = .ok (.iconst 2, 1) := by decide +kernel
theorem dL_law_219 : decode cL_law 219 = .ok (.iadd, 1) := by decide +kernel
theorem dL_law_220 : decode cL_law 220 = .ok (.iaload, 1) := by decide +kernel
theorem dL_law_221 : decode cL_law 221 = .ok (.aload_n 0, 1) := by decide +kernel
theorem dL_law_222 : decode cL_law 222 = .ok (.iload_n 3, 1) := by decide +kernel
theorem dL_law_223 : decode cL_law 223 = .ok (.iconst 3, 1) := by decide +kernel
theorem dL_law_224 : decode cL_law 224 = .ok (.iadd, 1) := by decide +kernel
theorem dL_law_225 : decode cL_law 225 = .ok (.iaload, 1) := by decide +kernel
theorem dL_law_226 : decode cL_law 226 = .ok (.aload_n 0, 1) := by decide +kernel
theorem dL_law_227 : decode cL_law 227 = .ok (.iload_n 3, 1) := by decide +kernel
theorem dL_law_228 : decode cL_law 228 = .ok (.iconst 4, 1) := by decide +kernel
theorem dL_law_229 : decode cL_law 229 = .ok (.iadd, 1) := by decide +kernel
theorem dL_law_230 : decode cL_law 230 = .ok (.iaload, 1) := by decide +kernel
theorem dL_law_231 : decode cL_law 231 = .ok (.invokevirtual 27, 3) := by decide +kernel
theorem dL_law_234 : decode cL_law 234 = .ok (.if_icmp .eq 394, 3) := by decide +kernel
theorem dL_law_237 : decode cL_law 237 = .ok (.iconst 0, 1) := by decide +kernel
theorem dL_law_238 : decode cL_law 238 = .ok (.ireturn, 1) := by decide +kernel
theorem dL_law_239 : decode cL_law 239 = .ok (.aload_n 1, 1) := by decide +kernel
theorem dL_law_240 : decode cL_law 240 = .ok (.aload_n 0, 1) := by decide +kernel
theorem dL_law_241 : decode cL_law 241 = .ok (.iload_n 3, 1) := by decide +kernel
theorem dL_law_242 : decode cL_law 242 = .ok (.iconst 1, 1) := by decide +kernel
theorem dL_law_243 : decode cL_law 243 = .ok (.iadd, 1) := by decide +kernel
theorem dL_law_244 : decode cL_law 244 = .ok (.iaload, 1) := by decide +kernel
theorem dL_law_245 : decode cL_law 245 = .ok (.aload_n 0, 1) := by decide +kernel
theorem dL_law_246 : decode cL_law 246 = .ok (.iload_n 3, 1) := by decide +kernel
theorem dL_law_247 : decode cL_law 247 = .ok (.iconst 2, 1) := by decide +kernel
theorem dL_law_248 : decode cL_law 248 = .ok (.iadd, 1) := by decide +kernel
theorem dL_law_249 : decode cL_law 249 = .ok (.iaload, 1) := by decide +kernel
theorem dL_law_250 : decode cL_law 250 = .ok (.aload_n 0, 1) := by decide +kernel
theorem dL_law_251 : decode cL_law 251 = .ok (.iload_n 3, 1) := by decide +kernel
theorem dL_law_252 : decode cL_law 252 = .ok (.iconst 3, 1) := by decide +kernel
theorem dL_law_253 : decode cL_law 253 = .ok (.iadd, 1) := by decide +kernel
theorem dL_law_254 : decode cL_law 254 = .ok (.iaload, 1) := by decide +kernel
theorem dL_law_255 : decode cL_law 255 = .ok (.aload_n 0, 1) := by decide +kernel
theorem dL_law_256 : decode cL_law 256 = .ok (.iload_n 3, 1) := by decide +kernel
theorem dL_law_257 : decode cL_law 257 = .ok (.iconst 4, 1) := by decide +kernel
theorem dL_law_258 : decode cL_law 258 = .ok (.iadd, 1) := by decide +kernel
theorem dL_law_259 : decode cL_law 259 = .ok (.iaload, 1) := by decide +kernel
theorem dL_law_260 : decode cL_law 260 = .ok (.invokevirtual 28, 3) := by decide +kernel
theorem dL_law_263 : decode cL_law 263 = .ok (.aload_n 2, 1) := by decide +kernel
theorem dL_law_264 : decode cL_law 264 = .ok (.aload_n 0, 1) := by decide +kernel
theorem dL_law_265 : decode cL_law 265 = .ok (.iload_n 3, 1) := by decide +kernel
theorem dL_law_266 : decode cL_law 266 = .ok (.iconst 1, 1) := by decide +kernel
theorem dL_law_267 : decode cL_law 267 = .ok (.iadd, 1) := by decide +kernel
theorem dL_law_268 : decode cL_law 268 = .ok (.iaload, 1) := by decide +kernel
theorem dL_law_269 : decode cL_law 269 = .ok (.aload_n 0, 1) := by decide +kernel
theorem dL_law_270 : decode cL_law 270 = .ok (.iload_n 3, 1) := by decide +kernel
theorem dL_law_271 : decode cL_law 271 = .ok (.iconst 2, 1) := by decide +kernel
theorem dL_law_272 : decode cL_law 272 = .ok (.iadd, 1) := by decide +kernel
theorem dL_law_273 : decode cL_law 273 = .ok (.iaload, 1) := by decide +kernel
theorem dL_law_274 : decode cL_law 274 = .ok (.aload_n 0, 1) := by decide +kernel
theorem dL_law_275 : decode cL_law 275 = .ok (.iload_n 3, 1) := by decide +kernel
theorem dL_law_276 : decode cL_law 276 = .ok (.iconst 3, 1) := by decide +kernel
theorem dL_law_277 : decode cL_law 277 = .ok (.iadd, 1) := by decide +kernel
theorem dL_law_278 : decode cL_law 278 = .ok (.iaload, 1) := by decide +kernel
theorem dL_law_279 : decode cL_law 279 = .ok (.aload_n 0, 1) := by decide +kernel
theorem dL_law_280 : decode cL_law 280 = .ok (.iload_n 3, 1) := by decide +kernel
theorem dL_law_281 : decode cL_law 281 = .ok (.iconst 4, 1) := by decide +kernel
theorem dL_law_282 : decode cL_law 282 = .ok (.iadd, 1) := by decide +kernel
theorem dL_law_283 : decode cL_law 283 = .ok (.iaload, 1) := by decide +kernel
theorem dL_law_284 : decode cL_law 284 = .ok (.invokevirtual 31, 3) := by decide +kernel
theorem dL_law_287 : decode cL_law 287 = .ok (.if_icmp .eq 341, 3) := by decide +kernel
theorem dL_law_290 : decode cL_law 290 = .ok (.iconst 0, 1) := by decide +kernel
theorem dL_law_291 : decode cL_law 291 = .ok (.ireturn, 1) := by decide +kernel
theorem dL_law_292 : decode cL_law 292 = .ok (.aload_n 1, 1) := by decide +kernel
theorem dL_law_293 : decode cL_law 293 = .ok (.aload_n 0, 1) := by decide +kernel
theorem dL_law_294 : decode cL_law 294 = .ok (.iload_n 3, 1) := by decide +kernel
theorem dL_law_295 : decode cL_law 295 = .ok (.iconst 1, 1) := by decide +kernel
theorem dL_law_296 : decode cL_law 296 = .ok (.iadd, 1) := by decide +kernel
theorem dL_law_297 : decode cL_law 297 = .ok (.iaload, 1) := by decide +kernel
theorem dL_law_298 : decode cL_law 298 = .ok (.aload_n 0, 1) := by decide +kernel
theorem dL_law_299 : decode cL_law 299 = .ok (.iload_n 3, 1) := by decide +kernel
theorem dL_law_300 : decode cL_law 300 = .ok (.iconst 2, 1) := by decide +kernel
theorem dL_law_301 : decode cL_law 301 = .ok (.iadd, 1) := by decide +kernel
theorem dL_law_302 : decode cL_law 302 = .ok (.iaload, 1) := by decide +kernel
theorem dL_law_303 : decode cL_law 303 = .ok (.aload_n 0, 1) := by decide +kernel
theorem dL_law_304 : decode cL_law 304 = .ok (.iload_n 3, 1) := by decide +kernel
theorem dL_law_305 : decode cL_law 305 = .ok (.iconst 3, 1) := by decide +kernel
theorem dL_law_306 : decode cL_law 306 = .ok (.iadd, 1) := by decide +kernel
theorem dL_law_307 : decode cL_law 307 = .ok (.iaload, 1) := by decide +kernel
theorem dL_law_308 : decode cL_law 308 = .ok (.invokevirtual 32, 3) := by decide +kernel
theorem dL_law_311 : decode cL_law 311 = .ok (.aload_n 2, 1) := by decide +kernel
theorem dL_law_312 : decode cL_law 312 = .ok (.aload_n 0, 1) := by decide +kernel
theorem dL_law_313 : decode cL_law 313 = .ok (.iload_n 3, 1) := by decide +kernel
theorem dL_law_314 : decode cL_law 314 = .ok (.iconst 1, 1) := by decide +kernel
theorem dL_law_315 : decode cL_law 315 = .ok (.iadd, 1) := by decide +kernel
theorem dL_law_316 : decode cL_law 316 = .ok (.iaload, 1) := by decide +kernel
theorem dL_law_317 : decode cL_law 317 = .ok (.aload_n 0, 1) := by decide +kernel
theorem dL_law_318 : decode cL_law 318 = .ok (.iload_n 3, 1) := by decide +kernel
theorem dL_law_319 : decode cL_law 319 = .ok (.iconst 2, 1) := by decide +kernel
theorem dL_law_320 : decode cL_law 320 = .ok (.iadd, 1) := by decide +kernel
theorem dL_law_321 : decode cL_law 321 = .ok (.iaload, 1) := by decide +kernel
theorem dL_law_322 : decode cL_law 322 = .ok (.aload_n 0, 1) := by decide +kernel
theorem dL_law_323 : decode cL_law 323 = .ok (.iload_n 3, 1) := by decide +kernel
theorem dL_law_324 : decode cL_law 324 = .ok (.iconst 3, 1) := by decide +kernel
theorem dL_law_325 : decode cL_law 325 = .ok (.iadd, 1) := by decide +kernel
theorem dL_law_326 : decode cL_law 326 = .ok (.iaload, 1) := by decide +kernel
theorem dL_law_327 : decode cL_law 327 = .ok (.invokevirtual 36, 3) := by decide +kernel
theorem dL_law_330 : decode cL_law 330 = .ok (.if_icmp .eq 298, 3) := by decide +kernel
theorem dL_law_333 : decode cL_law 333 = .ok (.iconst 0, 1) := by decide +kernel
theorem dL_law_334 : decode cL_law 334 = .ok (.ireturn, 1) := by decide +kernel
theorem dL_law_335 : decode cL_law 335 = .ok (.aload_n 1, 1) := by decide +kernel
theorem dL_law_336 : decode cL_law 336 = .ok (.aload_n 0, 1) := by decide +kernel
theorem dL_law_337 : decode cL_law 337 = .ok (.iload_n 3, 1) := by decide +kernel
theorem dL_law_338 : decode cL_law 338 = .ok (.iconst 1, 1) := by decide +kernel
theorem dL_law_339 : decode cL_law 339 = .ok (.iadd, 1) := by decide +kernel
theorem dL_law_340 : decode cL_law 340 = .ok (.iaload, 1) := by decide +kernel
theorem dL_law_341 : decode cL_law 341 = .ok (.aload_n 0, 1) := by decide +kernel
theorem dL_law_342 : decode cL_law 342 = .ok (.iload_n 3, 1) := by decide +kernel
theorem dL_law_343 : decode cL_law 343 = .ok (.iconst 2, 1) := by decide +kernel
theorem dL_law_344 : decode cL_law 344 = .ok (.iadd, 1) := by decide +kernel
theorem dL_law_345 : decode cL_law 345 = .ok (.iaload, 1) := by decide +kernel
theorem dL_law_346 : decode cL_law 346 = .ok (.aload_n 0, 1) := by decide +kernel
theorem dL_law_347 : decode cL_law 347 = .ok (.iload_n 3, 1) := by decide +kernel
theorem dL_law_348 : decode cL_law 348 = .ok (.iconst 3, 1) := by decide +kernel
theorem dL_law_349 : decode cL_law 349 = .ok (.iadd, 1) := by decide +kernel
theorem dL_law_350 : decode cL_law 350 = .ok (.iaload, 1) := by decide +kernel
theorem dL_law_351 : decode cL_law 351 = .ok (.ifCond .eq 7, 3) := by decide +kernel
theorem dL_law_354 : decode cL_law 354 = .ok (.iconst 1, 1) := by decide +kernel
theorem dL_law_355 : decode cL_law 355 = .ok (.goto 4, 3) := by decide +kernel
theorem dL_law_358 : decode cL_law 358 = .ok (.iconst 0, 1) := by decide +kernel
theorem dL_law_359 : decode cL_law 359 = .ok (.invokevirtual 37, 3) := by decide +kernel
theorem dL_law_362 : decode cL_law 362 = .ok (.aload_n 2, 1) := by decide +kernel
theorem dL_law_363 : decode cL_law 363 = .ok (.aload_n 0, 1) := by decide +kernel
theorem dL_law_364 : decode cL_law 364 = .ok (.iload_n 3, 1) := by decide +kernel
theorem dL_law_365 : decode cL_law 365 = .ok (.iconst 1, 1) := by decide +kernel
theorem dL_law_366 : decode cL_law 366 = .ok (.iadd, 1) := by decide +kernel
theorem dL_law_367 : decode cL_law 367 = .ok (.iaload, 1) := by decide +kernel
theorem dL_law_368 : decode cL_law 368 = .ok (.aload_n 0, 1) := by decide +kernel
theorem dL_law_369 : decode cL_law 369 = .ok (.iload_n 3, 1) := by decide +kernel
theorem dL_law_370 : decode cL_law 370 = .ok (.iconst 2, 1) := by decide +kernel
theorem dL_law_371 : decode cL_law 371 = .ok (.iadd, 1) := by decide +kernel
theorem dL_law_372 : decode cL_law 372 = .ok (.iaload, 1) := by decide +kernel
theorem dL_law_373 : decode cL_law 373 = .ok (.aload_n 0, 1) := by decide +kernel
theorem dL_law_374 : decode cL_law 374 = .ok (.iload_n 3, 1) := by decide +kernel
theorem dL_law_375 : decode cL_law 375 = .ok (.iconst 3, 1) := by decide +kernel
theorem dL_law_376 : decode cL_law 376 = .ok (.iadd, 1) := by decide +kernel
theorem dL_law_377 : decode cL_law 377 = .ok (.iaload, 1) := by decide +kernel
theorem dL_law_378 : decode cL_law 378 = .ok (.ifCond .eq 7, 3) := by decide +kernel
theorem dL_law_381 : decode cL_law 381 = .ok (.iconst 1, 1) := by decide +kernel
theorem dL_law_382 : decode cL_law 382 = .ok (.goto 4, 3) := by decide +kernel
theorem dL_law_385 : decode cL_law 385 = .ok (.iconst 0, 1) := by decide +kernel
theorem dL_law_386 : decode cL_law 386 = .ok (.invokevirtual 41, 3) := by decide +kernel
theorem dL_law_389 : decode cL_law 389 = .ok (.if_icmp .eq 239, 3) := by decide +kernel
theorem dL_law_392 : decode cL_law 392 = .ok (.iconst 0, 1) := by decide +kernel
theorem dL_law_393 : decode cL_law 393 = .ok (.ireturn, 1) := by decide +kernel
theorem dL_law_394 : decode cL_law 394 = .ok (.aload_n 1, 1) := by decide +kernel
theorem dL_law_395 : decode cL_law 395 = .ok (.invokevirtual 42, 3) := by decide +kernel
theorem dL_law_398 : decode cL_law 398 = .ok (.aload_n 2, 1) := by decide +kernel
theorem dL_law_399 : decode cL_law 399 = .ok (.invokevirtual 46, 3) := by decide +kernel
theorem dL_law_402 : decode cL_law 402 = .ok (.if_icmp .eq 226, 3) := by decide +kernel
theorem dL_law_405 : decode cL_law 405 = .ok (.iconst 0, 1) := by decide +kernel
theorem dL_law_406 : decode cL_law 406 = .ok (.ireturn, 1) := by decide +kernel
theorem dL_law_407 : decode cL_law 407 = .ok (.aload_n 1, 1) := by decide +kernel
theorem dL_law_408 : decode cL_law 408 = .ok (.aload_n 0, 1) := by decide +kernel
theorem dL_law_409 : decode cL_law 409 = .ok (.iload_n 3, 1) := by decide +kernel
theorem dL_law_410 : decode cL_law 410 = .ok (.iconst 1, 1) := by decide +kernel
theorem dL_law_411 : decode cL_law 411 = .ok (.iadd, 1) := by decide +kernel
theorem dL_law_412 : decode cL_law 412 = .ok (.iaload, 1) := by decide +kernel
theorem dL_law_413 : decode cL_law 413 = .ok (.invokevirtual 47, 3) := by decide +kernel
theorem dL_law_416 : decode cL_law 416 = .ok (.aload_n 2, 1) := by decide +kernel
theorem dL_law_417 : decode cL_law 417 = .ok (.aload_n 0, 1) := by decide +kernel
theorem dL_law_418 : decode cL_law 418 = .ok (.iload_n 3, 1) := by decide +kernel
theorem dL_law_419 : decode cL_law 419 = .ok (.iconst 1, 1) := by decide +kernel
theorem dL_law_420 : decode cL_law 420 = .ok (.iadd, 1) := by decide +kernel
theorem dL_law_421 : decode cL_law 421 = .ok (.iaload, 1) := by decide +kernel
theorem dL_law_422 : decode cL_law 422 = .ok (.invokevirtual 51, 3) := by decide +kernel
theorem dL_law_425 : decode cL_law 425 = .ok (.if_icmp .eq 203, 3) := by decide +kernel
theorem dL_law_428 : decode cL_law 428 = .ok (.iconst 0, 1) := by decide +kernel
theorem dL_law_429 : decode cL_law 429 = .ok (.ireturn, 1) := by decide +kernel
theorem dL_law_430 : decode cL_law 430 = .ok (.aload_n 1, 1) := by decide +kernel
theorem dL_law_431 : decode cL_law 431 = .ok (.aload_n 0, 1) := by decide +kernel
theorem dL_law_432 : decode cL_law 432 = .ok (.iload_n 3, 1) := by decide +kernel
theorem dL_law_433 : decode cL_law 433 = .ok (.iconst 1, 1) := by decide +kernel
theorem dL_law_434 : decode cL_law 434 = .ok (.iadd, 1) := by decide +kernel
theorem dL_law_435 : decode cL_law 435 = .ok (.iaload, 1) := by decide +kernel
theorem dL_law_436 : decode cL_law 436 = .ok (.invokevirtual 52, 3) := by decide +kernel
theorem dL_law_439 : decode cL_law 439 = .ok (.aload_n 2, 1) := by decide +kernel
theorem dL_law_440 : decode cL_law 440 = .ok (.aload_n 0, 1) := by decide +kernel
theorem dL_law_441 : decode cL_law 441 = .ok (.iload_n 3, 1) := by decide +kernel
theorem dL_law_442 : decode cL_law 442 = .ok (.iconst 1, 1) := by decide +kernel
theorem dL_law_443 : decode cL_law 443 = .ok (.iadd, 1) := by decide +kernel
theorem dL_law_444 : decode cL_law 444 = .ok (.iaload, 1) := by decide +kernel
theorem dL_law_445 : decode cL_law 445 = .ok (.invokevirtual 55, 3) := by decide +kernel
theorem dL_law_448 : decode cL_law 448 = .ok (.if_icmp .eq 180, 3) := by decide +kernel
theorem dL_law_451 : decode cL_law 451 = .ok (.iconst 0, 1) := by decide +kernel
theorem dL_law_452 : decode cL_law 452 = .ok (.ireturn, 1) := by decide +kernel
theorem dL_law_453 : decode cL_law 453 = .ok (.aload_n 1, 1) := by decide +kernel
theorem dL_law_454 : decode cL_law 454 = .ok (.aload_n 0, 1) := by decide +kernel
theorem dL_law_455 : decode cL_law 455 = .ok (.iload_n 3, 1) := by decide +kernel
theorem dL_law_456 : decode cL_law 456 = .ok (.iconst 1, 1) := by decide +kernel
theorem dL_law_457 : decode cL_law 457 = .ok (.iadd, 1) := by decide +kernel
theorem dL_law_458 : decode cL_law 458 = .ok (.iaload, 1) := by decide +kernel
theorem dL_law_459 : decode cL_law 459 = .ok (.aload_n 0, 1) := by decide +kernel
theorem dL_law_460 : decode cL_law 460 = .ok (.iload_n 3, 1) := by decide +kernel
theorem dL_law_461 : decode cL_law 461 = .ok (.iconst 2, 1) := by decide +kernel
theorem dL_law_462 : decode cL_law 462 = .ok (.iadd, 1) := by decide +kernel
theorem dL_law_463 : decode cL_law 463 = .ok (.iaload, 1) := by decide +kernel
theorem dL_law_464 : decode cL_law 464 = .ok (.aload_n 0, 1) := by decide +kernel
theorem dL_law_465 : decode cL_law 465 = .ok (.iload_n 3, 1) := by decide +kernel
theorem dL_law_466 : decode cL_law 466 = .ok (.iconst 3, 1) := by decide +kernel
theorem dL_law_467 : decode cL_law 467 = .ok (.iadd, 1) := by decide +kernel
theorem dL_law_468 : decode cL_law 468 = .ok (.iaload, 1) := by decide +kernel
theorem dL_law_469 : decode cL_law 469 = .ok (.invokevirtual 56, 3) := by decide +kernel
theorem dL_law_472 : decode cL_law 472 = .ok (.aload_n 2, 1) := by decide +kernel
theorem dL_law_473 : decode cL_law 473 = .ok (.aload_n 0, 1) := by decide +kernel
theorem dL_law_474 : decode cL_law 474 = .ok (.iload_n 3, 1) := by decide +kernel
theorem dL_law_475 : decode cL_law 475 = .ok (.iconst 1, 1) := by decide +kernel
theorem dL_law_476 : decode cL_law 476 = .ok (.iadd, 1) := by decide +kernel
theorem dL_law_477 : decode cL_law 477 = .ok (.iaload, 1) := by decide +kernel
theorem dL_law_478 : decode cL_law 478 = .ok (.aload_n 0, 1) := by decide +kernel
theorem dL_law_479 : decode cL_law 479 = .ok (.iload_n 3, 1) := by decide +kernel
theorem dL_law_480 : decode cL_law 480 = .ok (.iconst 2, 1) := by decide +kernel
theorem dL_law_481 : decode cL_law 481 = .ok (.iadd, 1) := by decide +kernel
theorem dL_law_482 : decode cL_law 482 = .ok (.iaload, 1) := by decide +kernel
theorem dL_law_483 : decode cL_law 483 = .ok (.aload_n 0, 1) := by decide +kernel
theorem dL_law_484 : decode cL_law 484 = .ok (.iload_n 3, 1) := by decide +kernel
theorem dL_law_485 : decode cL_law 485 = .ok (.iconst 3, 1) := by decide +kernel
theorem dL_law_486 : decode cL_law 486 = .ok (.iadd, 1) := by decide +kernel
theorem dL_law_487 : decode cL_law 487 = .ok (.iaload, 1) := by decide +kernel
theorem dL_law_488 : decode cL_law 488 = .ok (.invokevirtual 59, 3) := by decide +kernel
theorem dL_law_491 : decode cL_law 491 = .ok (.if_icmp .eq 137, 3) := by decide +kernel
theorem dL_law_494 : decode cL_law 494 = .ok (.iconst 0, 1) := by decide +kernel
theorem dL_law_495 : decode cL_law 495 = .ok (.ireturn, 1) := by decide +kernel
theorem dL_law_496 : decode cL_law 496 = .ok (.aload_n 1, 1) := by decide +kernel
theorem dL_law_497 : decode cL_law 497 = .ok (.aload_n 0, 1) := by decide +kernel
theorem dL_law_498 : decode cL_law 498 = .ok (.iload_n 3, 1) := by decide +kernel
theorem dL_law_499 : decode cL_law 499 = .ok (.iconst 1, 1) := by decide +kernel
theorem dL_law_500 : decode cL_law 500 = .ok (.iadd, 1) := by decide +kernel
theorem dL_law_501 : decode cL_law 501 = .ok (.iaload, 1) := by decide +kernel
theorem dL_law_502 : decode cL_law 502 = .ok (.aload_n 0, 1) := by decide +kernel
theorem dL_law_503 : decode cL_law 503 = .ok (.iload_n 3, 1) := by decide +kernel
theorem dL_law_504 : decode cL_law 504 = .ok (.iconst 2, 1) := by decide +kernel
theorem dL_law_505 : decode cL_law 505 = .ok (.iadd, 1) := by decide +kernel
theorem dL_law_506 : decode cL_law 506 = .ok (.iaload, 1) := by decide +kernel
theorem dL_law_507 : decode cL_law 507 = .ok (.aload_n 0, 1) := by decide +kernel
theorem dL_law_508 : decode cL_law 508 = .ok (.iload_n 3, 1) := by decide +kernel
theorem dL_law_509 : decode cL_law 509 = .ok (.iconst 3, 1) := by decide +kernel
theorem dL_law_510 : decode cL_law 510 = .ok (.iadd, 1) := by decide +kernel
theorem dL_law_511 : decode cL_law 511 = .ok (.iaload, 1) := by decide +kernel
theorem dL_law_512 : decode cL_law 512 = .ok (.invokevirtual 60, 3) := by decide +kernel
theorem dL_law_515 : decode cL_law 515 = .ok (.aload_n 2, 1) := by decide +kernel
theorem dL_law_516 : decode cL_law 516 = .ok (.aload_n 0, 1) := by decide +kernel
theorem dL_law_517 : decode cL_law 517 = .ok (.iload_n 3, 1) := by decide +kernel
theorem dL_law_518 : decode cL_law 518 = .ok (.iconst 1, 1) := by decide +kernel
theorem dL_law_519 : decode cL_law 519 = .ok (.iadd, 1) := by decide +kernel
theorem dL_law_520 : decode cL_law 520 = .ok (.iaload, 1) := by decide +kernel
theorem dL_law_521 : decode cL_law 521 = .ok (.aload_n 0, 1) := by decide +kernel
theorem dL_law_522 : decode cL_law 522 = .ok (.iload_n 3, 1) := by decide +kernel
theorem dL_law_523 : decode cL_law 523 = .ok (.iconst 2, 1) := by decide +kernel
theorem dL_law_524 : decode cL_law 524 = .ok (.iadd, 1) := by decide +kernel
theorem dL_law_525 : decode cL_law 525 = .ok (.iaload, 1) := by decide +kernel
theorem dL_law_526 : decode cL_law 526 = .ok (.aload_n 0, 1) := by decide +kernel
theorem dL_law_527 : decode cL_law 527 = .ok (.iload_n 3, 1) := by decide +kernel
theorem dL_law_528 : decode cL_law 528 = .ok (.iconst 3, 1) := by decide +kernel
theorem dL_law_529 : decode cL_law 529 = .ok (.iadd, 1) := by decide +kernel
theorem dL_law_530 : decode cL_law 530 = .ok (.iaload, 1) := by decide +kernel
theorem dL_law_531 : decode cL_law 531 = .ok (.invokevirtual 63, 3) := by decide +kernel
theorem dL_law_534 : decode cL_law 534 = .ok (.if_icmp .eq 94, 3) := by decide +kernel
theorem dL_law_537 : decode cL_law 537 = .ok (.iconst 0, 1) := by decide +kernel
theorem dL_law_538 : decode cL_law 538 = .ok (.ireturn, 1) := by decide +kernel
theorem dL_law_539 : decode cL_law 539 = .ok (.aload_n 1, 1) := by decide +kernel
theorem dL_law_540 : decode cL_law 540 = .ok (.aload_n 0, 1) := by decide +kernel
theorem dL_law_541 : decode cL_law 541 = .ok (.iload_n 3, 1) := by decide +kernel
theorem dL_law_542 : decode cL_law 542 = .ok (.iconst 1, 1) := by decide +kernel
theorem dL_law_543 : decode cL_law 543 = .ok (.iadd, 1) := by decide +kernel
theorem dL_law_544 : decode cL_law 544 = .ok (.iaload, 1) := by decide +kernel
theorem dL_law_545 : decode cL_law 545 = .ok (.aload_n 0, 1) := by decide +kernel
theorem dL_law_546 : decode cL_law 546 = .ok (.iload_n 3, 1) := by decide +kernel
theorem dL_law_547 : decode cL_law 547 = .ok (.iconst 2, 1) := by decide +kernel
theorem dL_law_548 : decode cL_law 548 = .ok (.iadd, 1) := by decide +kernel
theorem dL_law_549 : decode cL_law 549 = .ok (.iaload, 1) := by decide +kernel
theorem dL_law_550 : decode cL_law 550 = .ok (.invokevirtual 64, 3) := by decide +kernel
theorem dL_law_553 : decode cL_law 553 = .ok (.aload_n 2, 1) := by decide +kernel
theorem dL_law_554 : decode cL_law 554 = .ok (.aload_n 0, 1) := by decide +kernel
theorem dL_law_555 : decode cL_law 555 = .ok (.iload_n 3, 1) := by decide +kernel
theorem dL_law_556 : decode cL_law 556 = .ok (.iconst 1, 1) := by decide +kernel
theorem dL_law_557 : decode cL_law 557 = .ok (.iadd, 1) := by decide +kernel
theorem dL_law_558 : decode cL_law 558 = .ok (.iaload, 1) := by decide +kernel
theorem dL_law_559 : decode cL_law 559 = .ok (.aload_n 0, 1) := by decide +kernel
theorem dL_law_560 : decode cL_law 560 = .ok (.iload_n 3, 1) := by decide +kernel
theorem dL_law_561 : decode cL_law 561 = .ok (.iconst 2, 1) := by decide +kernel
theorem dL_law_562 : decode cL_law 562 = .ok (.iadd, 1) := by decide +kernel
theorem dL_law_563 : decode cL_law 563 = .ok (.iaload, 1) := by decide +kernel
theorem dL_law_564 : decode cL_law 564 = .ok (.invokevirtual 67, 3) := by decide +kernel
theorem dL_law_567 : decode cL_law 567 = .ok (.if_icmp .eq 61, 3) := by decide +kernel
theorem dL_law_570 : decode cL_law 570 = .ok (.iconst 0, 1) := by decide +kernel
theorem dL_law_571 : decode cL_law 571 = .ok (.ireturn, 1) := by decide +kernel
theorem dL_law_572 : decode cL_law 572 = .ok (.aload_n 1, 1) := by decide +kernel
theorem dL_law_573 : decode cL_law 573 = .ok (.aload_n 0, 1) := by decide +kernel
theorem dL_law_574 : decode cL_law 574 = .ok (.iload_n 3, 1) := by decide +kernel
theorem dL_law_575 : decode cL_law 575 = .ok (.iconst 1, 1) := by decide +kernel
theorem dL_law_576 : decode cL_law 576 = .ok (.iadd, 1) := by decide +kernel
theorem dL_law_577 : decode cL_law 577 = .ok (.iaload, 1) := by decide +kernel
theorem dL_law_578 : decode cL_law 578 = .ok (.aload_n 0, 1) := by decide +kernel
theorem dL_law_579 : decode cL_law 579 = .ok (.iload_n 3, 1) := by decide +kernel
theorem dL_law_580 : decode cL_law 580 = .ok (.iconst 2, 1) := by decide +kernel
theorem dL_law_581 : decode cL_law 581 = .ok (.iadd, 1) := by decide +kernel
theorem dL_law_582 : decode cL_law 582 = .ok (.iaload, 1) := by decide +kernel
theorem dL_law_583 : decode cL_law 583 = .ok (.invokevirtual 68, 3) := by decide +kernel
theorem dL_law_586 : decode cL_law 586 = .ok (.aload_n 2, 1) := by decide +kernel
theorem dL_law_587 : decode cL_law 587 = .ok (.aload_n 0, 1) := by decide +kernel
theorem dL_law_588 : decode cL_law 588 = .ok (.iload_n 3, 1) := by decide +kernel
theorem dL_law_589 : decode cL_law 589 = .ok (.iconst 1, 1) := by decide +kernel
theorem dL_law_590 : decode cL_law 590 = .ok (.iadd, 1) := by decide +kernel
theorem dL_law_591 : decode cL_law 591 = .ok (.iaload, 1) := by decide +kernel
theorem dL_law_592 : decode cL_law 592 = .ok (.aload_n 0, 1) := by decide +kernel
theorem dL_law_593 : decode cL_law 593 = .ok (.iload_n 3, 1) := by decide +kernel
theorem dL_law_594 : decode cL_law 594 = .ok (.iconst 2, 1) := by decide +kernel
theorem dL_law_595 : decode cL_law 595 = .ok (.iadd, 1) := by decide +kernel
theorem dL_law_596 : decode cL_law 596 = .ok (.iaload, 1) := by decide +kernel
theorem dL_law_597 : decode cL_law 597 = .ok (.invokevirtual 71, 3) := by decide +kernel
theorem dL_law_600 : decode cL_law 600 = .ok (.if_icmp .eq 28, 3) := by decide +kernel
theorem dL_law_603 : decode cL_law 603 = .ok (.iconst 0, 1) := by decide +kernel
theorem dL_law_604 : decode cL_law 604 = .ok (.ireturn, 1) := by decide +kernel
theorem dL_law_605 : decode cL_law 605 = .ok (.aload_n 1, 1) := by decide +kernel
theorem dL_law_606 : decode cL_law 606 = .ok (.aload_n 0, 1) := by decide +kernel
theorem dL_law_607 : decode cL_law 607 = .ok (.iload_n 3, 1) := by decide +kernel
theorem dL_law_608 : decode cL_law 608 = .ok (.iconst 1, 1) := by decide +kernel
theorem dL_law_609 : decode cL_law 609 = .ok (.iadd, 1) := by decide +kernel
theorem dL_law_610 : decode cL_law 610 = .ok (.iaload, 1) := by decide +kernel
theorem dL_law_611 : decode cL_law 611 = .ok (.invokevirtual 72, 3) := by decide +kernel
theorem dL_law_614 : decode cL_law 614 = .ok (.aload_n 2, 1) := by decide +kernel
theorem dL_law_615 : decode cL_law 615 = .ok (.aload_n 0, 1) := by decide +kernel
theorem dL_law_616 : decode cL_law 616 = .ok (.iload_n 3, 1) := by decide +kernel
theorem dL_law_617 : decode cL_law 617 = .ok (.iconst 1, 1) := by decide +kernel
theorem dL_law_618 : decode cL_law 618 = .ok (.iadd, 1) := by decide +kernel
theorem dL_law_619 : decode cL_law 619 = .ok (.iaload, 1) := by decide +kernel
theorem dL_law_620 : decode cL_law 620 = .ok (.invokevirtual 75, 3) := by decide +kernel
theorem dL_law_623 : decode cL_law 623 = .ok (.if_icmp .eq 5, 3) := by decide +kernel
theorem dL_law_626 : decode cL_law 626 = .ok (.iconst 0, 1) := by decide +kernel
theorem dL_law_627 : decode cL_law 627 = .ok (.ireturn, 1) := by decide +kernel
theorem dL_law_628 : decode cL_law 628 = .ok (.iinc 3 5, 3) := by decide +kernel
theorem dL_law_631 : decode cL_law 631 = .ok (.goto (-613), 3) := by decide +kernel
theorem dL_law_634 : decode cL_law 634 = .ok (.iconst 1, 1) := by decide +kernel
theorem dL_law_635 : decode cL_law 635 = .ok (.ireturn, 1) := by decide +kernel
end
section
theorem dX7_init_0 : decode cX7_init 0 = .ok (.aload_n 0, 1) := by decide +kernel
theorem dX7_init_1 : decode cX7_init 1 = .ok (.invokespecial 1, 3) := by decide +kernel
theorem dX7_init_4 : decode cX7_init 4 = .ok (.aload_n 0, 1) := by decide +kernel
theorem dX7_init_5 : decode cX7_init 5 = .ok (.bipush 16, 2) := by decide +kernel
theorem dX7_init_7 : decode cX7_init 7 = .ok (.newarray .int, 2) := by decide +kernel
theorem dX7_init_9 : decode cX7_init 9 = .ok (.putfield 7, 3) := by decide +kernel
theorem dX7_init_12 : decode cX7_init 12 = .ok (.aload_n 0, 1) := by decide +kernel
theorem dX7_init_13 : decode cX7_init 13 = .ok (.bipush 16, 2) := by decide +kernel
theorem dX7_init_15 : decode cX7_init 15 = .ok (.newarray .int, 2) := by decide +kernel
theorem dX7_init_17 : decode cX7_init 17 = .ok (.putfield 13, 3) := by decide +kernel
theorem dX7_init_20 : decode cX7_init 20 = .ok (.aload_n 0, 1) := by decide +kernel
theorem dX7_init_21 : decode cX7_init 21 = .ok (.bipush 16, 2) := by decide +kernel
theorem dX7_init_23 : decode cX7_init 23 = .ok (.newarray .boolean, 2) := by decide +kernel
theorem dX7_init_25 : decode cX7_init 25 = .ok (.putfield 16, 3) := by decide +kernel
theorem dX7_init_28 : decode cX7_init 28 = .ok (.aload_n 0, 1) := by decide +kernel
theorem dX7_init_29 : decode cX7_init 29 = .ok (.sipush 150, 3) := by decide +kernel
theorem dX7_init_32 : decode cX7_init 32 = .ok (.newarray .int, 2) := by decide +kernel
theorem dX7_init_34 : decode cX7_init 34 = .ok (.putfield 20, 3) := by decide +kernel
theorem dX7_init_37 : decode cX7_init 37 = .ok (.aload_n 0, 1) := by decide +kernel
theorem dX7_init_38 : decode cX7_init 38 = .ok (.sipush 150, 3) := by decide +kernel
theorem dX7_init_41 : decode cX7_init 41 = .ok (.newarray .int, 2) := by decide +kernel
theorem dX7_init_43 : decode cX7_init 43 = .ok (.putfield 23, 3) := by decide +kernel
theorem dX7_init_46 : decode cX7_init 46 = .ok (.aload_n 0, 1) := by decide +kernel
theorem dX7_init_47 : decode cX7_init 47 = .ok (.sipush 150, 3) := by decide +kernel
theorem dX7_init_50 : decode cX7_init 50 = .ok (.newarray .int, 2) := by decide +kernel
theorem dX7_init_52 : decode cX7_init 52 = .ok (.putfield 26, 3) := by decide +kernel
theorem dX7_init_55 : decode cX7_init 55 = .ok (.aload_n 0, 1) := by decide +kernel
theorem dX7_init_56 : decode cX7_init 56 = .ok (.sipush 150, 3) := by decide +kernel
theorem dX7_init_59 : decode cX7_init 59 = .ok (.newarray .int, 2) := by decide +kernel
theorem dX7_init_61 : decode cX7_init 61 = .ok (.putfield 29, 3) := by decide +kernel
theorem dX7_init_64 : decode cX7_init 64 = .ok (.aload_n 0, 1) := by decide +kernel
theorem dX7_init_65 : decode cX7_init 65 = .ok (.sipush 600, 3) := by decide +kernel
theorem dX7_init_68 : decode cX7_init 68 = .ok (.newarray .int, 2) := by decide +kernel
theorem dX7_init_70 : decode cX7_init 70 = .ok (.putfield 32, 3) := by decide +kernel
theorem dX7_init_73 : decode cX7_init 73 = .ok (.aload_n 0, 1) := by decide +kernel
theorem dX7_init_74 : decode cX7_init 74 = .ok (.iconst 1, 1) := by decide +kernel
theorem dX7_init_75 : decode cX7_init 75 = .ok (.putfield 35, 3) := by decide +kernel
theorem dX7_init_78 : decode cX7_init 78 = .ok (.aload_n 0, 1) := by decide +kernel
theorem dX7_init_79 : decode cX7_init 79 = .ok (.sipush 150, 3) := by decide +kernel
theorem dX7_init_82 : decode cX7_init 82 = .ok (.newarray .boolean, 2) := by decide +kernel
theorem dX7_init_84 : decode cX7_init 84 = .ok (.putfield 39, 3) := by decide +kernel
theorem dX7_init_87 : decode cX7_init 87 = .ok (.aload_n 0, 1) := by decide +kernel
theorem dX7_init_88 : decode cX7_init 88 = .ok (.sipush 9600, 3) := by decide +kernel
theorem dX7_init_91 : decode cX7_init 91 = .ok (.newarray .boolean, 2) := by decide +kernel
theorem dX7_init_93 : decode cX7_init 93 = .ok (.putfield 42, 3) := by decide +kernel
theorem dX7_init_96 : decode cX7_init 96 = .ok (.aload_n 0, 1) := by decide +kernel
theorem dX7_init_97 : decode cX7_init 97 = .ok (.sipush 9600, 3) := by decide +kernel
theorem dX7_init_100 : decode cX7_init 100 = .ok (.newarray .boolean, 2) := by decide +kernel
theorem dX7_init_102 : decode cX7_init 102 = .ok (.putfield 45, 3) := by decide +kernel
theorem dX7_init_105 : decode cX7_init 105 = .ok (.aload_n 0, 1) := by decide +kernel
theorem dX7_init_106 : decode cX7_init 106 = .ok (.ldc 48, 2) := by decide +kernel
theorem dX7_init_108 : decode cX7_init 108 = .ok (.newarray .boolean, 2) := by decide +kernel
theorem dX7_init_110 : decode cX7_init 110 = .ok (.putfield 49, 3) := by decide +kernel
theorem dX7_init_113 : decode cX7_init 113 = .ok (.aload_n 0, 1) := by decide +kernel
theorem dX7_init_114 : decode cX7_init 114 = .ok (.sipush 2400, 3) := by decide +kernel
theorem dX7_init_117 : decode cX7_init 117 = .ok (.newarray .boolean, 2) := by decide +kernel
theorem dX7_init_119 : decode cX7_init 119 = .ok (.putfield 52, 3) := by decide +kernel
theorem dX7_init_122 : decode cX7_init 122 = .ok (.aload_n 0, 1) := by decide +kernel
theorem dX7_init_123 : decode cX7_init 123 = .ok (.sipush 22500, 3) := by decide +kernel
theorem dX7_init_126 : decode cX7_init 126 = .ok (.newarray .boolean, 2) := by decide +kernel
theorem dX7_init_128 : decode cX7_init 128 = .ok (.putfield 55, 3) := by decide +kernel
theorem dX7_init_131 : decode cX7_init 131 = .ok (.aload_n 0, 1) := by decide +kernel
theorem dX7_init_132 : decode cX7_init 132 = .ok (.sipush 2400, 3) := by decide +kernel
theorem dX7_init_135 : decode cX7_init 135 = .ok (.newarray .int, 2) := by decide +kernel
theorem dX7_init_137 : decode cX7_init 137 = .ok (.putfield 58, 3) := by decide +kernel
theorem dX7_init_140 : decode cX7_init 140 = .ok (.aload_n 0, 1) := by decide +kernel
theorem dX7_init_141 : decode cX7_init 141 = .ok (.sipush 150, 3) := by decide +kernel
theorem dX7_init_144 : decode cX7_init 144 = .ok (.newarray .int, 2) := by decide +kernel
theorem dX7_init_146 : decode cX7_init 146 = .ok (.putfield 61, 3) := by decide +kernel
theorem dX7_init_149 : decode cX7_init 149 = .ok (.aload_n 0, 1) := by decide +kernel
theorem dX7_init_150 : decode cX7_init 150 = .ok (.sipush 150, 3) := by decide +kernel
theorem dX7_init_153 : decode cX7_init 153 = .ok (.newarray .boolean, 2) := by decide +kernel
theorem dX7_init_155 : decode cX7_init 155 = .ok (.putfield 64, 3) := by decide +kernel
theorem dX7_init_158 : decode cX7_init 158 = .ok (.iconst 0, 1) := by decide +kernel
theorem dX7_init_159 : decode cX7_init 159 = .ok (.istore_n 1, 1) := by decide +kernel
theorem dX7_init_160 : decode cX7_init 160 = .ok (.iload_n 1, 1) := by decide +kernel
theorem dX7_init_161 : decode cX7_init 161 = .ok (.sipush 600, 3) := by decide +kernel
theorem dX7_init_164 : decode cX7_init 164 = .ok (.if_icmp .ge 16, 3) := by decide +kernel
theorem dX7_init_167 : decode cX7_init 167 = .ok (.aload_n 0, 1) := by decide +kernel
theorem dX7_init_168 : decode cX7_init 168 = .ok (.getfield 32, 3) := by decide +kernel
theorem dX7_init_171 : decode cX7_init 171 = .ok (.iload_n 1, 1) := by decide +kernel
theorem dX7_init_172 : decode cX7_init 172 = .ok (.iconst (-1), 1) := by decide +kernel
theorem dX7_init_173 : decode cX7_init 173 = .ok (.iastore, 1) := by decide +kernel
theorem dX7_init_174 : decode cX7_init 174 = .ok (.iinc 1 1, 3) := by decide +kernel
theorem dX7_init_177 : decode cX7_init 177 = .ok (.goto (-17), 3) := by decide +kernel
theorem dX7_init_180 : decode cX7_init 180 = .ok (.return_, 1) := by decide +kernel
theorem dX7_in_0 : decode cX7_in 0 = .ok (.iload_n 0, 1) := by decide +kernel
theorem dX7_in_1 : decode cX7_in 1 = .ok (.iload_n 1, 1) := by decide +kernel
theorem dX7_in_2 : decode cX7_in 2 = .ok (.if_icmp .lt 12, 3) := by decide +kernel
theorem dX7_in_5 : decode cX7_in 5 = .ok (.iload_n 0, 1) := by decide +kernel
theorem dX7_in_6 : decode cX7_in 6 = .ok (.iload_n 2, 1) := by decide +kernel
theorem dX7_in_7 : decode cX7_in 7 = .ok (.if_icmp .gt 7, 3) := by decide +kernel
theorem dX7_in_10 : decode cX7_in 10 = .ok (.iconst 1, 1) := by decide +kernel
theorem dX7_in_11 : decode cX7_in 11 = .ok (.goto 4, 3) := by decide +kernel
theorem dX7_in_14 : decode cX7_in 14 = .ok (.iconst 0, 1) := by decide +kernel
theorem dX7_in_15 : decode cX7_in 15 = .ok (.ireturn, 1) := by decide +kernel
theorem dX7_isVariable_0 : decode cX7_isVariable 0 = .ok (.iload_n 1, 1) := by decide +kernel
theorem dX7_isVariable_1 : decode cX7_isVariable 1 = .ok (.iconst 0, 1) := by decide +kernel
theorem dX7_isVariable_2 : decode cX7_isVariable 2 = .ok (.aload_n 0, 1) := by decide +kernel
theorem dX7_isVariable_3 : decode cX7_isVariable 3 = .ok (.getfield 67, 3) := by decide +kernel
theorem dX7_isVariable_6 : decode cX7_isVariable 6 = .ok (.iconst 1, 1) := by decide +kernel
theorem dX7_isVariable_7 : decode cX7_isVariable 7 = .ok (.isub, 1) := by decide +kernel
theorem dX7_isVariable_8 : decode cX7_isVariable 8 = .ok (.invokestatic 71, 3) := by decide +kernel
theorem dX7_isVariable_11 : decode cX7_isVariable 11 = .ok (.ireturn, 1) := by decide +kernel
theorem dX7_isReference_0 : decode cX7_isReference 0 = .ok (.aload_n 0, 1) := by decide +kernel
theorem dX7_isReference_1 : decode cX7_isReference 1 = .ok (.iload_n 1, 1) := by decide +kernel
theorem dX7_isReference_2 : decode cX7_isReference 2 = .ok (.invokevirtual 75, 3) := by decide +kernel
theorem dX7_isReference_5 : decode cX7_isReference 5 = .ok (.ifCond .eq 16, 3) := by decide +kernel
theorem dX7_isReference_8 : decode cX7_isReference 8 = .ok (.aload_n 0, 1) := by decide +kernel
theorem dX7_isReference_9 : decode cX7_isReference 9 = .ok (.getfield 7, 3) := by decide +kernel
theorem dX7_isReference_12 : decode cX7_isReference 12 = .ok (.iload_n 1, 1) := by decide +kernel
theorem dX7_isReference_13 : decode cX7_isReference 13 = .ok (.iaload, 1) := by decide +kernel
theorem dX7_isReference_14 : decode cX7_isReference 14 = .ok (.ifCond .eq 7, 3) := by decide +kernel
theorem dX7_isReference_17 : decode cX7_isReference 17 = .ok (.iconst 1, 1) := by decide +kernel
theorem dX7_isReference_18 : decode cX7_isReference 18 = .ok (.goto 4, 3) := by decide +kernel
theorem dX7_isReference_21 : decode cX7_isReference 21 = .ok (.iconst 0, 1) := by decide +kernel
theorem dX7_isReference_22 : decode cX7_isReference 22 = .ok (.ireturn, 1) := by decide +kernel
theorem dX7_isPoint_0 : decode cX7_isPoint 0 = .ok (.iload_n 0, 1) := by decide +kernel
theorem dX7_isPoint_1 : decode cX7_isPoint 1 = .ok (.iconst 0, 1) := by decide +kernel
theorem dX7_isPoint_2 : decode cX7_isPoint 2 = .ok (.sipush 149, 3) := by decide +kernel
theorem dX7_isPoint_5 : decode cX7_isPoint 5 = .ok (.invokestatic 71, 3) := by decide +kernel
theorem dX7_isPoint_8 : decode cX7_isPoint 8 = .ok (.ireturn, 1) := by decide +kernel
theorem dX7_variable_0 : decode cX7_variable 0 = .ok (.iload_n 1, 1) := by decide +kernel
theorem dX7_variable_1 : decode cX7_variable 1 = .ok (.iconst 0, 1) := by decide +kernel
theorem dX7_variable_2 : decode cX7_variable 2 = .ok (.iconst 2, 1) := by decide +kernel
theorem dX7_variable_3 : decode cX7_variable 3 = .ok (.invokestatic 71, 3) := by decide +kernel
theorem dX7_variable_6 : decode cX7_variable 6 = .ok (.ifCond .eq 29, 3) := by decide +kernel
theorem dX7_variable_9 : decode cX7_variable 9 = .ok (.iload_n 2, 1) := by decide +kernel
theorem dX7_variable_10 : decode cX7_variable 10 = .ok (.iconst 1, 1) := by decide +kernel
theorem dX7_variable_11 : decode cX7_variable 11 = .ok (.iload_n 1, 1) := by decide +kernel
theorem dX7_variable_12 : decode cX7_variable 12 = .ok (.ifCond .ne 7, 3) := by decide +kernel
theorem dX7_variable_15 : decode cX7_variable 15 = .ok (.iconst 4, 1) := by decide +kernel
theorem dX7_variable_16 : decode cX7_variable 16 = .ok (.goto 4, 3) := by decide +kernel
theorem dX7_variable_19 : decode cX7_variable 19 = .ok (.iconst 1, 1) := by decide +kernel
theorem dX7_variable_20 : decode cX7_variable 20 = .ok (.invokestatic 71, 3) := by decide +kernel
theorem dX7_variable_23 : decode cX7_variable 23 = .ok (.ifCond .eq 12, 3) := by decide +kernel
theorem dX7_variable_26 : decode cX7_variable 26 = .ok (.aload_n 0, 1) := by decide +kernel
theorem dX7_variable_27 : decode cX7_variable 27 = .ok (.getfield 67, 3) := by decide +kernel
theorem dX7_variable_30 : decode cX7_variable 30 = .ok (.bipush 16, 2) := by decide +kernel
theorem dX7_variable_32 : decode cX7_variable 32 = .ok (.if_icmp .ne 5, 3) := by decide +kernel
theorem dX7_variable_35 : decode cX7_variable 35 = .ok (.iconst (-1), 1) := by decide +kernel
theorem dX7_variable_36 : decode cX7_variable 36 = .ok (.ireturn, 1) := by decide +kernel
theorem dX7_variable_37 : decode cX7_variable 37 = .ok (.aload_n 0, 1) := by decide +kernel
theorem dX7_variable_38 : decode cX7_variable 38 = .ok (.getfield 7, 3) := by decide +kernel
theorem dX7_variable_41 : decode cX7_variable 41 = .ok (.aload_n 0, 1) := by decide +kernel
theorem dX7_variable_42 : decode cX7_variable 42 = .ok (.getfield 67, 3) := by decide +kernel
theorem dX7_variable_45 : decode cX7_variable 45 = .ok (.iload_n 1, 1) := by decide +kernel
theorem dX7_variable_46 : decode cX7_variable 46 = .ok (.iastore, 1) := by decide +kernel
theorem dX7_variable_47 : decode cX7_variable 47 = .ok (.aload_n 0, 1) := by decide +kernel
theorem dX7_variable_48 : decode cX7_variable 48 = .ok (.getfield 13, 3) := by decide +kernel
theorem dX7_variable_51 : decode cX7_variable 51 = .ok (.aload_n 0, 1) := by decide +kernel
theorem dX7_variable_52 : decode cX7_variable 52 = .ok (.getfield 67, 3) := by decide +kernel
theorem dX7_variable_55 : decode cX7_variable 55 = .ok (.iload_n 2, 1) := by decide +kernel
theorem dX7_variable_56 : decode cX7_variable 56 = .ok (.iastore, 1) := by decide +kernel
theorem dX7_variable_57 : decode cX7_variable 57 = .ok (.aload_n 0, 1) := by decide +kernel
theorem dX7_variable_58 : decode cX7_variable 58 = .ok (.getfield 16, 3) := by decide +kernel
theorem dX7_variable_61 : decode cX7_variable 61 = .ok (.aload_n 0, 1) := by decide +kernel
theorem dX7_variable_62 : decode cX7_variable 62 = .ok (.getfield 67, 3) := by decide +kernel
theorem dX7_variable_65 : decode cX7_variable 65 = .ok (.iconst 0, 1) := by decide +kernel
theorem dX7_variable_66 : decode cX7_variable 66 = .ok (.bastore, 1) := by decide +kernel
theorem dX7_variable_67 : decode cX7_variable 67 = .ok (.aload_n 0, 1) := by decide +kernel
theorem dX7_variable_68 : decode cX7_variable 68 = .ok (.dup, 1) := by decide +kernel
theorem dX7_variable_69 : decode cX7_variable 69 = .ok (.getfield 67, 3) := by decide +kernel
theorem dX7_variable_72 : decode cX7_variable 72 = .ok (.iconst 1, 1) := by decide +kernel
theorem dX7_variable_73 : decode cX7_variable 73 = .ok (.iadd, 1) := by decide +kernel
theorem dX7_variable_74 : decode cX7_variable 74 = .ok (.putfield 67, 3) := by decide +kernel
theorem dX7_variable_77 : decode cX7_variable 77 = .ok (.aload_n 0, 1) := by decide +kernel
theorem dX7_variable_78 : decode cX7_variable 78 = .ok (.iconst 1, 1) := by decide +kernel
theorem dX7_variable_79 : decode cX7_variable 79 = .ok (.putfield 35, 3) := by decide +kernel
theorem dX7_variable_82 : decode cX7_variable 82 = .ok (.aload_n 0, 1) := by decide +kernel
theorem dX7_variable_83 : decode cX7_variable 83 = .ok (.getfield 67, 3) := by decide +kernel
theorem dX7_variable_86 : decode cX7_variable 86 = .ok (.iconst 1, 1) := by decide +kernel
theorem dX7_variable_87 : decode cX7_variable 87 = .ok (.isub, 1) := by decide +kernel
theorem dX7_variable_88 : decode cX7_variable 88 = .ok (.ireturn, 1) := by decide +kernel
theorem dX7_begins_0 : decode cX7_begins 0 = .ok (.aload_n 0, 1) := by decide +kernel
theorem dX7_begins_1 : decode cX7_begins 1 = .ok (.iload_n 1, 1) := by decide +kernel
theorem dX7_begins_2 : decode cX7_begins 2 = .ok (.invokevirtual 75, 3) := by decide +kernel
theorem dX7_begins_5 : decode cX7_begins 5 = .ok (.ifCond .ne 5, 3) := by decide +kernel
theorem dX7_begins_8 : decode cX7_begins 8 = .ok (.iconst (-1), 1) := by decide +kernel
theorem dX7_begins_9 : decode cX7_begins 9 = .ok (.ireturn, 1) := by decide +kernel
theorem dX7_begins_10 : decode cX7_begins 10 = .ok (.aload_n 0, 1) := by decide +kernel
theorem dX7_begins_11 : decode cX7_begins 11 = .ok (.getfield 16, 3) := by decide +kernel
theorem dX7_begins_14 : decode cX7_begins 14 = .ok (.iload_n 1, 1) := by decide +kernel
theorem dX7_begins_15 : decode cX7_begins 15 = .ok (.iload_n 2, 1) := by decide +kernel
theorem dX7_begins_16 : decode cX7_begins 16 = .ok (.bastore, 1) := by decide +kernel
theorem dX7_begins_17 : decode cX7_begins 17 = .ok (.aload_n 0, 1) := by decide +kernel
theorem dX7_begins_18 : decode cX7_begins 18 = .ok (.iconst 1, 1) := by decide +kernel
theorem dX7_begins_19 : decode cX7_begins 19 = .ok (.putfield 35, 3) := by decide +kernel
theorem dX7_begins_22 : decode cX7_begins 22 = .ok (.iconst 1, 1) := by decide +kernel
theorem dX7_begins_23 : decode cX7_begins 23 = .ok (.ireturn, 1) := by decide +kernel
theorem dX7_isPath_0 : decode cX7_isPath 0 = .ok (.iload_n 0, 1) := by decide +kernel
theorem dX7_isPath_1 : decode cX7_isPath 1 = .ok (.iconst 0, 1) := by decide +kernel
theorem dX7_isPath_2 : decode cX7_isPath 2 = .ok (.sipush 4095, 3) := by decide +kernel
theorem dX7_isPath_5 : decode cX7_isPath 5 = .ok (.invokestatic 71, 3) := by decide +kernel
theorem dX7_isPath_8 : decode cX7_isPath 8 = .ok (.ifCond .ne 5, 3) := by decide +kernel
theorem dX7_isPath_11 : decode cX7_isPath 11 = .ok (.iconst 0, 1) := by decide +kernel
theorem dX7_isPath_12 : decode cX7_isPath 12 = .ok (.ireturn, 1) := by decide +kernel
theorem dX7_isPath_13 : decode cX7_isPath 13 = .ok (.iload_n 0, 1) := by decide +kernel
theorem dX7_isPath_14 : decode cX7_isPath 14 = .ok (.istore_n 1, 1) := by decide +kernel
theorem dX7_isPath_15 : decode cX7_isPath 15 = .ok (.iconst 1, 1) := by decide +kernel
theorem dX7_isPath_16 : decode cX7_isPath 16 = .ok (.istore_n 2, 1) := by decide +kernel
theorem dX7_isPath_17 : decode cX7_isPath 17 = .ok (.iload_n 1, 1) := by decide +kernel
theorem dX7_isPath_18 : decode cX7_isPath 18 = .ok (.ifCond .le 37, 3) := by decide +kernel
theorem dX7_isPath_21 : decode cX7_isPath 21 = .ok (.iload_n 2, 1) := by decide +kernel
theorem dX7_isPath_22 : decode cX7_isPath 22 = .ok (.ifCond .eq 23, 3) := by decide +kernel
theorem dX7_isPath_25 : decode cX7_isPath 25 = .ok (.iload_n 1, 1) := by decide +kernel
theorem dX7_isPath_26 : decode cX7_isPath 26 = .ok (.bipush 8, 2) := by decide +kernel
theorem dX7_isPath_28 : decode cX7_isPath 28 = .ok (.irem, 1) := by decide +kernel
theorem dX7_isPath_29 : decode cX7_isPath 29 = .ok (.ifCond .le 16, 3) := by decide +kernel
theorem dX7_isPath_32 : decode cX7_isPath 32 = .ok (.iload_n 1, 1) := by decide +kernel
theorem dX7_isPath_33 : decode cX7_isPath 33 = .ok (.bipush 8, 2) := by decide +kernel
theorem dX7_isPath_35 : decode cX7_isPath 35 = .ok (.irem, 1) := by decide +kernel
theorem dX7_isPath_36 : decode cX7_isPath 36 = .ok (.bipush 7, 2) := by decide +kernel
theorem dX7_isPath_38 : decode cX7_isPath 38 = .ok (.if_icmp .ge 7, 3) := by decide +kernel
theorem dX7_isPath_41 : decode cX7_isPath 41 = .ok (.iconst 1, 1) := by decide +kernel
theorem dX7_isPath_42 : decode cX7_isPath 42 = .ok (.goto 4, 3) := by decide +kernel
theorem dX7_isPath_45 : decode cX7_isPath 45 = .ok (.iconst 0, 1) := by decide +kernel
theorem dX7_isPath_46 : decode cX7_isPath 46 = .ok (.istore_n 2, 1) := by decide +kernel
theorem dX7_isPath_47 : decode cX7_isPath 47 = .ok (.iload_n 1, 1) := by decide +kernel
theorem dX7_isPath_48 : decode cX7_isPath 48 = .ok (.bipush 8, 2) := by decide +kernel
theorem dX7_isPath_50 : decode cX7_isPath 50 = .ok (.idiv, 1) := by decide +kernel
theorem dX7_isPath_51 : decode cX7_isPath 51 = .ok (.istore_n 1, 1) := by decide +kernel
theorem dX7_isPath_52 : decode cX7_isPath 52 = .ok (.goto (-35), 3) := by decide +kernel
theorem dX7_isPath_55 : decode cX7_isPath 55 = .ok (.iload_n 2, 1) := by decide +kernel
theorem dX7_isPath_56 : decode cX7_isPath 56 = .ok (.ireturn, 1) := by decide +kernel
theorem dX7_isPlace_0 : decode cX7_isPlace 0 = .ok (.aload_n 0, 1) := by decide +kernel
theorem dX7_isPlace_1 : decode cX7_isPlace 1 = .ok (.iload_n 1, 1) := by decide +kernel
theorem dX7_isPlace_2 : decode cX7_isPlace 2 = .ok (.invokevirtual 75, 3) := by decide +kernel
theorem dX7_isPlace_5 : decode cX7_isPlace 5 = .ok (.ifCond .eq 10, 3) := by decide +kernel
theorem dX7_isPlace_8 : decode cX7_isPlace 8 = .ok (.iload_n 2, 1) := by decide +kernel
theorem dX7_isPlace_9 : decode cX7_isPlace 9 = .ok (.invokestatic 79, 3) := by decide +kernel
theorem dX7_isPlace_12 : decode cX7_isPlace 12 = .ok (.ifCond .ne 5, 3) := by decide +kernel
theorem dX7_isPlace_15 : decode cX7_isPlace 15 = .ok (.iconst 0, 1) := by decide +kernel
theorem dX7_isPlace_16 : decode cX7_isPlace 16 = .ok (.ireturn, 1) := by decide +kernel
theorem dX7_isPlace_17 : decode cX7_isPlace 17 = .ok (.aload_n 0, 1) := by decide +kernel
theorem dX7_isPlace_18 : decode cX7_isPlace 18 = .ok (.getfield 7, 3) := by decide +kernel
theorem dX7_isPlace_21 : decode cX7_isPlace 21 = .ok (.iload_n 1, 1) := by decide +kernel
theorem dX7_isPlace_22 : decode cX7_isPlace 22 = .ok (.iaload, 1) := by decide +kernel
theorem dX7_isPlace_23 : decode cX7_isPlace 23 = .ok (.ifCond .eq 21, 3) := by decide +kernel
theorem dX7_isPlace_26 : decode cX7_isPlace 26 = .ok (.iload_n 2, 1) := by decide +kernel
theorem dX7_isPlace_27 : decode cX7_isPlace 27 = .ok (.ifCond .eq 11, 3) := by decide +kernel
theorem dX7_isPlace_30 : decode cX7_isPlace 30 = .ok (.iload_n 2, 1) := by decide +kernel
theorem dX7_isPlace_31 : decode cX7_isPlace 31 = .ok (.bipush 8, 2) := by decide +kernel
theorem dX7_isPlace_33 : decode cX7_isPlace 33 = .ok (.irem, 1) := by decide +kernel
theorem dX7_isPlace_34 : decode cX7_isPlace 34 = .ok (.iconst 5, 1) := by decide +kernel
theorem dX7_isPlace_35 : decode cX7_isPlace 35 = .ok (.if_icmp .ne 7, 3) := by decide +kernel
theorem dX7_isPlace_38 : decode cX7_isPlace 38 = .ok (.iconst 1, 1) := by decide +kernel
theorem dX7_isPlace_39 : decode cX7_isPlace 39 = .ok (.goto 4, 3) := by decide +kernel
theorem dX7_isPlace_42 : decode cX7_isPlace 42 = .ok (.iconst 0, 1) := by decide +kernel
theorem dX7_isPlace_43 : decode cX7_isPlace 43 = .ok (.ireturn, 1) := by decide +kernel
theorem dX7_isPlace_44 : decode cX7_isPlace 44 = .ok (.aload_n 0, 1) := by decide +kernel
theorem dX7_isPlace_45 : decode cX7_isPlace 45 = .ok (.getfield 13, 3) := by decide +kernel
theorem dX7_isPlace_48 : decode cX7_isPlace 48 = .ok (.iload_n 1, 1) := by decide +kernel
theorem dX7_isPlace_49 : decode cX7_isPlace 49 = .ok (.iaload, 1) := by decide +kernel
theorem dX7_isPlace_50 : decode cX7_isPlace 50 = .ok (.iconst 1, 1) := by decide +kernel
theorem dX7_isPlace_51 : decode cX7_isPlace 51 = .ok (.if_icmp .eq 20, 3) := by decide +kernel
theorem dX7_isPlace_54 : decode cX7_isPlace 54 = .ok (.iload_n 2, 1) := by decide +kernel
theorem dX7_isPlace_55 : decode cX7_isPlace 55 = .ok (.ifCond .eq 16, 3) := by decide +kernel
theorem dX7_isPlace_58 : decode cX7_isPlace 58 = .ok (.iload_n 2, 1) := by decide +kernel
theorem dX7_isPlace_59 : decode cX7_isPlace 59 = .ok (.bipush 8, 2) := by decide +kernel
theorem dX7_isPlace_61 : decode cX7_isPlace 61 = .ok (.irem, 1) := by decide +kernel
theorem dX7_isPlace_62 : decode cX7_isPlace 62 = .ok (.aload_n 0, 1) := by decide +kernel
theorem dX7_isPlace_63 : decode cX7_isPlace 63 = .ok (.getfield 13, 3) := by decide +kernel
theorem dX7_isPlace_66 : decode cX7_isPlace 66 = .ok (.iload_n 1, 1) := by decide +kernel
theorem dX7_isPlace_67 : decode cX7_isPlace 67 = .ok (.iaload, 1) := by decide +kernel
theorem dX7_isPlace_68 : decode cX7_isPlace 68 = .ok (.if_icmp .gt 7, 3) := by decide +kernel
theorem dX7_isPlace_71 : decode cX7_isPlace 71 = .ok (.iconst 1, 1) := by decide +kernel
theorem dX7_isPlace_72 : decode cX7_isPlace 72 = .ok (.goto 4, 3) := by decide +kernel
theorem dX7_isPlace_75 : decode cX7_isPlace 75 = .ok (.iconst 0, 1) := by decide +kernel
theorem dX7_isPlace_76 : decode cX7_isPlace 76 = .ok (.ireturn, 1) := by decide +kernel
theorem dX7_isThrough_0 : decode cX7_isThrough 0 = .ok (.aload_n 0, 1) := by decide +kernel
theorem dX7_isThrough_1 : decode cX7_isThrough 1 = .ok (.getfield 7, 3) := by decide +kernel
theorem dX7_isThrough_4 : decode cX7_isThrough 4 = .ok (.iload_n 1, 1) := by decide +kernel
theorem dX7_isThrough_5 : decode cX7_isThrough 5 = .ok (.iaload, 1) := by decide +kernel
theorem dX7_isThrough_6 : decode cX7_isThrough 6 = .ok (.ifCond .eq 11, 3) := by decide +kernel
theorem dX7_isThrough_9 : decode cX7_isThrough 9 = .ok (.iload_n 2, 1) := by decide +kernel
theorem dX7_isThrough_10 : decode cX7_isThrough 10 = .ok (.ifCond .le 7, 3) := by decide +kernel
theorem dX7_isThrough_13 : decode cX7_isThrough 13 = .ok (.iconst 1, 1) := by decide +kernel
theorem dX7_isThrough_14 : decode cX7_isThrough 14 = .ok (.goto 4, 3) := by decide +kernel
theorem dX7_isThrough_17 : decode cX7_isThrough 17 = .ok (.iconst 0, 1) := by decide +kernel
theorem dX7_isThrough_18 : decode cX7_isThrough 18 = .ok (.ireturn, 1) := by decide +kernel
theorem dX7_isWithin_0 : decode cX7_isWithin 0 = .ok (.aload_n 0, 1) := by decide +kernel
theorem dX7_isWithin_1 : decode cX7_isWithin 1 = .ok (.getfield 13, 3) := by decide +kernel
theorem dX7_isWithin_4 : decode cX7_isWithin 4 = .ok (.iload_n 1, 1) := by decide +kernel
theorem dX7_isWithin_5 : decode cX7_isWithin 5 = .ok (.iaload, 1) := by decide +kernel
theorem dX7_isWithin_6 : decode cX7_isWithin 6 = .ok (.iconst 1, 1) := by decide +kernel
theorem dX7_isWithin_7 : decode cX7_isWithin 7 = .ok (.if_icmp .le 17, 3) := by decide +kernel
theorem dX7_isWithin_10 : decode cX7_isWithin 10 = .ok (.iload_n 2, 1) := by decide +kernel
theorem dX7_isWithin_11 : decode cX7_isWithin 11 = .ok (.bipush 8, 2) := by decide +kernel
theorem dX7_isWithin_13 : decode cX7_isWithin 13 = .ok (.if_icmp .lt 7, 3) := by decide +kernel
theorem dX7_isWithin_16 : decode cX7_isWithin 16 = .ok (.iconst 1, 1) := by decide +kernel
theorem dX7_isWithin_17 : decode cX7_isWithin 17 = .ok (.goto 16, 3) := by decide +kernel
theorem dX7_isWithin_20 : decode cX7_isWithin 20 = .ok (.iconst 0, 1) := by decide +kernel
theorem dX7_isWithin_21 : decode cX7_isWithin 21 = .ok (.goto 12, 3) := by decide +kernel
theorem dX7_isWithin_24 : decode cX7_isWithin 24 = .ok (.iload_n 2, 1) := by decide +kernel
theorem dX7_isWithin_25 : decode cX7_isWithin 25 = .ok (.ifCond .le 7, 3) := by decide +kernel
theorem dX7_isWithin_28 : decode cX7_isWithin 28 = .ok (.iconst 1, 1) := by decide +kernel
theorem dX7_isWithin_29 : decode cX7_isWithin 29 = .ok (.goto 4, 3) := by decide +kernel
theorem dX7_isWithin_32 : decode cX7_isWithin 32 = .ok (.iconst 0, 1) := by decide +kernel
theorem dX7_isWithin_33 : decode cX7_isWithin 33 = .ok (.ireturn, 1) := by decide +kernel
theorem dX7_become_0 : decode cX7_become 0 = .ok (.aload_n 0, 1) := by decide +kernel
theorem dX7_become_1 : decode cX7_become 1 = .ok (.getfield 20, 3) := by decide +kernel
theorem dX7_become_4 : decode cX7_become 4 = .ok (.iload_n 1, 1) := by decide +kernel
theorem dX7_become_5 : decode cX7_become 5 = .ok (.iload_n 2, 1) := by decide +kernel
theorem dX7_become_6 : decode cX7_become 6 = .ok (.iastore, 1) := by decide +kernel
theorem dX7_become_7 : decode cX7_become 7 = .ok (.aload_n 0, 1) := by decide +kernel
theorem dX7_become_8 : decode cX7_become 8 = .ok (.getfield 23, 3) := by decide +kernel
theorem dX7_become_11 : decode cX7_become 11 = .ok (.iload_n 1, 1) := by decide +kernel
theorem dX7_become_12 : decode cX7_become 12 = .ok (.iload_n 3, 1) := by decide +kernel
theorem dX7_become_13 : decode cX7_become 13 = .ok (.iastore, 1) := by decide +kernel
theorem dX7_become_14 : decode cX7_become 14 = .ok (.aload_n 0, 1) := by decide +kernel
theorem dX7_become_15 : decode cX7_become 15 = .ok (.getfield 26, 3) := by decide +kernel
theorem dX7_become_18 : decode cX7_become 18 = .ok (.iload_n 1, 1) := by decide +kernel
theorem dX7_become_19 : decode cX7_become 19 = .ok (.iload 4, 2) := by decide +kernel
theorem dX7_become_21 : decode cX7_become 21 = .ok (.iastore, 1) := by decide +kernel
theorem dX7_become_22 : decode cX7_become 22 = .ok (.aload_n 0, 1) := by decide +kernel
theorem dX7_become_23 : decode cX7_become 23 = .ok (.getfield 29, 3) := by decide +kernel
theorem dX7_become_26 : decode cX7_become 26 = .ok (.iload_n 1, 1) := by decide +kernel
theorem dX7_become_27 : decode cX7_become 27 = .ok (.iload 5, 2) := by decide +kernel
theorem dX7_become_29 : decode cX7_become 29 = .ok (.iastore, 1) := by decide +kernel
theorem dX7_become_30 : decode cX7_become 30 = .ok (.aload_n 0, 1) := by decide +kernel
theorem dX7_become_31 : decode cX7_become 31 = .ok (.iconst 1, 1) := by decide +kernel
theorem dX7_become_32 : decode cX7_become 32 = .ok (.putfield 35, 3) := by decide +kernel
theorem dX7_become_35 : decode cX7_become 35 = .ok (.return_, 1) := by decide +kernel
theorem dX7_act_0 : decode cX7_act 0 = .ok (.iload_n 1, 1) := by decide +kernel
theorem dX7_act_1 : decode cX7_act 1 = .ok (.invokestatic 82, 3) := by decide +kernel
theorem dX7_act_4 : decode cX7_act 4 = .ok (.ifCond .eq 13, 3) := by decide +kernel
theorem dX7_act_7 : decode cX7_act 7 = .ok (.iload_n 2, 1) := by decide +kernel
theorem dX7_act_8 : decode cX7_act 8 = .ok (.iconst 0, 1) := by decide +kernel
theorem dX7_act_9 : decode cX7_act 9 = .ok (.bipush 6, 2) := by decide +kernel
theorem dX7_act_11 : decode cX7_act 11 = .ok (.invokestatic 71, 3) := by decide +kernel
theorem dX7_act_14 : decode cX7_act 14 = .ok (.ifCond .ne 5, 3) := by decide +kernel
theorem dX7_act_17 : decode cX7_act 17 = .ok (.iconst (-1), 1) := by decide +kernel
theorem dX7_act_18 : decode cX7_act 18 = .ok (.ireturn, 1) := by decide +kernel
theorem dX7_act_19 : decode cX7_act 19 = .ok (.iload_n 2, 1) := by decide +kernel
theorem dX7_act_20 : decode cX7_act 20 = .ok (.ifCond .ne 14, 3) := by decide +kernel
theorem dX7_act_23 : decode cX7_act 23 = .ok (.aload_n 0, 1) := by decide +kernel
theorem dX7_act_24 : decode cX7_act 24 = .ok (.iload_n 1, 1) := by decide +kernel
theorem dX7_act_25 : decode cX7_act 25 = .ok (.iload_n 2, 1) := by decide +kernel
theorem dX7_act_26 : decode cX7_act 26 = .ok (.iconst (-1), 1) := by decide +kernel
theorem dX7_act_27 : decode cX7_act 27 = .ok (.iconst 0, 1) := by decide +kernel
theorem dX7_act_28 : decode cX7_act 28 = .ok (.iconst (-1), 1) := by decide +kernel
theorem dX7_act_29 : decode cX7_act 29 = .ok (.invokevirtual 85, 3) := by decide +kernel
theorem dX7_act_32 : decode cX7_act 32 = .ok (.iconst 1, 1) := by decide +kernel
theorem dX7_act_33 : decode cX7_act 33 = .ok (.ireturn, 1) := by decide +kernel
theorem dX7_act_34 : decode cX7_act 34 = .ok (.iload_n 2, 1) := by decide +kernel
theorem dX7_act_35 : decode cX7_act 35 = .ok (.iconst 5, 1) := by decide +kernel
theorem dX7_act_36 : decode cX7_act 36 = .ok (.if_icmp .lt 24, 3) := by decide +kernel
theorem dX7_act_39 : decode cX7_act 39 = .ok (.aload_n 0, 1) := by decide +kernel
theorem dX7_act_40 : decode cX7_act 40 = .ok (.iload_n 3, 1) := by decide +kernel
theorem dX7_act_41 : decode cX7_act 41 = .ok (.invokevirtual 75, 3) := by decide +kernel
theorem dX7_act_44 : decode cX7_act 44 = .ok (.ifCond .ne 5, 3) := by decide +kernel
theorem dX7_act_47 : decode cX7_act 47 = .ok (.iconst (-1), 1) := by decide +kernel
theorem dX7_act_48 : decode cX7_act 48 = .ok (.ireturn, 1) := by decide +kernel
theorem dX7_act_49 : decode cX7_act 49 = .ok (.aload_n 0, 1) := by decide +kernel
theorem dX7_act_50 : decode cX7_act 50 = .ok (.iload_n 1, 1) := by decide +kernel
theorem dX7_act_51 : decode cX7_act 51 = .ok (.iload_n 2, 1) := by decide +kernel
theorem dX7_act_52 : decode cX7_act 52 = .ok (.iload_n 3, 1) := by decide +kernel
theorem dX7_act_53 : decode cX7_act 53 = .ok (.iconst 0, 1) := by decide +kernel
theorem dX7_act_54 : decode cX7_act 54 = .ok (.iconst (-1), 1) := by decide +kernel
theorem dX7_act_55 : decode cX7_act 55 = .ok (.invokevirtual 85, 3) := by decide +kernel
theorem dX7_act_58 : decode cX7_act 58 = .ok (.iconst 1, 1) := by decide +kernel
theorem dX7_act_59 : decode cX7_act 59 = .ok (.ireturn, 1) := by decide +kernel
theorem dX7_act_60 : decode cX7_act 60 = .ok (.aload_n 0, 1) := by decide +kernel
theorem dX7_act_61 : decode cX7_act 61 = .ok (.iload_n 3, 1) := by decide +kernel
theorem dX7_act_62 : decode cX7_act 62 = .ok (.iload 4, 2) := by decide +kernel
theorem dX7_act_64 : decode cX7_act 64 = .ok (.invokevirtual 89, 3) := by decide +kernel
theorem dX7_act_67 : decode cX7_act 67 = .ok (.ifCond .ne 5, 3) := by decide +kernel
theorem dX7_act_70 : decode cX7_act 70 = .ok (.iconst (-1), 1) := by decide +kernel
theorem dX7_act_71 : decode cX7_act 71 = .ok (.ireturn, 1) := by decide +kernel
theorem dX7_act_72 : decode cX7_act 72 = .ok (.iload_n 2, 1) := by decide +kernel
theorem dX7_act_73 : decode cX7_act 73 = .ok (.iconst 2, 1) := by decide +kernel
theorem dX7_act_74 : decode cX7_act 74 = .ok (.if_icmp .ne 25, 3) := by decide +kernel
theorem dX7_act_77 : decode cX7_act 77 = .ok (.aload_n 0, 1) := by decide +kernel
theorem dX7_act_78 : decode cX7_act 78 = .ok (.getfield 7, 3) := by decide +kernel
theorem dX7_act_81 : decode cX7_act 81 = .ok (.iload_n 3, 1) := by decide +kernel
theorem dX7_act_82 : decode cX7_act 82 = .ok (.iaload, 1) := by decide +kernel
theorem dX7_act_83 : decode cX7_act 83 = .ok (.ifCond .ne 45, 3) := by decide +kernel
theorem dX7_act_86 : decode cX7_act 86 = .ok (.aload_n 0, 1) := by decide +kernel
theorem dX7_act_87 : decode cX7_act 87 = .ok (.iload_n 3, 1) := by decide +kernel
theorem dX7_act_88 : decode cX7_act 88 = .ok (.iload 4, 2) := by decide +kernel
theorem dX7_act_90 : decode cX7_act 90 = .ok (.invokevirtual 93, 3) := by decide +kernel
theorem dX7_act_93 : decode cX7_act 93 = .ok (.ifCond .eq 37, 3) := by decide +kernel
theorem dX7_act_96 : decode cX7_act 96 = .ok (.goto 32, 3) := by decide +kernel
theorem dX7_act_99 : decode cX7_act 99 = .ok (.aload_n 0, 1) := by decide +kernel
theorem dX7_act_100 : decode cX7_act 100 = .ok (.getfield 7, 3) := by decide +kernel
theorem dX7_act_103 : decode cX7_act 103 = .ok (.iload_n 3, 1) := by decide +kernel
theorem dX7_act_104 : decode cX7_act 104 = .ok (.iaload, 1) := by decide +kernel
theorem dX7_act_105 : decode cX7_act 105 = .ok (.ifCond .eq 8, 3) := by decide +kernel
theorem dX7_act_108 : decode cX7_act 108 = .ok (.iload 4, 2) := by decide +kernel
theorem dX7_act_110 : decode cX7_act 110 = .ok (.ifCond .eq 18, 3) := by decide +kernel
theorem dX7_act_113 : decode cX7_act 113 = .ok (.iload_n 2, 1) := by decide +kernel
theorem dX7_act_114 : decode cX7_act 114 = .ok (.iconst 1, 1) := by decide +kernel
theorem dX7_act_115 : decode cX7_act 115 = .ok (.if_icmp .eq 15, 3) := by decide +kernel
theorem dX7_act_118 : decode cX7_act 118 = .ok (.aload_n 0, 1) := by decide +kernel
theorem dX7_act_119 : decode cX7_act 119 = .ok (.getfield 7, 3) := by decide +kernel
theorem dX7_act_122 : decode cX7_act 122 = .ok (.iload_n 3, 1) := by decide +kernel
theorem dX7_act_123 : decode cX7_act 123 = .ok (.iaload, 1) := by decide +kernel
theorem dX7_act_124 : decode cX7_act 124 = .ok (.iconst 1, 1) := by decide +kernel
theorem dX7_act_125 : decode cX7_act 125 = .ok (.if_icmp .ne 5, 3) := by decide +kernel
theorem dX7_act_128 : decode cX7_act 128 = .ok (.iconst (-1), 1) := by decide +kernel
theorem dX7_act_129 : decode cX7_act 129 = .ok (.ireturn, 1) := by decide +kernel
theorem dX7_act_130 : decode cX7_act 130 = .ok (.aload_n 0, 1) := by decide +kernel
theorem dX7_act_131 : decode cX7_act 131 = .ok (.iload_n 1, 1) := by decide +kernel
theorem dX7_act_132 : decode cX7_act 132 = .ok (.iload_n 2, 1) := by decide +kernel
theorem dX7_act_133 : decode cX7_act 133 = .ok (.iload_n 3, 1) := by decide +kernel
theorem dX7_act_134 : decode cX7_act 134 = .ok (.iload 4, 2) := by decide +kernel
theorem dX7_act_136 : decode cX7_act 136 = .ok (.iconst (-1), 1) := by decide +kernel
theorem dX7_act_137 : decode cX7_act 137 = .ok (.invokevirtual 85, 3) := by decide +kernel
theorem dX7_act_140 : decode cX7_act 140 = .ok (.iconst 1, 1) := by decide +kernel
theorem dX7_act_141 : decode cX7_act 141 = .ok (.ireturn, 1) := by decide +kernel
theorem dX7_lend_0 : decode cX7_lend 0 = .ok (.iload_n 1, 1) := by decide +kernel
theorem dX7_lend_1 : decode cX7_lend 1 = .ok (.invokestatic 82, 3) := by decide +kernel
theorem dX7_lend_4 : decode cX7_lend 4 = .ok (.ifCond .eq 55, 3) := by decide +kernel
theorem dX7_lend_7 : decode cX7_lend 7 = .ok (.aload_n 0, 1) := by decide +kernel
theorem dX7_lend_8 : decode cX7_lend 8 = .ok (.iload_n 2, 1) := by decide +kernel
theorem dX7_lend_9 : decode cX7_lend 9 = .ok (.invokevirtual 96, 3) := by decide +kernel
theorem dX7_lend_12 : decode cX7_lend 12 = .ok (.ifCond .eq 47, 3) := by decide +kernel
theorem dX7_lend_15 : decode cX7_lend 15 = .ok (.aload_n 0, 1) := by decide +kernel
theorem dX7_lend_16 : decode cX7_lend 16 = .ok (.iload_n 3, 1) := by decide +kernel
theorem dX7_lend_17 : decode cX7_lend 17 = .ok (.iload 4, 2) := by decide +kernel
theorem dX7_lend_19 : decode cX7_lend 19 = .ok (.invokevirtual 89, 3) := by decide +kernel
theorem dX7_lend_22 : decode cX7_lend 22 = .ok (.ifCond .eq 37, 3) := by decide +kernel
theorem dX7_lend_25 : decode cX7_lend 25 = .ok (.aload_n 0, 1) := by decide +kernel
theorem dX7_lend_26 : decode cX7_lend 26 = .ok (.getfield 7, 3) := by decide +kernel
theorem dX7_lend_29 : decode cX7_lend 29 = .ok (.iload_n 3, 1) := by decide +kernel
theorem dX7_lend_30 : decode cX7_lend 30 = .ok (.iaload, 1) := by decide +kernel
theorem dX7_lend_31 : decode cX7_lend 31 = .ok (.ifCond .eq 8, 3) := by decide +kernel
theorem dX7_lend_34 : decode cX7_lend 34 = .ok (.iload 4, 2) := by decide +kernel
theorem dX7_lend_36 : decode cX7_lend 36 = .ok (.ifCond .eq 23, 3) := by decide +kernel
theorem dX7_lend_39 : decode cX7_lend 39 = .ok (.aload_n 0, 1) := by decide +kernel
theorem dX7_lend_40 : decode cX7_lend 40 = .ok (.getfield 7, 3) := by decide +kernel
theorem dX7_lend_43 : decode cX7_lend 43 = .ok (.iload_n 2, 1) := by decide +kernel
theorem dX7_lend_44 : decode cX7_lend 44 = .ok (.iaload, 1) := by decide +kernel
theorem dX7_lend_45 : decode cX7_lend 45 = .ok (.iconst 2, 1) := by decide +kernel
theorem dX7_lend_46 : decode cX7_lend 46 = .ok (.if_icmp .ne 15, 3) := by decide +kernel
theorem dX7_lend_49 : decode cX7_lend 49 = .ok (.aload_n 0, 1) := by decide +kernel
theorem dX7_lend_50 : decode cX7_lend 50 = .ok (.getfield 7, 3) := by decide +kernel
theorem dX7_lend_53 : decode cX7_lend 53 = .ok (.iload_n 3, 1) := by decide +kernel
theorem dX7_lend_54 : decode cX7_lend 54 = .ok (.iaload, 1) := by decide +kernel
theorem dX7_lend_55 : decode cX7_lend 55 = .ok (.iconst 1, 1) := by decide +kernel
theorem dX7_lend_56 : decode cX7_lend 56 = .ok (.if_icmp .ne 5, 3) := by decide +kernel
theorem dX7_lend_59 : decode cX7_lend 59 = .ok (.iconst (-1), 1) := by decide +kernel
theorem dX7_lend_60 : decode cX7_lend 60 = .ok (.ireturn, 1) := by decide +kernel
theorem dX7_lend_61 : decode cX7_lend 61 = .ok (.iconst 0, 1) := by decide +kernel
theorem dX7_lend_62 : decode cX7_lend 62 = .ok (.istore 5, 2) := by decide +kernel
theorem dX7_lend_64 : decode cX7_lend 64 = .ok (.iconst 0, 1) := by decide +kernel
theorem dX7_lend_65 : decode cX7_lend 65 = .ok (.istore 6, 2) := by decide +kernel
theorem dX7_lend_67 : decode cX7_lend 67 = .ok (.iload 6, 2) := by decide +kernel
theorem dX7_lend_69 : decode cX7_lend 69 = .ok (.sipush 150, 3) := by decide +kernel
theorem dX7_lend_72 : decode cX7_lend 72 = .ok (.if_icmp .ge 37, 3) := by decide +kernel
theorem dX7_lend_75 : decode cX7_lend 75 = .ok (.iload 5, 2) := by decide +kernel
theorem dX7_lend_77 : decode cX7_lend 77 = .ok (.iload 6, 2) := by decide +kernel
theorem dX7_lend_79 : decode cX7_lend 79 = .ok (.iload_n 1, 1) := by decide +kernel
theorem dX7_lend_80 : decode cX7_lend 80 = .ok (.if_icmp .eq 19, 3) := by decide +kernel
theorem dX7_lend_83 : decode cX7_lend 83 = .ok (.aload_n 0, 1) := by decide +kernel
theorem dX7_lend_84 : decode cX7_lend 84 = .ok (.getfield 20, 3) := by decide +kernel
theorem dX7_lend_87 : decode cX7_lend 87 = .ok (.iload 6, 2) := by decide +kernel
theorem dX7_lend_89 : decode cX7_lend 89 = .ok (.iaload, 1) := by decide +kernel
theorem dX7_lend_90 : decode cX7_lend 90 = .ok (.bipush 7, 2) := by decide +kernel
theorem dX7_lend_92 : decode cX7_lend 92 = .ok (.if_icmp .ne 7, 3) := by decide +kernel
theorem dX7_lend_95 : decode cX7_lend 95 = .ok (.iconst 1, 1) := by decide +kernel
theorem dX7_lend_96 : decode cX7_lend 96 = .ok (.goto 4, 3) := by decide +kernel
theorem dX7_lend_99 : decode cX7_lend 99 = .ok (.iconst 0, 1) := by decide +kernel
theorem dX7_lend_100 : decode cX7_lend 100 = .ok (.iadd, 1) := by decide +kernel
theorem dX7_lend_101 : decode cX7_lend 101 = .ok (.istore 5, 2) := by decide +kernel
theorem dX7_lend_103 : decode cX7_lend 103 = .ok (.iinc 6 1, 3) := by decide +kernel
theorem dX7_lend_106 : decode cX7_lend 106 = .ok (.goto (-39), 3) := by decide +kernel
theorem dX7_lend_109 : decode cX7_lend 109 = .ok (.iload 5, 2) := by decide +kernel
theorem dX7_lend_111 : decode cX7_lend 111 = .ok (.bipush 60, 2) := by decide +kernel
theorem dX7_lend_113 : decode cX7_lend 113 = .ok (.if_icmp .lt 5, 3) := by decide +kernel
theorem dX7_lend_116 : decode cX7_lend 116 = .ok (.iconst (-1), 1) := by decide +kernel
theorem dX7_lend_117 : decode cX7_lend 117 = .ok (.ireturn, 1) := by decide +kernel
theorem dX7_lend_118 : decode cX7_lend 118 = .ok (.aload_n 0, 1) := by decide +kernel
theorem dX7_lend_119 : decode cX7_lend 119 = .ok (.iload_n 1, 1) := by decide +kernel
theorem dX7_lend_120 : decode cX7_lend 120 = .ok (.bipush 7, 2) := by decide +kernel
theorem dX7_lend_122 : decode cX7_lend 122 = .ok (.iload_n 3, 1) := by decide +kernel
theorem dX7_lend_123 : decode cX7_lend 123 = .ok (.iload 4, 2) := by decide +kernel
theorem dX7_lend_125 : decode cX7_lend 125 = .ok (.iload_n 2, 1) := by decide +kernel
theorem dX7_lend_126 : decode cX7_lend 126 = .ok (.invokevirtual 85, 3) := by decide +kernel
theorem dX7_lend_129 : decode cX7_lend 129 = .ok (.iconst 1, 1) := by decide +kernel
theorem dX7_lend_130 : decode cX7_lend 130 = .ok (.ireturn, 1) := by decide +kernel
theorem dX7_copy_0 : decode cX7_copy 0 = .ok (.iload_n 1, 1) := by decide +kernel
theorem dX7_copy_1 : decode cX7_copy 1 = .ok (.invokestatic 82, 3) := by decide +kernel
theorem dX7_copy_4 : decode cX7_copy 4 = .ok (.ifCond .eq 39, 3) := by decide +kernel
theorem dX7_copy_7 : decode cX7_copy 7 = .ok (.aload_n 0, 1) := by decide +kernel
theorem dX7_copy_8 : decode cX7_copy 8 = .ok (.iload_n 2, 1) := by decide +kernel
theorem dX7_copy_9 : decode cX7_copy 9 = .ok (.invokevirtual 96, 3) := by decide +kernel
theorem dX7_copy_12 : decode cX7_copy 12 = .ok (.ifCond .eq 31, 3) := by decide +kernel
theorem dX7_copy_15 : decode cX7_copy 15 = .ok (.aload_n 0, 1) := by decide +kernel
theorem dX7_copy_16 : decode cX7_copy 16 = .ok (.iload_n 3, 1) := by decide +kernel
theorem dX7_copy_17 : decode cX7_copy 17 = .ok (.invokevirtual 96, 3) := by decide +kernel
theorem dX7_copy_20 : decode cX7_copy 20 = .ok (.ifCond .eq 23, 3) := by decide +kernel
theorem dX7_copy_23 : decode cX7_copy 23 = .ok (.iload_n 2, 1) := by decide +kernel
theorem dX7_copy_24 : decode cX7_copy 24 = .ok (.iload_n 3, 1) := by decide +kernel
theorem dX7_copy_25 : decode cX7_copy 25 = .ok (.if_icmp .eq 18, 3) := by decide +kernel
theorem dX7_copy_28 : decode cX7_copy 28 = .ok (.aload_n 0, 1) := by decide +kernel
theorem dX7_copy_29 : decode cX7_copy 29 = .ok (.getfield 7, 3) := by decide +kernel
theorem dX7_copy_32 : decode cX7_copy 32 = .ok (.iload_n 2, 1) := by decide +kernel
theorem dX7_copy_33 : decode cX7_copy 33 = .ok (.iaload, 1) := by decide +kernel
theorem dX7_copy_34 : decode cX7_copy 34 = .ok (.aload_n 0, 1) := by decide +kernel
theorem dX7_copy_35 : decode cX7_copy 35 = .ok (.getfield 7, 3) := by decide +kernel
theorem dX7_copy_38 : decode cX7_copy 38 = .ok (.iload_n 3, 1) := by decide +kernel
theorem dX7_copy_39 : decode cX7_copy 39 = .ok (.iaload, 1) := by decide +kernel
theorem dX7_copy_40 : decode cX7_copy 40 = .ok (.if_icmp .eq 5, 3) := by decide +kernel
theorem dX7_copy_43 : decode cX7_copy 43 = .ok (.iconst (-1), 1) := by decide +kernel
theorem dX7_copy_44 : decode cX7_copy 44 = .ok (.ireturn, 1) := by decide +kernel
theorem dX7_copy_45 : decode cX7_copy 45 = .ok (.aload_n 0, 1) := by decide +kernel
theorem dX7_copy_46 : decode cX7_copy 46 = .ok (.iload_n 1, 1) := by decide +kernel
theorem dX7_copy_47 : decode cX7_copy 47 = .ok (.bipush 8, 2) := by decide +kernel
theorem dX7_copy_49 : decode cX7_copy 49 = .ok (.iload_n 3, 1) := by decide +kernel
theorem dX7_copy_50 : decode cX7_copy 50 = .ok (.iconst 0, 1) := by decide +kernel
theorem dX7_copy_51 : decode cX7_copy 51 = .ok (.iload_n 2, 1) := by decide +kernel
theorem dX7_copy_52 : decode cX7_copy 52 = .ok (.invokevirtual 85, 3) := by decide +kernel
theorem dX7_copy_55 : decode cX7_copy 55 = .ok (.iconst 1, 1) := by decide +kernel
theorem dX7_copy_56 : decode cX7_copy 56 = .ok (.ireturn, 1) := by decide +kernel
theorem dX7_next_0 : decode cX7_next 0 = .ok (.iload_n 1, 1) := by decide +kernel
theorem dX7_next_1 : decode cX7_next 1 = .ok (.invokestatic 82, 3) := by decide +kernel
theorem dX7_next_4 : decode cX7_next 4 = .ok (.ifCond .eq 10, 3) := by decide +kernel
theorem dX7_next_7 : decode cX7_next 7 = .ok (.iload_n 2, 1) := by decide +kernel
theorem dX7_next_8 : decode cX7_next 8 = .ok (.invokestatic 82, 3) := by decide +kernel
theorem dX7_next_11 : decode cX7_next 11 = .ok (.ifCond .ne 5, 3) := by decide +kernel
theorem dX7_next_14 : decode cX7_next 14 = .ok (.iconst (-1), 1) := by decide +kernel
theorem dX7_next_15 : decode cX7_next 15 = .ok (.ireturn, 1) := by decide +kernel
theorem dX7_next_16 : decode cX7_next 16 = .ok (.iconst (-1), 1) := by decide +kernel
theorem dX7_next_17 : decode cX7_next 17 = .ok (.istore 4, 2) := by decide +kernel
theorem dX7_next_19 : decode cX7_next 19 = .ok (.iconst (-1), 1) := by decide +kernel
theorem dX7_next_20 : decode cX7_next 20 = .ok (.istore 5, 2) := by decide +kernel
theorem dX7_next_22 : decode cX7_next 22 = .ok (.iconst 0, 1) := by decide +kernel
theorem dX7_next_23 : decode cX7_next 23 = .ok (.istore 6, 2) := by decide +kernel
theorem dX7_next_25 : decode cX7_next 25 = .ok (.iload 6, 2) := by decide +kernel
theorem dX7_next_27 : decode cX7_next 27 = .ok (.iconst 4, 1) := by decide +kernel
theorem dX7_next_28 : decode cX7_next 28 = .ok (.if_icmp .ge 47, 3) := by decide +kernel
theorem dX7_next_31 : decode cX7_next 31 = .ok (.aload_n 0, 1) := by decide +kernel
theorem dX7_next_32 : decode cX7_next 32 = .ok (.getfield 32, 3) := by decide +kernel
theorem dX7_next_35 : decode cX7_next 35 = .ok (.iconst 4, 1) := by decide +kernel
theorem dX7_next_36 : decode cX7_next 36 = .ok (.iload_n 1, 1) := by decide +kernel
theorem dX7_next_37 : decode cX7_next 37 = .ok (.imul, 1) := by decide +kernel
theorem dX7_next_38 : decode cX7_next 38 = .ok (.iload 6, 2) := by decide +kernel
theorem dX7_next_40 : decode cX7_next 40 = .ok (.iadd, 1) := by decide +kernel
theorem dX7_next_41 : decode cX7_next 41 = .ok (.iaload, 1) := by decide +kernel
theorem dX7_next_42 : decode cX7_next 42 = .ok (.iload_n 2, 1) := by decide +kernel
theorem dX7_next_43 : decode cX7_next 43 = .ok (.if_icmp .ne 7, 3) := by decide +kernel
theorem dX7_next_46 : decode cX7_next 46 = .ok (.iload 6, 2) := by decide +kernel
theorem dX7_next_48 : decode cX7_next 48 = .ok (.istore 4, 2) := by decide +kernel
theorem dX7_next_50 : decode cX7_next 50 = .ok (.aload_n 0, 1) := by decide +kernel
theorem dX7_next_51 : decode cX7_next 51 = .ok (.getfield 32, 3) := by decide +kernel
theorem dX7_next_54 : decode cX7_next 54 = .ok (.iconst 4, 1) := by decide +kernel
theorem dX7_next_55 : decode cX7_next 55 = .ok (.iload_n 1, 1) := by decide +kernel
theorem dX7_next_56 : decode cX7_next 56 = .ok (.imul, 1) := by decide +kernel
theorem dX7_next_57 : decode cX7_next 57 = .ok (.iload 6, 2) := by decide +kernel
theorem dX7_next_59 : decode cX7_next 59 = .ok (.iadd, 1) := by decide +kernel
theorem dX7_next_60 : decode cX7_next 60 = .ok (.iaload, 1) := by decide +kernel
theorem dX7_next_61 : decode cX7_next 61 = .ok (.iconst (-1), 1) := by decide +kernel
theorem dX7_next_62 : decode cX7_next 62 = .ok (.if_icmp .ne 7, 3) := by decide +kernel
theorem dX7_next_65 : decode cX7_next 65 = .ok (.iload 6, 2) := by decide +kernel
theorem dX7_next_67 : decode cX7_next 67 = .ok (.istore 5, 2) := by decide +kernel
theorem dX7_next_69 : decode cX7_next 69 = .ok (.iinc 6 1, 3) := by decide +kernel
theorem dX7_next_72 : decode cX7_next 72 = .ok (.goto (-47), 3) := by decide +kernel
theorem dX7_next_75 : decode cX7_next 75 = .ok (.iload_n 3, 1) := by decide +kernel
theorem dX7_next_76 : decode cX7_next 76 = .ok (.ifCond .eq 17, 3) := by decide +kernel
theorem dX7_next_79 : decode cX7_next 79 = .ok (.iload 4, 2) := by decide +kernel
theorem dX7_next_81 : decode cX7_next 81 = .ok (.iconst (-1), 1) := by decide +kernel
theorem dX7_next_82 : decode cX7_next 82 = .ok (.if_icmp .ne 11, 3) := by decide +kernel
theorem dX7_next_85 : decode cX7_next 85 = .ok (.iload 5, 2) := by decide +kernel
theorem dX7_next_87 : decode cX7_next 87 = .ok (.iconst (-1), 1) := by decide +kernel
theorem dX7_next_88 : decode cX7_next 88 = .ok (.if_icmp .ne 5, 3) := by decide +kernel
theorem dX7_next_91 : decode cX7_next 91 = .ok (.iconst (-1), 1) := by decide +kernel
theorem dX7_next_92 : decode cX7_next 92 = .ok (.ireturn, 1) := by decide +kernel
theorem dX7_next_93 : decode cX7_next 93 = .ok (.iload_n 3, 1) := by decide +kernel
theorem dX7_next_94 : decode cX7_next 94 = .ok (.ifCond .eq 21, 3) := by decide +kernel
theorem dX7_next_97 : decode cX7_next 97 = .ok (.iload 4, 2) := by decide +kernel
theorem dX7_next_99 : decode cX7_next 99 = .ok (.iconst (-1), 1) := by decide +kernel
theorem dX7_next_100 : decode cX7_next 100 = .ok (.if_icmp .ne 15, 3) := by decide +kernel
theorem dX7_next_103 : decode cX7_next 103 = .ok (.aload_n 0, 1) := by decide +kernel
theorem dX7_next_104 : decode cX7_next 104 = .ok (.getfield 32, 3) := by decide +kernel
theorem dX7_next_107 : decode cX7_next 107 = .ok (.iconst 4, 1) := by decide +kernel
theorem dX7_next_108 : decode cX7_next 108 = .ok (.iload_n 1, 1) := by decide +kernel
theorem dX7_next_109 : decode cX7_next 109 = .ok (.imul, 1) := by decide +kernel
theorem dX7_next_110 : decode cX7_next 110 = .ok (.iload 5, 2) := by decide +kernel
theorem dX7_next_112 : decode cX7_next 112 = .ok (.iadd, 1) := by decide +kernel
theorem dX7_next_113 : decode cX7_next 113 = .ok (.iload_n 2, 1) := by decide +kernel
theorem dX7_next_114 : decode cX7_next 114 = .ok (.iastore, 1) := by decide +kernel
theorem dX7_next_115 : decode cX7_next 115 = .ok (.iload_n 3, 1) := by decide +kernel
theorem dX7_next_116 : decode cX7_next 116 = .ok (.ifCond .ne 21, 3) := by decide +kernel
theorem dX7_next_119 : decode cX7_next 119 = .ok (.iload 4, 2) := by decide +kernel
theorem dX7_next_121 : decode cX7_next 121 = .ok (.iconst (-1), 1) := by decide +kernel
theorem dX7_next_122 : decode cX7_next 122 = .ok (.if_icmp .eq 15, 3) := by decide +kernel
theorem dX7_next_125 : decode cX7_next 125 = .ok (.aload_n 0, 1) := by decide +kernel
theorem dX7_next_126 : decode cX7_next 126 = .ok (.getfield 32, 3) := by decide +kernel
theorem dX7_next_129 : decode cX7_next 129 = .ok (.iconst 4, 1) := by decide +kernel
theorem dX7_next_130 : decode cX7_next 130 = .ok (.iload_n 1, 1) := by decide +kernel
theorem dX7_next_131 : decode cX7_next 131 = .ok (.imul, 1) := by decide +kernel
theorem dX7_next_132 : decode cX7_next 132 = .ok (.iload 4, 2) := by decide +kernel
theorem dX7_next_134 : decode cX7_next 134 = .ok (.iadd, 1) := by decide +kernel
theorem dX7_next_135 : decode cX7_next 135 = .ok (.iconst (-1), 1) := by decide +kernel
theorem dX7_next_136 : decode cX7_next 136 = .ok (.iastore, 1) := by decide +kernel
theorem dX7_next_137 : decode cX7_next 137 = .ok (.aload_n 0, 1) := by decide +kernel
theorem dX7_next_138 : decode cX7_next 138 = .ok (.iconst 1, 1) := by decide +kernel
theorem dX7_next_139 : decode cX7_next 139 = .ok (.putfield 35, 3) := by decide +kernel
theorem dX7_next_142 : decode cX7_next 142 = .ok (.iconst 1, 1) := by decide +kernel
theorem dX7_next_143 : decode cX7_next 143 = .ok (.ireturn, 1) := by decide +kernel
theorem dX7_isLeafOf_0 : decode cX7_isLeafOf 0 = .ok (.aload_n 0, 1) := by decide +kernel
theorem dX7_isLeafOf_1 : decode cX7_isLeafOf 1 = .ok (.getfield 13, 3) := by decide +kernel
theorem dX7_isLeafOf_4 : decode cX7_isLeafOf 4 = .ok (.aload_n 0, 1) := by decide +kernel
theorem dX7_isLeafOf_5 : decode cX7_isLeafOf 5 = .ok (.getfield 23, 3) := by decide +kernel
theorem dX7_isLeafOf_8 : decode cX7_isLeafOf 8 = .ok (.iload_n 1, 1) := by decide +kernel
theorem dX7_isLeafOf_9 : decode cX7_isLeafOf 9 = .ok (.iaload, 1) := by decide +kernel
theorem dX7_isLeafOf_10 : decode cX7_isLeafOf 10 = .ok (.iaload, 1) := by decide +kernel
theorem dX7_isLeafOf_11 : decode cX7_isLeafOf 11 = .ok (.iconst 1, 1) := by decide +kernel
theorem dX7_isLeafOf_12 : decode cX7_isLeafOf 12 = .ok (.if_icmp .eq 27, 3) := by decide +kernel
theorem dX7_isLeafOf_15 : decode cX7_isLeafOf 15 = .ok (.aload_n 0, 1) := by decide +kernel
theorem dX7_isLeafOf_16 : decode cX7_isLeafOf 16 = .ok (.getfield 26, 3) := by decide +kernel
theorem dX7_isLeafOf_19 : decode cX7_isLeafOf 19 = .ok (.iload_n 1, 1) := by decide +kernel
theorem dX7_isLeafOf_20 : decode cX7_isLeafOf 20 = .ok (.iaload, 1) := by decide +kernel
theorem dX7_isLeafOf_21 : decode cX7_isLeafOf 21 = .ok (.ifCond .eq 18, 3) := by decide +kernel
theorem dX7_isLeafOf_24 : decode cX7_isLeafOf 24 = .ok (.aload_n 0, 1) := by decide +kernel
theorem dX7_isLeafOf_25 : decode cX7_isLeafOf 25 = .ok (.getfield 26, 3) := by decide +kernel
theorem dX7_isLeafOf_28 : decode cX7_isLeafOf 28 = .ok (.iload_n 1, 1) := by decide +kernel
theorem dX7_isLeafOf_29 : decode cX7_isLeafOf 29 = .ok (.iaload, 1) := by decide +kernel
theorem dX7_isLeafOf_30 : decode cX7_isLeafOf 30 = .ok (.bipush 8, 2) := by decide +kernel
theorem dX7_isLeafOf_32 : decode cX7_isLeafOf 32 = .ok (.irem, 1) := by decide +kernel
theorem dX7_isLeafOf_33 : decode cX7_isLeafOf 33 = .ok (.iload_n 2, 1) := by decide +kernel
theorem dX7_isLeafOf_34 : decode cX7_isLeafOf 34 = .ok (.iconst 1, 1) := by decide +kernel
theorem dX7_isLeafOf_35 : decode cX7_isLeafOf 35 = .ok (.iadd, 1) := by decide +kernel
theorem dX7_isLeafOf_36 : decode cX7_isLeafOf 36 = .ok (.if_icmp .ne 7, 3) := by decide +kernel
theorem dX7_isLeafOf_39 : decode cX7_isLeafOf 39 = .ok (.iconst 1, 1) := by decide +kernel
theorem dX7_isLeafOf_40 : decode cX7_isLeafOf 40 = .ok (.goto 4, 3) := by decide +kernel
theorem dX7_isLeafOf_43 : decode cX7_isLeafOf 43 = .ok (.iconst 0, 1) := by decide +kernel
theorem dX7_isLeafOf_44 : decode cX7_isLeafOf 44 = .ok (.ireturn, 1) := by decide +kernel
theorem dX7_gives_0 : decode cX7_gives 0 = .ok (.aload_n 0, 1) := by decide +kernel
theorem dX7_gives_1 : decode cX7_gives 1 = .ok (.getfield 20, 3) := by decide +kernel
theorem dX7_gives_4 : decode cX7_gives 4 = .ok (.iload_n 1, 1) := by decide +kernel
theorem dX7_gives_5 : decode cX7_gives 5 = .ok (.iaload, 1) := by decide +kernel
theorem dX7_gives_6 : decode cX7_gives 6 = .ok (.bipush 7, 2) := by decide +kernel
theorem dX7_gives_8 : decode cX7_gives 8 = .ok (.if_icmp .eq 14, 3) := by decide +kernel
theorem dX7_gives_11 : decode cX7_gives 11 = .ok (.aload_n 0, 1) := by decide +kernel
theorem dX7_gives_12 : decode cX7_gives 12 = .ok (.getfield 20, 3) := by decide +kernel
theorem dX7_gives_15 : decode cX7_gives 15 = .ok (.iload_n 1, 1) := by decide +kernel
theorem dX7_gives_16 : decode cX7_gives 16 = .ok (.iaload, 1) := by decide +kernel
theorem dX7_gives_17 : decode cX7_gives 17 = .ok (.bipush 8, 2) := by decide +kernel
theorem dX7_gives_19 : decode cX7_gives 19 = .ok (.if_icmp .ne 19, 3) := by decide +kernel
theorem dX7_gives_22 : decode cX7_gives 22 = .ok (.aload_n 0, 1) := by decide +kernel
theorem dX7_gives_23 : decode cX7_gives 23 = .ok (.getfield 29, 3) := by decide +kernel
theorem dX7_gives_26 : decode cX7_gives 26 = .ok (.iload_n 1, 1) := by decide +kernel
theorem dX7_gives_27 : decode cX7_gives 27 = .ok (.iaload, 1) := by decide +kernel
theorem dX7_gives_28 : decode cX7_gives 28 = .ok (.iload_n 2, 1) := by decide +kernel
theorem dX7_gives_29 : decode cX7_gives 29 = .ok (.if_icmp .ne 7, 3) := by decide +kernel
theorem dX7_gives_32 : decode cX7_gives 32 = .ok (.iconst 1, 1) := by decide +kernel
theorem dX7_gives_33 : decode cX7_gives 33 = .ok (.goto 4, 3) := by decide +kernel
theorem dX7_gives_36 : decode cX7_gives 36 = .ok (.iconst 0, 1) := by decide +kernel
theorem dX7_gives_37 : decode cX7_gives 37 = .ok (.ireturn, 1) := by decide +kernel
theorem dX7_gives_38 : decode cX7_gives 38 = .ok (.aload_n 0, 1) := by decide +kernel
theorem dX7_gives_39 : decode cX7_gives 39 = .ok (.getfield 20, 3) := by decide +kernel
theorem dX7_gives_42 : decode cX7_gives 42 = .ok (.iload_n 1, 1) := by decide +kernel
theorem dX7_gives_43 : decode cX7_gives 43 = .ok (.iaload, 1) := by decide +kernel
theorem dX7_gives_44 : decode cX7_gives 44 = .ok (.iconst 3, 1) := by decide +kernel
theorem dX7_gives_45 : decode cX7_gives 45 = .ok (.if_icmp .ne 40, 3) := by decide +kernel
theorem dX7_gives_48 : decode cX7_gives 48 = .ok (.aload_n 0, 1) := by decide +kernel
theorem dX7_gives_49 : decode cX7_gives 49 = .ok (.getfield 23, 3) := by decide +kernel
theorem dX7_gives_52 : decode cX7_gives 52 = .ok (.iload_n 1, 1) := by decide +kernel
theorem dX7_gives_53 : decode cX7_gives 53 = .ok (.iaload, 1) := by decide +kernel
theorem dX7_gives_54 : decode cX7_gives 54 = .ok (.iload_n 2, 1) := by decide +kernel
theorem dX7_gives_55 : decode cX7_gives 55 = .ok (.if_icmp .ne 30, 3) := by decide +kernel
theorem dX7_gives_58 : decode cX7_gives 58 = .ok (.aload_n 0, 1) := by decide +kernel
theorem dX7_gives_59 : decode cX7_gives 59 = .ok (.iload_n 2, 1) := by decide +kernel
theorem dX7_gives_60 : decode cX7_gives 60 = .ok (.aload_n 0, 1) := by decide +kernel
theorem dX7_gives_61 : decode cX7_gives 61 = .ok (.getfield 26, 3) := by decide +kernel
theorem dX7_gives_64 : decode cX7_gives 64 = .ok (.iload_n 1, 1) := by decide +kernel
theorem dX7_gives_65 : decode cX7_gives 65 = .ok (.iaload, 1) := by decide +kernel
theorem dX7_gives_66 : decode cX7_gives 66 = .ok (.invokevirtual 93, 3) := by decide +kernel
theorem dX7_gives_69 : decode cX7_gives 69 = .ok (.ifCond .ne 16, 3) := by decide +kernel
theorem dX7_gives_72 : decode cX7_gives 72 = .ok (.aload_n 0, 1) := by decide +kernel
theorem dX7_gives_73 : decode cX7_gives 73 = .ok (.iload_n 1, 1) := by decide +kernel
theorem dX7_gives_74 : decode cX7_gives 74 = .ok (.iload_n 3, 1) := by decide +kernel
theorem dX7_gives_75 : decode cX7_gives 75 = .ok (.invokevirtual 99, 3) := by decide +kernel
theorem dX7_gives_78 : decode cX7_gives 78 = .ok (.ifCond .eq 7, 3) := by decide +kernel
theorem dX7_gives_81 : decode cX7_gives 81 = .ok (.iconst 1, 1) := by decide +kernel
theorem dX7_gives_82 : decode cX7_gives 82 = .ok (.goto 4, 3) := by decide +kernel
theorem dX7_gives_85 : decode cX7_gives 85 = .ok (.iconst 0, 1) := by decide +kernel
theorem dX7_gives_86 : decode cX7_gives 86 = .ok (.ireturn, 1) := by decide +kernel
theorem dX7_takes_0 : decode cX7_takes 0 = .ok (.aload_n 0, 1) := by decide +kernel
theorem dX7_takes_1 : decode cX7_takes 1 = .ok (.getfield 23, 3) := by decide +kernel
theorem dX7_takes_4 : decode cX7_takes 4 = .ok (.iload_n 1, 1) := by decide +kernel
theorem dX7_takes_5 : decode cX7_takes 5 = .ok (.iaload, 1) := by decide +kernel
theorem dX7_takes_6 : decode cX7_takes 6 = .ok (.iload_n 2, 1) := by decide +kernel
theorem dX7_takes_7 : decode cX7_takes 7 = .ok (.if_icmp .eq 5, 3) := by decide +kernel
theorem dX7_takes_10 : decode cX7_takes 10 = .ok (.iconst 0, 1) := by decide +kernel
theorem dX7_takes_11 : decode cX7_takes 11 = .ok (.ireturn, 1) := by decide +kernel
theorem dX7_takes_12 : decode cX7_takes 12 = .ok (.aload_n 0, 1) := by decide +kernel
theorem dX7_takes_13 : decode cX7_takes 13 = .ok (.getfield 20, 3) := by decide +kernel
theorem dX7_takes_16 : decode cX7_takes 16 = .ok (.iload_n 1, 1) := by decide +kernel
theorem dX7_takes_17 : decode cX7_takes 17 = .ok (.iaload, 1) := by decide +kernel
theorem dX7_takes_18 : decode cX7_takes 18 = .ok (.iconst 2, 1) := by decide +kernel
theorem dX7_takes_19 : decode cX7_takes 19 = .ok (.if_icmp .ne 12, 3) := by decide +kernel
theorem dX7_takes_22 : decode cX7_takes 22 = .ok (.aload_n 0, 1) := by decide +kernel
theorem dX7_takes_23 : decode cX7_takes 23 = .ok (.iload_n 1, 1) := by decide +kernel
theorem dX7_takes_24 : decode cX7_takes 24 = .ok (.iload_n 3, 1) := by decide +kernel
theorem dX7_takes_25 : decode cX7_takes 25 = .ok (.invokevirtual 99, 3) := by decide +kernel
theorem dX7_takes_28 : decode cX7_takes 28 = .ok (.ifCond .ne 34, 3) := by decide +kernel
theorem dX7_takes_31 : decode cX7_takes 31 = .ok (.aload_n 0, 1) := by decide +kernel
theorem dX7_takes_32 : decode cX7_takes 32 = .ok (.getfield 20, 3) := by decide +kernel
theorem dX7_takes_35 : decode cX7_takes 35 = .ok (.iload_n 1, 1) := by decide +kernel
theorem dX7_takes_36 : decode cX7_takes 36 = .ok (.iaload, 1) := by decide +kernel
theorem dX7_takes_37 : decode cX7_takes 37 = .ok (.iconst 5, 1) := by decide +kernel
theorem dX7_takes_38 : decode cX7_takes 38 = .ok (.if_icmp .eq 24, 3) := by decide +kernel
theorem dX7_takes_41 : decode cX7_takes 41 = .ok (.aload_n 0, 1) := by decide +kernel
theorem dX7_takes_42 : decode cX7_takes 42 = .ok (.getfield 20, 3) := by decide +kernel
theorem dX7_takes_45 : decode cX7_takes 45 = .ok (.iload_n 1, 1) := by decide +kernel
theorem dX7_takes_46 : decode cX7_takes 46 = .ok (.iaload, 1) := by decide +kernel
theorem dX7_takes_47 : decode cX7_takes 47 = .ok (.bipush 8, 2) := by decide +kernel
theorem dX7_takes_49 : decode cX7_takes 49 = .ok (.if_icmp .ne 17, 3) := by decide +kernel
theorem dX7_takes_52 : decode cX7_takes 52 = .ok (.aload_n 0, 1) := by decide +kernel
theorem dX7_takes_53 : decode cX7_takes 53 = .ok (.getfield 7, 3) := by decide +kernel
theorem dX7_takes_56 : decode cX7_takes 56 = .ok (.iload_n 2, 1) := by decide +kernel
theorem dX7_takes_57 : decode cX7_takes 57 = .ok (.iaload, 1) := by decide +kernel
theorem dX7_takes_58 : decode cX7_takes 58 = .ok (.iconst 2, 1) := by decide +kernel
theorem dX7_takes_59 : decode cX7_takes 59 = .ok (.if_icmp .ne 7, 3) := by decide +kernel
theorem dX7_takes_62 : decode cX7_takes 62 = .ok (.iconst 1, 1) := by decide +kernel
theorem dX7_takes_63 : decode cX7_takes 63 = .ok (.goto 4, 3) := by decide +kernel
theorem dX7_takes_66 : decode cX7_takes 66 = .ok (.iconst 0, 1) := by decide +kernel
theorem dX7_takes_67 : decode cX7_takes 67 = .ok (.ireturn, 1) := by decide +kernel
theorem dX7_wants_0 : decode cX7_wants 0 = .ok (.aload_n 0, 1) := by decide +kernel
theorem dX7_wants_1 : decode cX7_wants 1 = .ok (.getfield 20, 3) := by decide +kernel
theorem dX7_wants_4 : decode cX7_wants 4 = .ok (.iload_n 1, 1) := by decide +kernel
theorem dX7_wants_5 : decode cX7_wants 5 = .ok (.iaload, 1) := by decide +kernel
theorem dX7_wants_6 : decode cX7_wants 6 = .ok (.istore_n 3, 1) := by decide +kernel
theorem dX7_wants_7 : decode cX7_wants 7 = .ok (.iload_n 3, 1) := by decide +kernel
theorem dX7_wants_8 : decode cX7_wants 8 = .ok (.bipush 8, 2) := by decide +kernel
theorem dX7_wants_10 : decode cX7_wants 10 = .ok (.if_icmp .ne 5, 3) := by decide +kernel
theorem dX7_wants_13 : decode cX7_wants 13 = .ok (.iconst 1, 1) := by decide +kernel
theorem dX7_wants_14 : decode cX7_wants 14 = .ok (.ireturn, 1) := by decide +kernel
theorem dX7_wants_15 : decode cX7_wants 15 = .ok (.iload_n 3, 1) := by decide +kernel
theorem dX7_wants_16 : decode cX7_wants 16 = .ok (.ifCond .eq 38, 3) := by decide +kernel
theorem dX7_wants_19 : decode cX7_wants 19 = .ok (.iload_n 3, 1) := by decide +kernel
theorem dX7_wants_20 : decode cX7_wants 20 = .ok (.iconst 5, 1) := by decide +kernel
theorem dX7_wants_21 : decode cX7_wants 21 = .ok (.if_icmp .eq 33, 3) := by decide +kernel
theorem dX7_wants_24 : decode cX7_wants 24 = .ok (.iload_n 3, 1) := by decide +kernel
theorem dX7_wants_25 : decode cX7_wants 25 = .ok (.bipush 6, 2) := by decide +kernel
theorem dX7_wants_27 : decode cX7_wants 27 = .ok (.if_icmp .eq 27, 3) := by decide +kernel
theorem dX7_wants_30 : decode cX7_wants 30 = .ok (.iload_n 3, 1) := by decide +kernel
theorem dX7_wants_31 : decode cX7_wants 31 = .ok (.iconst 3, 1) := by decide +kernel
theorem dX7_wants_32 : decode cX7_wants 32 = .ok (.if_icmp .ne 24, 3) := by decide +kernel
theorem dX7_wants_35 : decode cX7_wants 35 = .ok (.aload_n 0, 1) := by decide +kernel
theorem dX7_wants_36 : decode cX7_wants 36 = .ok (.aload_n 0, 1) := by decide +kernel
theorem dX7_wants_37 : decode cX7_wants 37 = .ok (.getfield 23, 3) := by decide +kernel
theorem dX7_wants_40 : decode cX7_wants 40 = .ok (.iload_n 1, 1) := by decide +kernel
theorem dX7_wants_41 : decode cX7_wants 41 = .ok (.iaload, 1) := by decide +kernel
theorem dX7_wants_42 : decode cX7_wants 42 = .ok (.aload_n 0, 1) := by decide +kernel
theorem dX7_wants_43 : decode cX7_wants 43 = .ok (.getfield 26, 3) := by decide +kernel
theorem dX7_wants_46 : decode cX7_wants 46 = .ok (.iload_n 1, 1) := by decide +kernel
theorem dX7_wants_47 : decode cX7_wants 47 = .ok (.iaload, 1) := by decide +kernel
theorem dX7_wants_48 : decode cX7_wants 48 = .ok (.invokevirtual 93, 3) := by decide +kernel
theorem dX7_wants_51 : decode cX7_wants 51 = .ok (.ifCond .ne 5, 3) := by decide +kernel
theorem dX7_wants_54 : decode cX7_wants 54 = .ok (.iconst 0, 1) := by decide +kernel
theorem dX7_wants_55 : decode cX7_wants 55 = .ok (.ireturn, 1) := by decide +kernel
theorem dX7_wants_56 : decode cX7_wants 56 = .ok (.aload_n 0, 1) := by decide +kernel
theorem dX7_wants_57 : decode cX7_wants 57 = .ok (.iload_n 1, 1) := by decide +kernel
theorem dX7_wants_58 : decode cX7_wants 58 = .ok (.iload_n 2, 1) := by decide +kernel
theorem dX7_wants_59 : decode cX7_wants 59 = .ok (.invokevirtual 99, 3) := by decide +kernel
theorem dX7_wants_62 : decode cX7_wants 62 = .ok (.ireturn, 1) := by decide +kernel
theorem dX7_makesLoan_0 : decode cX7_makesLoan 0 = .ok (.aload_n 0, 1) := by decide +kernel
theorem dX7_makesLoan_1 : decode cX7_makesLoan 1 = .ok (.getfield 20, 3) := by decide +kernel
theorem dX7_makesLoan_4 : decode cX7_makesLoan 4 = .ok (.iload_n 1, 1) := by decide +kernel
theorem dX7_makesLoan_5 : decode cX7_makesLoan 5 = .ok (.iaload, 1) := by decide +kernel
theorem dX7_makesLoan_6 : decode cX7_makesLoan 6 = .ok (.bipush 7, 2) := by decide +kernel
theorem dX7_makesLoan_8 : decode cX7_makesLoan 8 = .ok (.if_icmp .ne 41, 3) := by decide +kernel
theorem dX7_makesLoan_11 : decode cX7_makesLoan 11 = .ok (.aload_n 0, 1) := by decide +kernel
theorem dX7_makesLoan_12 : decode cX7_makesLoan 12 = .ok (.aload_n 0, 1) := by decide +kernel
theorem dX7_makesLoan_13 : decode cX7_makesLoan 13 = .ok (.getfield 23, 3) := by decide +kernel
theorem dX7_makesLoan_16 : decode cX7_makesLoan 16 = .ok (.iload_n 1, 1) := by decide +kernel
theorem dX7_makesLoan_17 : decode cX7_makesLoan 17 = .ok (.iaload, 1) := by decide +kernel
theorem dX7_makesLoan_18 : decode cX7_makesLoan 18 = .ok (.aload_n 0, 1) := by decide +kernel
theorem dX7_makesLoan_19 : decode cX7_makesLoan 19 = .ok (.getfield 26, 3) := by decide +kernel
theorem dX7_makesLoan_22 : decode cX7_makesLoan 22 = .ok (.iload_n 1, 1) := by decide +kernel
theorem dX7_makesLoan_23 : decode cX7_makesLoan 23 = .ok (.iaload, 1) := by decide +kernel
theorem dX7_makesLoan_24 : decode cX7_makesLoan 24 = .ok (.invokevirtual 102, 3) := by decide +kernel
theorem dX7_makesLoan_27 : decode cX7_makesLoan 27 = .ok (.ifCond .eq 18, 3) := by decide +kernel
theorem dX7_makesLoan_30 : decode cX7_makesLoan 30 = .ok (.aload_n 0, 1) := by decide +kernel
theorem dX7_makesLoan_31 : decode cX7_makesLoan 31 = .ok (.getfield 7, 3) := by decide +kernel
theorem dX7_makesLoan_34 : decode cX7_makesLoan 34 = .ok (.aload_n 0, 1) := by decide +kernel
theorem dX7_makesLoan_35 : decode cX7_makesLoan 35 = .ok (.getfield 23, 3) := by decide +kernel
theorem dX7_makesLoan_38 : decode cX7_makesLoan 38 = .ok (.iload_n 1, 1) := by decide +kernel
theorem dX7_makesLoan_39 : decode cX7_makesLoan 39 = .ok (.iaload, 1) := by decide +kernel
theorem dX7_makesLoan_40 : decode cX7_makesLoan 40 = .ok (.iaload, 1) := by decide +kernel
theorem dX7_makesLoan_41 : decode cX7_makesLoan 41 = .ok (.iconst 1, 1) := by decide +kernel
theorem dX7_makesLoan_42 : decode cX7_makesLoan 42 = .ok (.if_icmp .eq 7, 3) := by decide +kernel
theorem dX7_makesLoan_45 : decode cX7_makesLoan 45 = .ok (.iconst 1, 1) := by decide +kernel
theorem dX7_makesLoan_46 : decode cX7_makesLoan 46 = .ok (.goto 4, 3) := by decide +kernel
theorem dX7_makesLoan_49 : decode cX7_makesLoan 49 = .ok (.iconst 0, 1) := by decide +kernel
theorem dX7_makesLoan_50 : decode cX7_makesLoan 50 = .ok (.ireturn, 1) := by decide +kernel
theorem dX7_renews_0 : decode cX7_renews 0 = .ok (.aload_n 0, 1) := by decide +kernel
theorem dX7_renews_1 : decode cX7_renews 1 = .ok (.getfield 20, 3) := by decide +kernel
theorem dX7_renews_4 : decode cX7_renews 4 = .ok (.iload_n 1, 1) := by decide +kernel
theorem dX7_renews_5 : decode cX7_renews 5 = .ok (.iaload, 1) := by decide +kernel
theorem dX7_renews_6 : decode cX7_renews 6 = .ok (.bipush 7, 2) := by decide +kernel
theorem dX7_renews_8 : decode cX7_renews 8 = .ok (.if_icmp .eq 14, 3) := by decide +kernel
theorem dX7_renews_11 : decode cX7_renews 11 = .ok (.aload_n 0, 1) := by decide +kernel
theorem dX7_renews_12 : decode cX7_renews 12 = .ok (.getfield 20, 3) := by decide +kernel
theorem dX7_renews_15 : decode cX7_renews 15 = .ok (.iload_n 1, 1) := by decide +kernel
theorem dX7_renews_16 : decode cX7_renews 16 = .ok (.iaload, 1) := by decide +kernel
theorem dX7_renews_17 : decode cX7_renews 17 = .ok (.bipush 8, 2) := by decide +kernel
theorem dX7_renews_19 : decode cX7_renews 19 = .ok (.if_icmp .ne 13, 3) := by decide +kernel
theorem dX7_renews_22 : decode cX7_renews 22 = .ok (.aload_n 0, 1) := by decide +kernel
theorem dX7_renews_23 : decode cX7_renews 23 = .ok (.getfield 29, 3) := by decide +kernel
theorem dX7_renews_26 : decode cX7_renews 26 = .ok (.iload_n 1, 1) := by decide +kernel
theorem dX7_renews_27 : decode cX7_renews 27 = .ok (.iaload, 1) := by decide +kernel
theorem dX7_renews_28 : decode cX7_renews 28 = .ok (.iload_n 2, 1) := by decide +kernel
theorem dX7_renews_29 : decode cX7_renews 29 = .ok (.if_icmp .eq 23, 3) := by decide +kernel
theorem dX7_renews_32 : decode cX7_renews 32 = .ok (.aload_n 0, 1) := by decide +kernel
theorem dX7_renews_33 : decode cX7_renews 33 = .ok (.getfield 20, 3) := by decide +kernel
theorem dX7_renews_36 : decode cX7_renews 36 = .ok (.iload_n 1, 1) := by decide +kernel
theorem dX7_renews_37 : decode cX7_renews 37 = .ok (.iaload, 1) := by decide +kernel
theorem dX7_renews_38 : decode cX7_renews 38 = .ok (.iconst 5, 1) := by decide +kernel
theorem dX7_renews_39 : decode cX7_renews 39 = .ok (.if_icmp .ne 17, 3) := by decide +kernel
theorem dX7_renews_42 : decode cX7_renews 42 = .ok (.aload_n 0, 1) := by decide +kernel
theorem dX7_renews_43 : decode cX7_renews 43 = .ok (.getfield 23, 3) := by decide +kernel
theorem dX7_renews_46 : decode cX7_renews 46 = .ok (.iload_n 1, 1) := by decide +kernel
theorem dX7_renews_47 : decode cX7_renews 47 = .ok (.iaload, 1) := by decide +kernel
theorem dX7_renews_48 : decode cX7_renews 48 = .ok (.iload_n 2, 1) := by decide +kernel
theorem dX7_renews_49 : decode cX7_renews 49 = .ok (.if_icmp .ne 7, 3) := by decide +kernel
theorem dX7_renews_52 : decode cX7_renews 52 = .ok (.iconst 1, 1) := by decide +kernel
theorem dX7_renews_53 : decode cX7_renews 53 = .ok (.goto 4, 3) := by decide +kernel
theorem dX7_renews_56 : decode cX7_renews 56 = .ok (.iconst 0, 1) := by decide +kernel
theorem dX7_renews_57 : decode cX7_renews 57 = .ok (.ireturn, 1) := by decide +kernel
theorem dX7_renewed_0 : decode cX7_renewed 0 = .ok (.aload_n 0, 1) := by decide +kernel
theorem dX7_renewed_1 : decode cX7_renewed 1 = .ok (.getfield 20, 3) := by decide +kernel
theorem dX7_renewed_4 : decode cX7_renewed 4 = .ok (.iload_n 1, 1) := by decide +kernel
theorem dX7_renewed_5 : decode cX7_renewed 5 = .ok (.iaload, 1) := by decide +kernel
theorem dX7_renewed_6 : decode cX7_renewed 6 = .ok (.bipush 7, 2) := by decide +kernel
theorem dX7_renewed_8 : decode cX7_renewed 8 = .ok (.if_icmp .eq 14, 3) := by decide +kernel
theorem dX7_renewed_11 : decode cX7_renewed 11 = .ok (.aload_n 0, 1) := by decide +kernel
theorem dX7_renewed_12 : decode cX7_renewed 12 = .ok (.getfield 20, 3) := by decide +kernel
theorem dX7_renewed_15 : decode cX7_renewed 15 = .ok (.iload_n 1, 1) := by decide +kernel
theorem dX7_renewed_16 : decode cX7_renewed 16 = .ok (.iaload, 1) := by decide +kernel
theorem dX7_renewed_17 : decode cX7_renewed 17 = .ok (.bipush 8, 2) := by decide +kernel
theorem dX7_renewed_19 : decode cX7_renewed 19 = .ok (.if_icmp .ne 12, 3) := by decide +kernel
theorem dX7_renewed_22 : decode cX7_renewed 22 = .ok (.aload_n 0, 1) := by decide +kernel
theorem dX7_renewed_23 : decode cX7_renewed 23 = .ok (.getfield 29, 3) := by decide +kernel
theorem dX7_renewed_26 : decode cX7_renewed 26 = .ok (.iload_n 1, 1) := by decide +kernel
theorem dX7_renewed_27 : decode cX7_renewed 27 = .ok (.iaload, 1) := by decide +kernel
theorem dX7_renewed_28 : decode cX7_renewed 28 = .ok (.goto 37, 3) := by decide +kernel
theorem dX7_renewed_31 : decode cX7_renewed 31 = .ok (.aload_n 0, 1) := by decide +kernel
theorem dX7_renewed_32 : decode cX7_renewed 32 = .ok (.getfield 20, 3) := by decide +kernel
theorem dX7_renewed_35 : decode cX7_renewed 35 = .ok (.iload_n 1, 1) := by decide +kernel
theorem dX7_renewed_36 : decode cX7_renewed 36 = .ok (.iaload, 1) := by decide +kernel
theorem dX7_renewed_37 : decode cX7_renewed 37 = .ok (.iconst 5, 1) := by decide +kernel
theorem dX7_renewed_38 : decode cX7_renewed 38 = .ok (.if_icmp .ne 26, 3) := by decide +kernel
theorem dX7_renewed_41 : decode cX7_renewed 41 = .ok (.aload_n 0, 1) := by decide +kernel
theorem dX7_renewed_42 : decode cX7_renewed 42 = .ok (.getfield 7, 3) := by decide +kernel
theorem dX7_renewed_45 : decode cX7_renewed 45 = .ok (.aload_n 0, 1) := by decide +kernel
theorem dX7_renewed_46 : decode cX7_renewed 46 = .ok (.getfield 23, 3) := by decide +kernel
theorem dX7_renewed_49 : decode cX7_renewed 49 = .ok (.iload_n 1, 1) := by decide +kernel
theorem dX7_renewed_50 : decode cX7_renewed 50 = .ok (.iaload, 1) := by decide +kernel
theorem dX7_renewed_51 : decode cX7_renewed 51 = .ok (.iaload, 1) := by decide +kernel
theorem dX7_renewed_52 : decode cX7_renewed 52 = .ok (.ifCond .eq 12, 3) := by decide +kernel
theorem dX7_renewed_55 : decode cX7_renewed 55 = .ok (.aload_n 0, 1) := by decide +kernel
theorem dX7_renewed_56 : decode cX7_renewed 56 = .ok (.getfield 23, 3) := by decide +kernel
theorem dX7_renewed_59 : decode cX7_renewed 59 = .ok (.iload_n 1, 1) := by decide +kernel
theorem dX7_renewed_60 : decode cX7_renewed 60 = .ok (.iaload, 1) := by decide +kernel
theorem dX7_renewed_61 : decode cX7_renewed 61 = .ok (.goto 4, 3) := by decide +kernel
theorem dX7_renewed_64 : decode cX7_renewed 64 = .ok (.iconst (-1), 1) := by decide +kernel
theorem dX7_renewed_65 : decode cX7_renewed 65 = .ok (.ireturn, 1) := by decide +kernel
theorem dX7_uses_0 : decode cX7_uses 0 = .ok (.aload_n 0, 1) := by decide +kernel
theorem dX7_uses_1 : decode cX7_uses 1 = .ok (.getfield 20, 3) := by decide +kernel
theorem dX7_uses_4 : decode cX7_uses 4 = .ok (.iload_n 1, 1) := by decide +kernel
theorem dX7_uses_5 : decode cX7_uses 5 = .ok (.iaload, 1) := by decide +kernel
theorem dX7_uses_6 : decode cX7_uses 6 = .ok (.bipush 8, 2) := by decide +kernel
theorem dX7_uses_8 : decode cX7_uses 8 = .ok (.if_icmp .ne 21, 3) := by decide +kernel
theorem dX7_uses_11 : decode cX7_uses 11 = .ok (.aload_n 0, 1) := by decide +kernel
theorem dX7_uses_12 : decode cX7_uses 12 = .ok (.getfield 23, 3) := by decide +kernel
theorem dX7_uses_15 : decode cX7_uses 15 = .ok (.iload_n 1, 1) := by decide +kernel
theorem dX7_uses_16 : decode cX7_uses 16 = .ok (.iaload, 1) := by decide +kernel
theorem dX7_uses_17 : decode cX7_uses 17 = .ok (.iload_n 2, 1) := by decide +kernel
theorem dX7_uses_18 : decode cX7_uses 18 = .ok (.if_icmp .ne 7, 3) := by decide +kernel
theorem dX7_uses_21 : decode cX7_uses 21 = .ok (.iconst 1, 1) := by decide +kernel
theorem dX7_uses_22 : decode cX7_uses 22 = .ok (.goto 66, 3) := by decide +kernel
theorem dX7_uses_25 : decode cX7_uses 25 = .ok (.iconst 0, 1) := by decide +kernel
theorem dX7_uses_26 : decode cX7_uses 26 = .ok (.goto 62, 3) := by decide +kernel
theorem dX7_uses_29 : decode cX7_uses 29 = .ok (.aload_n 0, 1) := by decide +kernel
theorem dX7_uses_30 : decode cX7_uses 30 = .ok (.getfield 20, 3) := by decide +kernel
theorem dX7_uses_33 : decode cX7_uses 33 = .ok (.iload_n 1, 1) := by decide +kernel
theorem dX7_uses_34 : decode cX7_uses 34 = .ok (.iaload, 1) := by decide +kernel
theorem dX7_uses_35 : decode cX7_uses 35 = .ok (.ifCond .eq 52, 3) := by decide +kernel
theorem dX7_uses_38 : decode cX7_uses 38 = .ok (.aload_n 0, 1) := by decide +kernel
theorem dX7_uses_39 : decode cX7_uses 39 = .ok (.getfield 20, 3) := by decide +kernel
theorem dX7_uses_42 : decode cX7_uses 42 = .ok (.iload_n 1, 1) := by decide +kernel
theorem dX7_uses_43 : decode cX7_uses 43 = .ok (.iaload, 1) := by decide +kernel
theorem dX7_uses_44 : decode cX7_uses 44 = .ok (.iconst 5, 1) := by decide +kernel
theorem dX7_uses_45 : decode cX7_uses 45 = .ok (.if_icmp .eq 42, 3) := by decide +kernel
theorem dX7_uses_48 : decode cX7_uses 48 = .ok (.aload_n 0, 1) := by decide +kernel
theorem dX7_uses_49 : decode cX7_uses 49 = .ok (.getfield 20, 3) := by decide +kernel
theorem dX7_uses_52 : decode cX7_uses 52 = .ok (.iload_n 1, 1) := by decide +kernel
theorem dX7_uses_53 : decode cX7_uses 53 = .ok (.iaload, 1) := by decide +kernel
theorem dX7_uses_54 : decode cX7_uses 54 = .ok (.bipush 6, 2) := by decide +kernel
theorem dX7_uses_56 : decode cX7_uses 56 = .ok (.if_icmp .eq 31, 3) := by decide +kernel
theorem dX7_uses_59 : decode cX7_uses 59 = .ok (.aload_n 0, 1) := by decide +kernel
theorem dX7_uses_60 : decode cX7_uses 60 = .ok (.getfield 23, 3) := by decide +kernel
theorem dX7_uses_63 : decode cX7_uses 63 = .ok (.iload_n 1, 1) := by decide +kernel
theorem dX7_uses_64 : decode cX7_uses 64 = .ok (.iaload, 1) := by decide +kernel
theorem dX7_uses_65 : decode cX7_uses 65 = .ok (.iload_n 2, 1) := by decide +kernel
theorem dX7_uses_66 : decode cX7_uses 66 = .ok (.if_icmp .ne 21, 3) := by decide +kernel
theorem dX7_uses_69 : decode cX7_uses 69 = .ok (.aload_n 0, 1) := by decide +kernel
theorem dX7_uses_70 : decode cX7_uses 70 = .ok (.iload_n 2, 1) := by decide +kernel
theorem dX7_uses_71 : decode cX7_uses 71 = .ok (.aload_n 0, 1) := by decide +kernel
theorem dX7_uses_72 : decode cX7_uses 72 = .ok (.getfield 26, 3) := by decide +kernel
theorem dX7_uses_75 : decode cX7_uses 75 = .ok (.iload_n 1, 1) := by decide +kernel
theorem dX7_uses_76 : decode cX7_uses 76 = .ok (.iaload, 1) := by decide +kernel
theorem dX7_uses_77 : decode cX7_uses 77 = .ok (.invokevirtual 102, 3) := by decide +kernel
theorem dX7_uses_80 : decode cX7_uses 80 = .ok (.ifCond .eq 7, 3) := by decide +kernel
theorem dX7_uses_83 : decode cX7_uses 83 = .ok (.iconst 1, 1) := by decide +kernel
theorem dX7_uses_84 : decode cX7_uses 84 = .ok (.goto 4, 3) := by decide +kernel
theorem dX7_uses_87 : decode cX7_uses 87 = .ok (.iconst 0, 1) := by decide +kernel
theorem dX7_uses_88 : decode cX7_uses 88 = .ok (.ireturn, 1) := by decide +kernel
theorem dX7_come_0 : decode cX7_come 0 = .ok (.aload_n 1, 1) := by decide +kernel
theorem dX7_come_1 : decode cX7_come 1 = .ok (.iload_n 2, 1) := by decide +kernel
theorem dX7_come_2 : decode cX7_come 2 = .ok (.baload, 1) := by decide +kernel
theorem dX7_come_3 : decode cX7_come 3 = .ok (.ifCond .eq 4, 3) := by decide +kernel
theorem dX7_come_6 : decode cX7_come 6 = .ok (.return_, 1) := by decide +kernel
theorem dX7_come_7 : decode cX7_come 7 = .ok (.aload_n 1, 1) := by decide +kernel
theorem dX7_come_8 : decode cX7_come 8 = .ok (.iload_n 2, 1) := by decide +kernel
theorem dX7_come_9 : decode cX7_come 9 = .ok (.iconst 1, 1) := by decide +kernel
theorem dX7_come_10 : decode cX7_come 10 = .ok (.bastore, 1) := by decide +kernel
theorem dX7_come_11 : decode cX7_come 11 = .ok (.aload_n 0, 1) := by decide +kernel
theorem dX7_come_12 : decode cX7_come 12 = .ok (.getfield 58, 3) := by decide +kernel
theorem dX7_come_15 : decode cX7_come 15 = .ok (.aload_n 0, 1) := by decide +kernel
theorem dX7_come_16 : decode cX7_come 16 = .ok (.getfield 105, 3) := by decide +kernel
theorem dX7_come_19 : decode cX7_come 19 = .ok (.iload_n 3, 1) := by decide +kernel
theorem dX7_come_20 : decode cX7_come 20 = .ok (.iastore, 1) := by decide +kernel
theorem dX7_come_21 : decode cX7_come 21 = .ok (.aload_n 0, 1) := by decide +kernel
theorem dX7_come_22 : decode cX7_come 22 = .ok (.dup, 1) := by decide +kernel
theorem dX7_come_23 : decode cX7_come 23 = .ok (.getfield 105, 3) := by decide +kernel
theorem dX7_come_26 : decode cX7_come 26 = .ok (.iconst 1, 1) := by decide +kernel
theorem dX7_come_27 : decode cX7_come 27 = .ok (.iadd, 1) := by decide +kernel
theorem dX7_come_28 : decode cX7_come 28 = .ok (.putfield 105, 3) := by decide +kernel
theorem dX7_come_31 : decode cX7_come 31 = .ok (.return_, 1) := by decide +kernel
theorem dX7_walkWays_0 : decode cX7_walkWays 0 = .ok (.iconst 0, 1) := by decide +kernel
theorem dX7_walkWays_1 : decode cX7_walkWays 1 = .ok (.istore_n 1, 1) := by decide +kernel
theorem dX7_walkWays_2 : decode cX7_walkWays 2 = .ok (.iload_n 1, 1) := by decide +kernel
theorem dX7_walkWays_3 : decode cX7_walkWays 3 = .ok (.sipush 150, 3) := by decide +kernel
theorem dX7_walkWays_6 : decode cX7_walkWays 6 = .ok (.if_icmp .ge 16, 3) := by decide +kernel
theorem dX7_walkWays_9 : decode cX7_walkWays 9 = .ok (.aload_n 0, 1) := by decide +kernel
theorem dX7_walkWays_10 : decode cX7_walkWays 10 = .ok (.getfield 39, 3) := by decide +kernel
theorem dX7_walkWays_13 : decode cX7_walkWays 13 = .ok (.iload_n 1, 1) := by decide +kernel
theorem dX7_walkWays_14 : decode cX7_walkWays 14 = .ok (.iconst 0, 1) := by decide +kernel
theorem dX7_walkWays_15 : decode cX7_walkWays 15 = .ok (.bastore, 1) := by decide +kernel
theorem dX7_walkWays_16 : decode cX7_walkWays 16 = .ok (.iinc 1 1, 3) := by decide +kernel
theorem dX7_walkWays_19 : decode cX7_walkWays 19 = .ok (.goto (-17), 3) := by decide +kernel
theorem dX7_walkWays_22 : decode cX7_walkWays 22 = .ok (.aload_n 0, 1) := by decide +kernel
theorem dX7_walkWays_23 : decode cX7_walkWays 23 = .ok (.iconst 0, 1) := by decide +kernel
theorem dX7_walkWays_24 : decode cX7_walkWays 24 = .ok (.putfield 105, 3) := by decide +kernel
theorem dX7_walkWays_27 : decode cX7_walkWays 27 = .ok (.aload_n 0, 1) := by decide +kernel
theorem dX7_walkWays_28 : decode cX7_walkWays 28 = .ok (.aload_n 0, 1) := by decide +kernel
theorem dX7_walkWays_29 : decode cX7_walkWays 29 = .ok (.getfield 39, 3) := by decide +kernel
theorem dX7_walkWays_32 : decode cX7_walkWays 32 = .ok (.iconst 0, 1) := by decide +kernel
theorem dX7_walkWays_33 : decode cX7_walkWays 33 = .ok (.iconst 0, 1) := by decide +kernel
theorem dX7_walkWays_34 : decode cX7_walkWays 34 = .ok (.invokevirtual 108, 3) := by decide +kernel
theorem dX7_walkWays_37 : decode cX7_walkWays 37 = .ok (.aload_n 0, 1) := by decide +kernel
theorem dX7_walkWays_38 : decode cX7_walkWays 38 = .ok (.getfield 105, 3) := by decide +kernel
theorem dX7_walkWays_41 : decode cX7_walkWays 41 = .ok (.ifCond .le 81, 3) := by decide +kernel
theorem dX7_walkWays_44 : decode cX7_walkWays 44 = .ok (.aload_n 0, 1) := by decide +kernel
theorem dX7_walkWays_45 : decode cX7_walkWays 45 = .ok (.dup, 1) := by decide +kernel
theorem dX7_walkWays_46 : decode cX7_walkWays 46 = .ok (.getfield 105, 3) := by decide +kernel
theorem dX7_walkWays_49 : decode cX7_walkWays 49 = .ok (.iconst 1, 1) := by decide +kernel
theorem dX7_walkWays_50 : decode cX7_walkWays 50 = .ok (.isub, 1) := by decide +kernel
theorem dX7_walkWays_51 : decode cX7_walkWays 51 = .ok (.putfield 105, 3) := by decide +kernel
theorem dX7_walkWays_54 : decode cX7_walkWays 54 = .ok (.aload_n 0, 1) := by decide +kernel
theorem dX7_walkWays_55 : decode cX7_walkWays 55 = .ok (.getfield 58, 3) := by decide +kernel
theorem dX7_walkWays_58 : decode cX7_walkWays 58 = .ok (.aload_n 0, 1) := by decide +kernel
theorem dX7_walkWays_59 : decode cX7_walkWays 59 = .ok (.getfield 105, 3) := by decide +kernel
theorem dX7_walkWays_62 : decode cX7_walkWays 62 = .ok (.iaload, 1) := by decide +kernel
theorem dX7_walkWays_63 : decode cX7_walkWays 63 = .ok (.istore_n 1, 1) := by decide +kernel
theorem dX7_walkWays_64 : decode cX7_walkWays 64 = .ok (.iconst 0, 1) := by decide +kernel
theorem dX7_walkWays_65 : decode cX7_walkWays 65 = .ok (.istore_n 2, 1) := by decide +kernel
theorem dX7_walkWays_66 : decode cX7_walkWays 66 = .ok (.iload_n 2, 1) := by decide +kernel
theorem dX7_walkWays_67 : decode cX7_walkWays 67 = .ok (.iconst 4, 1) := by decide +kernel
theorem dX7_walkWays_68 : decode cX7_walkWays 68 = .ok (.if_icmp .ge 51, 3) := by decide +kernel
theorem dX7_walkWays_71 : decode cX7_walkWays 71 = .ok (.aload_n 0, 1) := by decide +kernel
theorem dX7_walkWays_72 : decode cX7_walkWays 72 = .ok (.getfield 32, 3) := by decide +kernel
theorem dX7_walkWays_75 : decode cX7_walkWays 75 = .ok (.iconst 4, 1) := by decide +kernel
theorem dX7_walkWays_76 : decode cX7_walkWays 76 = .ok (.iload_n 1, 1) := by decide +kernel
theorem dX7_walkWays_77 : decode cX7_walkWays 77 = .ok (.imul, 1) := by decide +kernel
theorem dX7_walkWays_78 : decode cX7_walkWays 78 = .ok (.iload_n 2, 1) := by decide +kernel
theorem dX7_walkWays_79 : decode cX7_walkWays 79 = .ok (.iadd, 1) := by decide +kernel
theorem dX7_walkWays_80 : decode cX7_walkWays 80 = .ok (.iaload, 1) := by decide +kernel
theorem dX7_walkWays_81 : decode cX7_walkWays 81 = .ok (.iconst (-1), 1) := by decide +kernel
theorem dX7_walkWays_82 : decode cX7_walkWays 82 = .ok (.if_icmp .eq 31, 3) := by decide +kernel
theorem dX7_walkWays_85 : decode cX7_walkWays 85 = .ok (.aload_n 0, 1) := by decide +kernel
theorem dX7_walkWays_86 : decode cX7_walkWays 86 = .ok (.aload_n 0, 1) := by decide +kernel
theorem dX7_walkWays_87 : decode cX7_walkWays 87 = .ok (.getfield 39, 3) := by decide +kernel
theorem dX7_walkWays_90 : decode cX7_walkWays 90 = .ok (.aload_n 0, 1) := by decide +kernel
theorem dX7_walkWays_91 : decode cX7_walkWays 91 = .ok (.getfield 32, 3) := by decide +kernel
theorem dX7_walkWays_94 : decode cX7_walkWays 94 = .ok (.iconst 4, 1) := by decide +kernel
theorem dX7_walkWays_95 : decode cX7_walkWays 95 = .ok (.iload_n 1, 1) := by decide +kernel
theorem dX7_walkWays_96 : decode cX7_walkWays 96 = .ok (.imul, 1) := by decide +kernel
theorem dX7_walkWays_97 : decode cX7_walkWays 97 = .ok (.iload_n 2, 1) := by decide +kernel
theorem dX7_walkWays_98 : decode cX7_walkWays 98 = .ok (.iadd, 1) := by decide +kernel
theorem dX7_walkWays_99 : decode cX7_walkWays 99 = .ok (.iaload, 1) := by decide +kernel
theorem dX7_walkWays_100 : decode cX7_walkWays 100 = .ok (.aload_n 0, 1) := by decide +kernel
theorem dX7_walkWays_101 : decode cX7_walkWays 101 = .ok (.getfield 32, 3) := by decide +kernel
theorem dX7_walkWays_104 : decode cX7_walkWays 104 = .ok (.iconst 4, 1) := by decide +kernel
theorem dX7_walkWays_105 : decode cX7_walkWays 105 = .ok (.iload_n 1, 1) := by decide +kernel
theorem dX7_walkWays_106 : decode cX7_walkWays 106 = .ok (.imul, 1) := by decide +kernel
theorem dX7_walkWays_107 : decode cX7_walkWays 107 = .ok (.iload_n 2, 1) := by decide +kernel
theorem dX7_walkWays_108 : decode cX7_walkWays 108 = .ok (.iadd, 1) := by decide +kernel
theorem dX7_walkWays_109 : decode cX7_walkWays 109 = .ok (.iaload, 1) := by decide +kernel
theorem dX7_walkWays_110 : decode cX7_walkWays 110 = .ok (.invokevirtual 108, 3) := by decide +kernel
theorem dX7_walkWays_113 : decode cX7_walkWays 113 = .ok (.iinc 2 1, 3) := by decide +kernel
theorem dX7_walkWays_116 : decode cX7_walkWays 116 = .ok (.goto (-50), 3) := by decide +kernel
theorem dX7_walkWays_119 : decode cX7_walkWays 119 = .ok (.goto (-82), 3) := by decide +kernel
theorem dX7_walkWays_122 : decode cX7_walkWays 122 = .ok (.return_, 1) := by decide +kernel
theorem dX7_walkLeaf_0 : decode cX7_walkLeaf 0 = .ok (.iconst 4, 1) := by decide +kernel
theorem dX7_walkLeaf_1 : decode cX7_walkLeaf 1 = .ok (.iload_n 1, 1) := by decide +kernel
theorem dX7_walkLeaf_2 : decode cX7_walkLeaf 2 = .ok (.imul, 1) := by decide +kernel
theorem dX7_walkLeaf_3 : decode cX7_walkLeaf 3 = .ok (.iload_n 2, 1) := by decide +kernel
theorem dX7_walkLeaf_4 : decode cX7_walkLeaf 4 = .ok (.iadd, 1) := by decide +kernel
theorem dX7_walkLeaf_5 : decode cX7_walkLeaf 5 = .ok (.istore 5, 2) := by decide +kernel
theorem dX7_walkLeaf_7 : decode cX7_walkLeaf 7 = .ok (.iconst 0, 1) := by decide +kernel
theorem dX7_walkLeaf_8 : decode cX7_walkLeaf 8 = .ok (.istore 6, 2) := by decide +kernel
theorem dX7_walkLeaf_10 : decode cX7_walkLeaf 10 = .ok (.iload 6, 2) := by decide +kernel
theorem dX7_walkLeaf_12 : decode cX7_walkLeaf 12 = .ok (.sipush 150, 3) := by decide +kernel
theorem dX7_walkLeaf_15 : decode cX7_walkLeaf 15 = .ok (.if_icmp .ge 21, 3) := by decide +kernel
theorem dX7_walkLeaf_18 : decode cX7_walkLeaf 18 = .ok (.aload 4, 2) := by decide +kernel
theorem dX7_walkLeaf_20 : decode cX7_walkLeaf 20 = .ok (.bipush 64, 2) := by decide +kernel
theorem dX7_walkLeaf_22 : decode cX7_walkLeaf 22 = .ok (.iload 6, 2) := by decide +kernel
theorem dX7_walkLeaf_24 : decode cX7_walkLeaf 24 = .ok (.imul, 1) := by decide +kernel
theorem dX7_walkLeaf_25 : decode cX7_walkLeaf 25 = .ok (.iload 5, 2) := by decide +kernel
theorem dX7_walkLeaf_27 : decode cX7_walkLeaf 27 = .ok (.iadd, 1) := by decide +kernel
theorem dX7_walkLeaf_28 : decode cX7_walkLeaf 28 = .ok (.iconst 0, 1) := by decide +kernel
theorem dX7_walkLeaf_29 : decode cX7_walkLeaf 29 = .ok (.bastore, 1) := by decide +kernel
theorem dX7_walkLeaf_30 : decode cX7_walkLeaf 30 = .ok (.iinc 6 1, 3) := by decide +kernel
theorem dX7_walkLeaf_33 : decode cX7_walkLeaf 33 = .ok (.goto (-23), 3) := by decide +kernel
theorem dX7_walkLeaf_36 : decode cX7_walkLeaf 36 = .ok (.aload_n 0, 1) := by decide +kernel
theorem dX7_walkLeaf_37 : decode cX7_walkLeaf 37 = .ok (.iconst 0, 1) := by decide +kernel
theorem dX7_walkLeaf_38 : decode cX7_walkLeaf 38 = .ok (.putfield 105, 3) := by decide +kernel
theorem dX7_walkLeaf_41 : decode cX7_walkLeaf 41 = .ok (.aload_n 0, 1) := by decide +kernel
theorem dX7_walkLeaf_42 : decode cX7_walkLeaf 42 = .ok (.getfield 16, 3) := by decide +kernel
theorem dX7_walkLeaf_45 : decode cX7_walkLeaf 45 = .ok (.iload_n 1, 1) := by decide +kernel
theorem dX7_walkLeaf_46 : decode cX7_walkLeaf 46 = .ok (.baload, 1) := by decide +kernel
theorem dX7_walkLeaf_47 : decode cX7_walkLeaf 47 = .ok (.iload_n 3, 1) := by decide +kernel
theorem dX7_walkLeaf_48 : decode cX7_walkLeaf 48 = .ok (.if_icmp .ne 12, 3) := by decide +kernel
theorem dX7_walkLeaf_51 : decode cX7_walkLeaf 51 = .ok (.aload_n 0, 1) := by decide +kernel
theorem dX7_walkLeaf_52 : decode cX7_walkLeaf 52 = .ok (.aload 4, 2) := by decide +kernel
theorem dX7_walkLeaf_54 : decode cX7_walkLeaf 54 = .ok (.iload 5, 2) := by decide +kernel
theorem dX7_walkLeaf_56 : decode cX7_walkLeaf 56 = .ok (.iconst 0, 1) := by decide +kernel
theorem dX7_walkLeaf_57 : decode cX7_walkLeaf 57 = .ok (.invokevirtual 108, 3) := by decide +kernel
theorem dX7_walkLeaf_60 : decode cX7_walkLeaf 60 = .ok (.iconst 0, 1) := by decide +kernel
theorem dX7_walkLeaf_61 : decode cX7_walkLeaf 61 = .ok (.istore 6, 2) := by decide +kernel
theorem dX7_walkLeaf_63 : decode cX7_walkLeaf 63 = .ok (.iload 6, 2) := by decide +kernel
theorem dX7_walkLeaf_65 : decode cX7_walkLeaf 65 = .ok (.sipush 150, 3) := by decide +kernel
theorem dX7_walkLeaf_68 : decode cX7_walkLeaf 68 = .ok (.if_icmp .ge 118, 3) := by decide +kernel
theorem dX7_walkLeaf_71 : decode cX7_walkLeaf 71 = .ok (.aload_n 0, 1) := by decide +kernel
theorem dX7_walkLeaf_72 : decode cX7_walkLeaf 72 = .ok (.getfield 39, 3) := by decide +kernel
theorem dX7_walkLeaf_75 : decode cX7_walkLeaf 75 = .ok (.iload 6, 2) := by decide +kernel
theorem dX7_walkLeaf_77 : decode cX7_walkLeaf 77 = .ok (.baload, 1) := by decide +kernel
theorem dX7_walkLeaf_78 : decode cX7_walkLeaf 78 = .ok (.ifCond .eq 102, 3) := by decide +kernel
theorem dX7_walkLeaf_81 : decode cX7_walkLeaf 81 = .ok (.iload_n 3, 1) := by decide +kernel
theorem dX7_walkLeaf_82 : decode cX7_walkLeaf 82 = .ok (.ifCond .eq 17, 3) := by decide +kernel
theorem dX7_walkLeaf_85 : decode cX7_walkLeaf 85 = .ok (.aload_n 0, 1) := by decide +kernel
theorem dX7_walkLeaf_86 : decode cX7_walkLeaf 86 = .ok (.iload 6, 2) := by decide +kernel
theorem dX7_walkLeaf_88 : decode cX7_walkLeaf 88 = .ok (.iload_n 1, 1) := by decide +kernel
theorem dX7_walkLeaf_89 : decode cX7_walkLeaf 89 = .ok (.iload_n 2, 1) := by decide +kernel
theorem dX7_walkLeaf_90 : decode cX7_walkLeaf 90 = .ok (.invokevirtual 111, 3) := by decide +kernel
theorem dX7_walkLeaf_93 : decode cX7_walkLeaf 93 = .ok (.ifCond .eq 87, 3) := by decide +kernel
theorem dX7_walkLeaf_96 : decode cX7_walkLeaf 96 = .ok (.goto 17, 3) := by decide +kernel
theorem dX7_walkLeaf_99 : decode cX7_walkLeaf 99 = .ok (.aload_n 0, 1) := by decide +kernel
theorem dX7_walkLeaf_100 : decode cX7_walkLeaf 100 = .ok (.iload 6, 2) := by decide +kernel
theorem dX7_walkLeaf_102 : decode cX7_walkLeaf 102 = .ok (.iload_n 1, 1) := by decide +kernel
theorem dX7_walkLeaf_103 : decode cX7_walkLeaf 103 = .ok (.iload_n 2, 1) := by decide +kernel
theorem dX7_walkLeaf_104 : decode cX7_walkLeaf 104 = .ok (.invokevirtual 114, 3) := by decide +kernel
theorem dX7_walkLeaf_107 : decode cX7_walkLeaf 107 = .ok (.ifCond .ne 6, 3) := by decide +kernel
theorem dX7_walkLeaf_110 : decode cX7_walkLeaf 110 = .ok (.goto 70, 3) := by decide +kernel
theorem dX7_walkLeaf_113 : decode cX7_walkLeaf 113 = .ok (.iconst 0, 1) := by decide +kernel
theorem dX7_walkLeaf_114 : decode cX7_walkLeaf 114 = .ok (.istore 7, 2) := by decide +kernel
theorem dX7_walkLeaf_116 : decode cX7_walkLeaf 116 = .ok (.iload 7, 2) := by decide +kernel
theorem dX7_walkLeaf_118 : decode cX7_walkLeaf 118 = .ok (.iconst 4, 1) := by decide +kernel
theorem dX7_walkLeaf_119 : decode cX7_walkLeaf 119 = .ok (.if_icmp .ge 61, 3) := by decide +kernel
theorem dX7_walkLeaf_122 : decode cX7_walkLeaf 122 = .ok (.aload_n 0, 1) := by decide +kernel
theorem dX7_walkLeaf_123 : decode cX7_walkLeaf 123 = .ok (.getfield 32, 3) := by decide +kernel
theorem dX7_walkLeaf_126 : decode cX7_walkLeaf 126 = .ok (.iconst 4, 1) := by decide +kernel
theorem dX7_walkLeaf_127 : decode cX7_walkLeaf 127 = .ok (.iload 6, 2) := by decide +kernel
theorem dX7_walkLeaf_129 : decode cX7_walkLeaf 129 = .ok (.imul, 1) := by decide +kernel
theorem dX7_walkLeaf_130 : decode cX7_walkLeaf 130 = .ok (.iload 7, 2) := by decide +kernel
theorem dX7_walkLeaf_132 : decode cX7_walkLeaf 132 = .ok (.iadd, 1) := by decide +kernel
theorem dX7_walkLeaf_133 : decode cX7_walkLeaf 133 = .ok (.iaload, 1) := by decide +kernel
theorem dX7_walkLeaf_134 : decode cX7_walkLeaf 134 = .ok (.iconst (-1), 1) := by decide +kernel
theorem dX7_walkLeaf_135 : decode cX7_walkLeaf 135 = .ok (.if_icmp .eq 39, 3) := by decide +kernel
theorem dX7_walkLeaf_138 : decode cX7_walkLeaf 138 = .ok (.aload_n 0, 1) := by decide +kernel
theorem dX7_walkLeaf_139 : decode cX7_walkLeaf 139 = .ok (.aload 4, 2) := by decide +kernel
theorem dX7_walkLeaf_141 : decode cX7_walkLeaf 141 = .ok (.bipush 64, 2) := by decide +kernel
theorem dX7_walkLeaf_143 : decode cX7_walkLeaf 143 = .ok (.aload_n 0, 1) := by decide +kernel
theorem dX7_walkLeaf_144 : decode cX7_walkLeaf 144 = .ok (.getfield 32, 3) := by decide +kernel
theorem dX7_walkLeaf_147 : decode cX7_walkLeaf 147 = .ok (.iconst 4, 1) := by decide +kernel
theorem dX7_walkLeaf_148 : decode cX7_walkLeaf 148 = .ok (.iload 6, 2) := by decide +kernel
theorem dX7_walkLeaf_150 : decode cX7_walkLeaf 150 = .ok (.imul, 1) := by decide +kernel
theorem dX7_walkLeaf_151 : decode cX7_walkLeaf 151 = .ok (.iload 7, 2) := by decide +kernel
theorem dX7_walkLeaf_153 : decode cX7_walkLeaf 153 = .ok (.iadd, 1) := by decide +kernel
theorem dX7_walkLeaf_154 : decode cX7_walkLeaf 154 = .ok (.iaload, 1) := by decide +kernel
theorem dX7_walkLeaf_155 : decode cX7_walkLeaf 155 = .ok (.imul, 1) := by decide +kernel
theorem dX7_walkLeaf_156 : decode cX7_walkLeaf 156 = .ok (.iload 5, 2) := by decide +kernel
theorem dX7_walkLeaf_158 : decode cX7_walkLeaf 158 = .ok (.iadd, 1) := by decide +kernel
theorem dX7_walkLeaf_159 : decode cX7_walkLeaf 159 = .ok (.aload_n 0, 1) := by decide +kernel
theorem dX7_walkLeaf_160 : decode cX7_walkLeaf 160 = .ok (.getfield 32, 3) := by decide +kernel
theorem dX7_walkLeaf_163 : decode cX7_walkLeaf 163 = .ok (.iconst 4, 1) := by decide +kernel
theorem dX7_walkLeaf_164 : decode cX7_walkLeaf 164 = .ok (.iload 6, 2) := by decide +kernel
theorem dX7_walkLeaf_166 : decode cX7_walkLeaf 166 = .ok (.imul, 1) := by decide +kernel
theorem dX7_walkLeaf_167 : decode cX7_walkLeaf 167 = .ok (.iload 7, 2) := by decide +kernel
theorem dX7_walkLeaf_169 : decode cX7_walkLeaf 169 = .ok (.iadd, 1) := by decide +kernel
theorem dX7_walkLeaf_170 : decode cX7_walkLeaf 170 = .ok (.iaload, 1) := by decide +kernel
theorem dX7_walkLeaf_171 : decode cX7_walkLeaf 171 = .ok (.invokevirtual 108, 3) := by decide +kernel
theorem dX7_walkLeaf_174 : decode cX7_walkLeaf 174 = .ok (.iinc 7 1, 3) := by decide +kernel
theorem dX7_walkLeaf_177 : decode cX7_walkLeaf 177 = .ok (.goto (-61), 3) := by decide +kernel
theorem dX7_walkLeaf_180 : decode cX7_walkLeaf 180 = .ok (.iinc 6 1, 3) := by decide +kernel
theorem dX7_walkLeaf_183 : decode cX7_walkLeaf 183 = .ok (.goto (-120), 3) := by decide +kernel
theorem dX7_walkLeaf_186 : decode cX7_walkLeaf 186 = .ok (.aload_n 0, 1) := by decide +kernel
theorem dX7_walkLeaf_187 : decode cX7_walkLeaf 187 = .ok (.getfield 105, 3) := by decide +kernel
theorem dX7_walkLeaf_190 : decode cX7_walkLeaf 190 = .ok (.ifCond .le 126, 3) := by decide +kernel
theorem dX7_walkLeaf_193 : decode cX7_walkLeaf 193 = .ok (.aload_n 0, 1) := by decide +kernel
theorem dX7_walkLeaf_194 : decode cX7_walkLeaf 194 = .ok (.dup, 1) := by decide +kernel
theorem dX7_walkLeaf_195 : decode cX7_walkLeaf 195 = .ok (.getfield 105, 3) := by decide +kernel
theorem dX7_walkLeaf_198 : decode cX7_walkLeaf 198 = .ok (.iconst 1, 1) := by decide +kernel
theorem dX7_walkLeaf_199 : decode cX7_walkLeaf 199 = .ok (.isub, 1) := by decide +kernel
theorem dX7_walkLeaf_200 : decode cX7_walkLeaf 200 = .ok (.putfield 105, 3) := by decide +kernel
theorem dX7_walkLeaf_203 : decode cX7_walkLeaf 203 = .ok (.aload_n 0, 1) := by decide +kernel
theorem dX7_walkLeaf_204 : decode cX7_walkLeaf 204 = .ok (.getfield 58, 3) := by decide +kernel
theorem dX7_walkLeaf_207 : decode cX7_walkLeaf 207 = .ok (.aload_n 0, 1) := by decide +kernel
theorem dX7_walkLeaf_208 : decode cX7_walkLeaf 208 = .ok (.getfield 105, 3) := by decide +kernel
theorem dX7_walkLeaf_211 : decode cX7_walkLeaf 211 = .ok (.iaload, 1) := by decide +kernel
theorem dX7_walkLeaf_212 : decode cX7_walkLeaf 212 = .ok (.istore 6, 2) := by decide +kernel
theorem dX7_walkLeaf_214 : decode cX7_walkLeaf 214 = .ok (.iload_n 3, 1) := by decide +kernel
theorem dX7_walkLeaf_215 : decode cX7_walkLeaf 215 = .ok (.ifCond .eq 17, 3) := by decide +kernel
theorem dX7_walkLeaf_218 : decode cX7_walkLeaf 218 = .ok (.aload_n 0, 1) := by decide +kernel
theorem dX7_walkLeaf_219 : decode cX7_walkLeaf 219 = .ok (.iload 6, 2) := by decide +kernel
theorem dX7_walkLeaf_221 : decode cX7_walkLeaf 221 = .ok (.iload_n 1, 1) := by decide +kernel
theorem dX7_walkLeaf_222 : decode cX7_walkLeaf 222 = .ok (.iload_n 2, 1) := by decide +kernel
theorem dX7_walkLeaf_223 : decode cX7_walkLeaf 223 = .ok (.invokevirtual 114, 3) := by decide +kernel
theorem dX7_walkLeaf_226 : decode cX7_walkLeaf 226 = .ok (.ifCond .eq 20, 3) := by decide +kernel
theorem dX7_walkLeaf_229 : decode cX7_walkLeaf 229 = .ok (.goto (-43), 3) := by decide +kernel
theorem dX7_walkLeaf_232 : decode cX7_walkLeaf 232 = .ok (.aload_n 0, 1) := by decide +kernel
theorem dX7_walkLeaf_233 : decode cX7_walkLeaf 233 = .ok (.iload 6, 2) := by decide +kernel
theorem dX7_walkLeaf_235 : decode cX7_walkLeaf 235 = .ok (.iload_n 1, 1) := by decide +kernel
theorem dX7_walkLeaf_236 : decode cX7_walkLeaf 236 = .ok (.iload_n 2, 1) := by decide +kernel
theorem dX7_walkLeaf_237 : decode cX7_walkLeaf 237 = .ok (.invokevirtual 111, 3) := by decide +kernel
theorem dX7_walkLeaf_240 : decode cX7_walkLeaf 240 = .ok (.ifCond .eq 6, 3) := by decide +kernel
theorem dX7_walkLeaf_243 : decode cX7_walkLeaf 243 = .ok (.goto (-57), 3) := by decide +kernel
theorem dX7_walkLeaf_246 : decode cX7_walkLeaf 246 = .ok (.iconst 0, 1) := by decide +kernel
theorem dX7_walkLeaf_247 : decode cX7_walkLeaf 247 = .ok (.istore 7, 2) := by decide +kernel
theorem dX7_walkLeaf_249 : decode cX7_walkLeaf 249 = .ok (.iload 7, 2) := by decide +kernel
theorem dX7_walkLeaf_251 : decode cX7_walkLeaf 251 = .ok (.iconst 4, 1) := by decide +kernel
theorem dX7_walkLeaf_252 : decode cX7_walkLeaf 252 = .ok (.if_icmp .ge 61, 3) := by decide +kernel
theorem dX7_walkLeaf_255 : decode cX7_walkLeaf 255 = .ok (.aload_n 0, 1) := by decide +kernel
theorem dX7_walkLeaf_256 : decode cX7_walkLeaf 256 = .ok (.getfield 32, 3) := by decide +kernel
theorem dX7_walkLeaf_259 : decode cX7_walkLeaf 259 = .ok (.iconst 4, 1) := by decide +kernel
theorem dX7_walkLeaf_260 : decode cX7_walkLeaf 260 = .ok (.iload 6, 2) := by decide +kernel
theorem dX7_walkLeaf_262 : decode cX7_walkLeaf 262 = .ok (.imul, 1) := by decide +kernel
theorem dX7_walkLeaf_263 : decode cX7_walkLeaf 263 = .ok (.iload 7, 2) := by decide +kernel
theorem dX7_walkLeaf_265 : decode cX7_walkLeaf 265 = .ok (.iadd, 1) := by decide +kernel
theorem dX7_walkLeaf_266 : decode cX7_walkLeaf 266 = .ok (.iaload, 1) := by decide +kernel
theorem dX7_walkLeaf_267 : decode cX7_walkLeaf 267 = .ok (.iconst (-1), 1) := by decide +kernel
theorem dX7_walkLeaf_268 : decode cX7_walkLeaf 268 = .ok (.if_icmp .eq 39, 3) := by decide +kernel
theorem dX7_walkLeaf_271 : decode cX7_walkLeaf 271 = .ok (.aload_n 0, 1) := by decide +kernel
theorem dX7_walkLeaf_272 : decode cX7_walkLeaf 272 = .ok (.aload 4, 2) := by decide +kernel
theorem dX7_walkLeaf_274 : decode cX7_walkLeaf 274 = .ok (.bipush 64, 2) := by decide +kernel
theorem dX7_walkLeaf_276 : decode cX7_walkLeaf 276 = .ok (.aload_n 0, 1) := by decide +kernel
theorem dX7_walkLeaf_277 : decode cX7_walkLeaf 277 = .ok (.getfield 32, 3) := by decide +kernel
theorem dX7_walkLeaf_280 : decode cX7_walkLeaf 280 = .ok (.iconst 4, 1) := by decide +kernel
theorem dX7_walkLeaf_281 : decode cX7_walkLeaf 281 = .ok (.iload 6, 2) := by decide +kernel
theorem dX7_walkLeaf_283 : decode cX7_walkLeaf 283 = .ok (.imul, 1) := by decide +kernel
theorem dX7_walkLeaf_284 : decode cX7_walkLeaf 284 = .ok (.iload 7, 2) := by decide +kernel
theorem dX7_walkLeaf_286 : decode cX7_walkLeaf 286 = .ok (.iadd, 1) := by decide +kernel
theorem dX7_walkLeaf_287 : decode cX7_walkLeaf 287 = .ok (.iaload, 1) := by decide +kernel
theorem dX7_walkLeaf_288 : decode cX7_walkLeaf 288 = .ok (.imul, 1) := by decide +kernel
theorem dX7_walkLeaf_289 : decode cX7_walkLeaf 289 = .ok (.iload 5, 2) := by decide +kernel
theorem dX7_walkLeaf_291 : decode cX7_walkLeaf 291 = .ok (.iadd, 1) := by decide +kernel
theorem dX7_walkLeaf_292 : decode cX7_walkLeaf 292 = .ok (.aload_n 0, 1) := by decide +kernel
theorem dX7_walkLeaf_293 : decode cX7_walkLeaf 293 = .ok (.getfield 32, 3) := by decide +kernel
theorem dX7_walkLeaf_296 : decode cX7_walkLeaf 296 = .ok (.iconst 4, 1) := by decide +kernel
theorem dX7_walkLeaf_297 : decode cX7_walkLeaf 297 = .ok (.iload 6, 2) := by decide +kernel
theorem dX7_walkLeaf_299 : decode cX7_walkLeaf 299 = .ok (.imul, 1) := by decide +kernel
theorem dX7_walkLeaf_300 : decode cX7_walkLeaf 300 = .ok (.iload 7, 2) := by decide +kernel
theorem dX7_walkLeaf_302 : decode cX7_walkLeaf 302 = .ok (.iadd, 1) := by decide +kernel
theorem dX7_walkLeaf_303 : decode cX7_walkLeaf 303 = .ok (.iaload, 1) := by decide +kernel
theorem dX7_walkLeaf_304 : decode cX7_walkLeaf 304 = .ok (.invokevirtual 108, 3) := by decide +kernel
theorem dX7_walkLeaf_307 : decode cX7_walkLeaf 307 = .ok (.iinc 7 1, 3) := by decide +kernel
theorem dX7_walkLeaf_310 : decode cX7_walkLeaf 310 = .ok (.goto (-61), 3) := by decide +kernel
theorem dX7_walkLeaf_313 : decode cX7_walkLeaf 313 = .ok (.goto (-127), 3) := by decide +kernel
theorem dX7_walkLeaf_316 : decode cX7_walkLeaf 316 = .ok (.return_, 1) := by decide +kernel
theorem dX7_cell_0 : decode cX7_cell 0 = .ok (.sipush 150, 3) := by decide +kernel
theorem dX7_cell_3 : decode cX7_cell 3 = .ok (.iload_n 1, 1) := by decide +kernel
theorem dX7_cell_4 : decode cX7_cell 4 = .ok (.imul, 1) := by decide +kernel
theorem dX7_cell_5 : decode cX7_cell 5 = .ok (.iload_n 2, 1) := by decide +kernel
theorem dX7_cell_6 : decode cX7_cell 6 = .ok (.iadd, 1) := by decide +kernel
theorem dX7_cell_7 : decode cX7_cell 7 = .ok (.bipush 16, 2) := by decide +kernel
theorem dX7_cell_9 : decode cX7_cell 9 = .ok (.imul, 1) := by decide +kernel
theorem dX7_cell_10 : decode cX7_cell 10 = .ok (.iload_n 3, 1) := by decide +kernel
theorem dX7_cell_11 : decode cX7_cell 11 = .ok (.iadd, 1) := by decide +kernel
theorem dX7_cell_12 : decode cX7_cell 12 = .ok (.ireturn, 1) := by decide +kernel
theorem dX7_spread_0 : decode cX7_spread 0 = .ok (.aload_n 0, 1) := by decide +kernel
theorem dX7_spread_1 : decode cX7_spread 1 = .ok (.getfield 61, 3) := by decide +kernel
theorem dX7_spread_4 : decode cX7_spread 4 = .ok (.iload_n 1, 1) := by decide +kernel
theorem dX7_spread_5 : decode cX7_spread 5 = .ok (.iaload, 1) := by decide +kernel
theorem dX7_spread_6 : decode cX7_spread 6 = .ok (.istore 4, 2) := by decide +kernel
theorem dX7_spread_8 : decode cX7_spread 8 = .ok (.iconst 0, 1) := by decide +kernel
theorem dX7_spread_9 : decode cX7_spread 9 = .ok (.istore 5, 2) := by decide +kernel
theorem dX7_spread_11 : decode cX7_spread 11 = .ok (.iload 5, 2) := by decide +kernel
theorem dX7_spread_13 : decode cX7_spread 13 = .ok (.iconst 4, 1) := by decide +kernel
theorem dX7_spread_14 : decode cX7_spread 14 = .ok (.if_icmp .ge 89, 3) := by decide +kernel
theorem dX7_spread_17 : decode cX7_spread 17 = .ok (.aload_n 0, 1) := by decide +kernel
theorem dX7_spread_18 : decode cX7_spread 18 = .ok (.getfield 32, 3) := by decide +kernel
theorem dX7_spread_21 : decode cX7_spread 21 = .ok (.iconst 4, 1) := by decide +kernel
theorem dX7_spread_22 : decode cX7_spread 22 = .ok (.iload_n 2, 1) := by decide +kernel
theorem dX7_spread_23 : decode cX7_spread 23 = .ok (.imul, 1) := by decide +kernel
theorem dX7_spread_24 : decode cX7_spread 24 = .ok (.iload 5, 2) := by decide +kernel
theorem dX7_spread_26 : decode cX7_spread 26 = .ok (.iadd, 1) := by decide +kernel
theorem dX7_spread_27 : decode cX7_spread 27 = .ok (.iaload, 1) := by decide +kernel
theorem dX7_spread_28 : decode cX7_spread 28 = .ok (.istore 6, 2) := by decide +kernel
theorem dX7_spread_30 : decode cX7_spread 30 = .ok (.iload 6, 2) := by decide +kernel
theorem dX7_spread_32 : decode cX7_spread 32 = .ok (.iconst (-1), 1) := by decide +kernel
theorem dX7_spread_33 : decode cX7_spread 33 = .ok (.if_icmp .eq 64, 3) := by decide +kernel
theorem dX7_spread_36 : decode cX7_spread 36 = .ok (.aload_n 0, 1) := by decide +kernel
theorem dX7_spread_37 : decode cX7_spread 37 = .ok (.getfield 49, 3) := by decide +kernel
theorem dX7_spread_40 : decode cX7_spread 40 = .ok (.aload_n 0, 1) := by decide +kernel
theorem dX7_spread_41 : decode cX7_spread 41 = .ok (.iload 4, 2) := by decide +kernel
theorem dX7_spread_43 : decode cX7_spread 43 = .ok (.iload 6, 2) := by decide +kernel
theorem dX7_spread_45 : decode cX7_spread 45 = .ok (.iload_n 3, 1) := by decide +kernel
theorem dX7_spread_46 : decode cX7_spread 46 = .ok (.invokevirtual 117, 3) := by decide +kernel
theorem dX7_spread_49 : decode cX7_spread 49 = .ok (.baload, 1) := by decide +kernel
theorem dX7_spread_50 : decode cX7_spread 50 = .ok (.ifCond .eq 6, 3) := by decide +kernel
theorem dX7_spread_53 : decode cX7_spread 53 = .ok (.goto 44, 3) := by decide +kernel
theorem dX7_spread_56 : decode cX7_spread 56 = .ok (.aload_n 0, 1) := by decide +kernel
theorem dX7_spread_57 : decode cX7_spread 57 = .ok (.getfield 49, 3) := by decide +kernel
theorem dX7_spread_60 : decode cX7_spread 60 = .ok (.aload_n 0, 1) := by decide +kernel
theorem dX7_spread_61 : decode cX7_spread 61 = .ok (.iload 4, 2) := by decide +kernel
theorem dX7_spread_63 : decode cX7_spread 63 = .ok (.iload 6, 2) := by decide +kernel
theorem dX7_spread_65 : decode cX7_spread 65 = .ok (.iload_n 3, 1) := by decide +kernel
theorem dX7_spread_66 : decode cX7_spread 66 = .ok (.invokevirtual 117, 3) := by decide +kernel
theorem dX7_spread_69 : decode cX7_spread 69 = .ok (.iconst 1, 1) := by decide +kernel
theorem dX7_spread_70 : decode cX7_spread 70 = .ok (.bastore, 1) := by decide +kernel
theorem dX7_spread_71 : decode cX7_spread 71 = .ok (.aload_n 0, 1) := by decide +kernel
theorem dX7_spread_72 : decode cX7_spread 72 = .ok (.getfield 58, 3) := by decide +kernel
theorem dX7_spread_75 : decode cX7_spread 75 = .ok (.aload_n 0, 1) := by decide +kernel
theorem dX7_spread_76 : decode cX7_spread 76 = .ok (.getfield 105, 3) := by decide +kernel
theorem dX7_spread_79 : decode cX7_spread 79 = .ok (.bipush 16, 2) := by decide +kernel
theorem dX7_spread_81 : decode cX7_spread 81 = .ok (.iload 6, 2) := by decide +kernel
theorem dX7_spread_83 : decode cX7_spread 83 = .ok (.imul, 1) := by decide +kernel
theorem dX7_spread_84 : decode cX7_spread 84 = .ok (.iload_n 3, 1) := by decide +kernel
theorem dX7_spread_85 : decode cX7_spread 85 = .ok (.iadd, 1) := by decide +kernel
theorem dX7_spread_86 : decode cX7_spread 86 = .ok (.iastore, 1) := by decide +kernel
theorem dX7_spread_87 : decode cX7_spread 87 = .ok (.aload_n 0, 1) := by decide +kernel
theorem dX7_spread_88 : decode cX7_spread 88 = .ok (.dup, 1) := by decide +kernel
theorem dX7_spread_89 : decode cX7_spread 89 = .ok (.getfield 105, 3) := by decide +kernel
theorem dX7_spread_92 : decode cX7_spread 92 = .ok (.iconst 1, 1) := by decide +kernel
theorem dX7_spread_93 : decode cX7_spread 93 = .ok (.iadd, 1) := by decide +kernel
theorem dX7_spread_94 : decode cX7_spread 94 = .ok (.putfield 105, 3) := by decide +kernel
theorem dX7_spread_97 : decode cX7_spread 97 = .ok (.iinc 5 1, 3) := by decide +kernel
theorem dX7_spread_100 : decode cX7_spread 100 = .ok (.goto (-89), 3) := by decide +kernel
theorem dX7_spread_103 : decode cX7_spread 103 = .ok (.return_, 1) := by decide +kernel
theorem dX7_goesThrough_0 : decode cX7_goesThrough 0 = .ok (.aload_n 0, 1) := by decide +kernel
theorem dX7_goesThrough_1 : decode cX7_goesThrough 1 = .ok (.getfield 23, 3) := by decide +kernel
theorem dX7_goesThrough_4 : decode cX7_goesThrough 4 = .ok (.iload_n 1, 1) := by decide +kernel
theorem dX7_goesThrough_5 : decode cX7_goesThrough 5 = .ok (.iaload, 1) := by decide +kernel
theorem dX7_goesThrough_6 : decode cX7_goesThrough 6 = .ok (.iload_n 2, 1) := by decide +kernel
theorem dX7_goesThrough_7 : decode cX7_goesThrough 7 = .ok (.if_icmp .ne 21, 3) := by decide +kernel
theorem dX7_goesThrough_10 : decode cX7_goesThrough 10 = .ok (.aload_n 0, 1) := by decide +kernel
theorem dX7_goesThrough_11 : decode cX7_goesThrough 11 = .ok (.iload_n 2, 1) := by decide +kernel
theorem dX7_goesThrough_12 : decode cX7_goesThrough 12 = .ok (.aload_n 0, 1) := by decide +kernel
theorem dX7_goesThrough_13 : decode cX7_goesThrough 13 = .ok (.getfield 26, 3) := by decide +kernel
theorem dX7_goesThrough_16 : decode cX7_goesThrough 16 = .ok (.iload_n 1, 1) := by decide +kernel
theorem dX7_goesThrough_17 : decode cX7_goesThrough 17 = .ok (.iaload, 1) := by decide +kernel
theorem dX7_goesThrough_18 : decode cX7_goesThrough 18 = .ok (.invokevirtual 102, 3) := by decide +kernel
theorem dX7_goesThrough_21 : decode cX7_goesThrough 21 = .ok (.ifCond .eq 7, 3) := by decide +kernel
theorem dX7_goesThrough_24 : decode cX7_goesThrough 24 = .ok (.iconst 1, 1) := by decide +kernel
theorem dX7_goesThrough_25 : decode cX7_goesThrough 25 = .ok (.goto 4, 3) := by decide +kernel
theorem dX7_goesThrough_28 : decode cX7_goesThrough 28 = .ok (.iconst 0, 1) := by decide +kernel
theorem dX7_goesThrough_29 : decode cX7_goesThrough 29 = .ok (.ireturn, 1) := by decide +kernel
theorem dX7_walkLoan_0 : decode cX7_walkLoan 0 = .ok (.aload_n 0, 1) := by decide +kernel
theorem dX7_walkLoan_1 : decode cX7_walkLoan 1 = .ok (.iconst 0, 1) := by decide +kernel
theorem dX7_walkLoan_2 : decode cX7_walkLoan 2 = .ok (.putfield 105, 3) := by decide +kernel
theorem dX7_walkLoan_5 : decode cX7_walkLoan 5 = .ok (.aload_n 0, 1) := by decide +kernel
theorem dX7_walkLoan_6 : decode cX7_walkLoan 6 = .ok (.getfield 61, 3) := by decide +kernel
theorem dX7_walkLoan_9 : decode cX7_walkLoan 9 = .ok (.iload_n 1, 1) := by decide +kernel
theorem dX7_walkLoan_10 : decode cX7_walkLoan 10 = .ok (.iaload, 1) := by decide +kernel
theorem dX7_walkLoan_11 : decode cX7_walkLoan 11 = .ok (.istore_n 2, 1) := by decide +kernel
theorem dX7_walkLoan_12 : decode cX7_walkLoan 12 = .ok (.iconst 0, 1) := by decide +kernel
theorem dX7_walkLoan_13 : decode cX7_walkLoan 13 = .ok (.istore_n 3, 1) := by decide +kernel
theorem dX7_walkLoan_14 : decode cX7_walkLoan 14 = .ok (.iload_n 3, 1) := by decide +kernel
theorem dX7_walkLoan_15 : decode cX7_walkLoan 15 = .ok (.sipush 2400, 3) := by decide +kernel
theorem dX7_walkLoan_18 : decode cX7_walkLoan 18 = .ok (.if_icmp .ge 22, 3) := by decide +kernel
theorem dX7_walkLoan_21 : decode cX7_walkLoan 21 = .ok (.aload_n 0, 1) := by decide +kernel
theorem dX7_walkLoan_22 : decode cX7_walkLoan 22 = .ok (.getfield 49, 3) := by decide +kernel
theorem dX7_walkLoan_25 : decode cX7_walkLoan 25 = .ok (.sipush 2400, 3) := by decide +kernel
theorem dX7_walkLoan_28 : decode cX7_walkLoan 28 = .ok (.iload_n 2, 1) := by decide +kernel
theorem dX7_walkLoan_29 : decode cX7_walkLoan 29 = .ok (.imul, 1) := by decide +kernel
theorem dX7_walkLoan_30 : decode cX7_walkLoan 30 = .ok (.iload_n 3, 1) := by decide +kernel
theorem dX7_walkLoan_31 : decode cX7_walkLoan 31 = .ok (.iadd, 1) := by decide +kernel
theorem dX7_walkLoan_32 : decode cX7_walkLoan 32 = .ok (.iconst 0, 1) := by decide +kernel
theorem dX7_walkLoan_33 : decode cX7_walkLoan 33 = .ok (.bastore, 1) := by decide +kernel
theorem dX7_walkLoan_34 : decode cX7_walkLoan 34 = .ok (.iinc 3 1, 3) := by decide +kernel
theorem dX7_walkLoan_37 : decode cX7_walkLoan 37 = .ok (.goto (-23), 3) := by decide +kernel
theorem dX7_walkLoan_40 : decode cX7_walkLoan 40 = .ok (.aload_n 0, 1) := by decide +kernel
theorem dX7_walkLoan_41 : decode cX7_walkLoan 41 = .ok (.getfield 39, 3) := by decide +kernel
theorem dX7_walkLoan_44 : decode cX7_walkLoan 44 = .ok (.iload_n 1, 1) := by decide +kernel
theorem dX7_walkLoan_45 : decode cX7_walkLoan 45 = .ok (.baload, 1) := by decide +kernel
theorem dX7_walkLoan_46 : decode cX7_walkLoan 46 = .ok (.ifCond .ne 4, 3) := by decide +kernel
theorem dX7_walkLoan_49 : decode cX7_walkLoan 49 = .ok (.return_, 1) := by decide +kernel
theorem dX7_walkLoan_50 : decode cX7_walkLoan 50 = .ok (.aload_n 0, 1) := by decide +kernel
theorem dX7_walkLoan_51 : decode cX7_walkLoan 51 = .ok (.iload_n 1, 1) := by decide +kernel
theorem dX7_walkLoan_52 : decode cX7_walkLoan 52 = .ok (.aload_n 0, 1) := by decide +kernel
theorem dX7_walkLoan_53 : decode cX7_walkLoan 53 = .ok (.getfield 29, 3) := by decide +kernel
theorem dX7_walkLoan_56 : decode cX7_walkLoan 56 = .ok (.iload_n 1, 1) := by decide +kernel
theorem dX7_walkLoan_57 : decode cX7_walkLoan 57 = .ok (.iaload, 1) := by decide +kernel
theorem dX7_walkLoan_58 : decode cX7_walkLoan 58 = .ok (.invokevirtual 121, 3) := by decide +kernel
theorem dX7_walkLoan_61 : decode cX7_walkLoan 61 = .ok (.ifCond .ne 15, 3) := by decide +kernel
theorem dX7_walkLoan_64 : decode cX7_walkLoan 64 = .ok (.aload_n 0, 1) := by decide +kernel
theorem dX7_walkLoan_65 : decode cX7_walkLoan 65 = .ok (.iload_n 1, 1) := by decide +kernel
theorem dX7_walkLoan_66 : decode cX7_walkLoan 66 = .ok (.iload_n 1, 1) := by decide +kernel
theorem dX7_walkLoan_67 : decode cX7_walkLoan 67 = .ok (.aload_n 0, 1) := by decide +kernel
theorem dX7_walkLoan_68 : decode cX7_walkLoan 68 = .ok (.getfield 29, 3) := by decide +kernel
theorem dX7_walkLoan_71 : decode cX7_walkLoan 71 = .ok (.iload_n 1, 1) := by decide +kernel
theorem dX7_walkLoan_72 : decode cX7_walkLoan 72 = .ok (.iaload, 1) := by decide +kernel
theorem dX7_walkLoan_73 : decode cX7_walkLoan 73 = .ok (.invokevirtual 124, 3) := by decide +kernel
theorem dX7_walkLoan_76 : decode cX7_walkLoan 76 = .ok (.aload_n 0, 1) := by decide +kernel
theorem dX7_walkLoan_77 : decode cX7_walkLoan 77 = .ok (.getfield 105, 3) := by decide +kernel
theorem dX7_walkLoan_80 : decode cX7_walkLoan 80 = .ok (.ifCond .le 179, 3) := by decide +kernel
theorem dX7_walkLoan_83 : decode cX7_walkLoan 83 = .ok (.aload_n 0, 1) := by decide +kernel
theorem dX7_walkLoan_84 : decode cX7_walkLoan 84 = .ok (.dup, 1) := by decide +kernel
theorem dX7_walkLoan_85 : decode cX7_walkLoan 85 = .ok (.getfield 105, 3) := by decide +kernel
theorem dX7_walkLoan_88 : decode cX7_walkLoan 88 = .ok (.iconst 1, 1) := by decide +kernel
theorem dX7_walkLoan_89 : decode cX7_walkLoan 89 = .ok (.isub, 1) := by decide +kernel
theorem dX7_walkLoan_90 : decode cX7_walkLoan 90 = .ok (.putfield 105, 3) := by decide +kernel
theorem dX7_walkLoan_93 : decode cX7_walkLoan 93 = .ok (.aload_n 0, 1) := by decide +kernel
theorem dX7_walkLoan_94 : decode cX7_walkLoan 94 = .ok (.getfield 58, 3) := by decide +kernel
theorem dX7_walkLoan_97 : decode cX7_walkLoan 97 = .ok (.aload_n 0, 1) := by decide +kernel
theorem dX7_walkLoan_98 : decode cX7_walkLoan 98 = .ok (.getfield 105, 3) := by decide +kernel
theorem dX7_walkLoan_101 : decode cX7_walkLoan 101 = .ok (.iaload, 1) := by decide +kernel
theorem dX7_walkLoan_102 : decode cX7_walkLoan 102 = .ok (.bipush 16, 2) := by decide +kernel
theorem dX7_walkLoan_104 : decode cX7_walkLoan 104 = .ok (.idiv, 1) := by decide +kernel
theorem dX7_walkLoan_105 : decode cX7_walkLoan 105 = .ok (.istore_n 3, 1) := by decide +kernel
theorem dX7_walkLoan_106 : decode cX7_walkLoan 106 = .ok (.aload_n 0, 1) := by decide +kernel
theorem dX7_walkLoan_107 : decode cX7_walkLoan 107 = .ok (.getfield 58, 3) := by decide +kernel
theorem dX7_walkLoan_110 : decode cX7_walkLoan 110 = .ok (.aload_n 0, 1) := by decide +kernel
theorem dX7_walkLoan_111 : decode cX7_walkLoan 111 = .ok (.getfield 105, 3) := by decide +kernel
theorem dX7_walkLoan_114 : decode cX7_walkLoan 114 = .ok (.iaload, 1) := by decide +kernel
theorem dX7_walkLoan_115 : decode cX7_walkLoan 115 = .ok (.bipush 16, 2) := by decide +kernel
theorem dX7_walkLoan_117 : decode cX7_walkLoan 117 = .ok (.irem, 1) := by decide +kernel
theorem dX7_walkLoan_118 : decode cX7_walkLoan 118 = .ok (.istore 4, 2) := by decide +kernel
theorem dX7_walkLoan_120 : decode cX7_walkLoan 120 = .ok (.aload_n 0, 1) := by decide +kernel
theorem dX7_walkLoan_121 : decode cX7_walkLoan 121 = .ok (.iload_n 3, 1) := by decide +kernel
theorem dX7_walkLoan_122 : decode cX7_walkLoan 122 = .ok (.invokevirtual 128, 3) := by decide +kernel
theorem dX7_walkLoan_125 : decode cX7_walkLoan 125 = .ok (.istore 5, 2) := by decide +kernel
theorem dX7_walkLoan_127 : decode cX7_walkLoan 127 = .ok (.iload 5, 2) := by decide +kernel
theorem dX7_walkLoan_129 : decode cX7_walkLoan 129 = .ok (.iconst (-1), 1) := by decide +kernel
theorem dX7_walkLoan_130 : decode cX7_walkLoan 130 = .ok (.if_icmp .eq 17, 3) := by decide +kernel
theorem dX7_walkLoan_133 : decode cX7_walkLoan 133 = .ok (.aload_n 0, 1) := by decide +kernel
theorem dX7_walkLoan_134 : decode cX7_walkLoan 134 = .ok (.iload_n 1, 1) := by decide +kernel
theorem dX7_walkLoan_135 : decode cX7_walkLoan 135 = .ok (.iload 5, 2) := by decide +kernel
theorem dX7_walkLoan_137 : decode cX7_walkLoan 137 = .ok (.invokevirtual 121, 3) := by decide +kernel
theorem dX7_walkLoan_140 : decode cX7_walkLoan 140 = .ok (.ifCond .eq 7, 3) := by decide +kernel
theorem dX7_walkLoan_143 : decode cX7_walkLoan 143 = .ok (.iconst 1, 1) := by decide +kernel
theorem dX7_walkLoan_144 : decode cX7_walkLoan 144 = .ok (.goto 4, 3) := by decide +kernel
theorem dX7_walkLoan_147 : decode cX7_walkLoan 147 = .ok (.iconst 0, 1) := by decide +kernel
theorem dX7_walkLoan_148 : decode cX7_walkLoan 148 = .ok (.istore 6, 2) := by decide +kernel
theorem dX7_walkLoan_150 : decode cX7_walkLoan 150 = .ok (.iload 6, 2) := by decide +kernel
theorem dX7_walkLoan_152 : decode cX7_walkLoan 152 = .ok (.ifCond .eq 6, 3) := by decide +kernel
theorem dX7_walkLoan_155 : decode cX7_walkLoan 155 = .ok (.goto (-79), 3) := by decide +kernel
theorem dX7_walkLoan_158 : decode cX7_walkLoan 158 = .ok (.iload 5, 2) := by decide +kernel
theorem dX7_walkLoan_160 : decode cX7_walkLoan 160 = .ok (.iload 4, 2) := by decide +kernel
theorem dX7_walkLoan_162 : decode cX7_walkLoan 162 = .ok (.if_icmp .eq 11, 3) := by decide +kernel
theorem dX7_walkLoan_165 : decode cX7_walkLoan 165 = .ok (.aload_n 0, 1) := by decide +kernel
theorem dX7_walkLoan_166 : decode cX7_walkLoan 166 = .ok (.iload_n 1, 1) := by decide +kernel
theorem dX7_walkLoan_167 : decode cX7_walkLoan 167 = .ok (.iload_n 3, 1) := by decide +kernel
theorem dX7_walkLoan_168 : decode cX7_walkLoan 168 = .ok (.iload 4, 2) := by decide +kernel
theorem dX7_walkLoan_170 : decode cX7_walkLoan 170 = .ok (.invokevirtual 124, 3) := by decide +kernel
theorem dX7_walkLoan_173 : decode cX7_walkLoan 173 = .ok (.aload_n 0, 1) := by decide +kernel
theorem dX7_walkLoan_174 : decode cX7_walkLoan 174 = .ok (.getfield 20, 3) := by decide +kernel
theorem dX7_walkLoan_177 : decode cX7_walkLoan 177 = .ok (.iload_n 3, 1) := by decide +kernel
theorem dX7_walkLoan_178 : decode cX7_walkLoan 178 = .ok (.iaload, 1) := by decide +kernel
theorem dX7_walkLoan_179 : decode cX7_walkLoan 179 = .ok (.bipush 8, 2) := by decide +kernel
theorem dX7_walkLoan_181 : decode cX7_walkLoan 181 = .ok (.if_icmp .ne 14, 3) := by decide +kernel
theorem dX7_walkLoan_184 : decode cX7_walkLoan 184 = .ok (.aload_n 0, 1) := by decide +kernel
theorem dX7_walkLoan_185 : decode cX7_walkLoan 185 = .ok (.getfield 23, 3) := by decide +kernel
theorem dX7_walkLoan_188 : decode cX7_walkLoan 188 = .ok (.iload_n 3, 1) := by decide +kernel
theorem dX7_walkLoan_189 : decode cX7_walkLoan 189 = .ok (.iaload, 1) := by decide +kernel
theorem dX7_walkLoan_190 : decode cX7_walkLoan 190 = .ok (.iload 4, 2) := by decide +kernel
theorem dX7_walkLoan_192 : decode cX7_walkLoan 192 = .ok (.if_icmp .eq 40, 3) := by decide +kernel
theorem dX7_walkLoan_195 : decode cX7_walkLoan 195 = .ok (.aload_n 0, 1) := by decide +kernel
theorem dX7_walkLoan_196 : decode cX7_walkLoan 196 = .ok (.getfield 20, 3) := by decide +kernel
theorem dX7_walkLoan_199 : decode cX7_walkLoan 199 = .ok (.iload_n 3, 1) := by decide +kernel
theorem dX7_walkLoan_200 : decode cX7_walkLoan 200 = .ok (.iaload, 1) := by decide +kernel
theorem dX7_walkLoan_201 : decode cX7_walkLoan 201 = .ok (.bipush 7, 2) := by decide +kernel
theorem dX7_walkLoan_203 : decode cX7_walkLoan 203 = .ok (.if_icmp .ne 33, 3) := by decide +kernel
theorem dX7_walkLoan_206 : decode cX7_walkLoan 206 = .ok (.aload_n 0, 1) := by decide +kernel
theorem dX7_walkLoan_207 : decode cX7_walkLoan 207 = .ok (.getfield 23, 3) := by decide +kernel
theorem dX7_walkLoan_210 : decode cX7_walkLoan 210 = .ok (.iload_n 3, 1) := by decide +kernel
theorem dX7_walkLoan_211 : decode cX7_walkLoan 211 = .ok (.iaload, 1) := by decide +kernel
theorem dX7_walkLoan_212 : decode cX7_walkLoan 212 = .ok (.iload 4, 2) := by decide +kernel
theorem dX7_walkLoan_214 : decode cX7_walkLoan 214 = .ok (.if_icmp .ne 22, 3) := by decide +kernel
theorem dX7_walkLoan_217 : decode cX7_walkLoan 217 = .ok (.aload_n 0, 1) := by decide +kernel
theorem dX7_walkLoan_218 : decode cX7_walkLoan 218 = .ok (.iload 4, 2) := by decide +kernel
theorem dX7_walkLoan_220 : decode cX7_walkLoan 220 = .ok (.aload_n 0, 1) := by decide +kernel
theorem dX7_walkLoan_221 : decode cX7_walkLoan 221 = .ok (.getfield 26, 3) := by decide +kernel
theorem dX7_walkLoan_224 : decode cX7_walkLoan 224 = .ok (.iload_n 3, 1) := by decide +kernel
theorem dX7_walkLoan_225 : decode cX7_walkLoan 225 = .ok (.iaload, 1) := by decide +kernel
theorem dX7_walkLoan_226 : decode cX7_walkLoan 226 = .ok (.invokevirtual 102, 3) := by decide +kernel
theorem dX7_walkLoan_229 : decode cX7_walkLoan 229 = .ok (.ifCond .eq 7, 3) := by decide +kernel
theorem dX7_walkLoan_232 : decode cX7_walkLoan 232 = .ok (.iconst 1, 1) := by decide +kernel
theorem dX7_walkLoan_233 : decode cX7_walkLoan 233 = .ok (.goto 4, 3) := by decide +kernel
theorem dX7_walkLoan_236 : decode cX7_walkLoan 236 = .ok (.iconst 0, 1) := by decide +kernel
theorem dX7_walkLoan_237 : decode cX7_walkLoan 237 = .ok (.istore 7, 2) := by decide +kernel
theorem dX7_walkLoan_239 : decode cX7_walkLoan 239 = .ok (.iload 7, 2) := by decide +kernel
theorem dX7_walkLoan_241 : decode cX7_walkLoan 241 = .ok (.ifCond .eq 15, 3) := by decide +kernel
theorem dX7_walkLoan_244 : decode cX7_walkLoan 244 = .ok (.aload_n 0, 1) := by decide +kernel
theorem dX7_walkLoan_245 : decode cX7_walkLoan 245 = .ok (.iload_n 1, 1) := by decide +kernel
theorem dX7_walkLoan_246 : decode cX7_walkLoan 246 = .ok (.iload_n 3, 1) := by decide +kernel
theorem dX7_walkLoan_247 : decode cX7_walkLoan 247 = .ok (.aload_n 0, 1) := by decide +kernel
theorem dX7_walkLoan_248 : decode cX7_walkLoan 248 = .ok (.getfield 29, 3) := by decide +kernel
theorem dX7_walkLoan_251 : decode cX7_walkLoan 251 = .ok (.iload_n 3, 1) := by decide +kernel
theorem dX7_walkLoan_252 : decode cX7_walkLoan 252 = .ok (.iaload, 1) := by decide +kernel
theorem dX7_walkLoan_253 : decode cX7_walkLoan 253 = .ok (.invokevirtual 124, 3) := by decide +kernel
theorem dX7_walkLoan_256 : decode cX7_walkLoan 256 = .ok (.goto (-180), 3) := by decide +kernel
theorem dX7_walkLoan_259 : decode cX7_walkLoan 259 = .ok (.return_, 1) := by decide +kernel
theorem dX7_walkUses_0 : decode cX7_walkUses 0 = .ok (.iconst 0, 1) := by decide +kernel
theorem dX7_walkUses_1 : decode cX7_walkUses 1 = .ok (.istore_n 2, 1) := by decide +kernel
theorem dX7_walkUses_2 : decode cX7_walkUses 2 = .ok (.iload_n 2, 1) := by decide +kernel
theorem dX7_walkUses_3 : decode cX7_walkUses 3 = .ok (.sipush 150, 3) := by decide +kernel
theorem dX7_walkUses_6 : decode cX7_walkUses 6 = .ok (.if_icmp .ge 21, 3) := by decide +kernel
theorem dX7_walkUses_9 : decode cX7_walkUses 9 = .ok (.aload_n 0, 1) := by decide +kernel
theorem dX7_walkUses_10 : decode cX7_walkUses 10 = .ok (.getfield 52, 3) := by decide +kernel
theorem dX7_walkUses_13 : decode cX7_walkUses 13 = .ok (.bipush 16, 2) := by decide +kernel
theorem dX7_walkUses_15 : decode cX7_walkUses 15 = .ok (.iload_n 2, 1) := by decide +kernel
theorem dX7_walkUses_16 : decode cX7_walkUses 16 = .ok (.imul, 1) := by decide +kernel
theorem dX7_walkUses_17 : decode cX7_walkUses 17 = .ok (.iload_n 1, 1) := by decide +kernel
theorem dX7_walkUses_18 : decode cX7_walkUses 18 = .ok (.iadd, 1) := by decide +kernel
theorem dX7_walkUses_19 : decode cX7_walkUses 19 = .ok (.iconst 0, 1) := by decide +kernel
theorem dX7_walkUses_20 : decode cX7_walkUses 20 = .ok (.bastore, 1) := by decide +kernel
theorem dX7_walkUses_21 : decode cX7_walkUses 21 = .ok (.iinc 2 1, 3) := by decide +kernel
theorem dX7_walkUses_24 : decode cX7_walkUses 24 = .ok (.goto (-22), 3) := by decide +kernel
theorem dX7_walkUses_27 : decode cX7_walkUses 27 = .ok (.iconst 1, 1) := by decide +kernel
theorem dX7_walkUses_28 : decode cX7_walkUses 28 = .ok (.istore_n 2, 1) := by decide +kernel
theorem dX7_walkUses_29 : decode cX7_walkUses 29 = .ok (.iload_n 2, 1) := by decide +kernel
theorem dX7_walkUses_30 : decode cX7_walkUses 30 = .ok (.ifCond .eq 134, 3) := by decide +kernel
theorem dX7_walkUses_33 : decode cX7_walkUses 33 = .ok (.iconst 0, 1) := by decide +kernel
theorem dX7_walkUses_34 : decode cX7_walkUses 34 = .ok (.istore_n 2, 1) := by decide +kernel
theorem dX7_walkUses_35 : decode cX7_walkUses 35 = .ok (.sipush 149, 3) := by decide +kernel
theorem dX7_walkUses_38 : decode cX7_walkUses 38 = .ok (.istore_n 3, 1) := by decide +kernel
theorem dX7_walkUses_39 : decode cX7_walkUses 39 = .ok (.iload_n 3, 1) := by decide +kernel
theorem dX7_walkUses_40 : decode cX7_walkUses 40 = .ok (.ifCond .lt 121, 3) := by decide +kernel
theorem dX7_walkUses_43 : decode cX7_walkUses 43 = .ok (.aload_n 0, 1) := by decide +kernel
theorem dX7_walkUses_44 : decode cX7_walkUses 44 = .ok (.getfield 39, 3) := by decide +kernel
theorem dX7_walkUses_47 : decode cX7_walkUses 47 = .ok (.iload_n 3, 1) := by decide +kernel
theorem dX7_walkUses_48 : decode cX7_walkUses 48 = .ok (.baload, 1) := by decide +kernel
theorem dX7_walkUses_49 : decode cX7_walkUses 49 = .ok (.ifCond .eq 106, 3) := by decide +kernel
theorem dX7_walkUses_52 : decode cX7_walkUses 52 = .ok (.aload_n 0, 1) := by decide +kernel
theorem dX7_walkUses_53 : decode cX7_walkUses 53 = .ok (.getfield 52, 3) := by decide +kernel
theorem dX7_walkUses_56 : decode cX7_walkUses 56 = .ok (.bipush 16, 2) := by decide +kernel
theorem dX7_walkUses_58 : decode cX7_walkUses 58 = .ok (.iload_n 3, 1) := by decide +kernel
theorem dX7_walkUses_59 : decode cX7_walkUses 59 = .ok (.imul, 1) := by decide +kernel
theorem dX7_walkUses_60 : decode cX7_walkUses 60 = .ok (.iload_n 1, 1) := by decide +kernel
theorem dX7_walkUses_61 : decode cX7_walkUses 61 = .ok (.iadd, 1) := by decide +kernel
theorem dX7_walkUses_62 : decode cX7_walkUses 62 = .ok (.baload, 1) := by decide +kernel
theorem dX7_walkUses_63 : decode cX7_walkUses 63 = .ok (.ifCond .eq 6, 3) := by decide +kernel
theorem dX7_walkUses_66 : decode cX7_walkUses 66 = .ok (.goto 89, 3) := by decide +kernel
theorem dX7_walkUses_69 : decode cX7_walkUses 69 = .ok (.iconst 0, 1) := by decide +kernel
theorem dX7_walkUses_70 : decode cX7_walkUses 70 = .ok (.istore 4, 2) := by decide +kernel
theorem dX7_walkUses_72 : decode cX7_walkUses 72 = .ok (.iload 4, 2) := by decide +kernel
theorem dX7_walkUses_74 : decode cX7_walkUses 74 = .ok (.iconst 4, 1) := by decide +kernel
theorem dX7_walkUses_75 : decode cX7_walkUses 75 = .ok (.if_icmp .ge 80, 3) := by decide +kernel
theorem dX7_walkUses_78 : decode cX7_walkUses 78 = .ok (.aload_n 0, 1) := by decide +kernel
theorem dX7_walkUses_79 : decode cX7_walkUses 79 = .ok (.getfield 32, 3) := by decide +kernel
theorem dX7_walkUses_82 : decode cX7_walkUses 82 = .ok (.iconst 4, 1) := by decide +kernel
theorem dX7_walkUses_83 : decode cX7_walkUses 83 = .ok (.iload_n 3, 1) := by decide +kernel
theorem dX7_walkUses_84 : decode cX7_walkUses 84 = .ok (.imul, 1) := by decide +kernel
theorem dX7_walkUses_85 : decode cX7_walkUses 85 = .ok (.iload 4, 2) := by decide +kernel
theorem dX7_walkUses_87 : decode cX7_walkUses 87 = .ok (.iadd, 1) := by decide +kernel
theorem dX7_walkUses_88 : decode cX7_walkUses 88 = .ok (.iaload, 1) := by decide +kernel
theorem dX7_walkUses_89 : decode cX7_walkUses 89 = .ok (.istore 5, 2) := by decide +kernel
theorem dX7_walkUses_91 : decode cX7_walkUses 91 = .ok (.iload 5, 2) := by decide +kernel
theorem dX7_walkUses_93 : decode cX7_walkUses 93 = .ok (.iconst (-1), 1) := by decide +kernel
theorem dX7_walkUses_94 : decode cX7_walkUses 94 = .ok (.if_icmp .eq 55, 3) := by decide +kernel
theorem dX7_walkUses_97 : decode cX7_walkUses 97 = .ok (.aload_n 0, 1) := by decide +kernel
theorem dX7_walkUses_98 : decode cX7_walkUses 98 = .ok (.iload 5, 2) := by decide +kernel
theorem dX7_walkUses_100 : decode cX7_walkUses 100 = .ok (.iload_n 1, 1) := by decide +kernel
theorem dX7_walkUses_101 : decode cX7_walkUses 101 = .ok (.invokevirtual 132, 3) := by decide +kernel
theorem dX7_walkUses_104 : decode cX7_walkUses 104 = .ok (.ifCond .ne 31, 3) := by decide +kernel
theorem dX7_walkUses_107 : decode cX7_walkUses 107 = .ok (.aload_n 0, 1) := by decide +kernel
theorem dX7_walkUses_108 : decode cX7_walkUses 108 = .ok (.iload 5, 2) := by decide +kernel
theorem dX7_walkUses_110 : decode cX7_walkUses 110 = .ok (.iload_n 1, 1) := by decide +kernel
theorem dX7_walkUses_111 : decode cX7_walkUses 111 = .ok (.invokevirtual 135, 3) := by decide +kernel
theorem dX7_walkUses_114 : decode cX7_walkUses 114 = .ok (.ifCond .ne 35, 3) := by decide +kernel
theorem dX7_walkUses_117 : decode cX7_walkUses 117 = .ok (.aload_n 0, 1) := by decide +kernel
theorem dX7_walkUses_118 : decode cX7_walkUses 118 = .ok (.getfield 52, 3) := by decide +kernel
theorem dX7_walkUses_121 : decode cX7_walkUses 121 = .ok (.bipush 16, 2) := by decide +kernel
theorem dX7_walkUses_123 : decode cX7_walkUses 123 = .ok (.iload 5, 2) := by decide +kernel
theorem dX7_walkUses_125 : decode cX7_walkUses 125 = .ok (.imul, 1) := by decide +kernel
theorem dX7_walkUses_126 : decode cX7_walkUses 126 = .ok (.iload_n 1, 1) := by decide +kernel
theorem dX7_walkUses_127 : decode cX7_walkUses 127 = .ok (.iadd, 1) := by decide +kernel
theorem dX7_walkUses_128 : decode cX7_walkUses 128 = .ok (.baload, 1) := by decide +kernel
theorem dX7_walkUses_129 : decode cX7_walkUses 129 = .ok (.ifCond .ne 6, 3) := by decide +kernel
theorem dX7_walkUses_132 : decode cX7_walkUses 132 = .ok (.goto 17, 3) := by decide +kernel
theorem dX7_walkUses_135 : decode cX7_walkUses 135 = .ok (.aload_n 0, 1) := by decide +kernel
theorem dX7_walkUses_136 : decode cX7_walkUses 136 = .ok (.getfield 52, 3) := by decide +kernel
theorem dX7_walkUses_139 : decode cX7_walkUses 139 = .ok (.bipush 16, 2) := by decide +kernel
theorem dX7_walkUses_141 : decode cX7_walkUses 141 = .ok (.iload_n 3, 1) := by decide +kernel
theorem dX7_walkUses_142 : decode cX7_walkUses 142 = .ok (.imul, 1) := by decide +kernel
theorem dX7_walkUses_143 : decode cX7_walkUses 143 = .ok (.iload_n 1, 1) := by decide +kernel
theorem dX7_walkUses_144 : decode cX7_walkUses 144 = .ok (.iadd, 1) := by decide +kernel
theorem dX7_walkUses_145 : decode cX7_walkUses 145 = .ok (.iconst 1, 1) := by decide +kernel
theorem dX7_walkUses_146 : decode cX7_walkUses 146 = .ok (.bastore, 1) := by decide +kernel
theorem dX7_walkUses_147 : decode cX7_walkUses 147 = .ok (.iconst 1, 1) := by decide +kernel
theorem dX7_walkUses_148 : decode cX7_walkUses 148 = .ok (.istore_n 2, 1) := by decide +kernel
theorem dX7_walkUses_149 : decode cX7_walkUses 149 = .ok (.iinc 4 1, 3) := by decide +kernel
theorem dX7_walkUses_152 : decode cX7_walkUses 152 = .ok (.goto (-80), 3) := by decide +kernel
theorem dX7_walkUses_155 : decode cX7_walkUses 155 = .ok (.iinc 3 (-1), 3) := by decide +kernel
theorem dX7_walkUses_158 : decode cX7_walkUses 158 = .ok (.goto (-119), 3) := by decide +kernel
theorem dX7_walkUses_161 : decode cX7_walkUses 161 = .ok (.goto (-132), 3) := by decide +kernel
theorem dX7_walkUses_164 : decode cX7_walkUses 164 = .ok (.return_, 1) := by decide +kernel
theorem dX7_isUsed_0 : decode cX7_isUsed 0 = .ok (.aload_n 0, 1) := by decide +kernel
theorem dX7_isUsed_1 : decode cX7_isUsed 1 = .ok (.getfield 39, 3) := by decide +kernel
theorem dX7_isUsed_4 : decode cX7_isUsed 4 = .ok (.iload_n 1, 1) := by decide +kernel
theorem dX7_isUsed_5 : decode cX7_isUsed 5 = .ok (.baload, 1) := by decide +kernel
theorem dX7_isUsed_6 : decode cX7_isUsed 6 = .ok (.ifCond .eq 30, 3) := by decide +kernel
theorem dX7_isUsed_9 : decode cX7_isUsed 9 = .ok (.aload_n 0, 1) := by decide +kernel
theorem dX7_isUsed_10 : decode cX7_isUsed 10 = .ok (.iload_n 1, 1) := by decide +kernel
theorem dX7_isUsed_11 : decode cX7_isUsed 11 = .ok (.iload_n 2, 1) := by decide +kernel
theorem dX7_isUsed_12 : decode cX7_isUsed 12 = .ok (.invokevirtual 135, 3) := by decide +kernel
theorem dX7_isUsed_15 : decode cX7_isUsed 15 = .ok (.ifCond .ne 21, 3) := by decide +kernel
theorem dX7_isUsed_18 : decode cX7_isUsed 18 = .ok (.aload_n 0, 1) := by decide +kernel
theorem dX7_isUsed_19 : decode cX7_isUsed 19 = .ok (.getfield 52, 3) := by decide +kernel
theorem dX7_isUsed_22 : decode cX7_isUsed 22 = .ok (.bipush 16, 2) := by decide +kernel
theorem dX7_isUsed_24 : decode cX7_isUsed 24 = .ok (.iload_n 1, 1) := by decide +kernel
theorem dX7_isUsed_25 : decode cX7_isUsed 25 = .ok (.imul, 1) := by decide +kernel
theorem dX7_isUsed_26 : decode cX7_isUsed 26 = .ok (.iload_n 2, 1) := by decide +kernel
theorem dX7_isUsed_27 : decode cX7_isUsed 27 = .ok (.iadd, 1) := by decide +kernel
theorem dX7_isUsed_28 : decode cX7_isUsed 28 = .ok (.baload, 1) := by decide +kernel
theorem dX7_isUsed_29 : decode cX7_isUsed 29 = .ok (.ifCond .eq 7, 3) := by decide +kernel
theorem dX7_isUsed_32 : decode cX7_isUsed 32 = .ok (.iconst 1, 1) := by decide +kernel
theorem dX7_isUsed_33 : decode cX7_isUsed 33 = .ok (.goto 4, 3) := by decide +kernel
theorem dX7_isUsed_36 : decode cX7_isUsed 36 = .ok (.iconst 0, 1) := by decide +kernel
theorem dX7_isUsed_37 : decode cX7_isUsed 37 = .ok (.ireturn, 1) := by decide +kernel
theorem dX7_isInForce_0 : decode cX7_isInForce 0 = .ok (.iconst 0, 1) := by decide +kernel
theorem dX7_isInForce_1 : decode cX7_isInForce 1 = .ok (.istore_n 3, 1) := by decide +kernel
theorem dX7_isInForce_2 : decode cX7_isInForce 2 = .ok (.iconst 0, 1) := by decide +kernel
theorem dX7_isInForce_3 : decode cX7_isInForce 3 = .ok (.istore 4, 2) := by decide +kernel
theorem dX7_isInForce_5 : decode cX7_isInForce 5 = .ok (.iload 4, 2) := by decide +kernel
theorem dX7_isInForce_7 : decode cX7_isInForce 7 = .ok (.aload_n 0, 1) := by decide +kernel
theorem dX7_isInForce_8 : decode cX7_isInForce 8 = .ok (.getfield 67, 3) := by decide +kernel
theorem dX7_isInForce_11 : decode cX7_isInForce 11 = .ok (.if_icmp .ge 60, 3) := by decide +kernel
theorem dX7_isInForce_14 : decode cX7_isInForce 14 = .ok (.iload_n 3, 1) := by decide +kernel
theorem dX7_isInForce_15 : decode cX7_isInForce 15 = .ok (.ifCond .ne 44, 3) := by decide +kernel
theorem dX7_isInForce_18 : decode cX7_isInForce 18 = .ok (.aload_n 0, 1) := by decide +kernel
theorem dX7_isInForce_19 : decode cX7_isInForce 19 = .ok (.getfield 7, 3) := by decide +kernel
theorem dX7_isInForce_22 : decode cX7_isInForce 22 = .ok (.iload 4, 2) := by decide +kernel
theorem dX7_isInForce_24 : decode cX7_isInForce 24 = .ok (.iaload, 1) := by decide +kernel
theorem dX7_isInForce_25 : decode cX7_isInForce 25 = .ok (.ifCond .eq 38, 3) := by decide +kernel
theorem dX7_isInForce_28 : decode cX7_isInForce 28 = .ok (.aload_n 0, 1) := by decide +kernel
theorem dX7_isInForce_29 : decode cX7_isInForce 29 = .ok (.getfield 49, 3) := by decide +kernel
theorem dX7_isInForce_32 : decode cX7_isInForce 32 = .ok (.aload_n 0, 1) := by decide +kernel
theorem dX7_isInForce_33 : decode cX7_isInForce 33 = .ok (.aload_n 0, 1) := by decide +kernel
theorem dX7_isInForce_34 : decode cX7_isInForce 34 = .ok (.getfield 61, 3) := by decide +kernel
theorem dX7_isInForce_37 : decode cX7_isInForce 37 = .ok (.iload_n 1, 1) := by decide +kernel
theorem dX7_isInForce_38 : decode cX7_isInForce 38 = .ok (.iaload, 1) := by decide +kernel
theorem dX7_isInForce_39 : decode cX7_isInForce 39 = .ok (.iload_n 2, 1) := by decide +kernel
theorem dX7_isInForce_40 : decode cX7_isInForce 40 = .ok (.iload 4, 2) := by decide +kernel
theorem dX7_isInForce_42 : decode cX7_isInForce 42 = .ok (.invokevirtual 117, 3) := by decide +kernel
theorem dX7_isInForce_45 : decode cX7_isInForce 45 = .ok (.baload, 1) := by decide +kernel
theorem dX7_isInForce_46 : decode cX7_isInForce 46 = .ok (.ifCond .eq 17, 3) := by decide +kernel
theorem dX7_isInForce_49 : decode cX7_isInForce 49 = .ok (.aload_n 0, 1) := by decide +kernel
theorem dX7_isInForce_50 : decode cX7_isInForce 50 = .ok (.iload_n 2, 1) := by decide +kernel
theorem dX7_isInForce_51 : decode cX7_isInForce 51 = .ok (.iload 4, 2) := by decide +kernel
theorem dX7_isInForce_53 : decode cX7_isInForce 53 = .ok (.invokevirtual 138, 3) := by decide +kernel
theorem dX7_isInForce_56 : decode cX7_isInForce 56 = .ok (.ifCond .eq 7, 3) := by decide +kernel
theorem dX7_isInForce_59 : decode cX7_isInForce 59 = .ok (.iconst 1, 1) := by decide +kernel
theorem dX7_isInForce_60 : decode cX7_isInForce 60 = .ok (.goto 4, 3) := by decide +kernel
theorem dX7_isInForce_63 : decode cX7_isInForce 63 = .ok (.iconst 0, 1) := by decide +kernel
theorem dX7_isInForce_64 : decode cX7_isInForce 64 = .ok (.istore_n 3, 1) := by decide +kernel
theorem dX7_isInForce_65 : decode cX7_isInForce 65 = .ok (.iinc 4 1, 3) := by decide +kernel
theorem dX7_isInForce_68 : decode cX7_isInForce 68 = .ok (.goto (-63), 3) := by decide +kernel
theorem dX7_isInForce_71 : decode cX7_isInForce 71 = .ok (.iload_n 3, 1) := by decide +kernel
theorem dX7_isInForce_72 : decode cX7_isInForce 72 = .ok (.ifCond .eq 16, 3) := by decide +kernel
theorem dX7_isInForce_75 : decode cX7_isInForce 75 = .ok (.aload_n 0, 1) := by decide +kernel
theorem dX7_isInForce_76 : decode cX7_isInForce 76 = .ok (.getfield 39, 3) := by decide +kernel
theorem dX7_isInForce_79 : decode cX7_isInForce 79 = .ok (.iload_n 2, 1) := by decide +kernel
theorem dX7_isInForce_80 : decode cX7_isInForce 80 = .ok (.baload, 1) := by decide +kernel
theorem dX7_isInForce_81 : decode cX7_isInForce 81 = .ok (.ifCond .eq 7, 3) := by decide +kernel
theorem dX7_isInForce_84 : decode cX7_isInForce 84 = .ok (.iconst 1, 1) := by decide +kernel
theorem dX7_isInForce_85 : decode cX7_isInForce 85 = .ok (.goto 4, 3) := by decide +kernel
theorem dX7_isInForce_88 : decode cX7_isInForce 88 = .ok (.iconst 0, 1) := by decide +kernel
theorem dX7_isInForce_89 : decode cX7_isInForce 89 = .ok (.ireturn, 1) := by decide +kernel
theorem dX7_begins__0 : decode cX7_begins_ 0 = .ok (.iload_n 0, 1) := by decide +kernel
theorem dX7_begins__1 : decode cX7_begins_ 1 = .ok (.istore_n 2, 1) := by decide +kernel
theorem dX7_begins__2 : decode cX7_begins_ 2 = .ok (.iload_n 1, 1) := by decide +kernel
theorem dX7_begins__3 : decode cX7_begins_ 3 = .ok (.istore_n 3, 1) := by decide +kernel
theorem dX7_begins__4 : decode cX7_begins_ 4 = .ok (.iload_n 3, 1) := by decide +kernel
theorem dX7_begins__5 : decode cX7_begins_ 5 = .ok (.ifCond .le 27, 3) := by decide +kernel
theorem dX7_begins__8 : decode cX7_begins_ 8 = .ok (.iload_n 2, 1) := by decide +kernel
theorem dX7_begins__9 : decode cX7_begins_ 9 = .ok (.bipush 8, 2) := by decide +kernel
theorem dX7_begins__11 : decode cX7_begins_ 11 = .ok (.irem, 1) := by decide +kernel
theorem dX7_begins__12 : decode cX7_begins_ 12 = .ok (.iload_n 3, 1) := by decide +kernel
theorem dX7_begins__13 : decode cX7_begins_ 13 = .ok (.bipush 8, 2) := by decide +kernel
theorem dX7_begins__15 : decode cX7_begins_ 15 = .ok (.irem, 1) := by decide +kernel
theorem dX7_begins__16 : decode cX7_begins_ 16 = .ok (.if_icmp .ne 16, 3) := by decide +kernel
theorem dX7_begins__19 : decode cX7_begins_ 19 = .ok (.iload_n 2, 1) := by decide +kernel
theorem dX7_begins__20 : decode cX7_begins_ 20 = .ok (.bipush 8, 2) := by decide +kernel
theorem dX7_begins__22 : decode cX7_begins_ 22 = .ok (.idiv, 1) := by decide +kernel
theorem dX7_begins__23 : decode cX7_begins_ 23 = .ok (.istore_n 2, 1) := by decide +kernel
theorem dX7_begins__24 : decode cX7_begins_ 24 = .ok (.iload_n 3, 1) := by decide +kernel
theorem dX7_begins__25 : decode cX7_begins_ 25 = .ok (.bipush 8, 2) := by decide +kernel
theorem dX7_begins__27 : decode cX7_begins_ 27 = .ok (.idiv, 1) := by decide +kernel
theorem dX7_begins__28 : decode cX7_begins_ 28 = .ok (.istore_n 3, 1) := by decide +kernel
theorem dX7_begins__29 : decode cX7_begins_ 29 = .ok (.goto (-25), 3) := by decide +kernel
theorem dX7_begins__32 : decode cX7_begins_ 32 = .ok (.iload_n 3, 1) := by decide +kernel
theorem dX7_begins__33 : decode cX7_begins_ 33 = .ok (.ifCond .ne 7, 3) := by decide +kernel
theorem dX7_begins__36 : decode cX7_begins_ 36 = .ok (.iconst 1, 1) := by decide +kernel
theorem dX7_begins__37 : decode cX7_begins_ 37 = .ok (.goto 4, 3) := by decide +kernel
theorem dX7_begins__40 : decode cX7_begins_ 40 = .ok (.iconst 0, 1) := by decide +kernel
theorem dX7_begins__41 : decode cX7_begins_ 41 = .ok (.ireturn, 1) := by decide +kernel
theorem dX7_clashes_0 : decode cX7_clashes 0 = .ok (.aload_n 0, 1) := by decide +kernel
theorem dX7_clashes_1 : decode cX7_clashes 1 = .ok (.getfield 20, 3) := by decide +kernel
theorem dX7_clashes_4 : decode cX7_clashes 4 = .ok (.iload_n 2, 1) := by decide +kernel
theorem dX7_clashes_5 : decode cX7_clashes 5 = .ok (.iaload, 1) := by decide +kernel
theorem dX7_clashes_6 : decode cX7_clashes 6 = .ok (.istore_n 3, 1) := by decide +kernel
theorem dX7_clashes_7 : decode cX7_clashes 7 = .ok (.iload_n 3, 1) := by decide +kernel
theorem dX7_clashes_8 : decode cX7_clashes 8 = .ok (.ifCond .eq 43, 3) := by decide +kernel
theorem dX7_clashes_11 : decode cX7_clashes 11 = .ok (.iload_n 3, 1) := by decide +kernel
theorem dX7_clashes_12 : decode cX7_clashes 12 = .ok (.iconst 5, 1) := by decide +kernel
theorem dX7_clashes_13 : decode cX7_clashes 13 = .ok (.if_icmp .eq 38, 3) := by decide +kernel
theorem dX7_clashes_16 : decode cX7_clashes 16 = .ok (.aload_n 0, 1) := by decide +kernel
theorem dX7_clashes_17 : decode cX7_clashes 17 = .ok (.getfield 23, 3) := by decide +kernel
theorem dX7_clashes_20 : decode cX7_clashes 20 = .ok (.iload_n 2, 1) := by decide +kernel
theorem dX7_clashes_21 : decode cX7_clashes 21 = .ok (.iaload, 1) := by decide +kernel
theorem dX7_clashes_22 : decode cX7_clashes 22 = .ok (.aload_n 0, 1) := by decide +kernel
theorem dX7_clashes_23 : decode cX7_clashes 23 = .ok (.getfield 23, 3) := by decide +kernel
theorem dX7_clashes_26 : decode cX7_clashes 26 = .ok (.iload_n 1, 1) := by decide +kernel
theorem dX7_clashes_27 : decode cX7_clashes 27 = .ok (.iaload, 1) := by decide +kernel
theorem dX7_clashes_28 : decode cX7_clashes 28 = .ok (.if_icmp .ne 23, 3) := by decide +kernel
theorem dX7_clashes_31 : decode cX7_clashes 31 = .ok (.iload_n 3, 1) := by decide +kernel
theorem dX7_clashes_32 : decode cX7_clashes 32 = .ok (.bipush 6, 2) := by decide +kernel
theorem dX7_clashes_34 : decode cX7_clashes 34 = .ok (.if_icmp .ne 19, 3) := by decide +kernel
theorem dX7_clashes_37 : decode cX7_clashes 37 = .ok (.aload_n 0, 1) := by decide +kernel
theorem dX7_clashes_38 : decode cX7_clashes 38 = .ok (.getfield 7, 3) := by decide +kernel
theorem dX7_clashes_41 : decode cX7_clashes 41 = .ok (.aload_n 0, 1) := by decide +kernel
theorem dX7_clashes_42 : decode cX7_clashes 42 = .ok (.getfield 23, 3) := by decide +kernel
theorem dX7_clashes_45 : decode cX7_clashes 45 = .ok (.iload_n 2, 1) := by decide +kernel
theorem dX7_clashes_46 : decode cX7_clashes 46 = .ok (.iaload, 1) := by decide +kernel
theorem dX7_clashes_47 : decode cX7_clashes 47 = .ok (.iaload, 1) := by decide +kernel
theorem dX7_clashes_48 : decode cX7_clashes 48 = .ok (.ifCond .eq 5, 3) := by decide +kernel
theorem dX7_clashes_51 : decode cX7_clashes 51 = .ok (.iconst 0, 1) := by decide +kernel
theorem dX7_clashes_52 : decode cX7_clashes 52 = .ok (.ireturn, 1) := by decide +kernel
theorem dX7_clashes_53 : decode cX7_clashes 53 = .ok (.iload_n 3, 1) := by decide +kernel
theorem dX7_clashes_54 : decode cX7_clashes 54 = .ok (.iconst 1, 1) := by decide +kernel
theorem dX7_clashes_55 : decode cX7_clashes 55 = .ok (.if_icmp .eq 45, 3) := by decide +kernel
theorem dX7_clashes_58 : decode cX7_clashes 58 = .ok (.iload_n 3, 1) := by decide +kernel
theorem dX7_clashes_59 : decode cX7_clashes 59 = .ok (.bipush 7, 2) := by decide +kernel
theorem dX7_clashes_61 : decode cX7_clashes 61 = .ok (.if_icmp .ne 18, 3) := by decide +kernel
theorem dX7_clashes_64 : decode cX7_clashes 64 = .ok (.aload_n 0, 1) := by decide +kernel
theorem dX7_clashes_65 : decode cX7_clashes 65 = .ok (.getfield 7, 3) := by decide +kernel
theorem dX7_clashes_68 : decode cX7_clashes 68 = .ok (.aload_n 0, 1) := by decide +kernel
theorem dX7_clashes_69 : decode cX7_clashes 69 = .ok (.getfield 29, 3) := by decide +kernel
theorem dX7_clashes_72 : decode cX7_clashes 72 = .ok (.iload_n 2, 1) := by decide +kernel
theorem dX7_clashes_73 : decode cX7_clashes 73 = .ok (.iaload, 1) := by decide +kernel
theorem dX7_clashes_74 : decode cX7_clashes 74 = .ok (.iaload, 1) := by decide +kernel
theorem dX7_clashes_75 : decode cX7_clashes 75 = .ok (.iconst 1, 1) := by decide +kernel
theorem dX7_clashes_76 : decode cX7_clashes 76 = .ok (.if_icmp .eq 24, 3) := by decide +kernel
theorem dX7_clashes_79 : decode cX7_clashes 79 = .ok (.iload_n 3, 1) := by decide +kernel
theorem dX7_clashes_80 : decode cX7_clashes 80 = .ok (.bipush 8, 2) := by decide +kernel
theorem dX7_clashes_82 : decode cX7_clashes 82 = .ok (.if_icmp .ne 22, 3) := by decide +kernel
theorem dX7_clashes_85 : decode cX7_clashes 85 = .ok (.aload_n 0, 1) := by decide +kernel
theorem dX7_clashes_86 : decode cX7_clashes 86 = .ok (.getfield 7, 3) := by decide +kernel
theorem dX7_clashes_89 : decode cX7_clashes 89 = .ok (.aload_n 0, 1) := by decide +kernel
theorem dX7_clashes_90 : decode cX7_clashes 90 = .ok (.getfield 23, 3) := by decide +kernel
theorem dX7_clashes_93 : decode cX7_clashes 93 = .ok (.iload_n 2, 1) := by decide +kernel
theorem dX7_clashes_94 : decode cX7_clashes 94 = .ok (.iaload, 1) := by decide +kernel
theorem dX7_clashes_95 : decode cX7_clashes 95 = .ok (.iaload, 1) := by decide +kernel
theorem dX7_clashes_96 : decode cX7_clashes 96 = .ok (.iconst 1, 1) := by decide +kernel
theorem dX7_clashes_97 : decode cX7_clashes 97 = .ok (.if_icmp .ne 7, 3) := by decide +kernel
theorem dX7_clashes_100 : decode cX7_clashes 100 = .ok (.iconst 1, 1) := by decide +kernel
theorem dX7_clashes_101 : decode cX7_clashes 101 = .ok (.goto 4, 3) := by decide +kernel
theorem dX7_clashes_104 : decode cX7_clashes 104 = .ok (.iconst 0, 1) := by decide +kernel
theorem dX7_clashes_105 : decode cX7_clashes 105 = .ok (.istore 4, 2) := by decide +kernel
theorem dX7_clashes_107 : decode cX7_clashes 107 = .ok (.iload_n 3, 1) := by decide +kernel
theorem dX7_clashes_108 : decode cX7_clashes 108 = .ok (.bipush 6, 2) := by decide +kernel
theorem dX7_clashes_110 : decode cX7_clashes 110 = .ok (.if_icmp .eq 9, 3) := by decide +kernel
theorem dX7_clashes_113 : decode cX7_clashes 113 = .ok (.iload_n 3, 1) := by decide +kernel
theorem dX7_clashes_114 : decode cX7_clashes 114 = .ok (.bipush 8, 2) := by decide +kernel
theorem dX7_clashes_116 : decode cX7_clashes 116 = .ok (.if_icmp .ne 7, 3) := by decide +kernel
theorem dX7_clashes_119 : decode cX7_clashes 119 = .ok (.iconst 0, 1) := by decide +kernel
theorem dX7_clashes_120 : decode cX7_clashes 120 = .ok (.goto 9, 3) := by decide +kernel
theorem dX7_clashes_123 : decode cX7_clashes 123 = .ok (.aload_n 0, 1) := by decide +kernel
theorem dX7_clashes_124 : decode cX7_clashes 124 = .ok (.getfield 26, 3) := by decide +kernel
theorem dX7_clashes_127 : decode cX7_clashes 127 = .ok (.iload_n 2, 1) := by decide +kernel
theorem dX7_clashes_128 : decode cX7_clashes 128 = .ok (.iaload, 1) := by decide +kernel
theorem dX7_clashes_129 : decode cX7_clashes 129 = .ok (.istore 5, 2) := by decide +kernel
theorem dX7_clashes_131 : decode cX7_clashes 131 = .ok (.aload_n 0, 1) := by decide +kernel
theorem dX7_clashes_132 : decode cX7_clashes 132 = .ok (.getfield 7, 3) := by decide +kernel
theorem dX7_clashes_135 : decode cX7_clashes 135 = .ok (.aload_n 0, 1) := by decide +kernel
theorem dX7_clashes_136 : decode cX7_clashes 136 = .ok (.getfield 29, 3) := by decide +kernel
theorem dX7_clashes_139 : decode cX7_clashes 139 = .ok (.iload_n 1, 1) := by decide +kernel
theorem dX7_clashes_140 : decode cX7_clashes 140 = .ok (.iaload, 1) := by decide +kernel
theorem dX7_clashes_141 : decode cX7_clashes 141 = .ok (.iaload, 1) := by decide +kernel
theorem dX7_clashes_142 : decode cX7_clashes 142 = .ok (.iconst 2, 1) := by decide +kernel
theorem dX7_clashes_143 : decode cX7_clashes 143 = .ok (.if_icmp .eq 8, 3) := by decide +kernel
theorem dX7_clashes_146 : decode cX7_clashes 146 = .ok (.iload 4, 2) := by decide +kernel
theorem dX7_clashes_148 : decode cX7_clashes 148 = .ok (.ifCond .ne 35, 3) := by decide +kernel
theorem dX7_clashes_151 : decode cX7_clashes 151 = .ok (.iload 5, 2) := by decide +kernel
theorem dX7_clashes_153 : decode cX7_clashes 153 = .ok (.aload_n 0, 1) := by decide +kernel
theorem dX7_clashes_154 : decode cX7_clashes 154 = .ok (.getfield 26, 3) := by decide +kernel
theorem dX7_clashes_157 : decode cX7_clashes 157 = .ok (.iload_n 1, 1) := by decide +kernel
theorem dX7_clashes_158 : decode cX7_clashes 158 = .ok (.iaload, 1) := by decide +kernel
theorem dX7_clashes_159 : decode cX7_clashes 159 = .ok (.invokestatic 141, 3) := by decide +kernel
theorem dX7_clashes_162 : decode cX7_clashes 162 = .ok (.ifCond .ne 17, 3) := by decide +kernel
theorem dX7_clashes_165 : decode cX7_clashes 165 = .ok (.aload_n 0, 1) := by decide +kernel
theorem dX7_clashes_166 : decode cX7_clashes 166 = .ok (.getfield 26, 3) := by decide +kernel
theorem dX7_clashes_169 : decode cX7_clashes 169 = .ok (.iload_n 1, 1) := by decide +kernel
theorem dX7_clashes_170 : decode cX7_clashes 170 = .ok (.iaload, 1) := by decide +kernel
theorem dX7_clashes_171 : decode cX7_clashes 171 = .ok (.iload 5, 2) := by decide +kernel
theorem dX7_clashes_173 : decode cX7_clashes 173 = .ok (.invokestatic 141, 3) := by decide +kernel
theorem dX7_clashes_176 : decode cX7_clashes 176 = .ok (.ifCond .eq 7, 3) := by decide +kernel
theorem dX7_clashes_179 : decode cX7_clashes 179 = .ok (.iconst 1, 1) := by decide +kernel
theorem dX7_clashes_180 : decode cX7_clashes 180 = .ok (.goto 4, 3) := by decide +kernel
theorem dX7_clashes_183 : decode cX7_clashes 183 = .ok (.iconst 0, 1) := by decide +kernel
theorem dX7_clashes_184 : decode cX7_clashes 184 = .ok (.ireturn, 1) := by decide +kernel
theorem dX7_workOut_0 : decode cX7_workOut 0 = .ok (.aload_n 0, 1) := by decide +kernel
theorem dX7_workOut_1 : decode cX7_workOut 1 = .ok (.getfield 35, 3) := by decide +kernel
theorem dX7_workOut_4 : decode cX7_workOut 4 = .ok (.ifCond .ne 4, 3) := by decide +kernel
theorem dX7_workOut_7 : decode cX7_workOut 7 = .ok (.return_, 1) := by decide +kernel
theorem dX7_workOut_8 : decode cX7_workOut 8 = .ok (.aload_n 0, 1) := by decide +kernel
theorem dX7_workOut_9 : decode cX7_workOut 9 = .ok (.iconst 0, 1) := by decide +kernel
theorem dX7_workOut_10 : decode cX7_workOut 10 = .ok (.putfield 35, 3) := by decide +kernel
theorem dX7_workOut_13 : decode cX7_workOut 13 = .ok (.aload_n 0, 1) := by decide +kernel
theorem dX7_workOut_14 : decode cX7_workOut 14 = .ok (.invokevirtual 144, 3) := by decide +kernel
theorem dX7_workOut_17 : decode cX7_workOut 17 = .ok (.iconst 0, 1) := by decide +kernel
theorem dX7_workOut_18 : decode cX7_workOut 18 = .ok (.istore_n 1, 1) := by decide +kernel
theorem dX7_workOut_19 : decode cX7_workOut 19 = .ok (.iload_n 1, 1) := by decide +kernel
theorem dX7_workOut_20 : decode cX7_workOut 20 = .ok (.aload_n 0, 1) := by decide +kernel
theorem dX7_workOut_21 : decode cX7_workOut 21 = .ok (.getfield 67, 3) := by decide +kernel
theorem dX7_workOut_24 : decode cX7_workOut 24 = .ok (.if_icmp .ge 63, 3) := by decide +kernel
theorem dX7_workOut_27 : decode cX7_workOut 27 = .ok (.iconst 0, 1) := by decide +kernel
theorem dX7_workOut_28 : decode cX7_workOut 28 = .ok (.istore_n 2, 1) := by decide +kernel
theorem dX7_workOut_29 : decode cX7_workOut 29 = .ok (.iload_n 2, 1) := by decide +kernel
theorem dX7_workOut_30 : decode cX7_workOut 30 = .ok (.aload_n 0, 1) := by decide +kernel
theorem dX7_workOut_31 : decode cX7_workOut 31 = .ok (.getfield 13, 3) := by decide +kernel
theorem dX7_workOut_34 : decode cX7_workOut 34 = .ok (.iload_n 1, 1) := by decide +kernel
theorem dX7_workOut_35 : decode cX7_workOut 35 = .ok (.iaload, 1) := by decide +kernel
theorem dX7_workOut_36 : decode cX7_workOut 36 = .ok (.if_icmp .ge 31, 3) := by decide +kernel
theorem dX7_workOut_39 : decode cX7_workOut 39 = .ok (.aload_n 0, 1) := by decide +kernel
theorem dX7_workOut_40 : decode cX7_workOut 40 = .ok (.iload_n 1, 1) := by decide +kernel
theorem dX7_workOut_41 : decode cX7_workOut 41 = .ok (.iload_n 2, 1) := by decide +kernel
theorem dX7_workOut_42 : decode cX7_workOut 42 = .ok (.iconst 0, 1) := by decide +kernel
theorem dX7_workOut_43 : decode cX7_workOut 43 = .ok (.aload_n 0, 1) := by decide +kernel
theorem dX7_workOut_44 : decode cX7_workOut 44 = .ok (.getfield 42, 3) := by decide +kernel
theorem dX7_workOut_47 : decode cX7_workOut 47 = .ok (.invokevirtual 147, 3) := by decide +kernel
theorem dX7_workOut_50 : decode cX7_workOut 50 = .ok (.aload_n 0, 1) := by decide +kernel
theorem dX7_workOut_51 : decode cX7_workOut 51 = .ok (.iload_n 1, 1) := by decide +kernel
theorem dX7_workOut_52 : decode cX7_workOut 52 = .ok (.iload_n 2, 1) := by decide +kernel
theorem dX7_workOut_53 : decode cX7_workOut 53 = .ok (.iconst 1, 1) := by decide +kernel
theorem dX7_workOut_54 : decode cX7_workOut 54 = .ok (.aload_n 0, 1) := by decide +kernel
theorem dX7_workOut_55 : decode cX7_workOut 55 = .ok (.getfield 45, 3) := by decide +kernel
theorem dX7_workOut_58 : decode cX7_workOut 58 = .ok (.invokevirtual 147, 3) := by decide +kernel
theorem dX7_workOut_61 : decode cX7_workOut 61 = .ok (.iinc 2 1, 3) := by decide +kernel
theorem dX7_workOut_64 : decode cX7_workOut 64 = .ok (.goto (-35), 3) := by decide +kernel
theorem dX7_workOut_67 : decode cX7_workOut 67 = .ok (.aload_n 0, 1) := by decide +kernel
theorem dX7_workOut_68 : decode cX7_workOut 68 = .ok (.getfield 7, 3) := by decide +kernel
theorem dX7_workOut_71 : decode cX7_workOut 71 = .ok (.iload_n 1, 1) := by decide +kernel
theorem dX7_workOut_72 : decode cX7_workOut 72 = .ok (.iaload, 1) := by decide +kernel
theorem dX7_workOut_73 : decode cX7_workOut 73 = .ok (.ifCond .eq 8, 3) := by decide +kernel
theorem dX7_workOut_76 : decode cX7_workOut 76 = .ok (.aload_n 0, 1) := by decide +kernel
theorem dX7_workOut_77 : decode cX7_workOut 77 = .ok (.iload_n 1, 1) := by decide +kernel
theorem dX7_workOut_78 : decode cX7_workOut 78 = .ok (.invokevirtual 151, 3) := by decide +kernel
theorem dX7_workOut_81 : decode cX7_workOut 81 = .ok (.iinc 1 1, 3) := by decide +kernel
theorem dX7_workOut_84 : decode cX7_workOut 84 = .ok (.goto (-65), 3) := by decide +kernel
theorem dX7_workOut_87 : decode cX7_workOut 87 = .ok (.iconst 0, 1) := by decide +kernel
theorem dX7_workOut_88 : decode cX7_workOut 88 = .ok (.istore_n 1, 1) := by decide +kernel
theorem dX7_workOut_89 : decode cX7_workOut 89 = .ok (.iconst 0, 1) := by decide +kernel
theorem dX7_workOut_90 : decode cX7_workOut 90 = .ok (.istore_n 2, 1) := by decide +kernel
theorem dX7_workOut_91 : decode cX7_workOut 91 = .ok (.iload_n 2, 1) := by decide +kernel
theorem dX7_workOut_92 : decode cX7_workOut 92 = .ok (.sipush 150, 3) := by decide +kernel
theorem dX7_workOut_95 : decode cX7_workOut 95 = .ok (.if_icmp .ge 42, 3) := by decide +kernel
theorem dX7_workOut_98 : decode cX7_workOut 98 = .ok (.aload_n 0, 1) := by decide +kernel
theorem dX7_workOut_99 : decode cX7_workOut 99 = .ok (.getfield 61, 3) := by decide +kernel
theorem dX7_workOut_102 : decode cX7_workOut 102 = .ok (.iload_n 2, 1) := by decide +kernel
theorem dX7_workOut_103 : decode cX7_workOut 103 = .ok (.iconst (-1), 1) := by decide +kernel
theorem dX7_workOut_104 : decode cX7_workOut 104 = .ok (.iastore, 1) := by decide +kernel
theorem dX7_workOut_105 : decode cX7_workOut 105 = .ok (.aload_n 0, 1) := by decide +kernel
theorem dX7_workOut_106 : decode cX7_workOut 106 = .ok (.iload_n 2, 1) := by decide +kernel
theorem dX7_workOut_107 : decode cX7_workOut 107 = .ok (.invokevirtual 155, 3) := by decide +kernel
theorem dX7_workOut_110 : decode cX7_workOut 110 = .ok (.ifCond .ne 6, 3) := by decide +kernel
theorem dX7_workOut_113 : decode cX7_workOut 113 = .ok (.goto 18, 3) := by decide +kernel
theorem dX7_workOut_116 : decode cX7_workOut 116 = .ok (.aload_n 0, 1) := by decide +kernel
theorem dX7_workOut_117 : decode cX7_workOut 117 = .ok (.getfield 61, 3) := by decide +kernel
theorem dX7_workOut_120 : decode cX7_workOut 120 = .ok (.iload_n 2, 1) := by decide +kernel
theorem dX7_workOut_121 : decode cX7_workOut 121 = .ok (.iload_n 1, 1) := by decide +kernel
theorem dX7_workOut_122 : decode cX7_workOut 122 = .ok (.iastore, 1) := by decide +kernel
theorem dX7_workOut_123 : decode cX7_workOut 123 = .ok (.iinc 1 1, 3) := by decide +kernel
theorem dX7_workOut_126 : decode cX7_workOut 126 = .ok (.aload_n 0, 1) := by decide +kernel
theorem dX7_workOut_127 : decode cX7_workOut 127 = .ok (.iload_n 2, 1) := by decide +kernel
theorem dX7_workOut_128 : decode cX7_workOut 128 = .ok (.invokevirtual 158, 3) := by decide +kernel
theorem dX7_workOut_131 : decode cX7_workOut 131 = .ok (.iinc 2 1, 3) := by decide +kernel
theorem dX7_workOut_134 : decode cX7_workOut 134 = .ok (.goto (-43), 3) := by decide +kernel
theorem dX7_workOut_137 : decode cX7_workOut 137 = .ok (.aload_n 0, 1) := by decide +kernel
theorem dX7_workOut_138 : decode cX7_workOut 138 = .ok (.iconst 0, 1) := by decide +kernel
theorem dX7_workOut_139 : decode cX7_workOut 139 = .ok (.putfield 161, 3) := by decide +kernel
theorem dX7_workOut_142 : decode cX7_workOut 142 = .ok (.aload_n 0, 1) := by decide +kernel
theorem dX7_workOut_143 : decode cX7_workOut 143 = .ok (.iconst (-1), 1) := by decide +kernel
theorem dX7_workOut_144 : decode cX7_workOut 144 = .ok (.putfield 164, 3) := by decide +kernel
theorem dX7_workOut_147 : decode cX7_workOut 147 = .ok (.aload_n 0, 1) := by decide +kernel
theorem dX7_workOut_148 : decode cX7_workOut 148 = .ok (.iconst (-1), 1) := by decide +kernel
theorem dX7_workOut_149 : decode cX7_workOut 149 = .ok (.putfield 167, 3) := by decide +kernel
theorem dX7_workOut_152 : decode cX7_workOut 152 = .ok (.aload_n 0, 1) := by decide +kernel
theorem dX7_workOut_153 : decode cX7_workOut 153 = .ok (.iconst 0, 1) := by decide +kernel
theorem dX7_workOut_154 : decode cX7_workOut 154 = .ok (.putfield 170, 3) := by decide +kernel
theorem dX7_workOut_157 : decode cX7_workOut 157 = .ok (.aload_n 0, 1) := by decide +kernel
theorem dX7_workOut_158 : decode cX7_workOut 158 = .ok (.iconst 0, 1) := by decide +kernel
theorem dX7_workOut_159 : decode cX7_workOut 159 = .ok (.putfield 173, 3) := by decide +kernel
theorem dX7_workOut_162 : decode cX7_workOut 162 = .ok (.sipush 149, 3) := by decide +kernel
theorem dX7_workOut_165 : decode cX7_workOut 165 = .ok (.istore_n 2, 1) := by decide +kernel
theorem dX7_workOut_166 : decode cX7_workOut 166 = .ok (.iload_n 2, 1) := by decide +kernel
theorem dX7_workOut_167 : decode cX7_workOut 167 = .ok (.ifCond .lt 23, 3) := by decide +kernel
theorem dX7_workOut_170 : decode cX7_workOut 170 = .ok (.aload_n 0, 1) := by decide +kernel
theorem dX7_workOut_171 : decode cX7_workOut 171 = .ok (.getfield 39, 3) := by decide +kernel
theorem dX7_workOut_174 : decode cX7_workOut 174 = .ok (.iload_n 2, 1) := by decide +kernel
theorem dX7_workOut_175 : decode cX7_workOut 175 = .ok (.baload, 1) := by decide +kernel
theorem dX7_workOut_176 : decode cX7_workOut 176 = .ok (.ifCond .eq 8, 3) := by decide +kernel
theorem dX7_workOut_179 : decode cX7_workOut 179 = .ok (.aload_n 0, 1) := by decide +kernel
theorem dX7_workOut_180 : decode cX7_workOut 180 = .ok (.iload_n 2, 1) := by decide +kernel
theorem dX7_workOut_181 : decode cX7_workOut 181 = .ok (.invokevirtual 176, 3) := by decide +kernel
theorem dX7_workOut_184 : decode cX7_workOut 184 = .ok (.iinc 2 (-1), 3) := by decide +kernel
theorem dX7_workOut_187 : decode cX7_workOut 187 = .ok (.goto (-21), 3) := by decide +kernel
theorem dX7_workOut_190 : decode cX7_workOut 190 = .ok (.aload_n 0, 1) := by decide +kernel
theorem dX7_workOut_191 : decode cX7_workOut 191 = .ok (.getfield 161, 3) := by decide +kernel
theorem dX7_workOut_194 : decode cX7_workOut 194 = .ok (.iconst 3, 1) := by decide +kernel
theorem dX7_workOut_195 : decode cX7_workOut 195 = .ok (.if_icmp .ne 15, 3) := by decide +kernel
theorem dX7_workOut_198 : decode cX7_workOut 198 = .ok (.aload_n 0, 1) := by decide +kernel
theorem dX7_workOut_199 : decode cX7_workOut 199 = .ok (.aload_n 0, 1) := by decide +kernel
theorem dX7_workOut_200 : decode cX7_workOut 200 = .ok (.aload_n 0, 1) := by decide +kernel
theorem dX7_workOut_201 : decode cX7_workOut 201 = .ok (.getfield 164, 3) := by decide +kernel
theorem dX7_workOut_204 : decode cX7_workOut 204 = .ok (.invokevirtual 179, 3) := by decide +kernel
theorem dX7_workOut_207 : decode cX7_workOut 207 = .ok (.putfield 167, 3) := by decide +kernel
theorem dX7_workOut_210 : decode cX7_workOut 210 = .ok (.return_, 1) := by decide +kernel
theorem dX7_lackedBy_0 : decode cX7_lackedBy 0 = .ok (.aload_n 0, 1) := by decide +kernel
theorem dX7_lackedBy_1 : decode cX7_lackedBy 1 = .ok (.getfield 20, 3) := by decide +kernel
theorem dX7_lackedBy_4 : decode cX7_lackedBy 4 = .ok (.iload_n 1, 1) := by decide +kernel
theorem dX7_lackedBy_5 : decode cX7_lackedBy 5 = .ok (.iaload, 1) := by decide +kernel
theorem dX7_lackedBy_6 : decode cX7_lackedBy 6 = .ok (.ifCond .ne 5, 3) := by decide +kernel
theorem dX7_lackedBy_9 : decode cX7_lackedBy 9 = .ok (.iconst (-1), 1) := by decide +kernel
theorem dX7_lackedBy_10 : decode cX7_lackedBy 10 = .ok (.ireturn, 1) := by decide +kernel
theorem dX7_lackedBy_11 : decode cX7_lackedBy 11 = .ok (.iconst 0, 1) := by decide +kernel
theorem dX7_lackedBy_12 : decode cX7_lackedBy 12 = .ok (.istore_n 2, 1) := by decide +kernel
theorem dX7_lackedBy_13 : decode cX7_lackedBy 13 = .ok (.iload_n 2, 1) := by decide +kernel
theorem dX7_lackedBy_14 : decode cX7_lackedBy 14 = .ok (.aload_n 0, 1) := by decide +kernel
theorem dX7_lackedBy_15 : decode cX7_lackedBy 15 = .ok (.getfield 13, 3) := by decide +kernel
theorem dX7_lackedBy_18 : decode cX7_lackedBy 18 = .ok (.aload_n 0, 1) := by decide +kernel
theorem dX7_lackedBy_19 : decode cX7_lackedBy 19 = .ok (.getfield 23, 3) := by decide +kernel
theorem dX7_lackedBy_22 : decode cX7_lackedBy 22 = .ok (.iload_n 1, 1) := by decide +kernel
theorem dX7_lackedBy_23 : decode cX7_lackedBy 23 = .ok (.iaload, 1) := by decide +kernel
theorem dX7_lackedBy_24 : decode cX7_lackedBy 24 = .ok (.iaload, 1) := by decide +kernel
theorem dX7_lackedBy_25 : decode cX7_lackedBy 25 = .ok (.if_icmp .ge 43, 3) := by decide +kernel
theorem dX7_lackedBy_28 : decode cX7_lackedBy 28 = .ok (.aload_n 0, 1) := by decide +kernel
theorem dX7_lackedBy_29 : decode cX7_lackedBy 29 = .ok (.iload_n 1, 1) := by decide +kernel
theorem dX7_lackedBy_30 : decode cX7_lackedBy 30 = .ok (.iload_n 2, 1) := by decide +kernel
theorem dX7_lackedBy_31 : decode cX7_lackedBy 31 = .ok (.invokevirtual 182, 3) := by decide +kernel
theorem dX7_lackedBy_34 : decode cX7_lackedBy 34 = .ok (.ifCond .eq 28, 3) := by decide +kernel
theorem dX7_lackedBy_37 : decode cX7_lackedBy 37 = .ok (.aload_n 0, 1) := by decide +kernel
theorem dX7_lackedBy_38 : decode cX7_lackedBy 38 = .ok (.getfield 42, 3) := by decide +kernel
theorem dX7_lackedBy_41 : decode cX7_lackedBy 41 = .ok (.bipush 64, 2) := by decide +kernel
theorem dX7_lackedBy_43 : decode cX7_lackedBy 43 = .ok (.iload_n 1, 1) := by decide +kernel
theorem dX7_lackedBy_44 : decode cX7_lackedBy 44 = .ok (.imul, 1) := by decide +kernel
theorem dX7_lackedBy_45 : decode cX7_lackedBy 45 = .ok (.iconst 4, 1) := by decide +kernel
theorem dX7_lackedBy_46 : decode cX7_lackedBy 46 = .ok (.aload_n 0, 1) := by decide +kernel
theorem dX7_lackedBy_47 : decode cX7_lackedBy 47 = .ok (.getfield 23, 3) := by decide +kernel
theorem dX7_lackedBy_50 : decode cX7_lackedBy 50 = .ok (.iload_n 1, 1) := by decide +kernel
theorem dX7_lackedBy_51 : decode cX7_lackedBy 51 = .ok (.iaload, 1) := by decide +kernel
theorem dX7_lackedBy_52 : decode cX7_lackedBy 52 = .ok (.imul, 1) := by decide +kernel
theorem dX7_lackedBy_53 : decode cX7_lackedBy 53 = .ok (.iadd, 1) := by decide +kernel
theorem dX7_lackedBy_54 : decode cX7_lackedBy 54 = .ok (.iload_n 2, 1) := by decide +kernel
theorem dX7_lackedBy_55 : decode cX7_lackedBy 55 = .ok (.iadd, 1) := by decide +kernel
theorem dX7_lackedBy_56 : decode cX7_lackedBy 56 = .ok (.baload, 1) := by decide +kernel
theorem dX7_lackedBy_57 : decode cX7_lackedBy 57 = .ok (.ifCond .eq 5, 3) := by decide +kernel
theorem dX7_lackedBy_60 : decode cX7_lackedBy 60 = .ok (.iload_n 2, 1) := by decide +kernel
theorem dX7_lackedBy_61 : decode cX7_lackedBy 61 = .ok (.ireturn, 1) := by decide +kernel
theorem dX7_lackedBy_62 : decode cX7_lackedBy 62 = .ok (.iinc 2 1, 3) := by decide +kernel
theorem dX7_lackedBy_65 : decode cX7_lackedBy 65 = .ok (.goto (-52), 3) := by decide +kernel
theorem dX7_lackedBy_68 : decode cX7_lackedBy 68 = .ok (.iconst (-1), 1) := by decide +kernel
theorem dX7_lackedBy_69 : decode cX7_lackedBy 69 = .ok (.ireturn, 1) := by decide +kernel
theorem dX7_look_0 : decode cX7_look 0 = .ok (.iconst (-1), 1) := by decide +kernel
theorem dX7_look_1 : decode cX7_look 1 = .ok (.istore_n 2, 1) := by decide +kernel
theorem dX7_look_2 : decode cX7_look 2 = .ok (.sipush 149, 3) := by decide +kernel
theorem dX7_look_5 : decode cX7_look 5 = .ok (.istore_n 3, 1) := by decide +kernel
theorem dX7_look_6 : decode cX7_look 6 = .ok (.iload_n 3, 1) := by decide +kernel
theorem dX7_look_7 : decode cX7_look 7 = .ok (.ifCond .lt 66, 3) := by decide +kernel
theorem dX7_look_10 : decode cX7_look 10 = .ok (.aload_n 0, 1) := by decide +kernel
theorem dX7_look_11 : decode cX7_look 11 = .ok (.getfield 61, 3) := by decide +kernel
theorem dX7_look_14 : decode cX7_look 14 = .ok (.iload_n 3, 1) := by decide +kernel
theorem dX7_look_15 : decode cX7_look 15 = .ok (.iaload, 1) := by decide +kernel
theorem dX7_look_16 : decode cX7_look 16 = .ok (.iconst (-1), 1) := by decide +kernel
theorem dX7_look_17 : decode cX7_look 17 = .ok (.if_icmp .ne 6, 3) := by decide +kernel
theorem dX7_look_20 : decode cX7_look 20 = .ok (.goto 47, 3) := by decide +kernel
theorem dX7_look_23 : decode cX7_look 23 = .ok (.aload_n 0, 1) := by decide +kernel
theorem dX7_look_24 : decode cX7_look 24 = .ok (.getfield 55, 3) := by decide +kernel
theorem dX7_look_27 : decode cX7_look 27 = .ok (.sipush 150, 3) := by decide +kernel
theorem dX7_look_30 : decode cX7_look 30 = .ok (.iload_n 3, 1) := by decide +kernel
theorem dX7_look_31 : decode cX7_look 31 = .ok (.imul, 1) := by decide +kernel
theorem dX7_look_32 : decode cX7_look 32 = .ok (.iload_n 1, 1) := by decide +kernel
theorem dX7_look_33 : decode cX7_look 33 = .ok (.iadd, 1) := by decide +kernel
theorem dX7_look_34 : decode cX7_look 34 = .ok (.aload_n 0, 1) := by decide +kernel
theorem dX7_look_35 : decode cX7_look 35 = .ok (.iload_n 3, 1) := by decide +kernel
theorem dX7_look_36 : decode cX7_look 36 = .ok (.iload_n 1, 1) := by decide +kernel
theorem dX7_look_37 : decode cX7_look 37 = .ok (.invokevirtual 185, 3) := by decide +kernel
theorem dX7_look_40 : decode cX7_look 40 = .ok (.bastore, 1) := by decide +kernel
theorem dX7_look_41 : decode cX7_look 41 = .ok (.aload_n 0, 1) := by decide +kernel
theorem dX7_look_42 : decode cX7_look 42 = .ok (.getfield 55, 3) := by decide +kernel
theorem dX7_look_45 : decode cX7_look 45 = .ok (.sipush 150, 3) := by decide +kernel
theorem dX7_look_48 : decode cX7_look 48 = .ok (.iload_n 3, 1) := by decide +kernel
theorem dX7_look_49 : decode cX7_look 49 = .ok (.imul, 1) := by decide +kernel
theorem dX7_look_50 : decode cX7_look 50 = .ok (.iload_n 1, 1) := by decide +kernel
theorem dX7_look_51 : decode cX7_look 51 = .ok (.iadd, 1) := by decide +kernel
theorem dX7_look_52 : decode cX7_look 52 = .ok (.baload, 1) := by decide +kernel
theorem dX7_look_53 : decode cX7_look 53 = .ok (.ifCond .eq 14, 3) := by decide +kernel
theorem dX7_look_56 : decode cX7_look 56 = .ok (.aload_n 0, 1) := by decide +kernel
theorem dX7_look_57 : decode cX7_look 57 = .ok (.iload_n 3, 1) := by decide +kernel
theorem dX7_look_58 : decode cX7_look 58 = .ok (.iload_n 1, 1) := by decide +kernel
theorem dX7_look_59 : decode cX7_look 59 = .ok (.invokevirtual 188, 3) := by decide +kernel
theorem dX7_look_62 : decode cX7_look 62 = .ok (.ifCond .eq 5, 3) := by decide +kernel
theorem dX7_look_65 : decode cX7_look 65 = .ok (.iload_n 3, 1) := by decide +kernel
theorem dX7_look_66 : decode cX7_look 66 = .ok (.istore_n 2, 1) := by decide +kernel
theorem dX7_look_67 : decode cX7_look 67 = .ok (.iinc 3 (-1), 3) := by decide +kernel
theorem dX7_look_70 : decode cX7_look 70 = .ok (.goto (-64), 3) := by decide +kernel
theorem dX7_look_73 : decode cX7_look 73 = .ok (.aload_n 0, 1) := by decide +kernel
theorem dX7_look_74 : decode cX7_look 74 = .ok (.dup, 1) := by decide +kernel
theorem dX7_look_75 : decode cX7_look 75 = .ok (.getfield 173, 3) := by decide +kernel
theorem dX7_look_78 : decode cX7_look 78 = .ok (.iload_n 2, 1) := by decide +kernel
theorem dX7_look_79 : decode cX7_look 79 = .ok (.iconst (-1), 1) := by decide +kernel
theorem dX7_look_80 : decode cX7_look 80 = .ok (.if_icmp .eq 7, 3) := by decide +kernel
theorem dX7_look_83 : decode cX7_look 83 = .ok (.iconst 1, 1) := by decide +kernel
theorem dX7_look_84 : decode cX7_look 84 = .ok (.goto 4, 3) := by decide +kernel
theorem dX7_look_87 : decode cX7_look 87 = .ok (.iconst 0, 1) := by decide +kernel
theorem dX7_look_88 : decode cX7_look 88 = .ok (.iadd, 1) := by decide +kernel
theorem dX7_look_89 : decode cX7_look 89 = .ok (.putfield 173, 3) := by decide +kernel
theorem dX7_look_92 : decode cX7_look 92 = .ok (.iload_n 2, 1) := by decide +kernel
theorem dX7_look_93 : decode cX7_look 93 = .ok (.iconst (-1), 1) := by decide +kernel
theorem dX7_look_94 : decode cX7_look 94 = .ok (.if_icmp .eq 26, 3) := by decide +kernel
theorem dX7_look_97 : decode cX7_look 97 = .ok (.aload_n 0, 1) := by decide +kernel
theorem dX7_look_98 : decode cX7_look 98 = .ok (.getfield 161, 3) := by decide +kernel
theorem dX7_look_101 : decode cX7_look 101 = .ok (.iconst 3, 1) := by decide +kernel
theorem dX7_look_102 : decode cX7_look 102 = .ok (.if_icmp .eq 18, 3) := by decide +kernel
theorem dX7_look_105 : decode cX7_look 105 = .ok (.aload_n 0, 1) := by decide +kernel
theorem dX7_look_106 : decode cX7_look 106 = .ok (.iconst 4, 1) := by decide +kernel
theorem dX7_look_107 : decode cX7_look 107 = .ok (.putfield 161, 3) := by decide +kernel
theorem dX7_look_110 : decode cX7_look 110 = .ok (.aload_n 0, 1) := by decide +kernel
theorem dX7_look_111 : decode cX7_look 111 = .ok (.iload_n 1, 1) := by decide +kernel
theorem dX7_look_112 : decode cX7_look 112 = .ok (.putfield 164, 3) := by decide +kernel
theorem dX7_look_115 : decode cX7_look 115 = .ok (.aload_n 0, 1) := by decide +kernel
theorem dX7_look_116 : decode cX7_look 116 = .ok (.iload_n 2, 1) := by decide +kernel
theorem dX7_look_117 : decode cX7_look 117 = .ok (.putfield 167, 3) := by decide +kernel
theorem dX7_look_120 : decode cX7_look 120 = .ok (.aload_n 0, 1) := by decide +kernel
theorem dX7_look_121 : decode cX7_look 121 = .ok (.iload_n 1, 1) := by decide +kernel
theorem dX7_look_122 : decode cX7_look 122 = .ok (.invokevirtual 191, 3) := by decide +kernel
theorem dX7_look_125 : decode cX7_look 125 = .ok (.iconst (-1), 1) := by decide +kernel
theorem dX7_look_126 : decode cX7_look 126 = .ok (.if_icmp .ne 4, 3) := by decide +kernel
theorem dX7_look_129 : decode cX7_look 129 = .ok (.return_, 1) := by decide +kernel
theorem dX7_look_130 : decode cX7_look 130 = .ok (.aload_n 0, 1) := by decide +kernel
theorem dX7_look_131 : decode cX7_look 131 = .ok (.dup, 1) := by decide +kernel
theorem dX7_look_132 : decode cX7_look 132 = .ok (.getfield 170, 3) := by decide +kernel
theorem dX7_look_135 : decode cX7_look 135 = .ok (.iconst 1, 1) := by decide +kernel
theorem dX7_look_136 : decode cX7_look 136 = .ok (.iadd, 1) := by decide +kernel
theorem dX7_look_137 : decode cX7_look 137 = .ok (.putfield 170, 3) := by decide +kernel
theorem dX7_look_140 : decode cX7_look 140 = .ok (.aload_n 0, 1) := by decide +kernel
theorem dX7_look_141 : decode cX7_look 141 = .ok (.iconst 3, 1) := by decide +kernel
theorem dX7_look_142 : decode cX7_look 142 = .ok (.putfield 161, 3) := by decide +kernel
theorem dX7_look_145 : decode cX7_look 145 = .ok (.aload_n 0, 1) := by decide +kernel
theorem dX7_look_146 : decode cX7_look 146 = .ok (.iload_n 1, 1) := by decide +kernel
theorem dX7_look_147 : decode cX7_look 147 = .ok (.putfield 164, 3) := by decide +kernel
theorem dX7_look_150 : decode cX7_look 150 = .ok (.return_, 1) := by decide +kernel
theorem dX7_taker_0 : decode cX7_taker 0 = .ok (.aload_n 0, 1) := by decide +kernel
theorem dX7_taker_1 : decode cX7_taker 1 = .ok (.getfield 23, 3) := by decide +kernel
theorem dX7_taker_4 : decode cX7_taker 4 = .ok (.iload_n 1, 1) := by decide +kernel
theorem dX7_taker_5 : decode cX7_taker 5 = .ok (.iaload, 1) := by decide +kernel
theorem dX7_taker_6 : decode cX7_taker 6 = .ok (.istore_n 2, 1) := by decide +kernel
theorem dX7_taker_7 : decode cX7_taker 7 = .ok (.aload_n 0, 1) := by decide +kernel
theorem dX7_taker_8 : decode cX7_taker 8 = .ok (.iload_n 1, 1) := by decide +kernel
theorem dX7_taker_9 : decode cX7_taker 9 = .ok (.invokevirtual 191, 3) := by decide +kernel
theorem dX7_taker_12 : decode cX7_taker 12 = .ok (.istore_n 3, 1) := by decide +kernel
theorem dX7_taker_13 : decode cX7_taker 13 = .ok (.iconst 0, 1) := by decide +kernel
theorem dX7_taker_14 : decode cX7_taker 14 = .ok (.istore 4, 2) := by decide +kernel
theorem dX7_taker_16 : decode cX7_taker 16 = .ok (.iload 4, 2) := by decide +kernel
theorem dX7_taker_18 : decode cX7_taker 18 = .ok (.sipush 150, 3) := by decide +kernel
theorem dX7_taker_21 : decode cX7_taker 21 = .ok (.if_icmp .ge 243, 3) := by decide +kernel
theorem dX7_taker_24 : decode cX7_taker 24 = .ok (.aload_n 0, 1) := by decide +kernel
theorem dX7_taker_25 : decode cX7_taker 25 = .ok (.getfield 39, 3) := by decide +kernel
theorem dX7_taker_28 : decode cX7_taker 28 = .ok (.iload 4, 2) := by decide +kernel
theorem dX7_taker_30 : decode cX7_taker 30 = .ok (.baload, 1) := by decide +kernel
theorem dX7_taker_31 : decode cX7_taker 31 = .ok (.ifCond .eq 227, 3) := by decide +kernel
theorem dX7_taker_34 : decode cX7_taker 34 = .ok (.aload_n 0, 1) := by decide +kernel
theorem dX7_taker_35 : decode cX7_taker 35 = .ok (.iload 4, 2) := by decide +kernel
theorem dX7_taker_37 : decode cX7_taker 37 = .ok (.iload_n 2, 1) := by decide +kernel
theorem dX7_taker_38 : decode cX7_taker 38 = .ok (.iload_n 3, 1) := by decide +kernel
theorem dX7_taker_39 : decode cX7_taker 39 = .ok (.invokevirtual 114, 3) := by decide +kernel
theorem dX7_taker_42 : decode cX7_taker 42 = .ok (.ifCond .ne 6, 3) := by decide +kernel
theorem dX7_taker_45 : decode cX7_taker 45 = .ok (.goto 213, 3) := by decide +kernel
theorem dX7_taker_48 : decode cX7_taker 48 = .ok (.iconst 0, 1) := by decide +kernel
theorem dX7_taker_49 : decode cX7_taker 49 = .ok (.istore 5, 2) := by decide +kernel
theorem dX7_taker_51 : decode cX7_taker 51 = .ok (.iload 5, 2) := by decide +kernel
theorem dX7_taker_53 : decode cX7_taker 53 = .ok (.sipush 150, 3) := by decide +kernel
theorem dX7_taker_56 : decode cX7_taker 56 = .ok (.if_icmp .ge 17, 3) := by decide +kernel
theorem dX7_taker_59 : decode cX7_taker 59 = .ok (.aload_n 0, 1) := by decide +kernel
theorem dX7_taker_60 : decode cX7_taker 60 = .ok (.getfield 64, 3) := by decide +kernel
theorem dX7_taker_63 : decode cX7_taker 63 = .ok (.iload 5, 2) := by decide +kernel
theorem dX7_taker_65 : decode cX7_taker 65 = .ok (.iconst 0, 1) := by decide +kernel
theorem dX7_taker_66 : decode cX7_taker 66 = .ok (.bastore, 1) := by decide +kernel
theorem dX7_taker_67 : decode cX7_taker 67 = .ok (.iinc 5 1, 3) := by decide +kernel
theorem dX7_taker_70 : decode cX7_taker 70 = .ok (.goto (-19), 3) := by decide +kernel
theorem dX7_taker_73 : decode cX7_taker 73 = .ok (.aload_n 0, 1) := by decide +kernel
theorem dX7_taker_74 : decode cX7_taker 74 = .ok (.iconst 0, 1) := by decide +kernel
theorem dX7_taker_75 : decode cX7_taker 75 = .ok (.putfield 105, 3) := by decide +kernel
theorem dX7_taker_78 : decode cX7_taker 78 = .ok (.iconst 0, 1) := by decide +kernel
theorem dX7_taker_79 : decode cX7_taker 79 = .ok (.istore 5, 2) := by decide +kernel
theorem dX7_taker_81 : decode cX7_taker 81 = .ok (.iload 5, 2) := by decide +kernel
theorem dX7_taker_83 : decode cX7_taker 83 = .ok (.iconst 4, 1) := by decide +kernel
theorem dX7_taker_84 : decode cX7_taker 84 = .ok (.if_icmp .ge 57, 3) := by decide +kernel
theorem dX7_taker_87 : decode cX7_taker 87 = .ok (.aload_n 0, 1) := by decide +kernel
theorem dX7_taker_88 : decode cX7_taker 88 = .ok (.getfield 32, 3) := by decide +kernel
theorem dX7_taker_91 : decode cX7_taker 91 = .ok (.iconst 4, 1) := by decide +kernel
theorem dX7_taker_92 : decode cX7_taker 92 = .ok (.iload 4, 2) := by decide +kernel
theorem dX7_taker_94 : decode cX7_taker 94 = .ok (.imul, 1) := by decide +kernel
theorem dX7_taker_95 : decode cX7_taker 95 = .ok (.iload 5, 2) := by decide +kernel
theorem dX7_taker_97 : decode cX7_taker 97 = .ok (.iadd, 1) := by decide +kernel
theorem dX7_taker_98 : decode cX7_taker 98 = .ok (.iaload, 1) := by decide +kernel
theorem dX7_taker_99 : decode cX7_taker 99 = .ok (.iconst (-1), 1) := by decide +kernel
theorem dX7_taker_100 : decode cX7_taker 100 = .ok (.if_icmp .eq 35, 3) := by decide +kernel
theorem dX7_taker_103 : decode cX7_taker 103 = .ok (.aload_n 0, 1) := by decide +kernel
theorem dX7_taker_104 : decode cX7_taker 104 = .ok (.aload_n 0, 1) := by decide +kernel
theorem dX7_taker_105 : decode cX7_taker 105 = .ok (.getfield 64, 3) := by decide +kernel
theorem dX7_taker_108 : decode cX7_taker 108 = .ok (.aload_n 0, 1) := by decide +kernel
theorem dX7_taker_109 : decode cX7_taker 109 = .ok (.getfield 32, 3) := by decide +kernel
theorem dX7_taker_112 : decode cX7_taker 112 = .ok (.iconst 4, 1) := by decide +kernel
theorem dX7_taker_113 : decode cX7_taker 113 = .ok (.iload 4, 2) := by decide +kernel
theorem dX7_taker_115 : decode cX7_taker 115 = .ok (.imul, 1) := by decide +kernel
theorem dX7_taker_116 : decode cX7_taker 116 = .ok (.iload 5, 2) := by decide +kernel
theorem dX7_taker_118 : decode cX7_taker 118 = .ok (.iadd, 1) := by decide +kernel
theorem dX7_taker_119 : decode cX7_taker 119 = .ok (.iaload, 1) := by decide +kernel
theorem dX7_taker_120 : decode cX7_taker 120 = .ok (.aload_n 0, 1) := by decide +kernel
theorem dX7_taker_121 : decode cX7_taker 121 = .ok (.getfield 32, 3) := by decide +kernel
theorem dX7_taker_124 : decode cX7_taker 124 = .ok (.iconst 4, 1) := by decide +kernel
theorem dX7_taker_125 : decode cX7_taker 125 = .ok (.iload 4, 2) := by decide +kernel
theorem dX7_taker_127 : decode cX7_taker 127 = .ok (.imul, 1) := by decide +kernel
theorem dX7_taker_128 : decode cX7_taker 128 = .ok (.iload 5, 2) := by decide +kernel
theorem dX7_taker_130 : decode cX7_taker 130 = .ok (.iadd, 1) := by decide +kernel
theorem dX7_taker_131 : decode cX7_taker 131 = .ok (.iaload, 1) := by decide +kernel
theorem dX7_taker_132 : decode cX7_taker 132 = .ok (.invokevirtual 108, 3) := by decide +kernel
theorem dX7_taker_135 : decode cX7_taker 135 = .ok (.iinc 5 1, 3) := by decide +kernel
theorem dX7_taker_138 : decode cX7_taker 138 = .ok (.goto (-57), 3) := by decide +kernel
theorem dX7_taker_141 : decode cX7_taker 141 = .ok (.aload_n 0, 1) := by decide +kernel
theorem dX7_taker_142 : decode cX7_taker 142 = .ok (.getfield 105, 3) := by decide +kernel
theorem dX7_taker_145 : decode cX7_taker 145 = .ok (.ifCond .le 113, 3) := by decide +kernel
theorem dX7_taker_148 : decode cX7_taker 148 = .ok (.aload_n 0, 1) := by decide +kernel
theorem dX7_taker_149 : decode cX7_taker 149 = .ok (.dup, 1) := by decide +kernel
theorem dX7_taker_150 : decode cX7_taker 150 = .ok (.getfield 105, 3) := by decide +kernel
theorem dX7_taker_153 : decode cX7_taker 153 = .ok (.iconst 1, 1) := by decide +kernel
theorem dX7_taker_154 : decode cX7_taker 154 = .ok (.isub, 1) := by decide +kernel
theorem dX7_taker_155 : decode cX7_taker 155 = .ok (.putfield 105, 3) := by decide +kernel
theorem dX7_taker_158 : decode cX7_taker 158 = .ok (.aload_n 0, 1) := by decide +kernel
theorem dX7_taker_159 : decode cX7_taker 159 = .ok (.getfield 58, 3) := by decide +kernel
theorem dX7_taker_162 : decode cX7_taker 162 = .ok (.aload_n 0, 1) := by decide +kernel
theorem dX7_taker_163 : decode cX7_taker 163 = .ok (.getfield 105, 3) := by decide +kernel
theorem dX7_taker_166 : decode cX7_taker 166 = .ok (.iaload, 1) := by decide +kernel
theorem dX7_taker_167 : decode cX7_taker 167 = .ok (.istore 5, 2) := by decide +kernel
theorem dX7_taker_169 : decode cX7_taker 169 = .ok (.iload 5, 2) := by decide +kernel
theorem dX7_taker_171 : decode cX7_taker 171 = .ok (.iload_n 1, 1) := by decide +kernel
theorem dX7_taker_172 : decode cX7_taker 172 = .ok (.if_icmp .ne 6, 3) := by decide +kernel
theorem dX7_taker_175 : decode cX7_taker 175 = .ok (.iload 4, 2) := by decide +kernel
theorem dX7_taker_177 : decode cX7_taker 177 = .ok (.ireturn, 1) := by decide +kernel
theorem dX7_taker_178 : decode cX7_taker 178 = .ok (.aload_n 0, 1) := by decide +kernel
theorem dX7_taker_179 : decode cX7_taker 179 = .ok (.iload 5, 2) := by decide +kernel
theorem dX7_taker_181 : decode cX7_taker 181 = .ok (.iload_n 2, 1) := by decide +kernel
theorem dX7_taker_182 : decode cX7_taker 182 = .ok (.iload_n 3, 1) := by decide +kernel
theorem dX7_taker_183 : decode cX7_taker 183 = .ok (.invokevirtual 111, 3) := by decide +kernel
theorem dX7_taker_186 : decode cX7_taker 186 = .ok (.ifCond .eq 6, 3) := by decide +kernel
theorem dX7_taker_189 : decode cX7_taker 189 = .ok (.goto (-48), 3) := by decide +kernel
theorem dX7_taker_192 : decode cX7_taker 192 = .ok (.iconst 0, 1) := by decide +kernel
theorem dX7_taker_193 : decode cX7_taker 193 = .ok (.istore 6, 2) := by decide +kernel
theorem dX7_taker_195 : decode cX7_taker 195 = .ok (.iload 6, 2) := by decide +kernel
theorem dX7_taker_197 : decode cX7_taker 197 = .ok (.iconst 4, 1) := by decide +kernel
theorem dX7_taker_198 : decode cX7_taker 198 = .ok (.if_icmp .ge 57, 3) := by decide +kernel
theorem dX7_taker_201 : decode cX7_taker 201 = .ok (.aload_n 0, 1) := by decide +kernel
theorem dX7_taker_202 : decode cX7_taker 202 = .ok (.getfield 32, 3) := by decide +kernel
theorem dX7_taker_205 : decode cX7_taker 205 = .ok (.iconst 4, 1) := by decide +kernel
theorem dX7_taker_206 : decode cX7_taker 206 = .ok (.iload 5, 2) := by decide +kernel
theorem dX7_taker_208 : decode cX7_taker 208 = .ok (.imul, 1) := by decide +kernel
theorem dX7_taker_209 : decode cX7_taker 209 = .ok (.iload 6, 2) := by decide +kernel
theorem dX7_taker_211 : decode cX7_taker 211 = .ok (.iadd, 1) := by decide +kernel
theorem dX7_taker_212 : decode cX7_taker 212 = .ok (.iaload, 1) := by decide +kernel
theorem dX7_taker_213 : decode cX7_taker 213 = .ok (.iconst (-1), 1) := by decide +kernel
theorem dX7_taker_214 : decode cX7_taker 214 = .ok (.if_icmp .eq 35, 3) := by decide +kernel
theorem dX7_taker_217 : decode cX7_taker 217 = .ok (.aload_n 0, 1) := by decide +kernel
theorem dX7_taker_218 : decode cX7_taker 218 = .ok (.aload_n 0, 1) := by decide +kernel
theorem dX7_taker_219 : decode cX7_taker 219 = .ok (.getfield 64, 3) := by decide +kernel
theorem dX7_taker_222 : decode cX7_taker 222 = .ok (.aload_n 0, 1) := by decide +kernel
theorem dX7_taker_223 : decode cX7_taker 223 = .ok (.getfield 32, 3) := by decide +kernel
theorem dX7_taker_226 : decode cX7_taker 226 = .ok (.iconst 4, 1) := by decide +kernel
theorem dX7_taker_227 : decode cX7_taker 227 = .ok (.iload 5, 2) := by decide +kernel
theorem dX7_taker_229 : decode cX7_taker 229 = .ok (.imul, 1) := by decide +kernel
theorem dX7_taker_230 : decode cX7_taker 230 = .ok (.iload 6, 2) := by decide +kernel
theorem dX7_taker_232 : decode cX7_taker 232 = .ok (.iadd, 1) := by decide +kernel
theorem dX7_taker_233 : decode cX7_taker 233 = .ok (.iaload, 1) := by decide +kernel
theorem dX7_taker_234 : decode cX7_taker 234 = .ok (.aload_n 0, 1) := by decide +kernel
theorem dX7_taker_235 : decode cX7_taker 235 = .ok (.getfield 32, 3) := by decide +kernel
theorem dX7_taker_238 : decode cX7_taker 238 = .ok (.iconst 4, 1) := by decide +kernel
theorem dX7_taker_239 : decode cX7_taker 239 = .ok (.iload 5, 2) := by decide +kernel
theorem dX7_taker_241 : decode cX7_taker 241 = .ok (.imul, 1) := by decide +kernel
theorem dX7_taker_242 : decode cX7_taker 242 = .ok (.iload 6, 2) := by decide +kernel
theorem dX7_taker_244 : decode cX7_taker 244 = .ok (.iadd, 1) := by decide +kernel
theorem dX7_taker_245 : decode cX7_taker 245 = .ok (.iaload, 1) := by decide +kernel
theorem dX7_taker_246 : decode cX7_taker 246 = .ok (.invokevirtual 108, 3) := by decide +kernel
theorem dX7_taker_249 : decode cX7_taker 249 = .ok (.iinc 6 1, 3) := by decide +kernel
theorem dX7_taker_252 : decode cX7_taker 252 = .ok (.goto (-57), 3) := by decide +kernel
theorem dX7_taker_255 : decode cX7_taker 255 = .ok (.goto (-114), 3) := by decide +kernel
theorem dX7_taker_258 : decode cX7_taker 258 = .ok (.iinc 4 1, 3) := by decide +kernel
theorem dX7_taker_261 : decode cX7_taker 261 = .ok (.goto (-245), 3) := by decide +kernel
theorem dX7_taker_264 : decode cX7_taker 264 = .ok (.iconst (-1), 1) := by decide +kernel
theorem dX7_taker_265 : decode cX7_taker 265 = .ok (.ireturn, 1) := by decide +kernel
theorem dX7_judge_0 : decode cX7_judge 0 = .ok (.aload_n 0, 1) := by decide +kernel
theorem dX7_judge_1 : decode cX7_judge 1 = .ok (.invokevirtual 194, 3) := by decide +kernel
theorem dX7_judge_4 : decode cX7_judge 4 = .ok (.aload_n 0, 1) := by decide +kernel
theorem dX7_judge_5 : decode cX7_judge 5 = .ok (.getfield 161, 3) := by decide +kernel
theorem dX7_judge_8 : decode cX7_judge 8 = .ok (.ireturn, 1) := by decide +kernel
theorem dX7_fault_0 : decode cX7_fault 0 = .ok (.aload_n 0, 1) := by decide +kernel
theorem dX7_fault_1 : decode cX7_fault 1 = .ok (.invokevirtual 194, 3) := by decide +kernel
theorem dX7_fault_4 : decode cX7_fault 4 = .ok (.aload_n 0, 1) := by decide +kernel
theorem dX7_fault_5 : decode cX7_fault 5 = .ok (.getfield 161, 3) := by decide +kernel
theorem dX7_fault_8 : decode cX7_fault 8 = .ok (.ifCond .ne 7, 3) := by decide +kernel
theorem dX7_fault_11 : decode cX7_fault 11 = .ok (.iconst (-1), 1) := by decide +kernel
theorem dX7_fault_12 : decode cX7_fault 12 = .ok (.goto 28, 3) := by decide +kernel
theorem dX7_fault_15 : decode cX7_fault 15 = .ok (.iload_n 1, 1) := by decide +kernel
theorem dX7_fault_16 : decode cX7_fault 16 = .ok (.iconst 1, 1) := by decide +kernel
theorem dX7_fault_17 : decode cX7_fault 17 = .ok (.if_icmp .ne 10, 3) := by decide +kernel
theorem dX7_fault_20 : decode cX7_fault 20 = .ok (.aload_n 0, 1) := by decide +kernel
theorem dX7_fault_21 : decode cX7_fault 21 = .ok (.getfield 164, 3) := by decide +kernel
theorem dX7_fault_24 : decode cX7_fault 24 = .ok (.goto 16, 3) := by decide +kernel
theorem dX7_fault_27 : decode cX7_fault 27 = .ok (.iload_n 1, 1) := by decide +kernel
theorem dX7_fault_28 : decode cX7_fault 28 = .ok (.iconst 2, 1) := by decide +kernel
theorem dX7_fault_29 : decode cX7_fault 29 = .ok (.if_icmp .ne 10, 3) := by decide +kernel
theorem dX7_fault_32 : decode cX7_fault 32 = .ok (.aload_n 0, 1) := by decide +kernel
theorem dX7_fault_33 : decode cX7_fault 33 = .ok (.getfield 167, 3) := by decide +kernel
theorem dX7_fault_36 : decode cX7_fault 36 = .ok (.goto 4, 3) := by decide +kernel
theorem dX7_fault_39 : decode cX7_fault 39 = .ok (.iconst (-1), 1) := by decide +kernel
theorem dX7_fault_40 : decode cX7_fault 40 = .ok (.ireturn, 1) := by decide +kernel
theorem dX7_comes_0 : decode cX7_comes 0 = .ok (.iload_n 1, 1) := by decide +kernel
theorem dX7_comes_1 : decode cX7_comes 1 = .ok (.invokestatic 82, 3) := by decide +kernel
theorem dX7_comes_4 : decode cX7_comes 4 = .ok (.ifCond .ne 5, 3) := by decide +kernel
theorem dX7_comes_7 : decode cX7_comes 7 = .ok (.iconst (-1), 1) := by decide +kernel
theorem dX7_comes_8 : decode cX7_comes 8 = .ok (.ireturn, 1) := by decide +kernel
theorem dX7_comes_9 : decode cX7_comes 9 = .ok (.aload_n 0, 1) := by decide +kernel
theorem dX7_comes_10 : decode cX7_comes 10 = .ok (.invokevirtual 194, 3) := by decide +kernel
theorem dX7_comes_13 : decode cX7_comes 13 = .ok (.aload_n 0, 1) := by decide +kernel
theorem dX7_comes_14 : decode cX7_comes 14 = .ok (.getfield 39, 3) := by decide +kernel
theorem dX7_comes_17 : decode cX7_comes 17 = .ok (.iload_n 1, 1) := by decide +kernel
theorem dX7_comes_18 : decode cX7_comes 18 = .ok (.baload, 1) := by decide +kernel
theorem dX7_comes_19 : decode cX7_comes 19 = .ok (.ifCond .eq 7, 3) := by decide +kernel
theorem dX7_comes_22 : decode cX7_comes 22 = .ok (.iconst 1, 1) := by decide +kernel
theorem dX7_comes_23 : decode cX7_comes 23 = .ok (.goto 4, 3) := by decide +kernel
theorem dX7_comes_26 : decode cX7_comes 26 = .ok (.iconst 0, 1) := by decide +kernel
theorem dX7_comes_27 : decode cX7_comes 27 = .ok (.ireturn, 1) := by decide +kernel
theorem dX7_held_0 : decode cX7_held 0 = .ok (.iload_n 1, 1) := by decide +kernel
theorem dX7_held_1 : decode cX7_held 1 = .ok (.invokestatic 82, 3) := by decide +kernel
theorem dX7_held_4 : decode cX7_held 4 = .ok (.ifCond .eq 27, 3) := by decide +kernel
theorem dX7_held_7 : decode cX7_held 7 = .ok (.aload_n 0, 1) := by decide +kernel
theorem dX7_held_8 : decode cX7_held 8 = .ok (.iload_n 2, 1) := by decide +kernel
theorem dX7_held_9 : decode cX7_held 9 = .ok (.invokevirtual 75, 3) := by decide +kernel
theorem dX7_held_12 : decode cX7_held 12 = .ok (.ifCond .eq 19, 3) := by decide +kernel
theorem dX7_held_15 : decode cX7_held 15 = .ok (.iload_n 3, 1) := by decide +kernel
theorem dX7_held_16 : decode cX7_held 16 = .ok (.iconst 0, 1) := by decide +kernel
theorem dX7_held_17 : decode cX7_held 17 = .ok (.aload_n 0, 1) := by decide +kernel
theorem dX7_held_18 : decode cX7_held 18 = .ok (.getfield 13, 3) := by decide +kernel
theorem dX7_held_21 : decode cX7_held 21 = .ok (.iload_n 2, 1) := by decide +kernel
theorem dX7_held_22 : decode cX7_held 22 = .ok (.iaload, 1) := by decide +kernel
theorem dX7_held_23 : decode cX7_held 23 = .ok (.iconst 1, 1) := by decide +kernel
theorem dX7_held_24 : decode cX7_held 24 = .ok (.isub, 1) := by decide +kernel
theorem dX7_held_25 : decode cX7_held 25 = .ok (.invokestatic 71, 3) := by decide +kernel
theorem dX7_held_28 : decode cX7_held 28 = .ok (.ifCond .ne 5, 3) := by decide +kernel
theorem dX7_held_31 : decode cX7_held 31 = .ok (.iconst (-1), 1) := by decide +kernel
theorem dX7_held_32 : decode cX7_held 32 = .ok (.ireturn, 1) := by decide +kernel
theorem dX7_held_33 : decode cX7_held 33 = .ok (.aload_n 0, 1) := by decide +kernel
theorem dX7_held_34 : decode cX7_held 34 = .ok (.invokevirtual 194, 3) := by decide +kernel
theorem dX7_held_37 : decode cX7_held 37 = .ok (.aload_n 0, 1) := by decide +kernel
theorem dX7_held_38 : decode cX7_held 38 = .ok (.getfield 39, 3) := by decide +kernel
theorem dX7_held_41 : decode cX7_held 41 = .ok (.iload_n 1, 1) := by decide +kernel
theorem dX7_held_42 : decode cX7_held 42 = .ok (.baload, 1) := by decide +kernel
theorem dX7_held_43 : decode cX7_held 43 = .ok (.ifCond .ne 5, 3) := by decide +kernel
theorem dX7_held_46 : decode cX7_held 46 = .ok (.iconst (-1), 1) := by decide +kernel
theorem dX7_held_47 : decode cX7_held 47 = .ok (.ireturn, 1) := by decide +kernel
theorem dX7_held_48 : decode cX7_held 48 = .ok (.bipush 64, 2) := by decide +kernel
theorem dX7_held_50 : decode cX7_held 50 = .ok (.iload_n 1, 1) := by decide +kernel
theorem dX7_held_51 : decode cX7_held 51 = .ok (.imul, 1) := by decide +kernel
theorem dX7_held_52 : decode cX7_held 52 = .ok (.iconst 4, 1) := by decide +kernel
theorem dX7_held_53 : decode cX7_held 53 = .ok (.iload_n 2, 1) := by decide +kernel
theorem dX7_held_54 : decode cX7_held 54 = .ok (.imul, 1) := by decide +kernel
theorem dX7_held_55 : decode cX7_held 55 = .ok (.iadd, 1) := by decide +kernel
theorem dX7_held_56 : decode cX7_held 56 = .ok (.iload_n 3, 1) := by decide +kernel
theorem dX7_held_57 : decode cX7_held 57 = .ok (.iadd, 1) := by decide +kernel
theorem dX7_held_58 : decode cX7_held 58 = .ok (.istore 4, 2) := by decide +kernel
theorem dX7_held_60 : decode cX7_held 60 = .ok (.aload_n 0, 1) := by decide +kernel
theorem dX7_held_61 : decode cX7_held 61 = .ok (.getfield 42, 3) := by decide +kernel
theorem dX7_held_64 : decode cX7_held 64 = .ok (.iload 4, 2) := by decide +kernel
theorem dX7_held_66 : decode cX7_held 66 = .ok (.baload, 1) := by decide +kernel
theorem dX7_held_67 : decode cX7_held 67 = .ok (.ifCond .ne 7, 3) := by decide +kernel
theorem dX7_held_70 : decode cX7_held 70 = .ok (.iconst 1, 1) := by decide +kernel
theorem dX7_held_71 : decode cX7_held 71 = .ok (.goto 18, 3) := by decide +kernel
theorem dX7_held_74 : decode cX7_held 74 = .ok (.aload_n 0, 1) := by decide +kernel
theorem dX7_held_75 : decode cX7_held 75 = .ok (.getfield 45, 3) := by decide +kernel
theorem dX7_held_78 : decode cX7_held 78 = .ok (.iload 4, 2) := by decide +kernel
theorem dX7_held_80 : decode cX7_held 80 = .ok (.baload, 1) := by decide +kernel
theorem dX7_held_81 : decode cX7_held 81 = .ok (.ifCond .eq 7, 3) := by decide +kernel
theorem dX7_held_84 : decode cX7_held 84 = .ok (.iconst 2, 1) := by decide +kernel
theorem dX7_held_85 : decode cX7_held 85 = .ok (.goto 4, 3) := by decide +kernel
theorem dX7_held_88 : decode cX7_held 88 = .ok (.iconst 0, 1) := by decide +kernel
theorem dX7_held_89 : decode cX7_held 89 = .ok (.ireturn, 1) := by decide +kernel
theorem dX7_holds_0 : decode cX7_holds 0 = .ok (.iload_n 1, 1) := by decide +kernel
theorem dX7_holds_1 : decode cX7_holds 1 = .ok (.invokestatic 82, 3) := by decide +kernel
theorem dX7_holds_4 : decode cX7_holds 4 = .ok (.ifCond .eq 26, 3) := by decide +kernel
theorem dX7_holds_7 : decode cX7_holds 7 = .ok (.aload_n 0, 1) := by decide +kernel
theorem dX7_holds_8 : decode cX7_holds 8 = .ok (.iload_n 2, 1) := by decide +kernel
theorem dX7_holds_9 : decode cX7_holds 9 = .ok (.invokevirtual 96, 3) := by decide +kernel
theorem dX7_holds_12 : decode cX7_holds 12 = .ok (.ifCond .eq 18, 3) := by decide +kernel
theorem dX7_holds_15 : decode cX7_holds 15 = .ok (.iload_n 3, 1) := by decide +kernel
theorem dX7_holds_16 : decode cX7_holds 16 = .ok (.invokestatic 82, 3) := by decide +kernel
theorem dX7_holds_19 : decode cX7_holds 19 = .ok (.ifCond .eq 11, 3) := by decide +kernel
theorem dX7_holds_22 : decode cX7_holds 22 = .ok (.aload_n 0, 1) := by decide +kernel
theorem dX7_holds_23 : decode cX7_holds 23 = .ok (.iload_n 3, 1) := by decide +kernel
theorem dX7_holds_24 : decode cX7_holds 24 = .ok (.invokevirtual 155, 3) := by decide +kernel
theorem dX7_holds_27 : decode cX7_holds 27 = .ok (.ifCond .ne 5, 3) := by decide +kernel
theorem dX7_holds_30 : decode cX7_holds 30 = .ok (.iconst (-1), 1) := by decide +kernel
theorem dX7_holds_31 : decode cX7_holds 31 = .ok (.ireturn, 1) := by decide +kernel
theorem dX7_holds_32 : decode cX7_holds 32 = .ok (.aload_n 0, 1) := by decide +kernel
theorem dX7_holds_33 : decode cX7_holds 33 = .ok (.invokevirtual 194, 3) := by decide +kernel
theorem dX7_holds_36 : decode cX7_holds 36 = .ok (.aload_n 0, 1) := by decide +kernel
theorem dX7_holds_37 : decode cX7_holds 37 = .ok (.getfield 39, 3) := by decide +kernel
theorem dX7_holds_40 : decode cX7_holds 40 = .ok (.iload_n 1, 1) := by decide +kernel
theorem dX7_holds_41 : decode cX7_holds 41 = .ok (.baload, 1) := by decide +kernel
theorem dX7_holds_42 : decode cX7_holds 42 = .ok (.ifCond .eq 27, 3) := by decide +kernel
theorem dX7_holds_45 : decode cX7_holds 45 = .ok (.aload_n 0, 1) := by decide +kernel
theorem dX7_holds_46 : decode cX7_holds 46 = .ok (.getfield 49, 3) := by decide +kernel
theorem dX7_holds_49 : decode cX7_holds 49 = .ok (.aload_n 0, 1) := by decide +kernel
theorem dX7_holds_50 : decode cX7_holds 50 = .ok (.aload_n 0, 1) := by decide +kernel
theorem dX7_holds_51 : decode cX7_holds 51 = .ok (.getfield 61, 3) := by decide +kernel
theorem dX7_holds_54 : decode cX7_holds 54 = .ok (.iload_n 3, 1) := by decide +kernel
theorem dX7_holds_55 : decode cX7_holds 55 = .ok (.iaload, 1) := by decide +kernel
theorem dX7_holds_56 : decode cX7_holds 56 = .ok (.iload_n 1, 1) := by decide +kernel
theorem dX7_holds_57 : decode cX7_holds 57 = .ok (.iload_n 2, 1) := by decide +kernel
theorem dX7_holds_58 : decode cX7_holds 58 = .ok (.invokevirtual 117, 3) := by decide +kernel
theorem dX7_holds_61 : decode cX7_holds 61 = .ok (.baload, 1) := by decide +kernel
theorem dX7_holds_62 : decode cX7_holds 62 = .ok (.ifCond .eq 7, 3) := by decide +kernel
theorem dX7_holds_65 : decode cX7_holds 65 = .ok (.iconst 1, 1) := by decide +kernel
theorem dX7_holds_66 : decode cX7_holds 66 = .ok (.goto 4, 3) := by decide +kernel
theorem dX7_holds_69 : decode cX7_holds 69 = .ok (.iconst 0, 1) := by decide +kernel
theorem dX7_holds_70 : decode cX7_holds 70 = .ok (.ireturn, 1) := by decide +kernel
theorem dX7_used_0 : decode cX7_used 0 = .ok (.iload_n 1, 1) := by decide +kernel
theorem dX7_used_1 : decode cX7_used 1 = .ok (.invokestatic 82, 3) := by decide +kernel
theorem dX7_used_4 : decode cX7_used 4 = .ok (.ifCond .eq 11, 3) := by decide +kernel
theorem dX7_used_7 : decode cX7_used 7 = .ok (.aload_n 0, 1) := by decide +kernel
theorem dX7_used_8 : decode cX7_used 8 = .ok (.iload_n 2, 1) := by decide +kernel
theorem dX7_used_9 : decode cX7_used 9 = .ok (.invokevirtual 96, 3) := by decide +kernel
theorem dX7_used_12 : decode cX7_used 12 = .ok (.ifCond .ne 5, 3) := by decide +kernel
theorem dX7_used_15 : decode cX7_used 15 = .ok (.iconst (-1), 1) := by decide +kernel
theorem dX7_used_16 : decode cX7_used 16 = .ok (.ireturn, 1) := by decide +kernel
theorem dX7_used_17 : decode cX7_used 17 = .ok (.aload_n 0, 1) := by decide +kernel
theorem dX7_used_18 : decode cX7_used 18 = .ok (.invokevirtual 194, 3) := by decide +kernel
theorem dX7_used_21 : decode cX7_used 21 = .ok (.aload_n 0, 1) := by decide +kernel
theorem dX7_used_22 : decode cX7_used 22 = .ok (.getfield 39, 3) := by decide +kernel
theorem dX7_used_25 : decode cX7_used 25 = .ok (.iload_n 1, 1) := by decide +kernel
theorem dX7_used_26 : decode cX7_used 26 = .ok (.baload, 1) := by decide +kernel
theorem dX7_used_27 : decode cX7_used 27 = .ok (.ifCond .eq 21, 3) := by decide +kernel
theorem dX7_used_30 : decode cX7_used 30 = .ok (.aload_n 0, 1) := by decide +kernel
theorem dX7_used_31 : decode cX7_used 31 = .ok (.getfield 52, 3) := by decide +kernel
theorem dX7_used_34 : decode cX7_used 34 = .ok (.bipush 16, 2) := by decide +kernel
theorem dX7_used_36 : decode cX7_used 36 = .ok (.iload_n 1, 1) := by decide +kernel
theorem dX7_used_37 : decode cX7_used 37 = .ok (.imul, 1) := by decide +kernel
theorem dX7_used_38 : decode cX7_used 38 = .ok (.iload_n 2, 1) := by decide +kernel
theorem dX7_used_39 : decode cX7_used 39 = .ok (.iadd, 1) := by decide +kernel
theorem dX7_used_40 : decode cX7_used 40 = .ok (.baload, 1) := by decide +kernel
theorem dX7_used_41 : decode cX7_used 41 = .ok (.ifCond .eq 7, 3) := by decide +kernel
theorem dX7_used_44 : decode cX7_used 44 = .ok (.iconst 1, 1) := by decide +kernel
theorem dX7_used_45 : decode cX7_used 45 = .ok (.goto 4, 3) := by decide +kernel
theorem dX7_used_48 : decode cX7_used 48 = .ok (.iconst 0, 1) := by decide +kernel
theorem dX7_used_49 : decode cX7_used 49 = .ok (.ireturn, 1) := by decide +kernel
theorem dX7_force_0 : decode cX7_force 0 = .ok (.iload_n 2, 1) := by decide +kernel
theorem dX7_force_1 : decode cX7_force 1 = .ok (.invokestatic 82, 3) := by decide +kernel
theorem dX7_force_4 : decode cX7_force 4 = .ok (.ifCond .eq 18, 3) := by decide +kernel
theorem dX7_force_7 : decode cX7_force 7 = .ok (.iload_n 1, 1) := by decide +kernel
theorem dX7_force_8 : decode cX7_force 8 = .ok (.invokestatic 82, 3) := by decide +kernel
theorem dX7_force_11 : decode cX7_force 11 = .ok (.ifCond .eq 11, 3) := by decide +kernel
theorem dX7_force_14 : decode cX7_force 14 = .ok (.aload_n 0, 1) := by decide +kernel
theorem dX7_force_15 : decode cX7_force 15 = .ok (.iload_n 1, 1) := by decide +kernel
theorem dX7_force_16 : decode cX7_force 16 = .ok (.invokevirtual 155, 3) := by decide +kernel
theorem dX7_force_19 : decode cX7_force 19 = .ok (.ifCond .ne 5, 3) := by decide +kernel
theorem dX7_force_22 : decode cX7_force 22 = .ok (.iconst (-1), 1) := by decide +kernel
theorem dX7_force_23 : decode cX7_force 23 = .ok (.ireturn, 1) := by decide +kernel
theorem dX7_force_24 : decode cX7_force 24 = .ok (.aload_n 0, 1) := by decide +kernel
theorem dX7_force_25 : decode cX7_force 25 = .ok (.invokevirtual 194, 3) := by decide +kernel
theorem dX7_force_28 : decode cX7_force 28 = .ok (.aload_n 0, 1) := by decide +kernel
theorem dX7_force_29 : decode cX7_force 29 = .ok (.getfield 39, 3) := by decide +kernel
theorem dX7_force_32 : decode cX7_force 32 = .ok (.iload_n 2, 1) := by decide +kernel
theorem dX7_force_33 : decode cX7_force 33 = .ok (.baload, 1) := by decide +kernel
theorem dX7_force_34 : decode cX7_force 34 = .ok (.ifCond .eq 22, 3) := by decide +kernel
theorem dX7_force_37 : decode cX7_force 37 = .ok (.aload_n 0, 1) := by decide +kernel
theorem dX7_force_38 : decode cX7_force 38 = .ok (.getfield 55, 3) := by decide +kernel
theorem dX7_force_41 : decode cX7_force 41 = .ok (.sipush 150, 3) := by decide +kernel
theorem dX7_force_44 : decode cX7_force 44 = .ok (.iload_n 1, 1) := by decide +kernel
theorem dX7_force_45 : decode cX7_force 45 = .ok (.imul, 1) := by decide +kernel
theorem dX7_force_46 : decode cX7_force 46 = .ok (.iload_n 2, 1) := by decide +kernel
theorem dX7_force_47 : decode cX7_force 47 = .ok (.iadd, 1) := by decide +kernel
theorem dX7_force_48 : decode cX7_force 48 = .ok (.baload, 1) := by decide +kernel
theorem dX7_force_49 : decode cX7_force 49 = .ok (.ifCond .eq 7, 3) := by decide +kernel
theorem dX7_force_52 : decode cX7_force 52 = .ok (.iconst 1, 1) := by decide +kernel
theorem dX7_force_53 : decode cX7_force 53 = .ok (.goto 4, 3) := by decide +kernel
theorem dX7_force_56 : decode cX7_force 56 = .ok (.iconst 0, 1) := by decide +kernel
theorem dX7_force_57 : decode cX7_force 57 = .ok (.ireturn, 1) := by decide +kernel
theorem dX7_count_0 : decode cX7_count 0 = .ok (.iload_n 1, 1) := by decide +kernel
theorem dX7_count_1 : decode cX7_count 1 = .ok (.iconst 0, 1) := by decide +kernel
theorem dX7_count_2 : decode cX7_count 2 = .ok (.iconst 5, 1) := by decide +kernel
theorem dX7_count_3 : decode cX7_count 3 = .ok (.invokestatic 71, 3) := by decide +kernel
theorem dX7_count_6 : decode cX7_count 6 = .ok (.ifCond .ne 5, 3) := by decide +kernel
theorem dX7_count_9 : decode cX7_count 9 = .ok (.iconst (-1), 1) := by decide +kernel
theorem dX7_count_10 : decode cX7_count 10 = .ok (.ireturn, 1) := by decide +kernel
theorem dX7_count_11 : decode cX7_count 11 = .ok (.aload_n 0, 1) := by decide +kernel
theorem dX7_count_12 : decode cX7_count 12 = .ok (.invokevirtual 194, 3) := by decide +kernel
theorem dX7_count_15 : decode cX7_count 15 = .ok (.iconst 0, 1) := by decide +kernel
theorem dX7_count_16 : decode cX7_count 16 = .ok (.istore_n 2, 1) := by decide +kernel
theorem dX7_count_17 : decode cX7_count 17 = .ok (.iconst 0, 1) := by decide +kernel
theorem dX7_count_18 : decode cX7_count 18 = .ok (.istore_n 3, 1) := by decide +kernel
theorem dX7_count_19 : decode cX7_count 19 = .ok (.iconst 0, 1) := by decide +kernel
theorem dX7_count_20 : decode cX7_count 20 = .ok (.istore 4, 2) := by decide +kernel
theorem dX7_count_22 : decode cX7_count 22 = .ok (.iconst 0, 1) := by decide +kernel
theorem dX7_count_23 : decode cX7_count 23 = .ok (.istore 5, 2) := by decide +kernel
theorem dX7_count_25 : decode cX7_count 25 = .ok (.iload 5, 2) := by decide +kernel
theorem dX7_count_27 : decode cX7_count 27 = .ok (.sipush 150, 3) := by decide +kernel
theorem dX7_count_30 : decode cX7_count 30 = .ok (.if_icmp .ge 111, 3) := by decide +kernel
theorem dX7_count_33 : decode cX7_count 33 = .ok (.iload_n 3, 1) := by decide +kernel
theorem dX7_count_34 : decode cX7_count 34 = .ok (.aload_n 0, 1) := by decide +kernel
theorem dX7_count_35 : decode cX7_count 35 = .ok (.getfield 39, 3) := by decide +kernel
theorem dX7_count_38 : decode cX7_count 38 = .ok (.iload 5, 2) := by decide +kernel
theorem dX7_count_40 : decode cX7_count 40 = .ok (.baload, 1) := by decide +kernel
theorem dX7_count_41 : decode cX7_count 41 = .ok (.ifCond .eq 7, 3) := by decide +kernel
theorem dX7_count_44 : decode cX7_count 44 = .ok (.iconst 1, 1) := by decide +kernel
theorem dX7_count_45 : decode cX7_count 45 = .ok (.goto 4, 3) := by decide +kernel
theorem dX7_count_48 : decode cX7_count 48 = .ok (.iconst 0, 1) := by decide +kernel
theorem dX7_count_49 : decode cX7_count 49 = .ok (.iadd, 1) := by decide +kernel
theorem dX7_count_50 : decode cX7_count 50 = .ok (.istore_n 3, 1) := by decide +kernel
theorem dX7_count_51 : decode cX7_count 51 = .ok (.iload_n 2, 1) := by decide +kernel
theorem dX7_count_52 : decode cX7_count 52 = .ok (.aload_n 0, 1) := by decide +kernel
theorem dX7_count_53 : decode cX7_count 53 = .ok (.getfield 61, 3) := by decide +kernel
theorem dX7_count_56 : decode cX7_count 56 = .ok (.iload 5, 2) := by decide +kernel
theorem dX7_count_58 : decode cX7_count 58 = .ok (.iaload, 1) := by decide +kernel
theorem dX7_count_59 : decode cX7_count 59 = .ok (.iconst (-1), 1) := by decide +kernel
theorem dX7_count_60 : decode cX7_count 60 = .ok (.if_icmp .eq 7, 3) := by decide +kernel
theorem dX7_count_63 : decode cX7_count 63 = .ok (.iconst 1, 1) := by decide +kernel
theorem dX7_count_64 : decode cX7_count 64 = .ok (.goto 4, 3) := by decide +kernel
theorem dX7_count_67 : decode cX7_count 67 = .ok (.iconst 0, 1) := by decide +kernel
theorem dX7_count_68 : decode cX7_count 68 = .ok (.iadd, 1) := by decide +kernel
theorem dX7_count_69 : decode cX7_count 69 = .ok (.istore_n 2, 1) := by decide +kernel
theorem dX7_count_70 : decode cX7_count 70 = .ok (.iconst 0, 1) := by decide +kernel
theorem dX7_count_71 : decode cX7_count 71 = .ok (.istore 6, 2) := by decide +kernel
theorem dX7_count_73 : decode cX7_count 73 = .ok (.iload 6, 2) := by decide +kernel
theorem dX7_count_75 : decode cX7_count 75 = .ok (.sipush 150, 3) := by decide +kernel
theorem dX7_count_78 : decode cX7_count 78 = .ok (.if_icmp .ge 57, 3) := by decide +kernel
theorem dX7_count_81 : decode cX7_count 81 = .ok (.aload_n 0, 1) := by decide +kernel
theorem dX7_count_82 : decode cX7_count 82 = .ok (.getfield 39, 3) := by decide +kernel
theorem dX7_count_85 : decode cX7_count 85 = .ok (.iload 5, 2) := by decide +kernel
theorem dX7_count_87 : decode cX7_count 87 = .ok (.baload, 1) := by decide +kernel
theorem dX7_count_88 : decode cX7_count 88 = .ok (.ifCond .eq 47, 3) := by decide +kernel
theorem dX7_count_91 : decode cX7_count 91 = .ok (.iload 4, 2) := by decide +kernel
theorem dX7_count_93 : decode cX7_count 93 = .ok (.aload_n 0, 1) := by decide +kernel
theorem dX7_count_94 : decode cX7_count 94 = .ok (.getfield 61, 3) := by decide +kernel
theorem dX7_count_97 : decode cX7_count 97 = .ok (.iload 6, 2) := by decide +kernel
theorem dX7_count_99 : decode cX7_count 99 = .ok (.iaload, 1) := by decide +kernel
theorem dX7_count_100 : decode cX7_count 100 = .ok (.iconst (-1), 1) := by decide +kernel
theorem dX7_count_101 : decode cX7_count 101 = .ok (.if_icmp .eq 24, 3) := by decide +kernel
theorem dX7_count_104 : decode cX7_count 104 = .ok (.aload_n 0, 1) := by decide +kernel
theorem dX7_count_105 : decode cX7_count 105 = .ok (.getfield 55, 3) := by decide +kernel
theorem dX7_count_108 : decode cX7_count 108 = .ok (.sipush 150, 3) := by decide +kernel
theorem dX7_count_111 : decode cX7_count 111 = .ok (.iload 6, 2) := by decide +kernel
theorem dX7_count_113 : decode cX7_count 113 = .ok (.imul, 1) := by decide +kernel
theorem dX7_count_114 : decode cX7_count 114 = .ok (.iload 5, 2) := by decide +kernel
theorem dX7_count_116 : decode cX7_count 116 = .ok (.iadd, 1) := by decide +kernel
theorem dX7_count_117 : decode cX7_count 117 = .ok (.baload, 1) := by decide +kernel
theorem dX7_count_118 : decode cX7_count 118 = .ok (.ifCond .eq 7, 3) := by decide +kernel
theorem dX7_count_121 : decode cX7_count 121 = .ok (.iconst 1, 1) := by decide +kernel
theorem dX7_count_122 : decode cX7_count 122 = .ok (.goto 4, 3) := by decide +kernel
theorem dX7_count_125 : decode cX7_count 125 = .ok (.iconst 0, 1) := by decide +kernel
theorem dX7_count_126 : decode cX7_count 126 = .ok (.iadd, 1) := by decide +kernel
theorem dX7_count_127 : decode cX7_count 127 = .ok (.istore 4, 2) := by decide +kernel
theorem dX7_count_129 : decode cX7_count 129 = .ok (.iinc 6 1, 3) := by decide +kernel
theorem dX7_count_132 : decode cX7_count 132 = .ok (.goto (-59), 3) := by decide +kernel
theorem dX7_count_135 : decode cX7_count 135 = .ok (.iinc 5 1, 3) := by decide +kernel
theorem dX7_count_138 : decode cX7_count 138 = .ok (.goto (-113), 3) := by decide +kernel
theorem dX7_count_141 : decode cX7_count 141 = .ok (.iload_n 1, 1) := by decide +kernel
theorem dX7_count_142 : decode cX7_count 142 = .ok (.ifCond .ne 10, 3) := by decide +kernel
theorem dX7_count_145 : decode cX7_count 145 = .ok (.aload_n 0, 1) := by decide +kernel
theorem dX7_count_146 : decode cX7_count 146 = .ok (.getfield 67, 3) := by decide +kernel
theorem dX7_count_149 : decode cX7_count 149 = .ok (.goto 47, 3) := by decide +kernel
theorem dX7_count_152 : decode cX7_count 152 = .ok (.iload_n 1, 1) := by decide +kernel
theorem dX7_count_153 : decode cX7_count 153 = .ok (.iconst 1, 1) := by decide +kernel
theorem dX7_count_154 : decode cX7_count 154 = .ok (.if_icmp .ne 7, 3) := by decide +kernel
theorem dX7_count_157 : decode cX7_count 157 = .ok (.iload_n 2, 1) := by decide +kernel
theorem dX7_count_158 : decode cX7_count 158 = .ok (.goto 38, 3) := by decide +kernel
theorem dX7_count_161 : decode cX7_count 161 = .ok (.iload_n 1, 1) := by decide +kernel
theorem dX7_count_162 : decode cX7_count 162 = .ok (.iconst 2, 1) := by decide +kernel
theorem dX7_count_163 : decode cX7_count 163 = .ok (.if_icmp .ne 7, 3) := by decide +kernel
theorem dX7_count_166 : decode cX7_count 166 = .ok (.iload_n 3, 1) := by decide +kernel
theorem dX7_count_167 : decode cX7_count 167 = .ok (.goto 29, 3) := by decide +kernel
theorem dX7_count_170 : decode cX7_count 170 = .ok (.iload_n 1, 1) := by decide +kernel
theorem dX7_count_171 : decode cX7_count 171 = .ok (.iconst 3, 1) := by decide +kernel
theorem dX7_count_172 : decode cX7_count 172 = .ok (.if_icmp .ne 8, 3) := by decide +kernel
theorem dX7_count_175 : decode cX7_count 175 = .ok (.iload 4, 2) := by decide +kernel
theorem dX7_count_177 : decode cX7_count 177 = .ok (.goto 19, 3) := by decide +kernel
theorem dX7_count_180 : decode cX7_count 180 = .ok (.iload_n 1, 1) := by decide +kernel
theorem dX7_count_181 : decode cX7_count 181 = .ok (.iconst 4, 1) := by decide +kernel
theorem dX7_count_182 : decode cX7_count 182 = .ok (.if_icmp .ne 10, 3) := by decide +kernel
theorem dX7_count_185 : decode cX7_count 185 = .ok (.aload_n 0, 1) := by decide +kernel
theorem dX7_count_186 : decode cX7_count 186 = .ok (.getfield 170, 3) := by decide +kernel
theorem dX7_count_189 : decode cX7_count 189 = .ok (.goto 7, 3) := by decide +kernel
theorem dX7_count_192 : decode cX7_count 192 = .ok (.aload_n 0, 1) := by decide +kernel
theorem dX7_count_193 : decode cX7_count 193 = .ok (.getfield 173, 3) := by decide +kernel
theorem dX7_count_196 : decode cX7_count 196 = .ok (.ireturn, 1) := by decide +kernel
end
section
/-! words: every contract rests on one list -/
def gt : List Cond := lw_tbl.filter goodWord
theorem gt_m {w : Cond} (h : w ∈ lw_tbl) (g : goodWord w = true) : w ∈ gt := List.mem_filter.mpr ⟨h, g⟩
theorem gt_g {w : Cond} (h : w ∈ gt) : goodWord w = true := (List.mem_filter.mp h).2
theorem gt_l {w : Cond} (h : w ∈ gt) : w ∈ lw_tbl := (List.mem_filter.mp h).1
theorem good_big {big : List Cond} (hs : ∀ w ∈ gt, w ∈ big) {c2 : Cond} (h : c2 ∈ gt) : GoodIn big (c2 :: gt) := fun w hw => by
  rcases List.mem_cons.mp hw with rfl | hw
  · exact ⟨hs _ h, good_of_word (gt_g h)⟩
  · exact ⟨hs _ hw, good_of_word (gt_g hw)⟩
theorem good_V {big : List Cond} (hs : ∀ w ∈ gt, w ∈ big) {own C : String} {idx : Nat} {y : MethodName} {c2 : Cond} (h1 : Cond.methodLink own idx y ∈ gt) (h2 : Cond.instanceMethod y ∈ gt) (h3 : Cond.selects C y y ∈ gt) (h4 : Cond.initialized C ∈ gt) (h : c2 ∈ gt) : GoodIn big (wsV own idx C y (c2 :: gt)) := fun w hw => by
  rcases List.mem_append.mp hw with hw | hw
  · rcases List.mem_cons.mp hw with rfl | hw
    · exact ⟨hs _ h1, good_of_word (gt_g h1)⟩
    rcases List.mem_cons.mp hw with rfl | hw
    · exact ⟨hs _ h2, good_of_word (gt_g h2)⟩
    rcases List.mem_cons.mp hw with rfl | hw
    · exact ⟨hs _ h3, good_of_word (gt_g h3)⟩
    rcases List.mem_cons.mp hw with rfl | hw
    · exact ⟨hs _ h4, good_of_word (gt_g h4)⟩
    exact absurd hw List.not_mem_nil
  · exact good_big hs h w hw
/-! what holds of the machine's tables all the way -/
def Kn (D : va_G) (cI cJ cZ : ClassId) (U : State) : Prop := va_K D vwCl [(cI, .int), (cJ, .long), (cZ, .boolean)] U ∧ va_Nw (.methodLinkNest RX4 54 yX6_leafBit "LoanWays") U ∧ va_Nw (.methodLinkNest RX0 54 yX6_answer "LoanWays") U
theorem Kn.warm {D : va_G} {cI cJ cZ : ClassId} {s U : State} (h : Kn D cI cJ cZ s) (hW : s.WarmedH U.vm) : Kn D cI cJ cZ U := ⟨va_K.moved hW.alike h.1, va_Nw.warmM hW h.2.1, va_Nw.warmM hW h.2.2⟩
theorem Kn.calling {D : va_G} {cI cJ cZ : ClassId} {U : State} {g : JFrame} {mk : MethodId} {a : Array Value} (h : Kn D cI cJ cZ U) : Kn D cI cJ cZ (U.calling g mk a) := ⟨va_K.moved (u := U) (U := U.calling g mk a) (Vm.Alike.refl U.vm) h.1, va_tabs rfl (rfl : U.vm = (U.calling g mk a).vm) h.2.1, va_tabs rfl (rfl : U.vm = (U.calling g mk a).vm) h.2.2⟩
def Wd {σ : Type} (WF : σ → va_W) (D : va_G) (A : Nat → Prop) (H0 H : Heap) (locs : List Loc) (S : σ) : Prop := va_P D vwCl (WF S) H ∧ va_D A (WF S) ∧ va_S A H0 H locs
theorem free_all {A0 : Nat → Prop} {ws : va_W} {H0 H : Heap} {locs : List Loc} (hD : va_D A0 ws) (hS : va_S A0 H0 H locs) (hA : ∀ q, H0.size ≤ q → A0 q) : ∀ q, va_A ws H.size q → A0 q := fun q h => by
  rcases h with ⟨k, e, hk⟩ | h
  · exact hD.2 k _ hk
  · exact hA q (Nat.le_trans hS.1 h)
/-! contracts over a whole world -/
def PreW {σ : Type} (WF : σ → va_W) (D : va_G) (cI cJ cZ : ClassId) (S : σ) (av : List Value) (sz : Nat) : Array Value → State → Prop := va_Pc av (fun U => U.heap.size = sz ∧ va_P D vwCl (WF S) U.heap ∧ Kn D cI cJ cZ U ∧ va_D (fun _ => True) (WF S))
theorem PreW.blind {σ : Type} {WF : σ → va_W} {D : va_G} {cI cJ cZ : ClassId} {S : σ} {av : List Value} {sz : Nat} : FrameBlind (PreW WF D cI cJ cZ S av sz) := fun a U g mk q => by
  obtain ⟨q0, q1, qP, qK, qD⟩ := q
  exact ⟨q0, q1, qP, qK.calling, qD⟩
def CI {σ : Type} (WF : σ → va_W) (D : va_G) (cI cJ cZ : ClassId) (l : Launch) (y : MethodName) (ws : List Cond) (rm : Room) (S : σ) (av : List Value) (post : Int32 → σ → Prop) : Prop :=
  ∀ sz : Nat, Met l y ws rm (PreW WF D cI cJ cZ S av sz) (va_Qi post (fun S' t => va_P D vwCl (WF S') t.heap ∧ va_D (va_A (WF S) sz) (WF S')) (va_A (WF S) sz)) 0 0 (va_A (WF S) sz)
def CL {σ : Type} (WF : σ → va_W) (D : va_G) (cI cJ cZ : ClassId) (l : Launch) (y : MethodName) (ws : List Cond) (rm : Room) (S : σ) (av : List Value) (post : Int64 → σ → Prop) : Prop :=
  ∀ sz : Nat, Met l y ws rm (PreW WF D cI cJ cZ S av sz) (va_Ql post (fun S' t => va_P D vwCl (WF S') t.heap ∧ va_D (va_A (WF S) sz) (WF S')) (va_A (WF S) sz)) 0 0 (va_A (WF S) sz)
def CV {σ : Type} (WF : σ → va_W) (D : va_G) (cI cJ cZ : ClassId) (l : Launch) (y : MethodName) (ws : List Cond) (rm : Room) (S : σ) (av : List Value) (post : σ → Prop) : Prop :=
  ∀ sz : Nat, Met l y ws rm (PreW WF D cI cJ cZ S av sz) (va_Qv post (fun S' t => va_P D vwCl (WF S') t.heap ∧ va_D (va_A (WF S) sz) (WF S')) (va_A (WF S) sz)) 0 0 (va_A (WF S) sz)
/-! inside a method -/
def Cx (p : Program) (s : State) (m : MethodId) (args : Array Value) (meth : Method) (c : Code) (cc : ByteArray) (nL : Nat) (own : String) (ret : Option FieldType) (D : va_G) (cI cJ cZ : ClassId) (A : Nat → Prop) : Prop :=
  p.tables.exec = Jvm.exec ∧ c.code = cc ∧ meth.sig.returnType = ret ∧ c.maxLocals = nL ∧ s.vm.findClass own = some m.cls ∧ (∀ w ∈ gt, w.before args s = true) ∧ meth.locks = false ∧ Kn D cI cJ cZ s ∧ ∀ q : Nat, s.heap.size ≤ q → A q
def QI {σ : Type} (WF : σ → va_W) (D : va_G) (A : Nat → Prop) (s : State) (args : Array Value) (below : List Frame) (post : Int32 → σ → Prop) : State → Prop := MQ below (va_Qi post (fun S' t => va_P D vwCl (WF S') t.heap ∧ va_D A (WF S')) A) args s 0 0 A
def QL {σ : Type} (WF : σ → va_W) (D : va_G) (A : Nat → Prop) (s : State) (args : Array Value) (below : List Frame) (post : Int64 → σ → Prop) : State → Prop := MQ below (va_Ql post (fun S' t => va_P D vwCl (WF S') t.heap ∧ va_D A (WF S')) A) args s 0 0 A
def QV {σ : Type} (WF : σ → va_W) (D : va_G) (A : Nat → Prop) (s : State) (args : Array Value) (below : List Frame) (post : σ → Prop) : State → Prop := MQ below (va_Qv post (fun S' t => va_P D vwCl (WF S') t.heap ∧ va_D A (WF S')) A) args s 0 0 A
section EN
variable {σ : Type} {WF : σ → va_W} {D : va_G} {cI cJ cZ : ClassId} {l : Launch} {y : MethodName} {cc : ByteArray} {maxL : Nat} {ret : Option FieldType} {rm : Room} {S : σ} {av : List Value}
theorem enI {post : Int32 → σ → Prop} (hy : plainName y.cls = true) (hlen : (lg_sl av).length ≤ maxL)
    (body : ∀ (p : Program) (e : Env) (s : State) (m : MethodId) (below : List Frame) (meth : Method) (c : Code) (A : Nat → Prop) (ls : Array Slot), Cx p s m av.toArray meth c cc maxL y.cls ret D cI cJ cZ A → Wd WF D A s.heap s.heap [] S → lv_has ls maxL (lv_args 0 av) → W p l e rm s m av.toArray below meth c s.heap [] 0 0 (QI WF D A s av.toArray below post) (F0 m 0 ls [])) :
    CI WF D cI cJ cZ l y (.code y cc maxL ret :: gt) rm S av post := by
  intro sz
  refine Met.ofW (cc := cc) (maxL := maxL) (ret := ret) hy rfl ?_
  intro p e s m args below meth c s₁ B hml hv
  obtain ⟨rfl, hsz, hP, hK, hD0⟩ := hv
  subst hsz
  have hts := atoms_spec (ws := .code y cc maxL ret :: gt) B.pre
  have hown : s.vm.findClass y.cls = some m.cls := findClass_of_methodNamed B.named
  have hD := hD0.self (sz := s.heap.size)
  have hl := lv_entry av (n := maxL) hlen
  rw [lg_entry_eq]
  exact body p e s m below meth c (va_A (WF S) s.heap.size) _ ⟨B.exec, B.bytes, B.returns, hml, hown, fun w hw => hts w (List.mem_cons_of_mem _ hw), B.notSynchronized, hK, fun q h => Or.inr h⟩ ⟨hP, hD, va_S.rf⟩ hl
theorem enL {post : Int64 → σ → Prop} (hy : plainName y.cls = true) (hlen : (lg_sl av).length ≤ maxL)
    (body : ∀ (p : Program) (e : Env) (s : State) (m : MethodId) (below : List Frame) (meth : Method) (c : Code) (A : Nat → Prop) (ls : Array Slot), Cx p s m av.toArray meth c cc maxL y.cls ret D cI cJ cZ A → Wd WF D A s.heap s.heap [] S → lv_has ls maxL (lv_args 0 av) → W p l e rm s m av.toArray below meth c s.heap [] 0 0 (QL WF D A s av.toArray below post) (F0 m 0 ls [])) :
    CL WF D cI cJ cZ l y (.code y cc maxL ret :: gt) rm S av post := by
  intro sz
  refine Met.ofW (cc := cc) (maxL := maxL) (ret := ret) hy rfl ?_
  intro p e s m args below meth c s₁ B hml hv
  obtain ⟨rfl, hsz, hP, hK, hD0⟩ := hv
  subst hsz
  have hts := atoms_spec (ws := .code y cc maxL ret :: gt) B.pre
  have hown : s.vm.findClass y.cls = some m.cls := findClass_of_methodNamed B.named
  have hD := hD0.self (sz := s.heap.size)
  have hl := lv_entry av (n := maxL) hlen
  rw [lg_entry_eq]
  exact body p e s m below meth c (va_A (WF S) s.heap.size) _ ⟨B.exec, B.bytes, B.returns, hml, hown, fun w hw => hts w (List.mem_cons_of_mem _ hw), B.notSynchronized, hK, fun q h => Or.inr h⟩ ⟨hP, hD, va_S.rf⟩ hl
theorem enV {post : σ → Prop} (hy : plainName y.cls = true) (hlen : (lg_sl av).length ≤ maxL)
    (body : ∀ (p : Program) (e : Env) (s : State) (m : MethodId) (below : List Frame) (meth : Method) (c : Code) (A : Nat → Prop) (ls : Array Slot), Cx p s m av.toArray meth c cc maxL y.cls ret D cI cJ cZ A → Wd WF D A s.heap s.heap [] S → lv_has ls maxL (lv_args 0 av) → W p l e rm s m av.toArray below meth c s.heap [] 0 0 (QV WF D A s av.toArray below post) (F0 m 0 ls [])) :
    CV WF D cI cJ cZ l y (.code y cc maxL ret :: gt) rm S av post := by
  intro sz
  refine Met.ofW (cc := cc) (maxL := maxL) (ret := ret) hy rfl ?_
  intro p e s m args below meth c s₁ B hml hv
  obtain ⟨rfl, hsz, hP, hK, hD0⟩ := hv
  subst hsz
  have hts := atoms_spec (ws := .code y cc maxL ret :: gt) B.pre
  have hown : s.vm.findClass y.cls = some m.cls := findClass_of_methodNamed B.named
  have hD := hD0.self (sz := s.heap.size)
  have hl := lv_entry av (n := maxL) hlen
  rw [lg_entry_eq]
  exact body p e s m below meth c (va_A (WF S) s.heap.size) _ ⟨B.exec, B.bytes, B.returns, hml, hown, fun w hw => hts w (List.mem_cons_of_mem _ hw), B.notSynchronized, hK, fun q h => Or.inr h⟩ ⟨hP, hD, va_S.rf⟩ hl
end EN
section RT
variable {p : Program} {l : Launch} {e : Env} {R : Room} {s : State} {m : MethodId} {args : Array Value} {below : List Frame} {meth : Method} {c : Code} {H : Heap} {locs : List Loc}
variable {σ : Type} {WF : σ → va_W} {D : va_G} {cI cJ cZ : ClassId} {cc : ByteArray} {nL : Nat} {own : String} {A : Nat → Prop} {pc : Nat} {ls : Array Slot} {S : σ}
theorem rtI {post : Int32 → σ → Prop} {v : Int32} (C0 : Cx p s m args meth c cc nL own (some .int) D cI cJ cZ A) (hw : Wd WF D A s.heap H locs S) (hp : post v S) (hdg : decode cc pc = .ok (.ireturn, 1)) : W p l e R s m args below meth c H locs 0 0 (QI WF D A s args below post) (F0 m pc ls [.int v]) :=
  W.iret C0.1 C0.2.1 C0.2.2.1 (fun t ht hW => ⟨⟨v, S, rfl, hp, by rw [ht]; exact hw.1, hw.2.1⟩, hw.2.2.F ht⟩) hw.2.2.2.2 hdg C0.2.2.2.2.2.2.1
theorem rtZ {post : Int32 → σ → Prop} {v : Int32} (C0 : Cx p s m args meth c cc nL own (some .boolean) D cI cJ cZ A) (hw : Wd WF D A s.heap H locs S) (hn : narrow .boolean (.int v) = .int v) (hp : post v S) (hdg : decode cc pc = .ok (.ireturn, 1)) : W p l e R s m args below meth c H locs 0 0 (QI WF D A s args below post) (F0 m pc ls [.int v]) :=
  W.zret C0.1 C0.2.1 C0.2.2.1 hn (fun t ht hW => ⟨⟨v, S, rfl, hp, by rw [ht]; exact hw.1, hw.2.1⟩, hw.2.2.F ht⟩) hw.2.2.2.2 hdg C0.2.2.2.2.2.2.1
theorem rtL {post : Int64 → σ → Prop} {v : Int64} (C0 : Cx p s m args meth c cc nL own (some .long) D cI cJ cZ A) (hw : Wd WF D A s.heap H locs S) (hp : post v S) (hdg : decode cc pc = .ok (.lreturn, 1)) : W p l e R s m args below meth c H locs 0 0 (QL WF D A s args below post) (F0 m pc ls [.long v]) :=
  W.lret C0.1 C0.2.1 C0.2.2.1 (fun t ht hW => ⟨⟨v, S, rfl, hp, by rw [ht]; exact hw.1, hw.2.1⟩, hw.2.2.F ht⟩) hw.2.2.2.2 hdg C0.2.2.2.2.2.2.1
theorem rtV {post : σ → Prop} (C0 : Cx p s m args meth c cc nL own none D cI cJ cZ A) (hw : Wd WF D A s.heap H locs S) (hp : post S) (hdg : decode cc pc = .ok (.return_, 1)) : W p l e R s m args below meth c H locs 0 0 (QV WF D A s args below post) (F0 m pc ls []) :=
  W.vret C0.1 C0.2.1 C0.2.2.1 (fun t ht hW => ⟨⟨S, rfl, hp, by rw [ht]; exact hw.1, hw.2.1⟩, hw.2.2.F ht⟩) hw.2.2.2.2 hdg C0.2.2.2.2.2.2.1
def isb (v : Int32) : Prop := v = 0 ∨ v = 1
theorem isb_n {v : Int32} (h : isb v) : narrow .boolean (.int v) = .int v := by
  rcases h with rfl | rfl <;> rfl
end RT
/-! calls inside one world -/
def Cal (y : MethodName) (cc2 : ByteArray) (maxL2 : Nat) (ret2 : Option FieldType) (n : Nat) : Prop := Cond.initialized y.cls ∈ gt ∧ Cond.code y cc2 maxL2 ret2 ∈ gt ∧ (y.cls ≠ "java/lang/invoke/MethodHandle" ∧ y.cls ≠ "java/lang/invoke/VarHandle" ∧ (parseMethodDescriptor y.desc).map (fun d => d.parameters.length) = some n)
section CLL
variable {p : Program} {l : Launch} {e : Env} {R : Room} {s : State} {m : MethodId} {args : Array Value} {below : List Frame} {meth : Method} {c : Code} {H : Heap} {locs : List Loc} {Q : State → Prop}
variable {σ : Type} {WF : σ → va_W} {D : va_G} {cI cJ cZ : ClassId} {cc : ByteArray} {nL : Nat} {own : String} {ret : Option FieldType} {A : Nat → Prop} {pc : Nat} {ls : Array Slot} {S : σ} {st : List Value}
variable {y : MethodName} {cc2 : ByteArray} {maxL2 n index ci k : Nat} {ret2 : Option FieldType} {rm2 : Room} {b : Nat} {As rest : List Value} {q : vw_C} {fs : List Value}
theorem clVI {post2 : Int32 → σ → Prop} (C0 : Cx p s m args meth c cc nL own ret D cI cJ cZ A) (hM : CI WF D cI cJ cZ l y (.code y cc2 maxL2 ret2 :: gt) rm2 S (.ref b :: As) post2) (hC : Cal y cc2 maxL2 ret2 n) (hi : Cond.instanceMethod y ∈ gt) (hsel : Cond.selects y.cls y y ∈ gt) (hlk : Cond.methodLink own index y ∈ gt) (hci : vwCl[ci]? = some q) (hq : q.1 = y.cls) (he : (WF S)[k]? = some (b, .inr (ci, fs))) (hn : As.length = n) (hls : ls.size = nL) (hst : st = As.reverse ++ .ref b :: rest) (hcat : (rest.map fun v => v.category).sum ≤ 8) (hR : rm2.frames + 1 ≤ R.frames ∧ 8 + (maxL2 + 11) + rm2.locals ≤ R.locals) (hrc : rm2.cells = 0) (hrs : rm2.slots = 0) (hdg : decode cc pc = .ok (.invokevirtual index, 3)) (hw : Wd WF D A s.heap H locs S)
    (kk : ∀ (r : Int32) (S' : σ) (H1 : Heap) (locs1 : List Loc), post2 r S' → Wd WF D A s.heap H1 locs1 S' → W p l e R s m args below meth c H1 locs1 0 0 Q (F0 m (pc + 3) ls (.int r :: rest))) : W p l e R s m args below meth c H locs 0 0 Q (F0 m pc ls st) := by
  obtain ⟨hx, hb, hr, hml, hown, hts, hlocks, hK, hA⟩ := C0
  obtain ⟨hP, hD, hS⟩ := hw
  have hF := free_all hD hS hA
  refine va_calli (va_runV (C := y.cls) (As := As) (rest := rest) ⟨hx, hb, hml, hown, hts⟩ (hM H.size) (cwV n hts (good_V (fun _ h => h) hlk hi hsel hC.1 hC.2.1) rfl hrc hrs ⟨rfl, hC.2.2⟩ hR) ⟨PreW.blind, (by rw [← hq]; exact va_recv hK.1 hP hci he), fun U hU hW => ⟨rfl, by rw [hU], by rw [hU]; exact hP, hK.warm hW, hD.weaken (fun _ _ _ _ => trivial)⟩⟩ rfl hn hls hst (lv_room hcat) hdg ⟨Nat.zero_le _, Nat.zero_le _⟩) hS (fun q _ h => hF q h) hF (fun r S' t H1 locs1 ht hvm hp hB hz1 hk1 hS1 => kk r S' H1 locs1 hp ⟨by rw [← ht]; exact hB.1, hB.2.weaken (fun _ _ _ h => hF _ h), hS1⟩)
theorem clSI {post2 : Int32 → σ → Prop} (C0 : Cx p s m args meth c cc nL own ret D cI cJ cZ A) (hM : CI WF D cI cJ cZ l y (.code y cc2 maxL2 ret2 :: gt) rm2 S As post2) (hC : Cal y cc2 maxL2 ret2 n) (hsta : Cond.static y ∈ gt) (hlk : Cond.methodLink own index y ∈ gt) (hn : As.length = n) (hls : ls.size = nL) (hst : st = As.reverse ++ rest) (hcat : (rest.map fun v => v.category).sum ≤ 8) (hR : rm2.frames + 1 ≤ R.frames ∧ 8 + (maxL2 + 11) + rm2.locals ≤ R.locals) (hrc : rm2.cells = 0) (hrs : rm2.slots = 0) (hdg : decode cc pc = .ok (.invokestatic index, 3)) (hw : Wd WF D A s.heap H locs S)
    (kk : ∀ (r : Int32) (S' : σ) (H1 : Heap) (locs1 : List Loc), post2 r S' → Wd WF D A s.heap H1 locs1 S' → W p l e R s m args below meth c H1 locs1 0 0 Q (F0 m (pc + 3) ls (.int r :: rest))) : W p l e R s m args below meth c H locs 0 0 Q (F0 m pc ls st) := by
  obtain ⟨hx, hb, hr, hml, hown, hts, hlocks, hK, hA⟩ := C0
  obtain ⟨hP, hD, hS⟩ := hw
  have hF := free_all hD hS hA
  refine va_calli (va_runS (As := As) (rest := rest) ⟨hx, hb, hml, hown, hts⟩ (hM H.size) ⟨callB_of n hts (good_big (fun _ h => h) hC.2.1) rfl hrc hrs (hts _ hC.1) (hts _ hlk) hC.2.2 hR, hts _ hsta⟩ ⟨PreW.blind, fun U hU hW => ⟨rfl, by rw [hU], by rw [hU]; exact hP, hK.warm hW, hD.weaken (fun _ _ _ _ => trivial)⟩⟩ rfl hn hls hst (lv_room hcat) hdg ⟨Nat.zero_le _, Nat.zero_le _⟩) hS (fun q _ h => hF q h) hF (fun r S' t H1 locs1 ht hvm hp hB hz1 hk1 hS1 => kk r S' H1 locs1 hp ⟨by rw [← ht]; exact hB.1, hB.2.weaken (fun _ _ _ h => hF _ h), hS1⟩)
theorem clNI {post2 : Int32 → σ → Prop} {host : String} (C0 : Cx p s m args meth c cc nL own ret D cI cJ cZ A) (hM : CI WF D cI cJ cZ l y (.code y cc2 maxL2 ret2 :: gt) rm2 S As post2) (hC : Cal y cc2 maxL2 ret2 n) (hsta : Cond.static y ∈ gt) (hlk : va_Nw (.methodLinkNest own index y host) s) (hn : As.length = n) (hls : ls.size = nL) (hst : st = As.reverse ++ rest) (hcat : (rest.map fun v => v.category).sum ≤ 8) (hR : rm2.frames + 1 ≤ R.frames ∧ 8 + (maxL2 + 11) + rm2.locals ≤ R.locals) (hrc : rm2.cells = 0) (hrs : rm2.slots = 0) (hdg : decode cc pc = .ok (.invokestatic index, 3)) (hw : Wd WF D A s.heap H locs S)
    (kk : ∀ (r : Int32) (S' : σ) (H1 : Heap) (locs1 : List Loc), post2 r S' → Wd WF D A s.heap H1 locs1 S' → W p l e R s m args below meth c H1 locs1 0 0 Q (F0 m (pc + 3) ls (.int r :: rest))) : W p l e R s m args below meth c H locs 0 0 Q (F0 m pc ls st) := by
  obtain ⟨hx, hb, hr, hml, hown, hts, hlocks, hK, hA⟩ := C0
  obtain ⟨hP, hD, hS⟩ := hw
  have hF := free_all hD hS hA
  refine va_calli (va_runSN (As := As) (rest := rest) ⟨hx, hb, hml, hown, hts⟩ (hM H.size) ⟨va_cnB n hts (good_big (fun _ h => h) hC.2.1) rfl hrc hrs hlk (hts _ hC.1) hC.2.2 hR, hts _ hsta, trivial⟩ ⟨PreW.blind, fun U hU hW => ⟨rfl, by rw [hU], by rw [hU]; exact hP, hK.warm hW, hD.weaken (fun _ _ _ _ => trivial)⟩⟩ rfl hn hls hst (lv_room hcat) hdg ⟨Nat.zero_le _, Nat.zero_le _⟩) hS (fun q _ h => hF q h) hF (fun r S' t H1 locs1 ht hvm hp hB hz1 hk1 hS1 => kk r S' H1 locs1 hp ⟨by rw [← ht]; exact hB.1, hB.2.weaken (fun _ _ _ h => hF _ h), hS1⟩)
theorem clVL {post2 : Int64 → σ → Prop} (C0 : Cx p s m args meth c cc nL own ret D cI cJ cZ A) (hM : CL WF D cI cJ cZ l y (.code y cc2 maxL2 ret2 :: gt) rm2 S (.ref b :: As) post2) (hC : Cal y cc2 maxL2 ret2 n) (hi : Cond.instanceMethod y ∈ gt) (hsel : Cond.selects y.cls y y ∈ gt) (hlk : Cond.methodLink own index y ∈ gt) (hci : vwCl[ci]? = some q) (hq : q.1 = y.cls) (he : (WF S)[k]? = some (b, .inr (ci, fs))) (hn : As.length = n) (hls : ls.size = nL) (hst : st = As.reverse ++ .ref b :: rest) (hcat : (rest.map fun v => v.category).sum ≤ 8) (hR : rm2.frames + 1 ≤ R.frames ∧ 8 + (maxL2 + 11) + rm2.locals ≤ R.locals) (hrc : rm2.cells = 0) (hrs : rm2.slots = 0) (hdg : decode cc pc = .ok (.invokevirtual index, 3)) (hw : Wd WF D A s.heap H locs S)
    (kk : ∀ (r : Int64) (S' : σ) (H1 : Heap) (locs1 : List Loc), post2 r S' → Wd WF D A s.heap H1 locs1 S' → W p l e R s m args below meth c H1 locs1 0 0 Q (F0 m (pc + 3) ls (.long r :: rest))) : W p l e R s m args below meth c H locs 0 0 Q (F0 m pc ls st) := by
  obtain ⟨hx, hb, hr, hml, hown, hts, hlocks, hK, hA⟩ := C0
  obtain ⟨hP, hD, hS⟩ := hw
  have hF := free_all hD hS hA
  refine va_calll (va_runV (C := y.cls) (As := As) (rest := rest) ⟨hx, hb, hml, hown, hts⟩ (hM H.size) (cwV n hts (good_V (fun _ h => h) hlk hi hsel hC.1 hC.2.1) rfl hrc hrs ⟨rfl, hC.2.2⟩ hR) ⟨PreW.blind, (by rw [← hq]; exact va_recv hK.1 hP hci he), fun U hU hW => ⟨rfl, by rw [hU], by rw [hU]; exact hP, hK.warm hW, hD.weaken (fun _ _ _ _ => trivial)⟩⟩ rfl hn hls hst (lv_room hcat) hdg ⟨Nat.zero_le _, Nat.zero_le _⟩) hS (fun q _ h => hF q h) hF (fun r S' t H1 locs1 ht hvm hp hB hz1 hk1 hS1 => kk r S' H1 locs1 hp ⟨by rw [← ht]; exact hB.1, hB.2.weaken (fun _ _ _ h => hF _ h), hS1⟩)
theorem clSL {post2 : Int64 → σ → Prop} (C0 : Cx p s m args meth c cc nL own ret D cI cJ cZ A) (hM : CL WF D cI cJ cZ l y (.code y cc2 maxL2 ret2 :: gt) rm2 S As post2) (hC : Cal y cc2 maxL2 ret2 n) (hsta : Cond.static y ∈ gt) (hlk : Cond.methodLink own index y ∈ gt) (hn : As.length = n) (hls : ls.size = nL) (hst : st = As.reverse ++ rest) (hcat : (rest.map fun v => v.category).sum ≤ 8) (hR : rm2.frames + 1 ≤ R.frames ∧ 8 + (maxL2 + 11) + rm2.locals ≤ R.locals) (hrc : rm2.cells = 0) (hrs : rm2.slots = 0) (hdg : decode cc pc = .ok (.invokestatic index, 3)) (hw : Wd WF D A s.heap H locs S)
    (kk : ∀ (r : Int64) (S' : σ) (H1 : Heap) (locs1 : List Loc), post2 r S' → Wd WF D A s.heap H1 locs1 S' → W p l e R s m args below meth c H1 locs1 0 0 Q (F0 m (pc + 3) ls (.long r :: rest))) : W p l e R s m args below meth c H locs 0 0 Q (F0 m pc ls st) := by
  obtain ⟨hx, hb, hr, hml, hown, hts, hlocks, hK, hA⟩ := C0
  obtain ⟨hP, hD, hS⟩ := hw
  have hF := free_all hD hS hA
  refine va_calll (va_runS (As := As) (rest := rest) ⟨hx, hb, hml, hown, hts⟩ (hM H.size) ⟨callB_of n hts (good_big (fun _ h => h) hC.2.1) rfl hrc hrs (hts _ hC.1) (hts _ hlk) hC.2.2 hR, hts _ hsta⟩ ⟨PreW.blind, fun U hU hW => ⟨rfl, by rw [hU], by rw [hU]; exact hP, hK.warm hW, hD.weaken (fun _ _ _ _ => trivial)⟩⟩ rfl hn hls hst (lv_room hcat) hdg ⟨Nat.zero_le _, Nat.zero_le _⟩) hS (fun q _ h => hF q h) hF (fun r S' t H1 locs1 ht hvm hp hB hz1 hk1 hS1 => kk r S' H1 locs1 hp ⟨by rw [← ht]; exact hB.1, hB.2.weaken (fun _ _ _ h => hF _ h), hS1⟩)
theorem clNL {post2 : Int64 → σ → Prop} {host : String} (C0 : Cx p s m args meth c cc nL own ret D cI cJ cZ A) (hM : CL WF D cI cJ cZ l y (.code y cc2 maxL2 ret2 :: gt) rm2 S As post2) (hC : Cal y cc2 maxL2 ret2 n) (hsta : Cond.static y ∈ gt) (hlk : va_Nw (.methodLinkNest own index y host) s) (hn : As.length = n) (hls : ls.size = nL) (hst : st = As.reverse ++ rest) (hcat : (rest.map fun v => v.category).sum ≤ 8) (hR : rm2.frames + 1 ≤ R.frames ∧ 8 + (maxL2 + 11) + rm2.locals ≤ R.locals) (hrc : rm2.cells = 0) (hrs : rm2.slots = 0) (hdg : decode cc pc = .ok (.invokestatic index, 3)) (hw : Wd WF D A s.heap H locs S)
    (kk : ∀ (r : Int64) (S' : σ) (H1 : Heap) (locs1 : List Loc), post2 r S' → Wd WF D A s.heap H1 locs1 S' → W p l e R s m args below meth c H1 locs1 0 0 Q (F0 m (pc + 3) ls (.long r :: rest))) : W p l e R s m args below meth c H locs 0 0 Q (F0 m pc ls st) := by
  obtain ⟨hx, hb, hr, hml, hown, hts, hlocks, hK, hA⟩ := C0
  obtain ⟨hP, hD, hS⟩ := hw
  have hF := free_all hD hS hA
  refine va_calll (va_runSN (As := As) (rest := rest) ⟨hx, hb, hml, hown, hts⟩ (hM H.size) ⟨va_cnB n hts (good_big (fun _ h => h) hC.2.1) rfl hrc hrs hlk (hts _ hC.1) hC.2.2 hR, hts _ hsta, trivial⟩ ⟨PreW.blind, fun U hU hW => ⟨rfl, by rw [hU], by rw [hU]; exact hP, hK.warm hW, hD.weaken (fun _ _ _ _ => trivial)⟩⟩ rfl hn hls hst (lv_room hcat) hdg ⟨Nat.zero_le _, Nat.zero_le _⟩) hS (fun q _ h => hF q h) hF (fun r S' t H1 locs1 ht hvm hp hB hz1 hk1 hS1 => kk r S' H1 locs1 hp ⟨by rw [← ht]; exact hB.1, hB.2.weaken (fun _ _ _ h => hF _ h), hS1⟩)
theorem clVV {post2 : σ → Prop} (C0 : Cx p s m args meth c cc nL own ret D cI cJ cZ A) (hM : CV WF D cI cJ cZ l y (.code y cc2 maxL2 ret2 :: gt) rm2 S (.ref b :: As) post2) (hC : Cal y cc2 maxL2 ret2 n) (hi : Cond.instanceMethod y ∈ gt) (hsel : Cond.selects y.cls y y ∈ gt) (hlk : Cond.methodLink own index y ∈ gt) (hci : vwCl[ci]? = some q) (hq : q.1 = y.cls) (he : (WF S)[k]? = some (b, .inr (ci, fs))) (hn : As.length = n) (hls : ls.size = nL) (hst : st = As.reverse ++ .ref b :: rest) (hcat : (rest.map fun v => v.category).sum ≤ 8) (hR : rm2.frames + 1 ≤ R.frames ∧ 8 + (maxL2 + 11) + rm2.locals ≤ R.locals) (hrc : rm2.cells = 0) (hrs : rm2.slots = 0) (hdg : decode cc pc = .ok (.invokevirtual index, 3)) (hw : Wd WF D A s.heap H locs S)
    (kk : ∀ (S' : σ) (H1 : Heap) (locs1 : List Loc), post2 S' → Wd WF D A s.heap H1 locs1 S' → W p l e R s m args below meth c H1 locs1 0 0 Q (F0 m (pc + 3) ls rest)) : W p l e R s m args below meth c H locs 0 0 Q (F0 m pc ls st) := by
  obtain ⟨hx, hb, hr, hml, hown, hts, hlocks, hK, hA⟩ := C0
  obtain ⟨hP, hD, hS⟩ := hw
  have hF := free_all hD hS hA
  refine va_callv (va_runV (C := y.cls) (As := As) (rest := rest) ⟨hx, hb, hml, hown, hts⟩ (hM H.size) (cwV n hts (good_V (fun _ h => h) hlk hi hsel hC.1 hC.2.1) rfl hrc hrs ⟨rfl, hC.2.2⟩ hR) ⟨PreW.blind, (by rw [← hq]; exact va_recv hK.1 hP hci he), fun U hU hW => ⟨rfl, by rw [hU], by rw [hU]; exact hP, hK.warm hW, hD.weaken (fun _ _ _ _ => trivial)⟩⟩ rfl hn hls hst (lv_room hcat) hdg ⟨Nat.zero_le _, Nat.zero_le _⟩) hS (fun q _ h => hF q h) hF (fun S' t H1 locs1 ht hvm hp hB hz1 hk1 hS1 => kk S' H1 locs1 hp ⟨by rw [← ht]; exact hB.1, hB.2.weaken (fun _ _ _ h => hF _ h), hS1⟩)
theorem clSV {post2 : σ → Prop} (C0 : Cx p s m args meth c cc nL own ret D cI cJ cZ A) (hM : CV WF D cI cJ cZ l y (.code y cc2 maxL2 ret2 :: gt) rm2 S As post2) (hC : Cal y cc2 maxL2 ret2 n) (hsta : Cond.static y ∈ gt) (hlk : Cond.methodLink own index y ∈ gt) (hn : As.length = n) (hls : ls.size = nL) (hst : st = As.reverse ++ rest) (hcat : (rest.map fun v => v.category).sum ≤ 8) (hR : rm2.frames + 1 ≤ R.frames ∧ 8 + (maxL2 + 11) + rm2.locals ≤ R.locals) (hrc : rm2.cells = 0) (hrs : rm2.slots = 0) (hdg : decode cc pc = .ok (.invokestatic index, 3)) (hw : Wd WF D A s.heap H locs S)
    (kk : ∀ (S' : σ) (H1 : Heap) (locs1 : List Loc), post2 S' → Wd WF D A s.heap H1 locs1 S' → W p l e R s m args below meth c H1 locs1 0 0 Q (F0 m (pc + 3) ls rest)) : W p l e R s m args below meth c H locs 0 0 Q (F0 m pc ls st) := by
  obtain ⟨hx, hb, hr, hml, hown, hts, hlocks, hK, hA⟩ := C0
  obtain ⟨hP, hD, hS⟩ := hw
  have hF := free_all hD hS hA
  refine va_callv (va_runS (As := As) (rest := rest) ⟨hx, hb, hml, hown, hts⟩ (hM H.size) ⟨callB_of n hts (good_big (fun _ h => h) hC.2.1) rfl hrc hrs (hts _ hC.1) (hts _ hlk) hC.2.2 hR, hts _ hsta⟩ ⟨PreW.blind, fun U hU hW => ⟨rfl, by rw [hU], by rw [hU]; exact hP, hK.warm hW, hD.weaken (fun _ _ _ _ => trivial)⟩⟩ rfl hn hls hst (lv_room hcat) hdg ⟨Nat.zero_le _, Nat.zero_le _⟩) hS (fun q _ h => hF q h) hF (fun S' t H1 locs1 ht hvm hp hB hz1 hk1 hS1 => kk S' H1 locs1 hp ⟨by rw [← ht]; exact hB.1, hB.2.weaken (fun _ _ _ h => hF _ h), hS1⟩)
theorem tbl_in {dflt lo hi : Int} {offs : Array Int} {len : Nat} {x v : Int32} {off : Int} {tgt : Nat} (hexec : p.tables.exec = Jvm.exec) (hb : c.code = cc) (hdg : decode cc pc = .ok (.tableswitch dflt lo hi offs, len)) (e1 : x = v) (h1 : ¬ v.toInt < lo) (h2 : ¬ hi < v.toInt) (ho : offs[(v.toInt - lo).toNat]? = some off) (ht : (pc : Int) + off = (tgt : Int)) (k : W p l e R s m args below meth c H locs 0 0 Q (F0 m tgt ls rest)) : W p l e R s m args below meth c H locs 0 0 Q (F0 m pc ls (.int x :: rest)) := by
  subst e1
  exact lv_tableIn hexec hb hdg h1 h2 ho ht k
end CLL
end
