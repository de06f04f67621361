section
-- ===== PART A: goes FIRST, ahead of the names: the tables' words, and 'selects' of the private methods out of them =====
/-- a private method of a class that the tables say can be made, by its rows of tables_1 -/
def lw_okq (q : MethodName × Nat) : Prop := (q.1.cls ≠ "java/lang/invoke/MethodHandle" ∧ q.1.cls ≠ "java/lang/invoke/VarHandle") ∧ Cond.instantiable q.1.cls q.2 ∈ tables_1 ∧ Cond.privateMethod q.1 ∈ tables_1 ∧ Cond.instanceMethod q.1 ∈ tables_1
theorem lw_p0 : lw_okq (⟨"ThreeSnowballs", "come", "(II)I"⟩, 9) := ⟨⟨by decide +kernel, by decide +kernel⟩, List.mem_of_getElem? (i := 15) (by decide +kernel), List.mem_of_getElem? (i := 331) (by decide +kernel), List.mem_of_getElem? (i := 332) (by decide +kernel)⟩
theorem lw_p1 : lw_okq (⟨"ThreeSnowballs$Group", "findFollowers", "()V"⟩, 9) := ⟨⟨by decide +kernel, by decide +kernel⟩, List.mem_of_getElem? (i := 23) (by decide +kernel), List.mem_of_getElem? (i := 339) (by decide +kernel), List.mem_of_getElem? (i := 340) (by decide +kernel)⟩
theorem lw_p2 : lw_okq (⟨"ThreeSnowballs$Group", "followerOf", "(II)I"⟩, 9) := ⟨⟨by decide +kernel, by decide +kernel⟩, List.mem_of_getElem? (i := 23) (by decide +kernel), List.mem_of_getElem? (i := 343) (by decide +kernel), List.mem_of_getElem? (i := 344) (by decide +kernel)⟩
theorem lw_p3 : lw_okq (⟨"ThreeSnowballs", "tell", "(III)V"⟩, 9) := ⟨⟨by decide +kernel, by decide +kernel⟩, List.mem_of_getElem? (i := 15) (by decide +kernel), List.mem_of_getElem? (i := 398) (by decide +kernel), List.mem_of_getElem? (i := 399) (by decide +kernel)⟩
theorem lw_p4 : lw_okq (⟨"ThreeSnowballs$LawText", "readLine", "()Z"⟩, 9) := ⟨⟨by decide +kernel, by decide +kernel⟩, List.mem_of_getElem? (i := 72) (by decide +kernel), List.mem_of_getElem? (i := 439) (by decide +kernel), List.mem_of_getElem? (i := 440) (by decide +kernel)⟩
theorem lw_p5 : lw_okq (⟨"ThreeSnowballs$LawText", "readJoined", "(II)Z"⟩, 9) := ⟨⟨by decide +kernel, by decide +kernel⟩, List.mem_of_getElem? (i := 72) (by decide +kernel), List.mem_of_getElem? (i := 443) (by decide +kernel), List.mem_of_getElem? (i := 444) (by decide +kernel)⟩
theorem lw_p6 : lw_okq (⟨"ThreeSnowballs$LawText", "readOperand", "(I)Z"⟩, 9) := ⟨⟨by decide +kernel, by decide +kernel⟩, List.mem_of_getElem? (i := 72) (by decide +kernel), List.mem_of_getElem? (i := 447) (by decide +kernel), List.mem_of_getElem? (i := 448) (by decide +kernel)⟩
theorem lw_p7 : lw_okq (⟨"ThreeSnowballs$LawText", "next", "()I"⟩, 9) := ⟨⟨by decide +kernel, by decide +kernel⟩, List.mem_of_getElem? (i := 72) (by decide +kernel), List.mem_of_getElem? (i := 451) (by decide +kernel), List.mem_of_getElem? (i := 452) (by decide +kernel)⟩
theorem lw_p8 : lw_okq (⟨"ThreeSnowballs$LawText", "readNumber", "()Z"⟩, 9) := ⟨⟨by decide +kernel, by decide +kernel⟩, List.mem_of_getElem? (i := 72) (by decide +kernel), List.mem_of_getElem? (i := 458) (by decide +kernel), List.mem_of_getElem? (i := 459) (by decide +kernel)⟩
theorem lw_p9 : lw_okq (⟨"ThreeSnowballs$LawText", "write", "(I)V"⟩, 9) := ⟨⟨by decide +kernel, by decide +kernel⟩, List.mem_of_getElem? (i := 72) (by decide +kernel), List.mem_of_getElem? (i := 462) (by decide +kernel), List.mem_of_getElem? (i := 463) (by decide +kernel)⟩
theorem lw_p10 : lw_okq (⟨"ThreeSnowballs$Odds", "findNumbers", "()V"⟩, 9) := ⟨⟨by decide +kernel, by decide +kernel⟩, List.mem_of_getElem? (i := 107) (by decide +kernel), List.mem_of_getElem? (i := 479) (by decide +kernel), List.mem_of_getElem? (i := 480) (by decide +kernel)⟩
theorem lw_p11 : lw_okq (⟨"ThreeSnowballs$LawText", "push", "(I)V"⟩, 9) := ⟨⟨by decide +kernel, by decide +kernel⟩, List.mem_of_getElem? (i := 72) (by decide +kernel), List.mem_of_getElem? (i := 494) (by decide +kernel), List.mem_of_getElem? (i := 495) (by decide +kernel)⟩
theorem lw_p12 : lw_okq (⟨"ThreeSnowballs$LawText", "pop", "()I"⟩, 9) := ⟨⟨by decide +kernel, by decide +kernel⟩, List.mem_of_getElem? (i := 72) (by decide +kernel), List.mem_of_getElem? (i := 498) (by decide +kernel), List.mem_of_getElem? (i := 499) (by decide +kernel)⟩
theorem lw_p13 : lw_okq (⟨"ThreeSnowballs$LawText", "lastOfLine", "(I)I"⟩, 9) := ⟨⟨by decide +kernel, by decide +kernel⟩, List.mem_of_getElem? (i := 72) (by decide +kernel), List.mem_of_getElem? (i := 502) (by decide +kernel), List.mem_of_getElem? (i := 503) (by decide +kernel)⟩
theorem lw_p14 : lw_okq (⟨"ThreeSnowballs$Odds", "solveAt", "(III)V"⟩, 9) := ⟨⟨by decide +kernel, by decide +kernel⟩, List.mem_of_getElem? (i := 107) (by decide +kernel), List.mem_of_getElem? (i := 516) (by decide +kernel), List.mem_of_getElem? (i := 517) (by decide +kernel)⟩
theorem lw_p15 : lw_okq (⟨"ThreeSnowballs$Odds", "bestAim", "(III)I"⟩, 9) := ⟨⟨by decide +kernel, by decide +kernel⟩, List.mem_of_getElem? (i := 107) (by decide +kernel), List.mem_of_getElem? (i := 536) (by decide +kernel), List.mem_of_getElem? (i := 537) (by decide +kernel)⟩
def lw_privs_1 : List (MethodName × Nat) := [(⟨"ThreeSnowballs", "come", "(II)I"⟩, 9), (⟨"ThreeSnowballs$Group", "findFollowers", "()V"⟩, 9), (⟨"ThreeSnowballs$Group", "followerOf", "(II)I"⟩, 9), (⟨"ThreeSnowballs", "tell", "(III)V"⟩, 9), (⟨"ThreeSnowballs$LawText", "readLine", "()Z"⟩, 9), (⟨"ThreeSnowballs$LawText", "readJoined", "(II)Z"⟩, 9), (⟨"ThreeSnowballs$LawText", "readOperand", "(I)Z"⟩, 9), (⟨"ThreeSnowballs$LawText", "next", "()I"⟩, 9), (⟨"ThreeSnowballs$LawText", "readNumber", "()Z"⟩, 9), (⟨"ThreeSnowballs$LawText", "write", "(I)V"⟩, 9), (⟨"ThreeSnowballs$Odds", "findNumbers", "()V"⟩, 9), (⟨"ThreeSnowballs$LawText", "push", "(I)V"⟩, 9), (⟨"ThreeSnowballs$LawText", "pop", "()I"⟩, 9), (⟨"ThreeSnowballs$LawText", "lastOfLine", "(I)I"⟩, 9), (⟨"ThreeSnowballs$Odds", "solveAt", "(III)V"⟩, 9), (⟨"ThreeSnowballs$Odds", "bestAim", "(III)I"⟩, 9)]
theorem lw_r1 : ∀ q ∈ lw_privs_1, lw_okq q := List.forall_mem_cons.mpr ⟨lw_p0, List.forall_mem_cons.mpr ⟨lw_p1, List.forall_mem_cons.mpr ⟨lw_p2, List.forall_mem_cons.mpr ⟨lw_p3, List.forall_mem_cons.mpr ⟨lw_p4, List.forall_mem_cons.mpr ⟨lw_p5, List.forall_mem_cons.mpr ⟨lw_p6, List.forall_mem_cons.mpr ⟨lw_p7, List.forall_mem_cons.mpr ⟨lw_p8, List.forall_mem_cons.mpr ⟨lw_p9, List.forall_mem_cons.mpr ⟨lw_p10, List.forall_mem_cons.mpr ⟨lw_p11, List.forall_mem_cons.mpr ⟨lw_p12, List.forall_mem_cons.mpr ⟨lw_p13, List.forall_mem_cons.mpr ⟨lw_p14, List.forall_mem_cons.mpr ⟨lw_p15, fun _ h => absurd h List.not_mem_nil⟩⟩⟩⟩⟩⟩⟩⟩⟩⟩⟩⟩⟩⟩⟩⟩
theorem lw_p16 : lw_okq (⟨"ThreeSnowballs$Odds", "situationNext", "(III)I"⟩, 9) := ⟨⟨by decide +kernel, by decide +kernel⟩, List.mem_of_getElem? (i := 107) (by decide +kernel), List.mem_of_getElem? (i := 540) (by decide +kernel), List.mem_of_getElem? (i := 541) (by decide +kernel)⟩
theorem lw_p17 : lw_okq (⟨"ThreeSnowballs$Odds", "mixed", "(IIII)J"⟩, 9) := ⟨⟨by decide +kernel, by decide +kernel⟩, List.mem_of_getElem? (i := 107) (by decide +kernel), List.mem_of_getElem? (i := 548) (by decide +kernel), List.mem_of_getElem? (i := 549) (by decide +kernel)⟩
theorem lw_p18 : lw_okq (⟨"ThreeSnowballs$Group", "strongest", "(II)I"⟩, 9) := ⟨⟨by decide +kernel, by decide +kernel⟩, List.mem_of_getElem? (i := 23) (by decide +kernel), List.mem_of_getElem? (i := 563) (by decide +kernel), List.mem_of_getElem? (i := 564) (by decide +kernel)⟩
theorem lw_p19 : lw_okq (⟨"ThreeSnowballs", "worthNow", "(I)J"⟩, 9) := ⟨⟨by decide +kernel, by decide +kernel⟩, List.mem_of_getElem? (i := 15) (by decide +kernel), List.mem_of_getElem? (i := 568) (by decide +kernel), List.mem_of_getElem? (i := 569) (by decide +kernel)⟩
theorem lw_p20 : lw_okq (⟨"ThreeSnowballs$Odds", "spreadFrom", "(III)V"⟩, 9) := ⟨⟨by decide +kernel, by decide +kernel⟩, List.mem_of_getElem? (i := 107) (by decide +kernel), List.mem_of_getElem? (i := 593) (by decide +kernel), List.mem_of_getElem? (i := 594) (by decide +kernel)⟩
theorem lw_p21 : lw_okq (⟨"ThreeSnowballs", "worthIfBegins", "(II)J"⟩, 9) := ⟨⟨by decide +kernel, by decide +kernel⟩, List.mem_of_getElem? (i := 15) (by decide +kernel), List.mem_of_getElem? (i := 618) (by decide +kernel), List.mem_of_getElem? (i := 619) (by decide +kernel)⟩
theorem lw_p22 : lw_okq (⟨"ThreeSnowballs", "spanIfBegins", "(I)J"⟩, 9) := ⟨⟨by decide +kernel, by decide +kernel⟩, List.mem_of_getElem? (i := 15) (by decide +kernel), List.mem_of_getElem? (i := 626) (by decide +kernel), List.mem_of_getElem? (i := 627) (by decide +kernel)⟩
theorem lw_p23 : lw_okq (⟨"ThreeSnowballs", "wantedWay", "(I)I"⟩, 9) := ⟨⟨by decide +kernel, by decide +kernel⟩, List.mem_of_getElem? (i := 15) (by decide +kernel), List.mem_of_getElem? (i := 637) (by decide +kernel), List.mem_of_getElem? (i := 638) (by decide +kernel)⟩
theorem lw_p24 : lw_okq (⟨"ThreeSnowballs", "firstMove", "()I"⟩, 9) := ⟨⟨by decide +kernel, by decide +kernel⟩, List.mem_of_getElem? (i := 15) (by decide +kernel), List.mem_of_getElem? (i := 645) (by decide +kernel), List.mem_of_getElem? (i := 646) (by decide +kernel)⟩
theorem lw_p25 : lw_okq (⟨"ThreeSnowballs", "distanceFromMean", "(I)J"⟩, 9) := ⟨⟨by decide +kernel, by decide +kernel⟩, List.mem_of_getElem? (i := 15) (by decide +kernel), List.mem_of_getElem? (i := 659) (by decide +kernel), List.mem_of_getElem? (i := 660) (by decide +kernel)⟩
theorem lw_p26 : lw_okq (⟨"ThreeSnowballs", "winner", "(II)I"⟩, 9) := ⟨⟨by decide +kernel, by decide +kernel⟩, List.mem_of_getElem? (i := 15) (by decide +kernel), List.mem_of_getElem? (i := 670) (by decide +kernel), List.mem_of_getElem? (i := 671) (by decide +kernel)⟩
theorem lw_p27 : lw_okq (⟨"ThreeSnowballs$ToldFight", "canBe", "(IJJ)Z"⟩, 8) := ⟨⟨by decide +kernel, by decide +kernel⟩, List.mem_of_getElem? (i := 178) (by decide +kernel), List.mem_of_getElem? (i := 688) (by decide +kernel), List.mem_of_getElem? (i := 689) (by decide +kernel)⟩
theorem lw_p28 : lw_okq (⟨"ThreeSnowballs$ToldFight", "follow", "(IIZ)V"⟩, 8) := ⟨⟨by decide +kernel, by decide +kernel⟩, List.mem_of_getElem? (i := 178) (by decide +kernel), List.mem_of_getElem? (i := 695) (by decide +kernel), List.mem_of_getElem? (i := 696) (by decide +kernel)⟩
theorem lw_p29 : lw_okq (⟨"ThreeSnowballs$Throwers", "own", "(III)I"⟩, 5) := ⟨⟨by decide +kernel, by decide +kernel⟩, List.mem_of_getElem? (i := 244) (by decide +kernel), List.mem_of_getElem? (i := 784) (by decide +kernel), List.mem_of_getElem? (i := 785) (by decide +kernel)⟩
theorem lw_p30 : lw_okq (⟨"ThreeSnowballs$Throwers", "run", "(IIII)I"⟩, 5) := ⟨⟨by decide +kernel, by decide +kernel⟩, List.mem_of_getElem? (i := 244) (by decide +kernel), List.mem_of_getElem? (i := 788) (by decide +kernel), List.mem_of_getElem? (i := 789) (by decide +kernel)⟩
theorem lw_p31 : lw_okq (⟨"ThreeSnowballs$Throwers", "runBody", "(IIII)I"⟩, 5) := ⟨⟨by decide +kernel, by decide +kernel⟩, List.mem_of_getElem? (i := 244) (by decide +kernel), List.mem_of_getElem? (i := 796) (by decide +kernel), List.mem_of_getElem? (i := 797) (by decide +kernel)⟩
def lw_privs_2 : List (MethodName × Nat) := [(⟨"ThreeSnowballs$Odds", "situationNext", "(III)I"⟩, 9), (⟨"ThreeSnowballs$Odds", "mixed", "(IIII)J"⟩, 9), (⟨"ThreeSnowballs$Group", "strongest", "(II)I"⟩, 9), (⟨"ThreeSnowballs", "worthNow", "(I)J"⟩, 9), (⟨"ThreeSnowballs$Odds", "spreadFrom", "(III)V"⟩, 9), (⟨"ThreeSnowballs", "worthIfBegins", "(II)J"⟩, 9), (⟨"ThreeSnowballs", "spanIfBegins", "(I)J"⟩, 9), (⟨"ThreeSnowballs", "wantedWay", "(I)I"⟩, 9), (⟨"ThreeSnowballs", "firstMove", "()I"⟩, 9), (⟨"ThreeSnowballs", "distanceFromMean", "(I)J"⟩, 9), (⟨"ThreeSnowballs", "winner", "(II)I"⟩, 9), (⟨"ThreeSnowballs$ToldFight", "canBe", "(IJJ)Z"⟩, 8), (⟨"ThreeSnowballs$ToldFight", "follow", "(IIZ)V"⟩, 8), (⟨"ThreeSnowballs$Throwers", "own", "(III)I"⟩, 5), (⟨"ThreeSnowballs$Throwers", "run", "(IIII)I"⟩, 5), (⟨"ThreeSnowballs$Throwers", "runBody", "(IIII)I"⟩, 5)]
theorem lw_r2 : ∀ q ∈ lw_privs_2, lw_okq q := List.forall_mem_cons.mpr ⟨lw_p16, List.forall_mem_cons.mpr ⟨lw_p17, List.forall_mem_cons.mpr ⟨lw_p18, List.forall_mem_cons.mpr ⟨lw_p19, List.forall_mem_cons.mpr ⟨lw_p20, List.forall_mem_cons.mpr ⟨lw_p21, List.forall_mem_cons.mpr ⟨lw_p22, List.forall_mem_cons.mpr ⟨lw_p23, List.forall_mem_cons.mpr ⟨lw_p24, List.forall_mem_cons.mpr ⟨lw_p25, List.forall_mem_cons.mpr ⟨lw_p26, List.forall_mem_cons.mpr ⟨lw_p27, List.forall_mem_cons.mpr ⟨lw_p28, List.forall_mem_cons.mpr ⟨lw_p29, List.forall_mem_cons.mpr ⟨lw_p30, List.forall_mem_cons.mpr ⟨lw_p31, fun _ h => absurd h List.not_mem_nil⟩⟩⟩⟩⟩⟩⟩⟩⟩⟩⟩⟩⟩⟩⟩⟩
theorem lw_p32 : lw_okq (⟨"ThreeSnowballs", "refusal", "(II)I"⟩, 9) := ⟨⟨by decide +kernel, by decide +kernel⟩, List.mem_of_getElem? (i := 15) (by decide +kernel), List.mem_of_getElem? (i := 825) (by decide +kernel), List.mem_of_getElem? (i := 826) (by decide +kernel)⟩
theorem lw_p33 : lw_okq (⟨"ThreeSnowballs$Shelf", "lowestBits", "(J)J"⟩, 4) := ⟨⟨by decide +kernel, by decide +kernel⟩, List.mem_of_getElem? (i := 271) (by decide +kernel), List.mem_of_getElem? (i := 833) (by decide +kernel), List.mem_of_getElem? (i := 834) (by decide +kernel)⟩
theorem lw_p34 : lw_okq (⟨"ThreeSnowballsModel", "adds", "(II)V"⟩, 50) := ⟨⟨by decide +kernel, by decide +kernel⟩, List.mem_of_getElem? (i := 856) (by decide +kernel), List.mem_of_getElem? (i := 1033) (by decide +kernel), List.mem_of_getElem? (i := 1034) (by decide +kernel)⟩
theorem lw_p35 : lw_okq (⟨"ThreeSnowballsModel", "startsAnew", "()V"⟩, 50) := ⟨⟨by decide +kernel, by decide +kernel⟩, List.mem_of_getElem? (i := 856) (by decide +kernel), List.mem_of_getElem? (i := 1037) (by decide +kernel), List.mem_of_getElem? (i := 1038) (by decide +kernel)⟩
theorem lw_p36 : lw_okq (⟨"ThreeSnowballsModel", "all", "()I"⟩, 50) := ⟨⟨by decide +kernel, by decide +kernel⟩, List.mem_of_getElem? (i := 856) (by decide +kernel), List.mem_of_getElem? (i := 1041) (by decide +kernel), List.mem_of_getElem? (i := 1042) (by decide +kernel)⟩
theorem lw_p37 : lw_okq (⟨"ThreeSnowballsModel", "isPlayer", "(I)Z"⟩, 50) := ⟨⟨by decide +kernel, by decide +kernel⟩, List.mem_of_getElem? (i := 856) (by decide +kernel), List.mem_of_getElem? (i := 1057) (by decide +kernel), List.mem_of_getElem? (i := 1058) (by decide +kernel)⟩
theorem lw_p38 : lw_okq (⟨"ThreeSnowballsModel", "becomes", "(II)I"⟩, 50) := ⟨⟨by decide +kernel, by decide +kernel⟩, List.mem_of_getElem? (i := 856) (by decide +kernel), List.mem_of_getElem? (i := 1061) (by decide +kernel), List.mem_of_getElem? (i := 1062) (by decide +kernel)⟩
theorem lw_p39 : lw_okq (⟨"ThreeSnowballsModel", "workOut", "(II)I"⟩, 50) := ⟨⟨by decide +kernel, by decide +kernel⟩, List.mem_of_getElem? (i := 856) (by decide +kernel), List.mem_of_getElem? (i := 1095) (by decide +kernel), List.mem_of_getElem? (i := 1096) (by decide +kernel)⟩
theorem lw_p40 : lw_okq (⟨"ThreeSnowballsModel", "either", "()I"⟩, 50) := ⟨⟨by decide +kernel, by decide +kernel⟩, List.mem_of_getElem? (i := 856) (by decide +kernel), List.mem_of_getElem? (i := 1099) (by decide +kernel), List.mem_of_getElem? (i := 1100) (by decide +kernel)⟩
theorem lw_p41 : lw_okq (⟨"ThreeSnowballsModel", "both", "()I"⟩, 50) := ⟨⟨by decide +kernel, by decide +kernel⟩, List.mem_of_getElem? (i := 856) (by decide +kernel), List.mem_of_getElem? (i := 1103) (by decide +kernel), List.mem_of_getElem? (i := 1104) (by decide +kernel)⟩
theorem lw_p42 : lw_okq (⟨"ThreeSnowballsModel", "compared", "()I"⟩, 50) := ⟨⟨by decide +kernel, by decide +kernel⟩, List.mem_of_getElem? (i := 856) (by decide +kernel), List.mem_of_getElem? (i := 1107) (by decide +kernel), List.mem_of_getElem? (i := 1108) (by decide +kernel)⟩
theorem lw_p43 : lw_okq (⟨"ThreeSnowballsModel", "sums", "()I"⟩, 50) := ⟨⟨by decide +kernel, by decide +kernel⟩, List.mem_of_getElem? (i := 856) (by decide +kernel), List.mem_of_getElem? (i := 1111) (by decide +kernel), List.mem_of_getElem? (i := 1112) (by decide +kernel)⟩
theorem lw_p44 : lw_okq (⟨"ThreeSnowballsModel", "product", "()I"⟩, 50) := ⟨⟨by decide +kernel, by decide +kernel⟩, List.mem_of_getElem? (i := 856) (by decide +kernel), List.mem_of_getElem? (i := 1115) (by decide +kernel), List.mem_of_getElem? (i := 1116) (by decide +kernel)⟩
theorem lw_p45 : lw_okq (⟨"ThreeSnowballsModel", "one", "()I"⟩, 50) := ⟨⟨by decide +kernel, by decide +kernel⟩, List.mem_of_getElem? (i := 856) (by decide +kernel), List.mem_of_getElem? (i := 1119) (by decide +kernel), List.mem_of_getElem? (i := 1120) (by decide +kernel)⟩
theorem lw_p46 : lw_okq (⟨"ThreeSnowballsModel", "byteAt", "()I"⟩, 50) := ⟨⟨by decide +kernel, by decide +kernel⟩, List.mem_of_getElem? (i := 856) (by decide +kernel), List.mem_of_getElem? (i := 1123) (by decide +kernel), List.mem_of_getElem? (i := 1124) (by decide +kernel)⟩
theorem lw_p47 : lw_okq (⟨"ThreeSnowballsModel", "wrong", "()I"⟩, 50) := ⟨⟨by decide +kernel, by decide +kernel⟩, List.mem_of_getElem? (i := 856) (by decide +kernel), List.mem_of_getElem? (i := 1127) (by decide +kernel), List.mem_of_getElem? (i := 1128) (by decide +kernel)⟩
def lw_privs_3 : List (MethodName × Nat) := [(⟨"ThreeSnowballs", "refusal", "(II)I"⟩, 9), (⟨"ThreeSnowballs$Shelf", "lowestBits", "(J)J"⟩, 4), (⟨"ThreeSnowballsModel", "adds", "(II)V"⟩, 50), (⟨"ThreeSnowballsModel", "startsAnew", "()V"⟩, 50), (⟨"ThreeSnowballsModel", "all", "()I"⟩, 50), (⟨"ThreeSnowballsModel", "isPlayer", "(I)Z"⟩, 50), (⟨"ThreeSnowballsModel", "becomes", "(II)I"⟩, 50), (⟨"ThreeSnowballsModel", "workOut", "(II)I"⟩, 50), (⟨"ThreeSnowballsModel", "either", "()I"⟩, 50), (⟨"ThreeSnowballsModel", "both", "()I"⟩, 50), (⟨"ThreeSnowballsModel", "compared", "()I"⟩, 50), (⟨"ThreeSnowballsModel", "sums", "()I"⟩, 50), (⟨"ThreeSnowballsModel", "product", "()I"⟩, 50), (⟨"ThreeSnowballsModel", "one", "()I"⟩, 50), (⟨"ThreeSnowballsModel", "byteAt", "()I"⟩, 50), (⟨"ThreeSnowballsModel", "wrong", "()I"⟩, 50)]
theorem lw_r3 : ∀ q ∈ lw_privs_3, lw_okq q := List.forall_mem_cons.mpr ⟨lw_p32, List.forall_mem_cons.mpr ⟨lw_p33, List.forall_mem_cons.mpr ⟨lw_p34, List.forall_mem_cons.mpr ⟨lw_p35, List.forall_mem_cons.mpr ⟨lw_p36, List.forall_mem_cons.mpr ⟨lw_p37, List.forall_mem_cons.mpr ⟨lw_p38, List.forall_mem_cons.mpr ⟨lw_p39, List.forall_mem_cons.mpr ⟨lw_p40, List.forall_mem_cons.mpr ⟨lw_p41, List.forall_mem_cons.mpr ⟨lw_p42, List.forall_mem_cons.mpr ⟨lw_p43, List.forall_mem_cons.mpr ⟨lw_p44, List.forall_mem_cons.mpr ⟨lw_p45, List.forall_mem_cons.mpr ⟨lw_p46, List.forall_mem_cons.mpr ⟨lw_p47, fun _ h => absurd h List.not_mem_nil⟩⟩⟩⟩⟩⟩⟩⟩⟩⟩⟩⟩⟩⟩⟩⟩
theorem lw_p48 : lw_okq (⟨"ThreeSnowballsModel", "takes", "(I)Z"⟩, 50) := ⟨⟨by decide +kernel, by decide +kernel⟩, List.mem_of_getElem? (i := 856) (by decide +kernel), List.mem_of_getElem? (i := 1131) (by decide +kernel), List.mem_of_getElem? (i := 1132) (by decide +kernel)⟩
theorem lw_p49 : lw_okq (⟨"ThreeSnowballsModel", "worthOf", "(I)J"⟩, 50) := ⟨⟨by decide +kernel, by decide +kernel⟩, List.mem_of_getElem? (i := 856) (by decide +kernel), List.mem_of_getElem? (i := 1144) (by decide +kernel), List.mem_of_getElem? (i := 1145) (by decide +kernel)⟩
theorem lw_p50 : lw_okq (⟨"ThreeSnowballsModel", "solves", "()V"⟩, 50) := ⟨⟨by decide +kernel, by decide +kernel⟩, List.mem_of_getElem? (i := 856) (by decide +kernel), List.mem_of_getElem? (i := 1148) (by decide +kernel), List.mem_of_getElem? (i := 1149) (by decide +kernel)⟩
theorem lw_p51 : lw_okq (⟨"ThreeSnowballsModel", "isOver", "(II)Z"⟩, 50) := ⟨⟨by decide +kernel, by decide +kernel⟩, List.mem_of_getElem? (i := 856) (by decide +kernel), List.mem_of_getElem? (i := 1152) (by decide +kernel), List.mem_of_getElem? (i := 1153) (by decide +kernel)⟩
theorem lw_p52 : lw_okq (⟨"ThreeSnowballsModel", "ends1", "(III)V"⟩, 50) := ⟨⟨by decide +kernel, by decide +kernel⟩, List.mem_of_getElem? (i := 856) (by decide +kernel), List.mem_of_getElem? (i := 1159) (by decide +kernel), List.mem_of_getElem? (i := 1160) (by decide +kernel)⟩
theorem lw_p53 : lw_okq (⟨"ThreeSnowballsModel", "settles", "(III)V"⟩, 50) := ⟨⟨by decide +kernel, by decide +kernel⟩, List.mem_of_getElem? (i := 856) (by decide +kernel), List.mem_of_getElem? (i := 1166) (by decide +kernel), List.mem_of_getElem? (i := 1167) (by decide +kernel)⟩
theorem lw_p54 : lw_okq (⟨"ThreeSnowballsModel", "plainAim", "(II)I"⟩, 50) := ⟨⟨by decide +kernel, by decide +kernel⟩, List.mem_of_getElem? (i := 856) (by decide +kernel), List.mem_of_getElem? (i := 1170) (by decide +kernel), List.mem_of_getElem? (i := 1171) (by decide +kernel)⟩
theorem lw_p55 : lw_okq (⟨"ThreeSnowballsModel", "byHits", "(IIZ)I"⟩, 50) := ⟨⟨by decide +kernel, by decide +kernel⟩, List.mem_of_getElem? (i := 856) (by decide +kernel), List.mem_of_getElem? (i := 1174) (by decide +kernel), List.mem_of_getElem? (i := 1175) (by decide +kernel)⟩
theorem lw_p56 : lw_okq (⟨"ThreeSnowballsModel", "nextOf", "(II)I"⟩, 50) := ⟨⟨by decide +kernel, by decide +kernel⟩, List.mem_of_getElem? (i := 856) (by decide +kernel), List.mem_of_getElem? (i := 1178) (by decide +kernel), List.mem_of_getElem? (i := 1179) (by decide +kernel)⟩
theorem lw_p57 : lw_okq (⟨"ThreeSnowballsModel", "worthBy", "(IIIII)V"⟩, 50) := ⟨⟨by decide +kernel, by decide +kernel⟩, List.mem_of_getElem? (i := 856) (by decide +kernel), List.mem_of_getElem? (i := 1182) (by decide +kernel), List.mem_of_getElem? (i := 1183) (by decide +kernel)⟩
theorem lw_p58 : lw_okq (⟨"ThreeSnowballsModel", "hitsAt", "(IIII)I"⟩, 50) := ⟨⟨by decide +kernel, by decide +kernel⟩, List.mem_of_getElem? (i := 856) (by decide +kernel), List.mem_of_getElem? (i := 1186) (by decide +kernel), List.mem_of_getElem? (i := 1187) (by decide +kernel)⟩
theorem lw_p59 : lw_okq (⟨"ThreeSnowballsModel", "hitsOf", "(IIII)I"⟩, 50) := ⟨⟨by decide +kernel, by decide +kernel⟩, List.mem_of_getElem? (i := 856) (by decide +kernel), List.mem_of_getElem? (i := 1190) (by decide +kernel), List.mem_of_getElem? (i := 1191) (by decide +kernel)⟩
theorem lw_p60 : lw_okq (⟨"ThreeSnowballsModel", "worthFrom", "(III)J"⟩, 50) := ⟨⟨by decide +kernel, by decide +kernel⟩, List.mem_of_getElem? (i := 856) (by decide +kernel), List.mem_of_getElem? (i := 1194) (by decide +kernel), List.mem_of_getElem? (i := 1195) (by decide +kernel)⟩
theorem lw_p61 : lw_okq (⟨"ThreeSnowballsModel", "startOf", "(II)I"⟩, 50) := ⟨⟨by decide +kernel, by decide +kernel⟩, List.mem_of_getElem? (i := 856) (by decide +kernel), List.mem_of_getElem? (i := 1198) (by decide +kernel), List.mem_of_getElem? (i := 1199) (by decide +kernel)⟩
theorem lw_p62 : lw_okq (⟨"ThreeSnowballsModel", "valueOf", "(II)J"⟩, 50) := ⟨⟨by decide +kernel, by decide +kernel⟩, List.mem_of_getElem? (i := 856) (by decide +kernel), List.mem_of_getElem? (i := 1202) (by decide +kernel), List.mem_of_getElem? (i := 1203) (by decide +kernel)⟩
theorem lw_p63 : lw_okq (⟨"ThreeSnowballsModel", "atEnd", "(IIII)J"⟩, 50) := ⟨⟨by decide +kernel, by decide +kernel⟩, List.mem_of_getElem? (i := 856) (by decide +kernel), List.mem_of_getElem? (i := 1206) (by decide +kernel), List.mem_of_getElem? (i := 1207) (by decide +kernel)⟩
def lw_privs_4 : List (MethodName × Nat) := [(⟨"ThreeSnowballsModel", "takes", "(I)Z"⟩, 50), (⟨"ThreeSnowballsModel", "worthOf", "(I)J"⟩, 50), (⟨"ThreeSnowballsModel", "solves", "()V"⟩, 50), (⟨"ThreeSnowballsModel", "isOver", "(II)Z"⟩, 50), (⟨"ThreeSnowballsModel", "ends1", "(III)V"⟩, 50), (⟨"ThreeSnowballsModel", "settles", "(III)V"⟩, 50), (⟨"ThreeSnowballsModel", "plainAim", "(II)I"⟩, 50), (⟨"ThreeSnowballsModel", "byHits", "(IIZ)I"⟩, 50), (⟨"ThreeSnowballsModel", "nextOf", "(II)I"⟩, 50), (⟨"ThreeSnowballsModel", "worthBy", "(IIIII)V"⟩, 50), (⟨"ThreeSnowballsModel", "hitsAt", "(IIII)I"⟩, 50), (⟨"ThreeSnowballsModel", "hitsOf", "(IIII)I"⟩, 50), (⟨"ThreeSnowballsModel", "worthFrom", "(III)J"⟩, 50), (⟨"ThreeSnowballsModel", "startOf", "(II)I"⟩, 50), (⟨"ThreeSnowballsModel", "valueOf", "(II)J"⟩, 50), (⟨"ThreeSnowballsModel", "atEnd", "(IIII)J"⟩, 50)]
theorem lw_r4 : ∀ q ∈ lw_privs_4, lw_okq q := List.forall_mem_cons.mpr ⟨lw_p48, List.forall_mem_cons.mpr ⟨lw_p49, List.forall_mem_cons.mpr ⟨lw_p50, List.forall_mem_cons.mpr ⟨lw_p51, List.forall_mem_cons.mpr ⟨lw_p52, List.forall_mem_cons.mpr ⟨lw_p53, List.forall_mem_cons.mpr ⟨lw_p54, List.forall_mem_cons.mpr ⟨lw_p55, List.forall_mem_cons.mpr ⟨lw_p56, List.forall_mem_cons.mpr ⟨lw_p57, List.forall_mem_cons.mpr ⟨lw_p58, List.forall_mem_cons.mpr ⟨lw_p59, List.forall_mem_cons.mpr ⟨lw_p60, List.forall_mem_cons.mpr ⟨lw_p61, List.forall_mem_cons.mpr ⟨lw_p62, List.forall_mem_cons.mpr ⟨lw_p63, fun _ h => absurd h List.not_mem_nil⟩⟩⟩⟩⟩⟩⟩⟩⟩⟩⟩⟩⟩⟩⟩⟩
theorem lw_p64 : lw_okq (⟨"ThreeSnowballsModel", "partOf", "(JI)J"⟩, 50) := ⟨⟨by decide +kernel, by decide +kernel⟩, List.mem_of_getElem? (i := 856) (by decide +kernel), List.mem_of_getElem? (i := 1210) (by decide +kernel), List.mem_of_getElem? (i := 1211) (by decide +kernel)⟩
theorem lw_p65 : lw_okq (⟨"ThreeSnowballsModel", "wouldOf", "(I)I"⟩, 50) := ⟨⟨by decide +kernel, by decide +kernel⟩, List.mem_of_getElem? (i := 856) (by decide +kernel), List.mem_of_getElem? (i := 1238) (by decide +kernel), List.mem_of_getElem? (i := 1239) (by decide +kernel)⟩
theorem lw_p66 : lw_okq (⟨"ThreeSnowballsModel", "leagueOf", "(II)I"⟩, 50) := ⟨⟨by decide +kernel, by decide +kernel⟩, List.mem_of_getElem? (i := 856) (by decide +kernel), List.mem_of_getElem? (i := 1259) (by decide +kernel), List.mem_of_getElem? (i := 1260) (by decide +kernel)⟩
theorem lw_p67 : lw_okq (⟨"ThreeSnowballsModel", "looksAt", "(I)V"⟩, 50) := ⟨⟨by decide +kernel, by decide +kernel⟩, List.mem_of_getElem? (i := 856) (by decide +kernel), List.mem_of_getElem? (i := 1271) (by decide +kernel), List.mem_of_getElem? (i := 1272) (by decide +kernel)⟩
theorem lw_p68 : lw_okq (⟨"ThreeSnowballsModel", "mayThrow", "(IIIJJ)Z"⟩, 50) := ⟨⟨by decide +kernel, by decide +kernel⟩, List.mem_of_getElem? (i := 856) (by decide +kernel), List.mem_of_getElem? (i := 1275) (by decide +kernel), List.mem_of_getElem? (i := 1276) (by decide +kernel)⟩
theorem lw_p69 : lw_okq (⟨"ThreeSnowballsModel", "isBody", "(I)Z"⟩, 50) := ⟨⟨by decide +kernel, by decide +kernel⟩, List.mem_of_getElem? (i := 856) (by decide +kernel), List.mem_of_getElem? (i := 1319) (by decide +kernel), List.mem_of_getElem? (i := 1320) (by decide +kernel)⟩
theorem lw_p70 : lw_okq (⟨"ThreeSnowballsModel", "aimsAs", "(II)I"⟩, 50) := ⟨⟨by decide +kernel, by decide +kernel⟩, List.mem_of_getElem? (i := 856) (by decide +kernel), List.mem_of_getElem? (i := 1323) (by decide +kernel), List.mem_of_getElem? (i := 1324) (by decide +kernel)⟩
theorem lw_p71 : lw_okq (⟨"ThreeSnowballsModel", "begins", "(I)V"⟩, 50) := ⟨⟨by decide +kernel, by decide +kernel⟩, List.mem_of_getElem? (i := 856) (by decide +kernel), List.mem_of_getElem? (i := 1327) (by decide +kernel), List.mem_of_getElem? (i := 1328) (by decide +kernel)⟩
theorem lw_p72 : lw_okq (⟨"ThreeSnowballsModel", "throwsAs", "(II)I"⟩, 50) := ⟨⟨by decide +kernel, by decide +kernel⟩, List.mem_of_getElem? (i := 856) (by decide +kernel), List.mem_of_getElem? (i := 1331) (by decide +kernel), List.mem_of_getElem? (i := 1332) (by decide +kernel)⟩
theorem lw_p73 : lw_okq (⟨"ThreeSnowballsModel", "hitsAs", "(II)I"⟩, 50) := ⟨⟨by decide +kernel, by decide +kernel⟩, List.mem_of_getElem? (i := 856) (by decide +kernel), List.mem_of_getElem? (i := 1335) (by decide +kernel), List.mem_of_getElem? (i := 1336) (by decide +kernel)⟩
theorem lw_p74 : lw_okq (⟨"ThreeSnowballsModel", "tellsAs", "(II)I"⟩, 50) := ⟨⟨by decide +kernel, by decide +kernel⟩, List.mem_of_getElem? (i := 856) (by decide +kernel), List.mem_of_getElem? (i := 1339) (by decide +kernel), List.mem_of_getElem? (i := 1340) (by decide +kernel)⟩
theorem lw_p75 : lw_okq (⟨"ThreeSnowballsModel", "refusal", "(II)I"⟩, 50) := ⟨⟨by decide +kernel, by decide +kernel⟩, List.mem_of_getElem? (i := 856) (by decide +kernel), List.mem_of_getElem? (i := 1359) (by decide +kernel), List.mem_of_getElem? (i := 1360) (by decide +kernel)⟩
theorem lw_p76 : lw_okq (⟨"ThreeSnowballsModel", "kindOf", "(I)I"⟩, 50) := ⟨⟨by decide +kernel, by decide +kernel⟩, List.mem_of_getElem? (i := 856) (by decide +kernel), List.mem_of_getElem? (i := 1378) (by decide +kernel), List.mem_of_getElem? (i := 1379) (by decide +kernel)⟩
def lw_privs_5 : List (MethodName × Nat) := [(⟨"ThreeSnowballsModel", "partOf", "(JI)J"⟩, 50), (⟨"ThreeSnowballsModel", "wouldOf", "(I)I"⟩, 50), (⟨"ThreeSnowballsModel", "leagueOf", "(II)I"⟩, 50), (⟨"ThreeSnowballsModel", "looksAt", "(I)V"⟩, 50), (⟨"ThreeSnowballsModel", "mayThrow", "(IIIJJ)Z"⟩, 50), (⟨"ThreeSnowballsModel", "isBody", "(I)Z"⟩, 50), (⟨"ThreeSnowballsModel", "aimsAs", "(II)I"⟩, 50), (⟨"ThreeSnowballsModel", "begins", "(I)V"⟩, 50), (⟨"ThreeSnowballsModel", "throwsAs", "(II)I"⟩, 50), (⟨"ThreeSnowballsModel", "hitsAs", "(II)I"⟩, 50), (⟨"ThreeSnowballsModel", "tellsAs", "(II)I"⟩, 50), (⟨"ThreeSnowballsModel", "refusal", "(II)I"⟩, 50), (⟨"ThreeSnowballsModel", "kindOf", "(I)I"⟩, 50)]
theorem lw_r5 : ∀ q ∈ lw_privs_5, lw_okq q := List.forall_mem_cons.mpr ⟨lw_p64, List.forall_mem_cons.mpr ⟨lw_p65, List.forall_mem_cons.mpr ⟨lw_p66, List.forall_mem_cons.mpr ⟨lw_p67, List.forall_mem_cons.mpr ⟨lw_p68, List.forall_mem_cons.mpr ⟨lw_p69, List.forall_mem_cons.mpr ⟨lw_p70, List.forall_mem_cons.mpr ⟨lw_p71, List.forall_mem_cons.mpr ⟨lw_p72, List.forall_mem_cons.mpr ⟨lw_p73, List.forall_mem_cons.mpr ⟨lw_p74, List.forall_mem_cons.mpr ⟨lw_p75, List.forall_mem_cons.mpr ⟨lw_p76, fun _ h => absurd h List.not_mem_nil⟩⟩⟩⟩⟩⟩⟩⟩⟩⟩⟩⟩⟩
def lw_privs : List (MethodName × Nat) := lw_privs_1 ++ (lw_privs_2 ++ (lw_privs_3 ++ (lw_privs_4 ++ (lw_privs_5))))
def lw_tbl : List Cond := k2_sels lw_privs ++ tables_1
theorem lw_privs_ok : ∀ q ∈ lw_privs, lw_okq q := by
  show ∀ q ∈ lw_privs_1 ++ (lw_privs_2 ++ (lw_privs_3 ++ (lw_privs_4 ++ (lw_privs_5)))), lw_okq q
  exact List.forall_mem_append.mpr ⟨lw_r1, List.forall_mem_append.mpr ⟨lw_r2, List.forall_mem_append.mpr ⟨lw_r3, List.forall_mem_append.mpr ⟨lw_r4, lw_r5⟩⟩⟩⟩
-- ===== end of PART A; then your names; then what follows =====
end
section
/-! ===== BEGIN words of one list among another's, by their places ===== -/
theorem goodIn_r {big : List Cond} (ws : List Cond) (ps : List Nat) (hp : ws = ps.filterMap (fun i => big[i]?)) (h : ws.all goodWord = true) : GoodIn big ws := by
  intro w hw
  have h1 := List.all_eq_true.mp h w hw
  rw [hp] at hw
  obtain ⟨i, -, hi⟩ := List.mem_filterMap.mp hw
  have hm : w ∈ big := by first | exact List.mem_of_getElem? hi | exact List.getElem?_mem hi
  exact ⟨hm, good_of_word h1⟩
theorem goodIn_app {big a b : List Cond} (ha : GoodIn big a) (hb : GoodIn big b) : GoodIn big (a ++ b) := fun w h => (List.mem_append.mp h).elim (ha w) (hb w)
theorem goodIn_ca {big a b : List Cond} {c : Cond} (ha : GoodIn big (c :: a)) (hb : GoodIn big b) : GoodIn big (c :: (a ++ b)) := fun w h => (List.mem_cons.mp h).elim (fun e => ha w (List.mem_cons.mpr (Or.inl e))) (fun h => (List.mem_append.mp h).elim (fun h => ha w (List.mem_cons.mpr (Or.inr h))) (hb w))
theorem goodIn_sub {big ws : List Cond} (hm : ∀ w ∈ ws, w ∈ big) (h : ws.all goodWord = true) : GoodIn big ws := fun w hw => ⟨hm w hw, good_of_word (List.all_eq_true.mp h w hw)⟩
/-! ===== END ===== -/

/-! ===== BEGIN printed: names, fields, word lists, decode rows ===== -/
def RX0 : String := "ThreeSnowballs$Changes"
def TX0 : u_T := fun k => match k with
  | 0 => ("ThreeSnowballs$Changes", "players", "[I", true)
  | 1 => ("ThreeSnowballs$Changes", "whats", "[I", true)
  | 2 => ("ThreeSnowballs$Changes", "before", "[I", true)
  | 3 => ("ThreeSnowballs$Changes", "behind", "[I", true)
  | 4 => ("ThreeSnowballs$Changes", "done", "I", false)
  | _ => ("ThreeSnowballs$Changes", "kept", "I", false)
def tyX0 : Nat → FieldType := fun k => match k with
  | 0 => .array .int
  | 1 => .array .int
  | 2 => .array .int
  | 3 => .array .int
  | 4 => .int
  | _ => .int
abbrev wsX00 : List Cond := u_ws RX0 TX0 6
theorem nmX0 : ∀ a, a < 6 → ∀ b, b < 6 → a ≠ b → (TX0 a).2.1 ≠ (TX0 b).2.1 := by decide +kernel
theorem tyX0_ok : ∀ k, k < 6 → parseFieldDescriptor (TX0 k).2.2.1 = some (tyX0 k) := by decide +kernel
abbrev cX0_init : ByteArray := prog_2_method_1_code
def yX0_init : MethodName := ⟨RX0, "<init>", "()V"⟩
abbrev cX0_came : ByteArray := prog_2_method_2_code
def yX0_came : MethodName := ⟨RX0, "came", "(IIII)V"⟩
abbrev cX0_takeBack : ByteArray := prog_2_method_3_code
def yX0_takeBack : MethodName := ⟨RX0, "takeBack", "()I"⟩
abbrev cX0_takeAgain : ByteArray := prog_2_method_4_code
def yX0_takeAgain : MethodName := ⟨RX0, "takeAgain", "()I"⟩
abbrev cX0_dropFirst : ByteArray := prog_2_method_5_code
def yX0_dropFirst : MethodName := ⟨RX0, "dropFirst", "([I)V"⟩
def RX1 : String := "ThreeSnowballs$Deed"
def TX1 : u_T := fun k => match k with
  | 0 => ("ThreeSnowballs$Deed", "set", "I", false)
  | 1 => ("ThreeSnowballs$Deed", "thrown", "I", false)
  | 2 => ("ThreeSnowballs$Deed", "turn", "I", false)
  | 3 => ("ThreeSnowballs$Deed", "group", "LThreeSnowballs$Group;", true)
  | 4 => ("ThreeSnowballs$Deed", "hasImage", "Z", false)
  | 5 => ("ThreeSnowballs$Deed", "imageSet", "I", false)
  | 6 => ("ThreeSnowballs$Deed", "imageThrown", "I", false)
  | _ => ("ThreeSnowballs$Deed", "imageTurn", "I", false)
def tyX1 : Nat → FieldType := fun k => match k with
  | 0 => .int
  | 1 => .int
  | 2 => .int
  | 3 => .object "ThreeSnowballs$Group"
  | 4 => .boolean
  | 5 => .int
  | 6 => .int
  | _ => .int
abbrev wsX10 : List Cond := u_ws RX1 TX1 8
theorem nmX1 : ∀ a, a < 8 → ∀ b, b < 8 → a ≠ b → (TX1 a).2.1 ≠ (TX1 b).2.1 := by decide +kernel
theorem tyX1_ok : ∀ k, k < 8 → parseFieldDescriptor (TX1 k).2.2.1 = some (tyX1 k) := by decide +kernel
abbrev cX1_init : ByteArray := prog_3_method_1_code
def yX1_init : MethodName := ⟨RX1, "<init>", "(LThreeSnowballs$Group;)V"⟩
abbrev cX1_start : ByteArray := prog_3_method_2_code
def yX1_start : MethodName := ⟨RX1, "start", "()V"⟩
abbrev cX1_startForNewGroup : ByteArray := prog_3_method_3_code
def yX1_startForNewGroup : MethodName := ⟨RX1, "startForNewGroup", "()V"⟩
abbrev cX1_throwAt : ByteArray := prog_3_method_4_code
def yX1_throwAt : MethodName := ⟨RX1, "throwAt", "(IZ)V"⟩
abbrev cX1_keepImage : ByteArray := prog_3_method_5_code
def yX1_keepImage : MethodName := ⟨RX1, "keepImage", "()V"⟩
abbrev cX1_takeImage : ByteArray := prog_3_method_6_code
def yX1_takeImage : MethodName := ⟨RX1, "takeImage", "()Z"⟩
def RX2 : String := "ThreeSnowballs$Group"
def TX2 : u_T := fun k => match k with
  | 0 => ("ThreeSnowballs$Group", "hits", "[I", true)
  | 1 => ("ThreeSnowballs$Group", "ways", "[I", true)
  | 2 => ("ThreeSnowballs$Group", "toldOnes", "[I", true)
  | 3 => ("ThreeSnowballs$Group", "inOrder", "[I", true)
  | 4 => ("ThreeSnowballs$Group", "places", "[I", true)
  | 5 => ("ThreeSnowballs$Group", "prizes", "[I", true)
  | 6 => ("ThreeSnowballs$Group", "size", "I", false)
  | 7 => ("ThreeSnowballs$Group", "bell", "I", false)
  | _ => ("ThreeSnowballs$Group", "followers", "[I", true)
def tyX2 : Nat → FieldType := fun k => match k with
  | 0 => .array .int
  | 1 => .array .int
  | 2 => .array .int
  | 3 => .array .int
  | 4 => .array .int
  | 5 => .array .int
  | 6 => .int
  | 7 => .int
  | _ => .array .int
abbrev wsX20 : List Cond := u_ws RX2 TX2 9
theorem nmX2 : ∀ a, a < 9 → ∀ b, b < 9 → a ≠ b → (TX2 a).2.1 ≠ (TX2 b).2.1 := by decide +kernel
theorem tyX2_ok : ∀ k, k < 9 → parseFieldDescriptor (TX2 k).2.2.1 = some (tyX2 k) := by decide +kernel
abbrev cX2_init : ByteArray := prog_4_method_1_code
def yX2_init : MethodName := ⟨RX2, "<init>", "()V"⟩
abbrev cX2_has : ByteArray := prog_4_method_2_code
def yX2_has : MethodName := ⟨RX2, "has", "(I)Z"⟩
abbrev cX2_all : ByteArray := prog_4_method_3_code
def yX2_all : MethodName := ⟨RX2, "all", "()I"⟩
abbrev cX2_told : ByteArray := prog_4_method_4_code
def yX2_told : MethodName := ⟨RX2, "told", "(II)I"⟩
abbrev cX2_come : ByteArray := prog_4_method_5_code
def yX2_come : MethodName := ⟨RX2, "come", "(II)I"⟩
abbrev cX2_turnAs : ByteArray := prog_4_method_6_code
def yX2_turnAs : MethodName := ⟨RX2, "turnAs", "(I)Z"⟩
abbrev cX2_first : ByteArray := prog_4_method_7_code
def yX2_first : MethodName := ⟨RX2, "first", "(I)I"⟩
abbrev cX2_after : ByteArray := prog_4_method_8_code
def yX2_after : MethodName := ⟨RX2, "after", "(II)I"⟩
abbrev cX2_isOver : ByteArray := prog_4_method_9_code
def yX2_isOver : MethodName := ⟨RX2, "isOver", "(II)Z"⟩
abbrev cX2_plainAim : ByteArray := prog_4_method_10_code
def yX2_plainAim : MethodName := ⟨RX2, "plainAim", "(II)I"⟩
abbrev cX2_strongest : ByteArray := prog_4_method_11_code
def yX2_strongest : MethodName := ⟨RX2, "strongest", "(II)I"⟩
abbrev cX2_findFollowers : ByteArray := prog_4_method_12_code
def yX2_findFollowers : MethodName := ⟨RX2, "findFollowers", "()V"⟩
abbrev cX2_followerOf : ByteArray := prog_4_method_13_code
def yX2_followerOf : MethodName := ⟨RX2, "followerOf", "(II)I"⟩
def RX3 : String := "ThreeSnowballs$LawText"
def TX3 : u_T := fun k => match k with
  | 0 => ("ThreeSnowballs$LawText", "fed", "I", false)
  | 1 => ("ThreeSnowballs$LawText", "tape", "[I", true)
  | 2 => ("ThreeSnowballs$LawText", "place", "I", false)
  | 3 => ("ThreeSnowballs$LawText", "draft", "[I", true)
  | 4 => ("ThreeSnowballs$LawText", "drafted", "I", false)
  | 5 => ("ThreeSnowballs$LawText", "cells", "[I", true)
  | 6 => ("ThreeSnowballs$LawText", "length", "I", false)
  | 7 => ("ThreeSnowballs$LawText", "stack", "[I", true)
  | _ => ("ThreeSnowballs$LawText", "top", "I", false)
def tyX3 : Nat → FieldType := fun k => match k with
  | 0 => .int
  | 1 => .array .int
  | 2 => .int
  | 3 => .array .int
  | 4 => .int
  | 5 => .array .int
  | 6 => .int
  | 7 => .array .int
  | _ => .int
abbrev wsX30 : List Cond := u_ws RX3 TX3 9
theorem nmX3 : ∀ a, a < 9 → ∀ b, b < 9 → a ≠ b → (TX3 a).2.1 ≠ (TX3 b).2.1 := by decide +kernel
theorem tyX3_ok : ∀ k, k < 9 → parseFieldDescriptor (TX3 k).2.2.1 = some (tyX3 k) := by decide +kernel
abbrev cX3_init : ByteArray := prog_5_method_1_code
def yX3_init : MethodName := ⟨RX3, "<init>", "()V"⟩
abbrev cX3_take : ByteArray := prog_5_method_2_code
def yX3_take : MethodName := ⟨RX3, "take", "(I)I"⟩
abbrev cX3_readTape : ByteArray := prog_5_method_3_code
def yX3_readTape : MethodName := ⟨RX3, "readTape", "()I"⟩
abbrev cX3_isThere : ByteArray := prog_5_method_4_code
def yX3_isThere : MethodName := ⟨RX3, "isThere", "()Z"⟩
abbrev cX3_number : ByteArray := prog_5_method_5_code
def yX3_number : MethodName := ⟨RX3, "number", "(IIIII)I"⟩
abbrev cX3_lastOfLine : ByteArray := prog_5_method_6_code
def yX3_lastOfLine : MethodName := ⟨RX3, "lastOfLine", "(I)I"⟩
abbrev cX3_joined : ByteArray := prog_5_method_7_code
def yX3_joined : MethodName := ⟨RX3, "joined", "(III)I"⟩
abbrev cX3_push : ByteArray := prog_5_method_8_code
def yX3_push : MethodName := ⟨RX3, "push", "(I)V"⟩
abbrev cX3_pop : ByteArray := prog_5_method_9_code
def yX3_pop : MethodName := ⟨RX3, "pop", "()I"⟩
abbrev cX3_next : ByteArray := prog_5_method_10_code
def yX3_next : MethodName := ⟨RX3, "next", "()I"⟩
abbrev cX3_write : ByteArray := prog_5_method_11_code
def yX3_write : MethodName := ⟨RX3, "write", "(I)V"⟩
abbrev cX3_readLine : ByteArray := prog_5_method_12_code
def yX3_readLine : MethodName := ⟨RX3, "readLine", "()Z"⟩
abbrev cX3_readJoined : ByteArray := prog_5_method_13_code
def yX3_readJoined : MethodName := ⟨RX3, "readJoined", "(II)Z"⟩
abbrev cX3_isSign : ByteArray := prog_5_method_14_code
def yX3_isSign : MethodName := ⟨RX3, "isSign", "(II)Z"⟩
abbrev cX3_readOperand : ByteArray := prog_5_method_15_code
def yX3_readOperand : MethodName := ⟨RX3, "readOperand", "(I)Z"⟩
abbrev cX3_readNumber : ByteArray := prog_5_method_16_code
def yX3_readNumber : MethodName := ⟨RX3, "readNumber", "()Z"⟩
abbrev cX3_isDigit : ByteArray := prog_5_method_17_code
def yX3_isDigit : MethodName := ⟨RX3, "isDigit", "(I)Z"⟩
def RX4 : String := "ThreeSnowballs$Odds"
def TX4 : u_T := fun k => match k with
  | 0 => ("ThreeSnowballs$Odds", "ended", "[J", true)
  | 1 => ("ThreeSnowballs$Odds", "throwsInAll", "J", false)
  | 2 => ("ThreeSnowballs$Odds", "group", "LThreeSnowballs$Group;", true)
  | 3 => ("ThreeSnowballs$Odds", "law", "LThreeSnowballs$LawText;", true)
  | 4 => ("ThreeSnowballs$Odds", "worths", "[J", true)
  | 5 => ("ThreeSnowballs$Odds", "aims", "[I", true)
  | 6 => ("ThreeSnowballs$Odds", "likely", "[J", true)
  | 7 => ("ThreeSnowballs$Odds", "numbers", "[I", true)
  | _ => ("ThreeSnowballs$Odds", "hasNumbers", "Z", false)
def tyX4 : Nat → FieldType := fun k => match k with
  | 0 => .array .long
  | 1 => .long
  | 2 => .object "ThreeSnowballs$Group"
  | 3 => .object "ThreeSnowballs$LawText"
  | 4 => .array .long
  | 5 => .array .int
  | 6 => .array .long
  | 7 => .array .int
  | _ => .boolean
abbrev wsX40 : List Cond := u_ws RX4 TX4 9
theorem nmX4 : ∀ a, a < 9 → ∀ b, b < 9 → a ≠ b → (TX4 a).2.1 ≠ (TX4 b).2.1 := by decide +kernel
theorem tyX4_ok : ∀ k, k < 9 → parseFieldDescriptor (TX4 k).2.2.1 = some (tyX4 k) := by decide +kernel
abbrev cX4_init : ByteArray := prog_6_method_1_code
def yX4_init : MethodName := ⟨RX4, "<init>", "(LThreeSnowballs$Group;LThreeSnowballs$LawText;)V"⟩
abbrev cX4_forgetNumbers : ByteArray := prog_6_method_2_code
def yX4_forgetNumbers : MethodName := ⟨RX4, "forgetNumbers", "()V"⟩
abbrev cX4_whole : ByteArray := prog_6_method_3_code
def yX4_whole : MethodName := ⟨RX4, "whole", "()J"⟩
abbrev cX4_worthAtFirst : ByteArray := prog_6_method_4_code
def yX4_worthAtFirst : MethodName := ⟨RX4, "worthAtFirst", "(III)J"⟩
abbrev cX4_aimAt : ByteArray := prog_6_method_5_code
def yX4_aimAt : MethodName := ⟨RX4, "aimAt", "(III)I"⟩
abbrev cX4_numberAt : ByteArray := prog_6_method_6_code
def yX4_numberAt : MethodName := ⟨RX4, "numberAt", "(IIII)I"⟩
abbrev cX4_leftOf : ByteArray := prog_6_method_7_code
def yX4_leftOf : MethodName := ⟨RX4, "leftOf", "(I)J"⟩
abbrev cX4_solve : ByteArray := prog_6_method_8_code
def yX4_solve : MethodName := ⟨RX4, "solve", "()V"⟩
abbrev cX4_spread : ByteArray := prog_6_method_9_code
def yX4_spread : MethodName := ⟨RX4, "spread", "()V"⟩
abbrev cX4_situation : ByteArray := prog_6_method_10_code
def yX4_situation : MethodName := ⟨RX4, "situation", "(III)I"⟩
abbrev cX4_situationNext : ByteArray := prog_6_method_11_code
def yX4_situationNext : MethodName := ⟨RX4, "situationNext", "(III)I"⟩
abbrev cX4_without : ByteArray := prog_6_method_12_code
def yX4_without : MethodName := ⟨RX4, "without", "(II)I"⟩
abbrev cX4_numberPlace : ByteArray := prog_6_method_13_code
def yX4_numberPlace : MethodName := ⟨RX4, "numberPlace", "(IIII)I"⟩
abbrev cX4_findNumbers : ByteArray := prog_6_method_14_code
def yX4_findNumbers : MethodName := ⟨RX4, "findNumbers", "()V"⟩
abbrev cX4_solveAt : ByteArray := prog_6_method_15_code
def yX4_solveAt : MethodName := ⟨RX4, "solveAt", "(III)V"⟩
abbrev cX4_bestAim : ByteArray := prog_6_method_16_code
def yX4_bestAim : MethodName := ⟨RX4, "bestAim", "(III)I"⟩
abbrev cX4_mixed : ByteArray := prog_6_method_17_code
def yX4_mixed : MethodName := ⟨RX4, "mixed", "(IIII)J"⟩
abbrev cX4_spreadFrom : ByteArray := prog_6_method_18_code
def yX4_spreadFrom : MethodName := ⟨RX4, "spreadFrom", "(III)V"⟩
def RX5 : String := "ThreeSnowballs$Shelf"
def TX5 : u_T := fun k => match k with
  | 0 => ("ThreeSnowballs$Shelf", "sort", "I", false)
  | 1 => ("ThreeSnowballs$Shelf", "body", "I", false)
  | 2 => ("ThreeSnowballs$Shelf", "length", "I", false)
  | _ => ("ThreeSnowballs$Shelf", "elements", "[J", true)
def tyX5 : Nat → FieldType := fun k => match k with
  | 0 => .int
  | 1 => .int
  | 2 => .int
  | _ => .array .long
abbrev wsX50 : List Cond := u_ws RX5 TX5 4
theorem nmX5 : ∀ a, a < 4 → ∀ b, b < 4 → a ≠ b → (TX5 a).2.1 ≠ (TX5 b).2.1 := by decide +kernel
theorem tyX5_ok : ∀ k, k < 4 → parseFieldDescriptor (TX5 k).2.2.1 = some (tyX5 k) := by decide +kernel
abbrev cX5_init : ByteArray := prog_7_method_1_code
def yX5_init : MethodName := ⟨RX5, "<init>", "()V"⟩
abbrev cX5_holdBody : ByteArray := prog_7_method_2_code
def yX5_holdBody : MethodName := ⟨RX5, "holdBody", "(I)V"⟩
abbrev cX5_holdRow : ByteArray := prog_7_method_3_code
def yX5_holdRow : MethodName := ⟨RX5, "holdRow", "(II)V"⟩
abbrev cX5_setElement : ByteArray := prog_7_method_4_code
def yX5_setElement : MethodName := ⟨RX5, "setElement", "(IJ)V"⟩
abbrev cX5_lowestBits : ByteArray := prog_7_method_5_code
def yX5_lowestBits : MethodName := ⟨RX5, "lowestBits", "(J)J"⟩
def RX6 : String := "ThreeSnowballs$Throwers"
def TX6 : u_T := fun k => match k with
  | 0 => ("ThreeSnowballs$Throwers", "kinds", "[I", true)
  | 1 => ("ThreeSnowballs$Throwers", "size", "I", false)
  | 2 => ("ThreeSnowballs$Throwers", "traced", "[I", true)
  | 3 => ("ThreeSnowballs$Throwers", "ran", "I", false)
  | _ => ("ThreeSnowballs$Throwers", "acting", "I", false)
def tyX6 : Nat → FieldType := fun k => match k with
  | 0 => .array .int
  | 1 => .int
  | 2 => .array .int
  | 3 => .int
  | _ => .int
abbrev wsX60 : List Cond := u_ws RX6 TX6 5
theorem nmX6 : ∀ a, a < 5 → ∀ b, b < 5 → a ≠ b → (TX6 a).2.1 ≠ (TX6 b).2.1 := by decide +kernel
theorem tyX6_ok : ∀ k, k < 5 → parseFieldDescriptor (TX6 k).2.2.1 = some (tyX6 k) := by decide +kernel
abbrev cX6_init : ByteArray := prog_8_method_1_code
def yX6_init : MethodName := ⟨RX6, "<init>", "()V"⟩
abbrev cX6_come : ByteArray := prog_8_method_2_code
def yX6_come : MethodName := ⟨RX6, "come", "(I)I"⟩
abbrev cX6_isUnder : ByteArray := prog_8_method_3_code
def yX6_isUnder : MethodName := ⟨RX6, "isUnder", "(II)Z"⟩
abbrev cX6_doAct : ByteArray := prog_8_method_4_code
def yX6_doAct : MethodName := ⟨RX6, "doAct", "(III)I"⟩
abbrev cX6_own : ByteArray := prog_8_method_5_code
def yX6_own : MethodName := ⟨RX6, "own", "(III)I"⟩
abbrev cX6_run : ByteArray := prog_8_method_6_code
def yX6_run : MethodName := ⟨RX6, "run", "(IIII)I"⟩
abbrev cX6_runBody : ByteArray := prog_8_method_7_code
def yX6_runBody : MethodName := ⟨RX6, "runBody", "(IIII)I"⟩
def RX7 : String := "ThreeSnowballs$ToldFight"
def TX7 : u_T := fun k => match k with
  | 0 => ("ThreeSnowballs$ToldFight", "judged", "I", false)
  | 1 => ("ThreeSnowballs$ToldFight", "wrong", "I", false)
  | 2 => ("ThreeSnowballs$ToldFight", "above", "J", false)
  | 3 => ("ThreeSnowballs$ToldFight", "below", "J", false)
  | 4 => ("ThreeSnowballs$ToldFight", "group", "LThreeSnowballs$Group;", true)
  | 5 => ("ThreeSnowballs$ToldFight", "odds", "LThreeSnowballs$Odds;", true)
  | 6 => ("ThreeSnowballs$ToldFight", "set", "I", false)
  | _ => ("ThreeSnowballs$ToldFight", "turn", "I", false)
def tyX7 : Nat → FieldType := fun k => match k with
  | 0 => .int
  | 1 => .int
  | 2 => .long
  | 3 => .long
  | 4 => .object "ThreeSnowballs$Group"
  | 5 => .object "ThreeSnowballs$Odds"
  | 6 => .int
  | _ => .int
abbrev wsX70 : List Cond := u_ws RX7 TX7 8
theorem nmX7 : ∀ a, a < 8 → ∀ b, b < 8 → a ≠ b → (TX7 a).2.1 ≠ (TX7 b).2.1 := by decide +kernel
theorem tyX7_ok : ∀ k, k < 8 → parseFieldDescriptor (TX7 k).2.2.1 = some (tyX7 k) := by decide +kernel
abbrev cX7_init : ByteArray := prog_9_method_1_code
def yX7_init : MethodName := ⟨RX7, "<init>", "(LThreeSnowballs$Group;LThreeSnowballs$Odds;)V"⟩
abbrev cX7_look : ByteArray := prog_9_method_2_code
def yX7_look : MethodName := ⟨RX7, "look", "(LThreeSnowballs$Shelf;)V"⟩
abbrev cX7_canBe : ByteArray := prog_9_method_3_code
def yX7_canBe : MethodName := ⟨RX7, "canBe", "(IJJ)Z"⟩
abbrev cX7_follow : ByteArray := prog_9_method_4_code
def yX7_follow : MethodName := ⟨RX7, "follow", "(IIZ)V"⟩
def RX8 : String := "ThreeSnowballs"
def TX8 : u_T := fun k => match k with
  | 0 => ("ThreeSnowballs", "group", "LThreeSnowballs$Group;", true)
  | 1 => ("ThreeSnowballs", "lawText", "LThreeSnowballs$LawText;", true)
  | 2 => ("ThreeSnowballs", "odds", "LThreeSnowballs$Odds;", true)
  | 3 => ("ThreeSnowballs", "deed", "LThreeSnowballs$Deed;", true)
  | 4 => ("ThreeSnowballs", "toldFight", "LThreeSnowballs$ToldFight;", true)
  | 5 => ("ThreeSnowballs", "changes", "LThreeSnowballs$Changes;", true)
  | 6 => ("ThreeSnowballs", "throwers", "LThreeSnowballs$Throwers;", true)
  | 7 => ("ThreeSnowballs", "shelves", "[LThreeSnowballs$Shelf;", true)
  | _ => ("ThreeSnowballs", "waysBefore", "[I", true)
def tyX8 : Nat → FieldType := fun k => match k with
  | 0 => .object "ThreeSnowballs$Group"
  | 1 => .object "ThreeSnowballs$LawText"
  | 2 => .object "ThreeSnowballs$Odds"
  | 3 => .object "ThreeSnowballs$Deed"
  | 4 => .object "ThreeSnowballs$ToldFight"
  | 5 => .object "ThreeSnowballs$Changes"
  | 6 => .object "ThreeSnowballs$Throwers"
  | 7 => .array (.object "ThreeSnowballs$Shelf")
  | _ => .array .int
abbrev wsX80 : List Cond := u_ws RX8 TX8 9
theorem nmX8 : ∀ a, a < 9 → ∀ b, b < 9 → a ≠ b → (TX8 a).2.1 ≠ (TX8 b).2.1 := by decide +kernel
theorem tyX8_ok : ∀ k, k < 9 → parseFieldDescriptor (TX8 k).2.2.1 = some (tyX8 k) := by decide +kernel
abbrev cX8_init : ByteArray := prog_1_method_1_code
def yX8_init : MethodName := ⟨RX8, "<init>", "()V"⟩
abbrev cX8_player : ByteArray := prog_1_method_2_code
def yX8_player : MethodName := ⟨RX8, "player", "(II)I"⟩
abbrev cX8_players : ByteArray := prog_1_method_3_code
def yX8_players : MethodName := ⟨RX8, "players", "(III)I"⟩
abbrev cX8_mend : ByteArray := prog_1_method_4_code
def yX8_mend : MethodName := ⟨RX8, "mend", "(III)I"⟩
abbrev cX8_order : ByteArray := prog_1_method_5_code
def yX8_order : MethodName := ⟨RX8, "order", "(I)I"⟩
abbrev cX8_bell : ByteArray := prog_1_method_6_code
def yX8_bell : MethodName := ⟨RX8, "bell", "(I)I"⟩
abbrev cX8_prize : ByteArray := prog_1_method_7_code
def yX8_prize : MethodName := ⟨RX8, "prize", "(II)I"⟩
abbrev cX8_of : ByteArray := prog_1_method_8_code
def yX8_of : MethodName := ⟨RX8, "of", "(II)I"⟩
abbrev cX8_feed : ByteArray := prog_1_method_9_code
def yX8_feed : MethodName := ⟨RX8, "feed", "(I)I"⟩
abbrev cX8_law : ByteArray := prog_1_method_10_code
def yX8_law : MethodName := ⟨RX8, "law", "()I"⟩
abbrev cX8_worth : ByteArray := prog_1_method_11_code
def yX8_worth : MethodName := ⟨RX8, "worth", "(III)J"⟩
abbrev cX8_just : ByteArray := prog_1_method_12_code
def yX8_just : MethodName := ⟨RX8, "just", "(II)J"⟩
abbrev cX8_aims : ByteArray := prog_1_method_13_code
def yX8_aims : MethodName := ⟨RX8, "aims", "(III)I"⟩
abbrev cX8_begin : ByteArray := prog_1_method_14_code
def yX8_begin : MethodName := ⟨RX8, "begin", "(I)I"⟩
abbrev cX8_fair : ByteArray := prog_1_method_15_code
def yX8_fair : MethodName := ⟨RX8, "fair", "()I"⟩
abbrev cX8_would : ByteArray := prog_1_method_16_code
def yX8_would : MethodName := ⟨RX8, "would", "(I)I"⟩
abbrev cX8_rest : ByteArray := prog_1_method_17_code
def yX8_rest : MethodName := ⟨RX8, "rest", "()I"⟩
abbrev cX8_settle : ByteArray := prog_1_method_18_code
def yX8_settle : MethodName := ⟨RX8, "settle", "(I)I"⟩
abbrev cX8_even : ByteArray := prog_1_method_19_code
def yX8_even : MethodName := ⟨RX8, "even", "(I)I"⟩
abbrev cX8_league : ByteArray := prog_1_method_20_code
def yX8_league : MethodName := ⟨RX8, "league", "(I)I"⟩
abbrev cX8_points : ByteArray := prog_1_method_21_code
def yX8_points : MethodName := ⟨RX8, "points", "(I)I"⟩
abbrev cX8_judge : ByteArray := prog_1_method_22_code
def yX8_judge : MethodName := ⟨RX8, "judge", "(II)I"⟩
abbrev cX8_chance : ByteArray := prog_1_method_23_code
def yX8_chance : MethodName := ⟨RX8, "chance", "(II)J"⟩
abbrev cX8_seen : ByteArray := prog_1_method_24_code
def yX8_seen : MethodName := ⟨RX8, "seen", "(II)I"⟩
abbrev cX8_drawn : ByteArray := prog_1_method_25_code
def yX8_drawn : MethodName := ⟨RX8, "drawn", "(III)I"⟩
abbrev cX8_step : ByteArray := prog_1_method_26_code
def yX8_step : MethodName := ⟨RX8, "step", "(I)I"⟩
abbrev cX8_anew : ByteArray := prog_1_method_27_code
def yX8_anew : MethodName := ⟨RX8, "anew", "()I"⟩
abbrev cX8_image : ByteArray := prog_1_method_28_code
def yX8_image : MethodName := ⟨RX8, "image", "()I"⟩
abbrev cX8_back : ByteArray := prog_1_method_29_code
def yX8_back : MethodName := ⟨RX8, "back", "()I"⟩
abbrev cX8_undo : ByteArray := prog_1_method_30_code
def yX8_undo : MethodName := ⟨RX8, "undo", "()I"⟩
abbrev cX8_redo : ByteArray := prog_1_method_31_code
def yX8_redo : MethodName := ⟨RX8, "redo", "()I"⟩
abbrev cX8_body : ByteArray := prog_1_method_32_code
def yX8_body : MethodName := ⟨RX8, "body", "(I)I"⟩
abbrev cX8_act : ByteArray := prog_1_method_33_code
def yX8_act : MethodName := ⟨RX8, "act", "(III)I"⟩
abbrev cX8_trace : ByteArray := prog_1_method_34_code
def yX8_trace : MethodName := ⟨RX8, "trace", "(I)I"⟩
abbrev cX8_keep : ByteArray := prog_1_method_35_code
def yX8_keep : MethodName := ⟨RX8, "keep", "(II)I"⟩
abbrev cX8_row : ByteArray := prog_1_method_36_code
def yX8_row : MethodName := ⟨RX8, "row", "(III)I"⟩
abbrev cX8_put : ByteArray := prog_1_method_37_code
def yX8_put : MethodName := ⟨RX8, "put", "(IIJ)I"⟩
abbrev cX8_element : ByteArray := prog_1_method_38_code
def yX8_element : MethodName := ⟨RX8, "element", "(II)J"⟩
abbrev cX8_shift : ByteArray := prog_1_method_39_code
def yX8_shift : MethodName := ⟨RX8, "shift", "(IIIII)I"⟩
abbrev cX8_taken : ByteArray := prog_1_method_40_code
def yX8_taken : MethodName := ⟨RX8, "taken", "(II)I"⟩
abbrev cX8_count : ByteArray := prog_1_method_41_code
def yX8_count : MethodName := ⟨RX8, "count", "(I)I"⟩
abbrev cX8_isWithin : ByteArray := prog_1_method_42_code
def yX8_isWithin : MethodName := ⟨RX8, "isWithin", "(II)Z"⟩
abbrev cX8_greatest : ByteArray := prog_1_method_43_code
def yX8_greatest : MethodName := ⟨RX8, "greatest", "(I)I"⟩
abbrev cX8_power : ByteArray := prog_1_method_44_code
def yX8_power : MethodName := ⟨RX8, "power", "(II)J"⟩
abbrev cX8_lowest : ByteArray := prog_1_method_45_code
def yX8_lowest : MethodName := ⟨RX8, "lowest", "(JJI)J"⟩
abbrev cX8_come : ByteArray := prog_1_method_46_code
def yX8_come : MethodName := ⟨RX8, "come", "(II)I"⟩
abbrev cX8_tell : ByteArray := prog_1_method_47_code
def yX8_tell : MethodName := ⟨RX8, "tell", "(III)V"⟩
abbrev cX8_worthNow : ByteArray := prog_1_method_48_code
def yX8_worthNow : MethodName := ⟨RX8, "worthNow", "(I)J"⟩
abbrev cX8_worthIfBegins : ByteArray := prog_1_method_49_code
def yX8_worthIfBegins : MethodName := ⟨RX8, "worthIfBegins", "(II)J"⟩
abbrev cX8_spanIfBegins : ByteArray := prog_1_method_50_code
def yX8_spanIfBegins : MethodName := ⟨RX8, "spanIfBegins", "(I)J"⟩
abbrev cX8_distanceFromMean : ByteArray := prog_1_method_51_code
def yX8_distanceFromMean : MethodName := ⟨RX8, "distanceFromMean", "(I)J"⟩
abbrev cX8_wantedWay : ByteArray := prog_1_method_52_code
def yX8_wantedWay : MethodName := ⟨RX8, "wantedWay", "(I)I"⟩
abbrev cX8_firstMove : ByteArray := prog_1_method_53_code
def yX8_firstMove : MethodName := ⟨RX8, "firstMove", "()I"⟩
abbrev cX8_winner : ByteArray := prog_1_method_54_code
def yX8_winner : MethodName := ⟨RX8, "winner", "(II)I"⟩
abbrev cX8_refusal : ByteArray := prog_1_method_55_code
def yX8_refusal : MethodName := ⟨RX8, "refusal", "(II)I"⟩
def RX9 : String := "ThreeSnowballsModel"
def TX9 : u_T := fun k => match k with
  | 0 => ("ThreeSnowballsModel", "may", "[I", true)
  | 1 => ("ThreeSnowballsModel", "changeAt", "[I", true)
  | 2 => ("ThreeSnowballsModel", "changeWas", "[I", true)
  | 3 => ("ThreeSnowballsModel", "changeIs", "[I", true)
  | 4 => ("ThreeSnowballsModel", "keptMany", "I", false)
  | 5 => ("ThreeSnowballsModel", "done", "I", false)
  | 6 => ("ThreeSnowballsModel", "players", "I", false)
  | 7 => ("ThreeSnowballsModel", "order", "[I", true)
  | 8 => ("ThreeSnowballsModel", "place", "[I", true)
  | 9 => ("ThreeSnowballsModel", "bell", "I", false)
  | 10 => ("ThreeSnowballsModel", "prize", "[I", true)
  | 11 => ("ThreeSnowballsModel", "digitsOf", "[I", true)
  | 12 => ("ThreeSnowballsModel", "tape", "[I", true)
  | 13 => ("ThreeSnowballsModel", "tapeMany", "I", false)
  | 14 => ("ThreeSnowballsModel", "text", "[I", true)
  | 15 => ("ThreeSnowballsModel", "textMany", "I", false)
  | 16 => ("ThreeSnowballsModel", "base", "I", false)
  | 17 => ("ThreeSnowballsModel", "at", "I", false)
  | 18 => ("ThreeSnowballsModel", "ends", "I", false)
  | 19 => ("ThreeSnowballsModel", "fault", "I", false)
  | 20 => ("ThreeSnowballsModel", "opened", "I", false)
  | 21 => ("ThreeSnowballsModel", "names", "[I", true)
  | 22 => ("ThreeSnowballsModel", "power", "[J", true)
  | 23 => ("ThreeSnowballsModel", "worthAt", "[J", true)
  | 24 => ("ThreeSnowballsModel", "aimAt", "[I", true)
  | 25 => ("ThreeSnowballsModel", "hitAt", "[I", true)
  | 26 => ("ThreeSnowballsModel", "now", "[J", true)
  | 27 => ("ThreeSnowballsModel", "value", "[J", true)
  | 28 => ("ThreeSnowballsModel", "waysWere", "[I", true)
  | 29 => ("ThreeSnowballsModel", "firstFalse", "I", false)
  | 30 => ("ThreeSnowballsModel", "firstWrong", "I", false)
  | 31 => ("ThreeSnowballsModel", "chanceAbove", "J", false)
  | 32 => ("ThreeSnowballsModel", "chanceBelow", "J", false)
  | 33 => ("ThreeSnowballsModel", "deedSet", "I", false)
  | 34 => ("ThreeSnowballsModel", "deedTurn", "I", false)
  | 35 => ("ThreeSnowballsModel", "deedThrows", "I", false)
  | 36 => ("ThreeSnowballsModel", "isKept", "Z", false)
  | 37 => ("ThreeSnowballsModel", "imageSet", "I", false)
  | 38 => ("ThreeSnowballsModel", "imageTurn", "I", false)
  | 39 => ("ThreeSnowballsModel", "imageThrows", "I", false)
  | 40 => ("ThreeSnowballsModel", "bodies", "I", false)
  | 41 => ("ThreeSnowballsModel", "bodyKind", "[I", true)
  | 42 => ("ThreeSnowballsModel", "trace", "[I", true)
  | 43 => ("ThreeSnowballsModel", "ran", "I", false)
  | 44 => ("ThreeSnowballsModel", "ownKind", "I", false)
  | 45 => ("ThreeSnowballsModel", "ownNumber", "I", false)
  | 46 => ("ThreeSnowballsModel", "shelf", "[I", true)
  | 47 => ("ThreeSnowballsModel", "many", "[I", true)
  | 48 => ("ThreeSnowballsModel", "items", "[J", true)
  | _ => ("ThreeSnowballsModel", "carried", "[J", true)
def tyX9 : Nat → FieldType := fun k => match k with
  | 0 => .array .int
  | 1 => .array .int
  | 2 => .array .int
  | 3 => .array .int
  | 4 => .int
  | 5 => .int
  | 6 => .int
  | 7 => .array .int
  | 8 => .array .int
  | 9 => .int
  | 10 => .array .int
  | 11 => .array .int
  | 12 => .array .int
  | 13 => .int
  | 14 => .array .int
  | 15 => .int
  | 16 => .int
  | 17 => .int
  | 18 => .int
  | 19 => .int
  | 20 => .int
  | 21 => .array .int
  | 22 => .array .long
  | 23 => .array .long
  | 24 => .array .int
  | 25 => .array .int
  | 26 => .array .long
  | 27 => .array .long
  | 28 => .array .int
  | 29 => .int
  | 30 => .int
  | 31 => .long
  | 32 => .long
  | 33 => .int
  | 34 => .int
  | 35 => .int
  | 36 => .boolean
  | 37 => .int
  | 38 => .int
  | 39 => .int
  | 40 => .int
  | 41 => .array .int
  | 42 => .array .int
  | 43 => .int
  | 44 => .int
  | 45 => .int
  | 46 => .array .int
  | 47 => .array .int
  | 48 => .array .long
  | _ => .array .long
abbrev wsX90 : List Cond := u_ws RX9 TX9 50
theorem nmX9 : ∀ a, a < 50 → ∀ b, b < 50 → a ≠ b → (TX9 a).2.1 ≠ (TX9 b).2.1 := by decide +kernel
theorem tyX9_ok : ∀ k, k < 50 → parseFieldDescriptor (TX9 k).2.2.1 = some (tyX9 k) := by decide +kernel
abbrev cX9_within : ByteArray := prog_11_method_1_code
def yX9_within : MethodName := ⟨RX9, "within", "(JJJ)Z"⟩
abbrev cX9_bitsOf : ByteArray := prog_11_method_2_code
def yX9_bitsOf : MethodName := ⟨RX9, "bitsOf", "(I)I"⟩
abbrev cX9_isIn : ByteArray := prog_11_method_3_code
def yX9_isIn : MethodName := ⟨RX9, "isIn", "(II)Z"⟩
abbrev cX9_init : ByteArray := prog_11_method_4_code
def yX9_init : MethodName := ⟨RX9, "<init>", "()V"⟩
abbrev cX9_becomes : ByteArray := prog_11_method_5_code
def yX9_becomes : MethodName := ⟨RX9, "becomes", "(II)I"⟩
abbrev cX9_undo : ByteArray := prog_11_method_6_code
def yX9_undo : MethodName := ⟨RX9, "undo", "()I"⟩
abbrev cX9_redo : ByteArray := prog_11_method_7_code
def yX9_redo : MethodName := ⟨RX9, "redo", "()I"⟩
abbrev cX9_isPlayer : ByteArray := prog_11_method_8_code
def yX9_isPlayer : MethodName := ⟨RX9, "isPlayer", "(I)Z"⟩
abbrev cX9_all : ByteArray := prog_11_method_9_code
def yX9_all : MethodName := ⟨RX9, "all", "()I"⟩
abbrev cX9_isOne : ByteArray := prog_11_method_10_code
def yX9_isOne : MethodName := ⟨RX9, "isOne", "(JJ)Z"⟩
abbrev cX9_adds : ByteArray := prog_11_method_11_code
def yX9_adds : MethodName := ⟨RX9, "adds", "(II)V"⟩
abbrev cX9_player : ByteArray := prog_11_method_12_code
def yX9_player : MethodName := ⟨RX9, "player", "(II)I"⟩
abbrev cX9_players : ByteArray := prog_11_method_13_code
def yX9_players : MethodName := ⟨RX9, "players", "(III)I"⟩
abbrev cX9_mend : ByteArray := prog_11_method_14_code
def yX9_mend : MethodName := ⟨RX9, "mend", "(III)I"⟩
abbrev cX9_order : ByteArray := prog_11_method_15_code
def yX9_order : MethodName := ⟨RX9, "order", "(I)I"⟩
abbrev cX9_bell : ByteArray := prog_11_method_16_code
def yX9_bell : MethodName := ⟨RX9, "bell", "(I)I"⟩
abbrev cX9_prize : ByteArray := prog_11_method_17_code
def yX9_prize : MethodName := ⟨RX9, "prize", "(II)I"⟩
abbrev cX9_of : ByteArray := prog_11_method_18_code
def yX9_of : MethodName := ⟨RX9, "of", "(II)I"⟩
abbrev cX9_feed : ByteArray := prog_11_method_19_code
def yX9_feed : MethodName := ⟨RX9, "feed", "(I)I"⟩
abbrev cX9_byteAt : ByteArray := prog_11_method_20_code
def yX9_byteAt : MethodName := ⟨RX9, "byteAt", "()I"⟩
abbrev cX9_wrong : ByteArray := prog_11_method_21_code
def yX9_wrong : MethodName := ⟨RX9, "wrong", "()I"⟩
abbrev cX9_takes : ByteArray := prog_11_method_22_code
def yX9_takes : MethodName := ⟨RX9, "takes", "(I)Z"⟩
abbrev cX9_either : ByteArray := prog_11_method_23_code
def yX9_either : MethodName := ⟨RX9, "either", "()I"⟩
abbrev cX9_both : ByteArray := prog_11_method_24_code
def yX9_both : MethodName := ⟨RX9, "both", "()I"⟩
abbrev cX9_compared : ByteArray := prog_11_method_25_code
def yX9_compared : MethodName := ⟨RX9, "compared", "()I"⟩
abbrev cX9_sums : ByteArray := prog_11_method_26_code
def yX9_sums : MethodName := ⟨RX9, "sums", "()I"⟩
abbrev cX9_product : ByteArray := prog_11_method_27_code
def yX9_product : MethodName := ⟨RX9, "product", "()I"⟩
abbrev cX9_nameOf : ByteArray := prog_11_method_28_code
def yX9_nameOf : MethodName := ⟨RX9, "nameOf", "(I)I"⟩
abbrev cX9_one : ByteArray := prog_11_method_29_code
def yX9_one : MethodName := ⟨RX9, "one", "()I"⟩
abbrev cX9_workOut : ByteArray := prog_11_method_30_code
def yX9_workOut : MethodName := ⟨RX9, "workOut", "(II)I"⟩
abbrev cX9_law : ByteArray := prog_11_method_31_code
def yX9_law : MethodName := ⟨RX9, "law", "()I"⟩
abbrev cX9_hitsOf : ByteArray := prog_11_method_32_code
def yX9_hitsOf : MethodName := ⟨RX9, "hitsOf", "(IIII)I"⟩
abbrev cX9_stateOf : ByteArray := prog_11_method_33_code
def yX9_stateOf : MethodName := ⟨RX9, "stateOf", "(III)I"⟩
abbrev cX9_nextOf : ByteArray := prog_11_method_34_code
def yX9_nextOf : MethodName := ⟨RX9, "nextOf", "(II)I"⟩
abbrev cX9_isOver : ByteArray := prog_11_method_35_code
def yX9_isOver : MethodName := ⟨RX9, "isOver", "(II)Z"⟩
abbrev cX9_byHits : ByteArray := prog_11_method_36_code
def yX9_byHits : MethodName := ⟨RX9, "byHits", "(IIZ)I"⟩
abbrev cX9_plainAim : ByteArray := prog_11_method_37_code
def yX9_plainAim : MethodName := ⟨RX9, "plainAim", "(II)I"⟩
abbrev cX9_worthBy : ByteArray := prog_11_method_38_code
def yX9_worthBy : MethodName := ⟨RX9, "worthBy", "(IIIII)V"⟩
abbrev cX9_hitsAt : ByteArray := prog_11_method_39_code
def yX9_hitsAt : MethodName := ⟨RX9, "hitsAt", "(IIII)I"⟩
abbrev cX9_settles : ByteArray := prog_11_method_40_code
def yX9_settles : MethodName := ⟨RX9, "settles", "(III)V"⟩
abbrev cX9_ends1 : ByteArray := prog_11_method_41_code
def yX9_ends1 : MethodName := ⟨RX9, "ends1", "(III)V"⟩
abbrev cX9_solves : ByteArray := prog_11_method_42_code
def yX9_solves : MethodName := ⟨RX9, "solves", "()V"⟩
abbrev cX9_startOf : ByteArray := prog_11_method_43_code
def yX9_startOf : MethodName := ⟨RX9, "startOf", "(II)I"⟩
abbrev cX9_worthFrom : ByteArray := prog_11_method_44_code
def yX9_worthFrom : MethodName := ⟨RX9, "worthFrom", "(III)J"⟩
abbrev cX9_worthOf : ByteArray := prog_11_method_45_code
def yX9_worthOf : MethodName := ⟨RX9, "worthOf", "(I)J"⟩
abbrev cX9_atEnd : ByteArray := prog_11_method_46_code
def yX9_atEnd : MethodName := ⟨RX9, "atEnd", "(IIII)J"⟩
abbrev cX9_valueOf : ByteArray := prog_11_method_47_code
def yX9_valueOf : MethodName := ⟨RX9, "valueOf", "(II)J"⟩
abbrev cX9_common : ByteArray := prog_11_method_48_code
def yX9_common : MethodName := ⟨RX9, "common", "(JJ)J"⟩
abbrev cX9_partOf : ByteArray := prog_11_method_49_code
def yX9_partOf : MethodName := ⟨RX9, "partOf", "(JI)J"⟩
abbrev cX9_worth : ByteArray := prog_11_method_50_code
def yX9_worth : MethodName := ⟨RX9, "worth", "(III)J"⟩
abbrev cX9_just : ByteArray := prog_11_method_51_code
def yX9_just : MethodName := ⟨RX9, "just", "(II)J"⟩
abbrev cX9_aims : ByteArray := prog_11_method_52_code
def yX9_aims : MethodName := ⟨RX9, "aims", "(III)I"⟩
abbrev cX9_begin : ByteArray := prog_11_method_53_code
def yX9_begin : MethodName := ⟨RX9, "begin", "(I)I"⟩
abbrev cX9_fair : ByteArray := prog_11_method_54_code
def yX9_fair : MethodName := ⟨RX9, "fair", "()I"⟩
abbrev cX9_wouldOf : ByteArray := prog_11_method_55_code
def yX9_wouldOf : MethodName := ⟨RX9, "wouldOf", "(I)I"⟩
abbrev cX9_would : ByteArray := prog_11_method_56_code
def yX9_would : MethodName := ⟨RX9, "would", "(I)I"⟩
abbrev cX9_rest : ByteArray := prog_11_method_57_code
def yX9_rest : MethodName := ⟨RX9, "rest", "()I"⟩
abbrev cX9_settle : ByteArray := prog_11_method_58_code
def yX9_settle : MethodName := ⟨RX9, "settle", "(I)I"⟩
abbrev cX9_even : ByteArray := prog_11_method_59_code
def yX9_even : MethodName := ⟨RX9, "even", "(I)I"⟩
abbrev cX9_leagueOf : ByteArray := prog_11_method_60_code
def yX9_leagueOf : MethodName := ⟨RX9, "leagueOf", "(II)I"⟩
abbrev cX9_league : ByteArray := prog_11_method_61_code
def yX9_league : MethodName := ⟨RX9, "league", "(I)I"⟩
abbrev cX9_points : ByteArray := prog_11_method_62_code
def yX9_points : MethodName := ⟨RX9, "points", "(I)I"⟩
abbrev cX9_mayThrow : ByteArray := prog_11_method_63_code
def yX9_mayThrow : MethodName := ⟨RX9, "mayThrow", "(IIIJJ)Z"⟩
abbrev cX9_looksAt : ByteArray := prog_11_method_64_code
def yX9_looksAt : MethodName := ⟨RX9, "looksAt", "(I)V"⟩
abbrev cX9_judge : ByteArray := prog_11_method_65_code
def yX9_judge : MethodName := ⟨RX9, "judge", "(II)I"⟩
abbrev cX9_chance : ByteArray := prog_11_method_66_code
def yX9_chance : MethodName := ⟨RX9, "chance", "(II)J"⟩
abbrev cX9_seen : ByteArray := prog_11_method_67_code
def yX9_seen : MethodName := ⟨RX9, "seen", "(II)I"⟩
abbrev cX9_drawn : ByteArray := prog_11_method_68_code
def yX9_drawn : MethodName := ⟨RX9, "drawn", "(III)I"⟩
abbrev cX9_startsAnew : ByteArray := prog_11_method_69_code
def yX9_startsAnew : MethodName := ⟨RX9, "startsAnew", "()V"⟩
abbrev cX9_step : ByteArray := prog_11_method_70_code
def yX9_step : MethodName := ⟨RX9, "step", "(I)I"⟩
abbrev cX9_anew : ByteArray := prog_11_method_71_code
def yX9_anew : MethodName := ⟨RX9, "anew", "()I"⟩
abbrev cX9_image : ByteArray := prog_11_method_72_code
def yX9_image : MethodName := ⟨RX9, "image", "()I"⟩
abbrev cX9_back : ByteArray := prog_11_method_73_code
def yX9_back : MethodName := ⟨RX9, "back", "()I"⟩
abbrev cX9_isBody : ByteArray := prog_11_method_74_code
def yX9_isBody : MethodName := ⟨RX9, "isBody", "(I)Z"⟩
abbrev cX9_kindOf : ByteArray := prog_11_method_75_code
def yX9_kindOf : MethodName := ⟨RX9, "kindOf", "(I)I"⟩
abbrev cX9_body : ByteArray := prog_11_method_76_code
def yX9_body : MethodName := ⟨RX9, "body", "(I)I"⟩
abbrev cX9_above : ByteArray := prog_11_method_77_code
def yX9_above : MethodName := ⟨RX9, "above", "(I)I"⟩
abbrev cX9_begins : ByteArray := prog_11_method_78_code
def yX9_begins : MethodName := ⟨RX9, "begins", "(I)V"⟩
abbrev cX9_aimsAs : ByteArray := prog_11_method_79_code
def yX9_aimsAs : MethodName := ⟨RX9, "aimsAs", "(II)I"⟩
abbrev cX9_throwsAs : ByteArray := prog_11_method_80_code
def yX9_throwsAs : MethodName := ⟨RX9, "throwsAs", "(II)I"⟩
abbrev cX9_hitsAs : ByteArray := prog_11_method_81_code
def yX9_hitsAs : MethodName := ⟨RX9, "hitsAs", "(II)I"⟩
abbrev cX9_tellsAs : ByteArray := prog_11_method_82_code
def yX9_tellsAs : MethodName := ⟨RX9, "tellsAs", "(II)I"⟩
abbrev cX9_act : ByteArray := prog_11_method_83_code
def yX9_act : MethodName := ⟨RX9, "act", "(III)I"⟩
abbrev cX9_trace : ByteArray := prog_11_method_84_code
def yX9_trace : MethodName := ⟨RX9, "trace", "(I)I"⟩
abbrev cX9_isShelf : ByteArray := prog_11_method_85_code
def yX9_isShelf : MethodName := ⟨RX9, "isShelf", "(I)Z"⟩
abbrev cX9_keep : ByteArray := prog_11_method_86_code
def yX9_keep : MethodName := ⟨RX9, "keep", "(II)I"⟩
abbrev cX9_row : ByteArray := prog_11_method_87_code
def yX9_row : MethodName := ⟨RX9, "row", "(III)I"⟩
abbrev cX9_refusal : ByteArray := prog_11_method_88_code
def yX9_refusal : MethodName := ⟨RX9, "refusal", "(II)I"⟩
abbrev cX9_asSort : ByteArray := prog_11_method_89_code
def yX9_asSort : MethodName := ⟨RX9, "asSort", "(IJ)J"⟩
abbrev cX9_put : ByteArray := prog_11_method_90_code
def yX9_put : MethodName := ⟨RX9, "put", "(IIJ)I"⟩
abbrev cX9_element : ByteArray := prog_11_method_91_code
def yX9_element : MethodName := ⟨RX9, "element", "(II)J"⟩
abbrev cX9_shift : ByteArray := prog_11_method_92_code
def yX9_shift : MethodName := ⟨RX9, "shift", "(IIIII)I"⟩
abbrev cX9_taken : ByteArray := prog_11_method_93_code
def yX9_taken : MethodName := ⟨RX9, "taken", "(II)I"⟩
abbrev cX9_count : ByteArray := prog_11_method_94_code
def yX9_count : MethodName := ⟨RX9, "count", "(I)I"⟩
def RJ6 : String := "java/lang/Integer"
def TJ6 : u_T := fun k => match k with
  | _ => ("", "", "", false)
def tyJ6 : Nat → FieldType := fun k => match k with
  | _ => .int
abbrev wsJ60 : List Cond := u_ws RJ6 TJ6 0
theorem nmJ6 : ∀ a, a < 0 → ∀ b, b < 0 → a ≠ b → (TJ6 a).2.1 ≠ (TJ6 b).2.1 := by decide +kernel
theorem tyJ6_ok : ∀ k, k < 0 → parseFieldDescriptor (TJ6 k).2.2.1 = some (tyJ6 k) := by decide +kernel
abbrev cJ6_bitCount_0f7a4 : ByteArray := prog_12_method_49_code
def yJ6_bitCount_0f7a4 : MethodName := ⟨RJ6, "bitCount", "(I)I"⟩
def RJ9 : String := "java/lang/Math"
def TJ9 : u_T := fun k => match k with
  | _ => ("", "", "", false)
def tyJ9 : Nat → FieldType := fun k => match k with
  | _ => .int
abbrev wsJ90 : List Cond := u_ws RJ9 TJ9 0
theorem nmJ9 : ∀ a, a < 0 → ∀ b, b < 0 → a ≠ b → (TJ9 a).2.1 ≠ (TJ9 b).2.1 := by decide +kernel
theorem tyJ9_ok : ∀ k, k < 0 → parseFieldDescriptor (TJ9 k).2.2.1 = some (tyJ9 k) := by decide +kernel
abbrev cJ9_abs_067f4 : ByteArray := prog_13_method_61_code
def yJ9_abs_067f4 : MethodName := ⟨RJ9, "abs", "(J)J"⟩
abbrev cJ9_max_7cf53 : ByteArray := prog_13_method_65_code
def yJ9_max_7cf53 : MethodName := ⟨RJ9, "max", "(II)I"⟩
abbrev cJ9_max_f86c9 : ByteArray := prog_13_method_66_code
def yJ9_max_f86c9 : MethodName := ⟨RJ9, "max", "(JJ)J"⟩
abbrev cJ9_min_7cf53 : ByteArray := prog_13_method_69_code
def yJ9_min_7cf53 : MethodName := ⟨RJ9, "min", "(II)I"⟩
abbrev cJ9_min_f86c9 : ByteArray := prog_13_method_70_code
def yJ9_min_f86c9 : MethodName := ⟨RJ9, "min", "(JJ)J"⟩
def RJ10 : String := "java/lang/System"
def TJ10 : u_T := fun k => match k with
  | _ => ("", "", "", false)
def tyJ10 : Nat → FieldType := fun k => match k with
  | _ => .int
abbrev wsJ100 : List Cond := u_ws RJ10 TJ10 0
theorem nmJ10 : ∀ a, a < 0 → ∀ b, b < 0 → a ≠ b → (TJ10 a).2.1 ≠ (TJ10 b).2.1 := by decide +kernel
theorem tyJ10_ok : ∀ k, k < 0 → parseFieldDescriptor (TJ10 k).2.2.1 = some (tyJ10 k) := by decide +kernel
def RL : String := "ThreeSnowballsLaw"
abbrev cL_law : ByteArray := code
def yL_law : MethodName := ⟨RL, "law", "([I)Z"⟩
end
section
/-! ===== THE ABSTRACT WORLD: cells by number; what they hold by (cell, place): references, ints, longs ===== -/
/-- the tables' words that stay as they are through a call -/
def zTb : List Cond := lw_tbl.filter goodWord
theorem zTb_at {w : Cond} (i : Nat) (h : lw_tbl[i]? = some w) (g : goodWord w = true) : w ∈ zTb := List.mem_filter.mpr ⟨List.mem_of_getElem? h, g⟩
abbrev zSh : Type := Nat × Nat
abbrev zWd : Type := List zSh × (Nat → Nat → Option Nat) × (Nat → Nat → Int32) × (Nat → Nat → Int64)
/-- a method: its name, code, locals, what it returns -/
abbrev zM : Type := MethodName × ByteArray × Nat × Option FieldType
/-- what is fixed for a run: array classes; classes' numbers and slots; the heap's size at the law's entry; the script's length and ints; the addresses of script (0) and tables (1 POWERS, 2 ABOVE, 3 OWN) -/
abbrev zG : Type := (Nat → ClassId) × va_G × Nat × Nat × (Nat → Int32) × (Nat → Nat)
def zcls : List vw_C := [(RX0, TX0, 6), (RX1, TX1, 8), (RX2, TX2, 9), (RX3, TX3, 9), (RX4, TX4, 9), (RX5, TX5, 4), (RX6, TX6, 5), (RX7, TX7, 8), (RX8, TX8, 9), (RX9, TX9, 50)]
def zR (ci : Nat) : String := match ci with
  | 0 => RX0 | 1 => RX1 | 2 => RX2 | 3 => RX3 | 4 => RX4 | 5 => RX5 | 6 => RX6 | 7 => RX7 | 8 => RX8 | _ => RX9
def zT (ci : Nat) : u_T := match ci with
  | 0 => TX0 | 1 => TX1 | 2 => TX2 | 3 => TX3 | 4 => TX4 | 5 => TX5 | 6 => TX6 | 7 => TX7 | 8 => TX8 | _ => TX9
def zN (ci : Nat) : Nat := match ci with
  | 0 => 6 | 1 => 8 | 2 => 9 | 3 => 9 | 4 => 9 | 5 => 4 | 6 => 5 | 7 => 8 | 8 => 9 | _ => 50
def zty (ci : Nat) : Nat → FieldType := match ci with
  | 0 => tyX0 | 1 => tyX1 | 2 => tyX2 | 3 => tyX3 | 4 => tyX4 | 5 => tyX5 | 6 => tyX6 | 7 => tyX7 | 8 => tyX8 | _ => tyX9
theorem zlt10 {P : Nat → Prop} (h0 : P 0) (h1 : P 1) (h2 : P 2) (h3 : P 3) (h4 : P 4) (h5 : P 5) (h6 : P 6) (h7 : P 7) (h8 : P 8) (h9 : P 9) : ∀ ci, ci < 10 → P ci := by
  intro ci h
  match ci, h with
  | 0, _ => exact h0
  | 1, _ => exact h1
  | 2, _ => exact h2
  | 3, _ => exact h3
  | 4, _ => exact h4
  | 5, _ => exact h5
  | 6, _ => exact h6
  | 7, _ => exact h7
  | 8, _ => exact h8
  | 9, _ => exact h9
  | k + 10, h => omega
theorem zcls_at : ∀ ci, ci < 10 → zcls[ci]? = some (zR ci, zT ci, zN ci) := zlt10 rfl rfl rfl rfl rfl rfl rfl rfl rfl rfl
theorem zty_ok : ∀ ci, ci < 10 → ∀ k, k < zN ci → parseFieldDescriptor (zT ci k).2.2.1 = some (zty ci k) := zlt10 tyX0_ok tyX1_ok tyX2_ok tyX3_ok tyX4_ok tyX5_ok tyX6_ok tyX7_ok tyX8_ok tyX9_ok
theorem znm_ok : ∀ ci, ci < 10 → ∀ a, a < zN ci → ∀ b, b < zN ci → a ≠ b → (zT ci a).2.1 ≠ (zT ci b).2.1 := zlt10 nmX0 nmX1 nmX2 nmX3 nmX4 nmX5 nmX6 nmX7 nmX8 nmX9
/-- kinds of fields: 0 int or boolean, 1 long, 2 a reference -/
def zkof (t : FieldType) : Nat := match t with
  | .long => 1
  | .object _ => 2
  | .array _ => 2
  | _ => 0
/-- addresses: cells from the heap's size at the law's entry on; the script and the tables from 1000 on -/
def zad (G : zG) (k : Nat) : Nat := if k < 1000 then G.2.2.1 + k else G.2.2.2.2.2 (k - 1000)
def zcv (G : zG) (v : Value) : Value := match v with
  | .ref k => .ref (zad G k)
  | u => u
theorem zcv_cat (G : zG) (v : Value) : (zcv G v).category = v.category := by cases v <;> rfl
def zfv (G : zG) (w : zWd) (k ci j : Nat) : Value := match zkof (zty ci j) with
  | 0 => .int (w.2.2.1 k j)
  | 1 => .long (w.2.2.2 k j)
  | _ => va_rf ((w.2.1 k j).map (zad G))
def zce (G : zG) (w : zWd) (k : Nat) (sh : zSh) : va_E := match sh.1 with
  | 0 => .inl (G.1 0, sh.2, .inl (w.2.2.1 k))
  | 1 => .inl (G.1 1, sh.2, .inr (.inl (w.2.2.2 k)))
  | 2 => .inl (G.1 2, sh.2, .inr (.inr (.inr (.inr (fun j => (w.2.1 k j).map (zad G))))))
  | _ => .inr (sh.2, (List.range (zN sh.2)).map (zfv G w k sh.2))
def zconc (G : zG) (w : zWd) : va_W := (List.range w.1.length).map (fun k => (zad G k, zce G w k (w.1.getD k (0, 0))))
def zA (G : zG) : Nat → Prop := fun q => G.2.2.1 ≤ q
def ztys (G : zG) : List (ClassId × FieldType) := [(G.1 0, .int), (G.1 1, .long), (G.1 2, .object RX5)]
def zPOW : Nat → Int64 := fun j => ([1, 12, 144, 1728, 20736, 248832, 2985984, 35831808, 429981696, 5159780352] : List Int64).getD j 0
def zABO : Nat → Int32 := fun j => ([-1, 0, 0, 2, 1, 3, 0, 4] : List Int32).getD j 0
def zOWN : Nat → Int32 := fun j => ([1, 10, 11, 2, 20, 0, 0, 0, 0, 30, 0, 0, 0, 41, 40, 0, 0, 0, 50, 0, 0, 0, 0, 60, 70, 0, 0, 0, 0, 80, 0, 81] : List Int32).getD j 0
/-- the nest mates' constructors that ThreeSnowballs() calls -/
def zNest (U : State) : Prop := va_Nw (.methodLinkNest RX8 9 yX2_init RX8) U ∧ va_Nw (.methodLinkNest RX8 18 yX3_init RX8) U ∧ va_Nw (.methodLinkNest RX8 52 yX0_init RX8) U ∧ va_Nw (.methodLinkNest RX8 59 yX6_init RX8) U ∧ va_Nw (.methodLinkNest RX8 70 yX5_init RX8) U
theorem zNest.moved {u U : State} (hW : u.WarmedH U.vm) (h : zNest u) : zNest U := ⟨h.1.warmM hW, h.2.1.warmM hW, h.2.2.1.warmM hW, h.2.2.2.1.warmM hW, h.2.2.2.2.warmM hW⟩
/-- what lies outside: the script, the tables -/
def zEx (G : zG) (U : State) (H : Heap) : Prop :=
  (G.2.2.1 ≤ H.size ∧ va_AO RX5 U ∧ zNest U) ∧ G.2.2.2.2.2 0 < G.2.2.1 ∧ va_X (G.2.2.2.2.2 0) G.2.2.2.1 G.2.2.2.2.1 U H ∧
  (va_Z RX4 "POWERS" "[J" (.ref (G.2.2.2.2.2 1)) (zA G) U H ∧ va_T .long (G.2.2.2.2.2 1) 10 (fun j => .long (zPOW j)) (zA G) U H) ∧
  (va_Z RX6 "ABOVE" "[I" (.ref (G.2.2.2.2.2 2)) (zA G) U H ∧ va_T .int (G.2.2.2.2.2 2) 8 (fun j => .int (zABO j)) (zA G) U H) ∧
  (va_Z RX6 "OWN" "[I" (.ref (G.2.2.2.2.2 3)) (zA G) U H ∧ va_T .int (G.2.2.2.2.2 3) 32 (fun j => .int (zOWN j)) (zA G) U H)
theorem zEx.moved {G : zG} {u U : State} {H : Heap} (hW : u.WarmedH U.vm) (h : zEx G u H) : zEx G U H := by
  have hvm := hW.alike
  obtain ⟨h1, h2, h3, ⟨h4, h5⟩, ⟨h6, h7⟩, ⟨h8, h9⟩⟩ := h
  exact ⟨⟨h1.1, h1.2.1.moved hvm, h1.2.2.moved hW⟩, h2, h3.moved hvm, ⟨h4.moved hvm, h5.moved hvm⟩, ⟨h6.moved hvm, h7.moved hvm⟩, ⟨h8.moved hvm, h9.moved hvm⟩⟩
theorem zEx.kept {G : zG} {U : State} {H H1 : Heap} (h : zEx G U H) (hs : H.size ≤ H1.size) (hq : ∀ a : Nat, a < H.size → ¬ zA G a → H1[a]? = H[a]?) : zEx G U H1 := by
  obtain ⟨h1, h2, h3, ⟨h4, h5⟩, ⟨h6, h7⟩, ⟨h8, h9⟩⟩ := h
  exact ⟨⟨Nat.le_trans h1.1 hs, h1.2⟩, h2, h3.kept (hq _ (Nat.lt_of_lt_of_le h2 h1.1) (Nat.not_le.mpr h2)), ⟨h4.kept hq, h5.kept hq⟩, ⟨h6.kept hq, h7.kept hq⟩, ⟨h8.kept hq, h9.kept hq⟩⟩
/-- a method's start or end: the world w stands in the heap -/
def zPre (G : zG) (w : zWd) (U : State) : Prop :=
  zEx G U U.heap ∧ va_K G.2.1 zcls (ztys G) U ∧ va_P G.2.1 zcls (zconc G w) U.heap ∧ U.heap.size = G.2.2.1 + w.1.length ∧ w.1.length ≤ 1000
/-- within a method that began at s: the heap H holds w -/
def zHp (G : zG) (w : zWd) (s : State) (H : Heap) (locs : List Loc) : Prop :=
  zEx G s s.heap ∧ va_K G.2.1 zcls (ztys G) s ∧ va_P G.2.1 zcls (zconc G w) H ∧ H.size = G.2.2.1 + w.1.length ∧ w.1.length ≤ 1000 ∧ va_S (zA G) s.heap H locs
def zws (M : zM) : List Cond := .code M.1 M.2.1 M.2.2.1 M.2.2.2 :: zTb
def zrm (d mc ms : Nat) : Room := { frames := d, cells := mc, slots := ms, locals := 64 * d }
/-- the contract of a call: with args, from world w, at most d frames deep: it returns r and leaves w', Q r w' -/
def zCn (l : Launch) (G : zG) (d : Nat) (M : zM) (mc ms : Nat) (args : List Value) (w : zWd) (Q : Option Value → zWd → Prop) : Prop :=
  Met l M.1 (zws M) (zrm d mc ms) (va_Pc (args.map (zcv G)) (zPre G w)) (fun _ st o t => (∃ (r : Option Value) (w' : zWd), o = .returned (r.map (zcv G)) ∧ Q r w' ∧ zPre G w' t) ∧ va_F (zA G) st t) mc ms (zA G)
/-- locals: a list by number, none: not known -/
def zll (G : zG) : Nat → List (Option Value) → List (Nat × Value)
  | _, [] => []
  | i, none :: t => zll G (i + 1) t
  | i, some v :: t => (i, zcv G v) :: zll G (i + 1) t
def zen : List Value → List (Option Value)
  | [] => []
  | v :: t => if v.category = 2 then some v :: none :: zen t else some v :: zen t
def zst1 : Nat → Value → List (Option Value) → List (Option Value)
  | _, _, [] => []
  | 0, v, _ :: t => some v :: t
  | n + 1, v, a :: t => (match n, a with
    | 0, some u => if u.category = 2 then none else some u
    | _, a => a) :: zst1 n v t
def zst2 : Nat → Value → List (Option Value) → List (Option Value)
  | _, _, [] => []
  | 0, v, _ :: t => some v :: (match t with
    | [] => []
    | _ :: t2 => none :: t2)
  | n + 1, v, a :: t => (match n, a with
    | 0, some u => if u.category = 2 then none else some u
    | _, a => a) :: zst2 n v t
/-- ls' knows no more than ls -/
def zsub : List (Option Value) → List (Option Value) → Prop
  | [], _ => True
  | none :: a, ls => zsub a ls.tail
  | some v :: a, ls => ls.head? = some (some v) ∧ zsub a ls.tail
abbrev zX : Type := Launch × zG × Nat × Nat × Nat × (Option Value → zWd → Prop)
def zCx (X : zX) (M : zM) (p : Program) (s : State) (m : MethodId) (args : Array Value) (meth : Method) (c : Code) (R : Room) : Prop :=
  p.tables.exec = Jvm.exec ∧ c.code = M.2.1 ∧ meth.sig.returnType = M.2.2.2 ∧ c.maxLocals = M.2.2.1 ∧ s.vm.findClass M.1.cls = some m.cls ∧ (∀ w ∈ zTb, w.before args s = true) ∧ meth.locks = false ∧ (M.1.name = "<init>" → meth.name = "<init>") ∧
  X.2.2.1 ≤ R.frames ∧ 64 * X.2.2.1 ≤ R.locals ∧ X.2.2.2.1 ≤ R.cells ∧ X.2.2.2.2.1 ≤ R.slots
def zRet (M : zM) (pc : Nat) (r : Option Value) : Prop := match r with
  | none => decode M.2.1 pc = .ok (.return_, 1) ∧ M.2.2.2 = none
  | some (.int v) => decode M.2.1 pc = .ok (.ireturn, 1) ∧ ∃ ty, M.2.2.2 = some ty ∧ narrow ty (.int v) = .int v
  | some (.long _) => decode M.2.1 pc = .ok (.lreturn, 1) ∧ M.2.2.2 = some .long
  | _ => False
/-- from here the method comes to its end with Q -/
def zWp (X : zX) (M : zM) (cs : Nat × Nat) (pc : Nat) (ls : List (Option Value)) (st : List Value) (w : zWd) : Prop :=
  ∀ (p : Program) (e : Env) (s : State) (m : MethodId) (args : Array Value) (below : List Frame) (meth : Method) (c : Code) (H : Heap) (locs : List Loc) (als : Array Slot) (Qf : State → Prop) (R : Room),
    zCx X M p s m args meth c R → zHp X.2.1 w s H locs → lv_has als M.2.2.1 (zll X.2.1 0 ls) →
    (∀ (r : Option Value) (w' : zWd) (H' : Heap) (locs' : List Loc) (pc' : Nat) (als' : Array Slot), X.2.2.2.2.2 r w' → zHp X.2.1 w' s H' locs' → zRet M pc' r →
      W p X.1 e R s m args below meth c H' locs' X.2.2.2.1 X.2.2.2.2.1 Qf (F0 m pc' als' (r.map (zcv X.2.1)).toList)) →
    W p X.1 e R s m args below meth c H locs cs.1 cs.2 Qf (F0 m pc als (st.map (zcv X.2.1)))
/-! locals -/
theorem zll_mem {G : zG} : ∀ (ls : List (Option Value)) (k i : Nat) (v : Value), ls[i]? = some (some v) → (k + i, zcv G v) ∈ zll G k ls
  | [], k, i, v, h => by simp at h
  | none :: t, k, 0, v, h => by simp at h
  | none :: t, k, i + 1, v, h => by
    rw [List.getElem?_cons_succ] at h
    have := zll_mem (G := G) t (k + 1) i v h
    simp only [zll]
    rw [show k + (i + 1) = k + 1 + i by omega]
    exact this
  | some u :: t, k, 0, v, h => by
    rw [List.getElem?_cons_zero] at h
    cases h
    simp [zll]
  | some u :: t, k, i + 1, v, h => by
    rw [List.getElem?_cons_succ] at h
    have := zll_mem (G := G) t (k + 1) i v h
    simp only [zll]
    rw [show k + (i + 1) = k + 1 + i by omega]
    exact List.mem_cons_of_mem _ this
theorem zll_inv {G : zG} : ∀ (ls : List (Option Value)) (k : Nat) (q : Nat × Value), q ∈ zll G k ls → ∃ (i : Nat) (v : Value), q = (k + i, zcv G v) ∧ ls[i]? = some (some v)
  | [], k, q, h => by simp [zll] at h
  | none :: t, k, q, h => by
    simp only [zll] at h
    obtain ⟨i, v, h1, h2⟩ := zll_inv t (k + 1) q h
    exact ⟨i + 1, v, by rw [h1]; congr 1; omega, by rw [List.getElem?_cons_succ]; exact h2⟩
  | some u :: t, k, q, h => by
    simp only [zll] at h
    rcases List.mem_cons.mp h with h | h
    · exact ⟨0, u, h, rfl⟩
    · obtain ⟨i, v, h1, h2⟩ := zll_inv t (k + 1) q h
      exact ⟨i + 1, v, by rw [h1]; congr 1; omega, by rw [List.getElem?_cons_succ]; exact h2⟩
theorem zll_at {G : zG} {als : Array Slot} {n i : Nat} {ls : List (Option Value)} {v : Value} (h : lv_has als n (zll G 0 ls)) (hi : ls[i]? = some (some v)) : als[i]? = some (.val (zcv G v)) := by
  have h1 := h.2.2 _ (zll_mem (G := G) ls 0 i v hi)
  simpa using h1
theorem zll_of {G : zG} {als : Array Slot} {n : Nat} {ls : List (Option Value)} (h1 : als.size = n) (h2 : lv_wf als) (h3 : ∀ (i : Nat) (v : Value), ls[i]? = some (some v) → als[i]? = some (.val (zcv G v))) : lv_has als n (zll G 0 ls) := by
  refine ⟨h1, h2, fun q hq => ?_⟩
  obtain ⟨i, v, e, h⟩ := zll_inv ls 0 q hq
  subst e
  simpa using h3 i v h
theorem zsub_at : ∀ (a ls : List (Option Value)), zsub a ls → ∀ (i : Nat) (v : Value), a[i]? = some (some v) → ls[i]? = some (some v)
  | [], _, _, i, v, h => by simp at h
  | none :: a, ls, hs, 0, v, h => by simp at h
  | none :: a, ls, hs, i + 1, v, h => by
    rw [List.getElem?_cons_succ] at h
    have := zsub_at a ls.tail hs i v h
    simpa using this
  | some u :: a, ls, hs, 0, v, h => by
    rw [List.getElem?_cons_zero] at h
    cases h
    have := hs.1
    cases ls with
    | nil => simp at this
    | cons x t => simpa using this
  | some u :: a, ls, hs, i + 1, v, h => by
    rw [List.getElem?_cons_succ] at h
    have := zsub_at a ls.tail hs.2 i v h
    simpa using this
theorem zst1_at : ∀ (n : Nat) (v : Value) (ls : List (Option Value)) (j : Nat) (u : Value), (zst1 n v ls)[j]? = some (some u) → (j = n ∧ u = v) ∨ (j ≠ n ∧ ls[j]? = some (some u) ∧ ¬ (j + 1 = n ∧ u.category = 2))
  | n, v, [], j, u, h => by cases n <;> simp [zst1] at h
  | 0, v, a :: t, 0, u, h => by
    simp [zst1] at h
    exact Or.inl ⟨rfl, h.symm⟩
  | 0, v, a :: t, j + 1, u, h => by
    simp only [zst1, List.getElem?_cons_succ] at h
    exact Or.inr ⟨by omega, by rw [List.getElem?_cons_succ]; exact h, by omega⟩
  | n + 1, v, a :: t, 0, u, h => by
    simp only [zst1, List.getElem?_cons_zero, Option.some.injEq] at h
    refine Or.inr ⟨by omega, ?_, ?_⟩
    · rw [List.getElem?_cons_zero]
      cases n with
      | zero =>
        cases a with
        | none => simp at h
        | some x =>
          simp only at h
          split at h
          · cases h
          · rw [h]
      | succ k => simpa using h
    · rintro ⟨h1, h2⟩
      obtain rfl : n = 0 := by omega
      cases a with
      | none => simp at h
      | some x =>
        simp only at h
        split at h
        · cases h
        · rename_i hx
          cases h
          exact hx h2
  | n + 1, v, a :: t, j + 1, u, h => by
    simp only [zst1, List.getElem?_cons_succ] at h
    rcases zst1_at n v t j u h with ⟨h1, h2⟩ | ⟨h1, h2, h3⟩
    · exact Or.inl ⟨by omega, h2⟩
    · exact Or.inr ⟨by omega, by rw [List.getElem?_cons_succ]; exact h2, fun q => h3 ⟨by omega, q.2⟩⟩
theorem zst2_at : ∀ (n : Nat) (v : Value) (ls : List (Option Value)) (j : Nat) (u : Value), (zst2 n v ls)[j]? = some (some u) → (j = n ∧ u = v) ∨ (j ≠ n ∧ j ≠ n + 1 ∧ ls[j]? = some (some u) ∧ ¬ (j + 1 = n ∧ u.category = 2))
  | n, v, [], j, u, h => by cases n <;> simp [zst2] at h
  | 0, v, a :: t, 0, u, h => by
    simp [zst2] at h
    exact Or.inl ⟨rfl, h.symm⟩
  | 0, v, a :: [], j + 1, u, h => by simp [zst2] at h
  | 0, v, a :: b :: t, 1, u, h => by simp [zst2] at h
  | 0, v, a :: b :: t, j + 2, u, h => by
    simp only [zst2, List.getElem?_cons_succ] at h
    exact Or.inr ⟨by omega, by omega, by rw [List.getElem?_cons_succ, List.getElem?_cons_succ]; exact h, by omega⟩
  | n + 1, v, a :: t, 0, u, h => by
    simp only [zst2, List.getElem?_cons_zero, Option.some.injEq] at h
    refine Or.inr ⟨by omega, by omega, ?_, ?_⟩
    · rw [List.getElem?_cons_zero]
      cases n with
      | zero =>
        cases a with
        | none => simp at h
        | some x =>
          simp only at h
          split at h
          · cases h
          · rw [h]
      | succ k => simpa using h
    · rintro ⟨h1, h2⟩
      obtain rfl : n = 0 := by omega
      cases a with
      | none => simp at h
      | some x =>
        simp only at h
        split at h
        · cases h
        · rename_i hx
          cases h
          exact hx h2
  | n + 1, v, a :: t, j + 1, u, h => by
    simp only [zst2, List.getElem?_cons_succ] at h
    rcases zst2_at n v t j u h with ⟨h1, h2⟩ | ⟨h1, h2, h3, h4⟩
    · exact Or.inl ⟨by omega, h2⟩
    · exact Or.inr ⟨by omega, by omega, by rw [List.getElem?_cons_succ]; exact h3, fun q => h4 ⟨by omega, q.2⟩⟩
theorem zst1_has {G : zG} {als : Array Slot} {nL n : Nat} {v : Value} {ls : List (Option Value)} (h : lv_has als nL (zll G 0 ls))
    (h' : lv_has als nL ((n, zcv G v) :: (zll G 0 ls).filter (fun q => !(q.1 == n) && !(q.1 + 1 == n && q.2.category == 2)))) : True := trivial
theorem zst1_ok {G : zG} {als : Array Slot} {nL n : Nat} {v : Value} {ls : List (Option Value)}
    (h : lv_has als nL ((n, zcv G v) :: (zll G 0 ls).filter (fun q => !(q.1 == n) && !(q.1 + 1 == n && q.2.category == 2)))) : lv_has als nL (zll G 0 (zst1 n v ls)) := by
  refine zll_of h.1 h.2.1 fun j u hj => ?_
  rcases zst1_at n v ls j u hj with ⟨h1, h2⟩ | ⟨h1, h2, h3⟩
  · subst h1; subst h2
    exact h.2.2 (_, _) List.mem_cons_self
  · refine h.2.2 (j, zcv G u) (List.mem_cons_of_mem _ (List.mem_filter.mpr ⟨by simpa using zll_mem (G := G) ls 0 j u h2, ?_⟩))
    simp only [Bool.and_eq_true, Bool.not_eq_true', beq_eq_false_iff_ne, ne_eq, Bool.and_eq_false_iff]
    refine ⟨h1, ?_⟩
    by_cases a : j + 1 = n
    · right
      rw [zcv_cat]
      exact fun q => h3 ⟨a, q⟩
    · exact Or.inl a
theorem zst2_ok {G : zG} {als : Array Slot} {nL n : Nat} {v : Value} {ls : List (Option Value)}
    (h : lv_has als nL ((n, zcv G v) :: (zll G 0 ls).filter (fun q => !(q.1 == n) && (!(q.1 == n + 1) && !(q.1 + 1 == n && q.2.category == 2))))) : lv_has als nL (zll G 0 (zst2 n v ls)) := by
  refine zll_of h.1 h.2.1 fun j u hj => ?_
  rcases zst2_at n v ls j u hj with ⟨h1, h2⟩ | ⟨h1, h1b, h2, h3⟩
  · subst h1; subst h2
    exact h.2.2 (_, _) List.mem_cons_self
  · refine h.2.2 (j, zcv G u) (List.mem_cons_of_mem _ (List.mem_filter.mpr ⟨by simpa using zll_mem (G := G) ls 0 j u h2, ?_⟩))
    simp only [Bool.and_eq_true, Bool.not_eq_true', beq_eq_false_iff_ne, ne_eq, Bool.and_eq_false_iff]
    refine ⟨h1, h1b, ?_⟩
    by_cases a : j + 1 = n
    · right
      rw [zcv_cat]
      exact fun q => h3 ⟨a, q⟩
    · exact Or.inl a
theorem zen_lv {G : zG} : ∀ (args : List Value) (i k : Nat), zll G i (zen args ++ List.replicate k none) = lv_args i (args.map (zcv G))
  | [], i, k => by
    show zll G i ([] ++ List.replicate k none) = []
    induction k generalizing i with
    | zero => rfl
    | succ k ih => exact ih (i + 1)
  | v :: t, i, k => by
    by_cases hc : v.category = 2
    · have hc' : (zcv G v).category = 2 := by rw [zcv_cat]; exact hc
      simp only [zen, if_pos hc, List.cons_append, zll, List.map_cons, lv_args, if_pos hc']
      rw [zen_lv t (i + 1 + 1) k]
    · have hc' : ¬ (zcv G v).category = 2 := by rw [zcv_cat]; exact hc
      simp only [zen, if_neg hc, List.cons_append, zll, List.map_cons, lv_args, if_neg hc']
      rw [zen_lv t (i + 1) k]
theorem zen_len {G : zG} : ∀ (args : List Value), (lg_sl (args.map (zcv G))).length = (zen args).length
  | [] => rfl
  | v :: t => by
    have ih := zen_len (G := G) t
    by_cases hc : v.category = 2
    · have hc' : (zcv G v).category = 2 := by rw [zcv_cat]; exact hc
      simp only [lg_sl, List.map_cons, List.flatMap_cons, if_pos hc', zen, if_pos hc, List.length_append, List.length_cons, List.length_nil] at ih ⊢
      omega
    · have hc' : ¬ (zcv G v).category = 2 := by rw [zcv_cat]; exact hc
      simp only [lg_sl, List.map_cons, List.flatMap_cons, if_neg hc', zen, if_neg hc, List.length_append, List.length_cons, List.length_nil] at ih ⊢
      omega
/-! the world's list -/
theorem zconc_len (G : zG) (w : zWd) : (zconc G w).length = w.1.length := by simp [zconc]
theorem zconc_get {G : zG} {w : zWd} {k : Nat} {sh : zSh} (h : w.1[k]? = some sh) : (zconc G w)[k]? = some (zad G k, zce G w k sh) := by
  have hk : k < w.1.length := (List.getElem?_eq_some_iff.mp h).1
  unfold zconc
  rw [List.getElem?_map, List.getElem?_range hk, Option.map_some, List.getD_eq_getElem?_getD, h]
  rfl
theorem zconc_inv {G : zG} {w : zWd} {k : Nat} {q : Nat × va_E} (h : (zconc G w)[k]? = some q) : ∃ sh, w.1[k]? = some sh ∧ q = (zad G k, zce G w k sh) := by
  have hk : k < w.1.length := by rw [← zconc_len G w]; exact (List.getElem?_eq_some_iff.mp h).1
  refine ⟨w.1[k], List.getElem?_eq_getElem hk, ?_⟩
  have := zconc_get (G := G) (List.getElem?_eq_getElem hk)
  rw [h] at this
  exact Option.some.inj this
theorem zconc_set {G : zG} {w w' : zWd} {k : Nat} {sh : zSh} {E : va_E} (h : w.1[k]? = some sh) (h1 : w'.1 = w.1) (h2 : E = zce G w' k sh) (h3 : ∀ (j : Nat) (sh' : zSh), j ≠ k → zce G w' j sh' = zce G w j sh') : (zconc G w).set k (zad G k, E) = zconc G w' := by
  have hk : k < w.1.length := (List.getElem?_eq_some_iff.mp h).1
  subst h2
  apply List.ext_getElem?
  intro j
  by_cases hj : j = k
  · subst hj
    rw [List.getElem?_set_self (by rw [zconc_len]; exact hk), zconc_get (w := w') (by rw [h1]; exact h)]
  · rw [List.getElem?_set_ne (Ne.symm hj)]
    by_cases hl : j < w.1.length
    · have e := List.getElem?_eq_getElem hl
      rw [zconc_get e, zconc_get (w := w') (by rw [h1]; exact e), h3 j _ hj]
    · rw [List.getElem?_eq_none (by rw [zconc_len]; omega), List.getElem?_eq_none (by rw [zconc_len, h1]; omega)]
theorem zad_lt {G : zG} {k : Nat} (h : k < 1000) : zad G k = G.2.2.1 + k := if_pos h
theorem zD {G : zG} {w : zWd} (h : w.1.length ≤ 1000) : va_D (zA G) (zconc G w) := by
  refine ⟨fun i j x y hi hj hxy => ?_, fun k q hk => ?_⟩
  · obtain ⟨s1, e1, rfl⟩ := zconc_inv hi
    obtain ⟨s2, e2, rfl⟩ := zconc_inv hj
    have l1 := (List.getElem?_eq_some_iff.mp e1).1
    have l2 := (List.getElem?_eq_some_iff.mp e2).1
    have e : zad G i = zad G j := hxy
    rw [zad_lt (by omega), zad_lt (by omega)] at e
    omega
  · obtain ⟨s1, e1, rfl⟩ := zconc_inv hk
    have l1 := (List.getElem?_eq_some_iff.mp e1).1
    show G.2.2.1 ≤ zad G k
    rw [zad_lt (by omega)]
    omega
/-! writing -/
def zuI (w : zWd) (k i : Nat) (v : Int32) : zWd := (w.1, w.2.1, fun a b => if a = k ∧ b = i then v else w.2.2.1 a b, w.2.2.2)
def zuL (w : zWd) (k i : Nat) (v : Int64) : zWd := (w.1, w.2.1, w.2.2.1, fun a b => if a = k ∧ b = i then v else w.2.2.2 a b)
def zuR (w : zWd) (k i : Nat) (v : Option Nat) : zWd := (w.1, fun a b => if a = k ∧ b = i then v else w.2.1 a b, w.2.2.1, w.2.2.2)
theorem zce_congr {G : zG} {w w' : zWd} {j : Nat} (hR : ∀ b, w'.2.1 j b = w.2.1 j b) (hI : ∀ b, w'.2.2.1 j b = w.2.2.1 j b) (hL : ∀ b, w'.2.2.2 j b = w.2.2.2 j b) (sh : zSh) : zce G w' j sh = zce G w j sh := by
  have e1 : w'.2.1 j = w.2.1 j := funext hR
  have e2 : w'.2.2.1 j = w.2.2.1 j := funext hI
  have e3 : w'.2.2.2 j = w.2.2.2 j := funext hL
  have e4 : zfv G w' j sh.2 = zfv G w j sh.2 := by funext b; unfold zfv; rw [e1, e2, e3]
  unfold zce
  rw [e1, e2, e3, e4]
theorem zuI_off {G : zG} {w : zWd} {k i : Nat} {v : Int32} (j : Nat) (sh : zSh) (hj : j ≠ k) : zce G (zuI w k i v) j sh = zce G w j sh := by
  refine zce_congr (w := w) (w' := zuI w k i v) (fun _ => rfl) (fun b => ?_) (fun _ => rfl) sh
  exact if_neg fun q => hj q.1
theorem zuL_off {G : zG} {w : zWd} {k i : Nat} {v : Int64} (j : Nat) (sh : zSh) (hj : j ≠ k) : zce G (zuL w k i v) j sh = zce G w j sh := by
  refine zce_congr (w := w) (w' := zuL w k i v) (fun _ => rfl) (fun _ => rfl) (fun b => ?_) sh
  exact if_neg fun q => hj q.1
theorem zuR_off {G : zG} {w : zWd} {k i : Nat} {v : Option Nat} (j : Nat) (sh : zSh) (hj : j ≠ k) : zce G (zuR w k i v) j sh = zce G w j sh := by
  refine zce_congr (w := w) (w' := zuR w k i v) (fun b => ?_) (fun _ => rfl) (fun _ => rfl) sh
  exact if_neg fun q => hj q.1
theorem zrange_set {f g : Nat → Value} {N i : Nat} {v : Value} (hv : i < N → g i = v) (ho : ∀ j, j ≠ i → g j = f j) : ((List.range N).map f).set i v = (List.range N).map g := by
  apply List.ext_getElem?
  intro j
  by_cases hj : j = i
  · subst hj
    by_cases hl : j < N
    · rw [List.getElem?_set_self (by simpa using hl), List.getElem?_map, List.getElem?_range hl, Option.map_some, hv hl]
    · rw [List.getElem?_eq_none (by simp; omega), List.getElem?_eq_none (by simp; omega)]
  · rw [List.getElem?_set_ne (Ne.symm hj), List.getElem?_map, List.getElem?_map]
    by_cases hl : j < N
    · rw [List.getElem?_range hl, Option.map_some, Option.map_some, ho j hj]
    · rw [List.getElem?_eq_none (by simp; omega)]
      rfl
end
section
/-! ===== rows: an instruction, over zWp (written by wip/whole/gen/rules.py) ===== -/
theorem z_iconst {X : zX} {M : zM} {cs : Nat × Nat} {pc pc' : Nat} {ls : List (Option Value)} {st : List Value} {w : zWd} {n : Int} {v : Int32} (hd : decode M.2.1 pc = .ok (.iconst n, 1)) (hp : pc + 1 = pc') (hv : Int32.ofInt n = v) (kk : zWp X M cs pc' ls (.int v :: st) w) : zWp X M cs pc ls (st) w := by
  subst hp
  intro p e s m args below meth c H locs als Qf R C hH hl F
  exact lv_iconst C.1 C.2.1 hd hv (kk p e s m args below meth c H locs als Qf R C hH hl F)
theorem z_bipush {X : zX} {M : zM} {cs : Nat × Nat} {pc pc' : Nat} {ls : List (Option Value)} {st : List Value} {w : zWd} {n : Int} {v : Int32} (hd : decode M.2.1 pc = .ok (.bipush n, 2)) (hp : pc + 2 = pc') (hv : (Int8.ofInt n).toInt32 = v) (kk : zWp X M cs pc' ls (.int v :: st) w) : zWp X M cs pc ls (st) w := by
  subst hp
  intro p e s m args below meth c H locs als Qf R C hH hl F
  exact lv_bipush C.1 C.2.1 hd hv (kk p e s m args below meth c H locs als Qf R C hH hl F)
theorem z_sipush {X : zX} {M : zM} {cs : Nat × Nat} {pc pc' : Nat} {ls : List (Option Value)} {st : List Value} {w : zWd} {n : Int} {v : Int32} (hd : decode M.2.1 pc = .ok (.sipush n, 3)) (hp : pc + 3 = pc') (hv : (Int16.ofInt n).toInt32 = v) (kk : zWp X M cs pc' ls (.int v :: st) w) : zWp X M cs pc ls (st) w := by
  subst hp
  intro p e s m args below meth c H locs als Qf R C hH hl F
  exact lv_sipush C.1 C.2.1 hd hv (kk p e s m args below meth c H locs als Qf R C hH hl F)
theorem z_lconst {X : zX} {M : zM} {cs : Nat × Nat} {pc pc' : Nat} {ls : List (Option Value)} {st : List Value} {w : zWd} {n : Fin 2} {v : Int64} (hd : decode M.2.1 pc = .ok (.lconst n, 1)) (hp : pc + 1 = pc') (hv : Int64.ofNat (n : Nat) = v) (kk : zWp X M cs pc' ls (.long v :: st) w) : zWp X M cs pc ls (st) w := by
  subst hp
  intro p e s m args below meth c H locs als Qf R C hH hl F
  exact lv_lconst C.1 C.2.1 hd hv (kk p e s m args below meth c H locs als Qf R C hH hl F)
theorem z_ldc {X : zX} {M : zM} {cs : Nat × Nat} {pc pc' : Nat} {ls : List (Option Value)} {st : List Value} {w : zWd} {n : Nat} {v : Int32} (hd : decode M.2.1 pc = .ok (.ldc n, 2)) (hp : pc + 2 = pc') (hv : Cond.constant M.1.cls n v ∈ zTb) (kk : zWp X M cs pc' ls (.int v :: st) w) : zWp X M cs pc ls (st) w := by
  subst hp
  intro p e s m args below meth c H locs als Qf R C hH hl F
  exact lv_ldc C.1 C.2.1 C.2.2.2.2.1 (C.2.2.2.2.2.1 _ hv) hd (kk p e s m args below meth c H locs als Qf R C hH hl F)
theorem z_ldc2 {X : zX} {M : zM} {cs : Nat × Nat} {pc pc' : Nat} {ls : List (Option Value)} {st : List Value} {w : zWd} {n : Nat} {v : Int64} (hd : decode M.2.1 pc = .ok (.ldc2_w n, 3)) (hp : pc + 3 = pc') (hv : Cond.constantLong M.1.cls n v ∈ zTb) (kk : zWp X M cs pc' ls (.long v :: st) w) : zWp X M cs pc ls (st) w := by
  subst hp
  intro p e s m args below meth c H locs als Qf R C hH hl F
  exact lv_ldc2 C.1 C.2.1 C.2.2.2.2.1 (C.2.2.2.2.2.1 _ hv) hd (kk p e s m args below meth c H locs als Qf R C hH hl F)
theorem z_iload_n {X : zX} {M : zM} {cs : Nat × Nat} {pc pc' : Nat} {ls : List (Option Value)} {st : List Value} {w : zWd} {k : Fin 4} {x : Int32} (hd : decode M.2.1 pc = .ok (.iload_n k, 1)) (hp : pc + 1 = pc') (hx : ls[(k : Nat)]? = some (some (.int x))) (kk : zWp X M cs pc' ls (.int x :: st) w) : zWp X M cs pc ls (st) w := by
  subst hp
  intro p e s m args below meth c H locs als Qf R C hH hl F
  exact lv_iload_n C.1 C.2.1 hd rfl (zll_at hl hx) (kk p e s m args below meth c H locs als Qf R C hH hl F)
theorem z_iload {X : zX} {M : zM} {cs : Nat × Nat} {pc pc' : Nat} {ls : List (Option Value)} {st : List Value} {w : zWd} {i : Nat} {x : Int32} (hd : decode M.2.1 pc = .ok (.iload i, 2)) (hp : pc + 2 = pc') (hx : ls[i]? = some (some (.int x))) (kk : zWp X M cs pc' ls (.int x :: st) w) : zWp X M cs pc ls (st) w := by
  subst hp
  intro p e s m args below meth c H locs als Qf R C hH hl F
  exact lv_iload C.1 C.2.1 hd (zll_at hl hx) (kk p e s m args below meth c H locs als Qf R C hH hl F)
theorem z_lload_n {X : zX} {M : zM} {cs : Nat × Nat} {pc pc' : Nat} {ls : List (Option Value)} {st : List Value} {w : zWd} {k : Fin 4} {x : Int64} (hd : decode M.2.1 pc = .ok (.lload_n k, 1)) (hp : pc + 1 = pc') (hx : ls[(k : Nat)]? = some (some (.long x))) (kk : zWp X M cs pc' ls (.long x :: st) w) : zWp X M cs pc ls (st) w := by
  subst hp
  intro p e s m args below meth c H locs als Qf R C hH hl F
  exact lv_lload_n C.1 C.2.1 hd rfl (zll_at hl hx) (kk p e s m args below meth c H locs als Qf R C hH hl F)
theorem z_lload {X : zX} {M : zM} {cs : Nat × Nat} {pc pc' : Nat} {ls : List (Option Value)} {st : List Value} {w : zWd} {i : Nat} {x : Int64} (hd : decode M.2.1 pc = .ok (.lload i, 2)) (hp : pc + 2 = pc') (hx : ls[i]? = some (some (.long x))) (kk : zWp X M cs pc' ls (.long x :: st) w) : zWp X M cs pc ls (st) w := by
  subst hp
  intro p e s m args below meth c H locs als Qf R C hH hl F
  exact lv_lload C.1 C.2.1 hd (zll_at hl hx) (kk p e s m args below meth c H locs als Qf R C hH hl F)
theorem z_aload_n {X : zX} {M : zM} {cs : Nat × Nat} {pc pc' : Nat} {ls : List (Option Value)} {st : List Value} {w : zWd} {k : Fin 4} {x : Nat} (hd : decode M.2.1 pc = .ok (.aload_n k, 1)) (hp : pc + 1 = pc') (hx : ls[(k : Nat)]? = some (some (.ref x))) (kk : zWp X M cs pc' ls (.ref x :: st) w) : zWp X M cs pc ls (st) w := by
  subst hp
  intro p e s m args below meth c H locs als Qf R C hH hl F
  exact lv_aload_n C.1 C.2.1 hd rfl (zll_at hl hx) (kk p e s m args below meth c H locs als Qf R C hH hl F)
theorem z_aload {X : zX} {M : zM} {cs : Nat × Nat} {pc pc' : Nat} {ls : List (Option Value)} {st : List Value} {w : zWd} {i : Nat} {x : Nat} (hd : decode M.2.1 pc = .ok (.aload i, 2)) (hp : pc + 2 = pc') (hx : ls[i]? = some (some (.ref x))) (kk : zWp X M cs pc' ls (.ref x :: st) w) : zWp X M cs pc ls (st) w := by
  subst hp
  intro p e s m args below meth c H locs als Qf R C hH hl F
  exact lv_aload C.1 C.2.1 hd (zll_at hl hx) (kk p e s m args below meth c H locs als Qf R C hH hl F)
theorem z_istore_n {X : zX} {M : zM} {cs : Nat × Nat} {pc pc' : Nat} {ls : List (Option Value)} {st : List Value} {w : zWd} {ls' : List (Option Value)} {k : Fin 4} {x : Int32} (hd : decode M.2.1 pc = .ok (.istore_n k, 1)) (hp : pc + 1 = pc') (hi : (k : Nat) < M.2.2.1) (hs : zst1 (k : Nat) (.int x) ls = ls') (kk : zWp X M cs pc' ls' st w) : zWp X M cs pc ls (.int x :: st) w := by
  subst hp
  subst hs
  intro p e s m args below meth c H locs als Qf R C hH hl F
  exact lv_istore_n C.1 C.2.1 hd rfl hl hi rfl (fun als' hl' => kk p e s m args below meth c H locs als' Qf R C hH (zst1_ok hl') F)
theorem z_istore {X : zX} {M : zM} {cs : Nat × Nat} {pc pc' : Nat} {ls : List (Option Value)} {st : List Value} {w : zWd} {ls' : List (Option Value)} {i : Nat} {x : Int32} (hd : decode M.2.1 pc = .ok (.istore i, 2)) (hp : pc + 2 = pc') (hi : i < M.2.2.1) (hs : zst1 i (.int x) ls = ls') (kk : zWp X M cs pc' ls' st w) : zWp X M cs pc ls (.int x :: st) w := by
  subst hp
  subst hs
  intro p e s m args below meth c H locs als Qf R C hH hl F
  exact lv_istore C.1 C.2.1 hd hl hi rfl (fun als' hl' => kk p e s m args below meth c H locs als' Qf R C hH (zst1_ok hl') F)
theorem z_lstore_n {X : zX} {M : zM} {cs : Nat × Nat} {pc pc' : Nat} {ls : List (Option Value)} {st : List Value} {w : zWd} {ls' : List (Option Value)} {k : Fin 4} {x : Int64} (hd : decode M.2.1 pc = .ok (.lstore_n k, 1)) (hp : pc + 1 = pc') (hi : (k : Nat) + 1 < M.2.2.1) (hs : zst2 (k : Nat) (.long x) ls = ls') (kk : zWp X M cs pc' ls' st w) : zWp X M cs pc ls (.long x :: st) w := by
  subst hp
  subst hs
  intro p e s m args below meth c H locs als Qf R C hH hl F
  exact lv_lstore_n C.1 C.2.1 hd rfl hl hi rfl (fun als' hl' => kk p e s m args below meth c H locs als' Qf R C hH (zst2_ok hl') F)
theorem z_lstore {X : zX} {M : zM} {cs : Nat × Nat} {pc pc' : Nat} {ls : List (Option Value)} {st : List Value} {w : zWd} {ls' : List (Option Value)} {i : Nat} {x : Int64} (hd : decode M.2.1 pc = .ok (.lstore i, 2)) (hp : pc + 2 = pc') (hi : i + 1 < M.2.2.1) (hs : zst2 i (.long x) ls = ls') (kk : zWp X M cs pc' ls' st w) : zWp X M cs pc ls (.long x :: st) w := by
  subst hp
  subst hs
  intro p e s m args below meth c H locs als Qf R C hH hl F
  exact lv_lstore C.1 C.2.1 hd hl hi rfl (fun als' hl' => kk p e s m args below meth c H locs als' Qf R C hH (zst2_ok hl') F)
theorem z_astore_n {X : zX} {M : zM} {cs : Nat × Nat} {pc pc' : Nat} {ls : List (Option Value)} {st : List Value} {w : zWd} {ls' : List (Option Value)} {k : Fin 4} {x : Nat} (hd : decode M.2.1 pc = .ok (.astore_n k, 1)) (hp : pc + 1 = pc') (hi : (k : Nat) < M.2.2.1) (hs : zst1 (k : Nat) (.ref x) ls = ls') (kk : zWp X M cs pc' ls' st w) : zWp X M cs pc ls (.ref x :: st) w := by
  subst hp
  subst hs
  intro p e s m args below meth c H locs als Qf R C hH hl F
  exact lv_astore_n C.1 C.2.1 hd rfl hl hi rfl (fun als' hl' => kk p e s m args below meth c H locs als' Qf R C hH (zst1_ok hl') F)
theorem z_astore {X : zX} {M : zM} {cs : Nat × Nat} {pc pc' : Nat} {ls : List (Option Value)} {st : List Value} {w : zWd} {ls' : List (Option Value)} {i : Nat} {x : Nat} (hd : decode M.2.1 pc = .ok (.astore i, 2)) (hp : pc + 2 = pc') (hi : i < M.2.2.1) (hs : zst1 i (.ref x) ls = ls') (kk : zWp X M cs pc' ls' st w) : zWp X M cs pc ls (.ref x :: st) w := by
  subst hp
  subst hs
  intro p e s m args below meth c H locs als Qf R C hH hl F
  exact lv_astore C.1 C.2.1 hd hl hi rfl (fun als' hl' => kk p e s m args below meth c H locs als' Qf R C hH (zst1_ok hl') F)
theorem z_iinc {X : zX} {M : zM} {cs : Nat × Nat} {pc pc' : Nat} {ls : List (Option Value)} {st : List Value} {w : zWd} {ls' : List (Option Value)} {i : Nat} {n : Int} {x v : Int32} (hd : decode M.2.1 pc = .ok (.iinc i n, 3)) (hp : pc + 3 = pc') (hx : ls[i]? = some (some (.int x))) (hv : x + Int32.ofInt n = v) (hi : i < M.2.2.1) (hs : zst1 i (.int v) ls = ls') (kk : zWp X M cs pc' ls' st w) : zWp X M cs pc ls st w := by
  subst hp
  subst hs
  intro p e s m args below meth c H locs als Qf R C hH hl F
  obtain ⟨k, hk⟩ := List.getElem?_of_mem (zll_mem (G := X.2.1) ls 0 i (.int x) hx)
  rw [Nat.zero_add] at hk
  exact lv_iinc C.1 C.2.1 hd hl hk hv hi rfl (fun als' hl' => kk p e s m args below meth c H locs als' Qf R C hH (zst1_ok hl') F)
theorem z_iadd {X : zX} {M : zM} {cs : Nat × Nat} {pc pc' : Nat} {ls : List (Option Value)} {st : List Value} {w : zWd} {x y : Int32} (hd : decode M.2.1 pc = .ok (.iadd, 1)) (hp : pc + 1 = pc')  (kk : zWp X M cs pc' ls (.int (x + y) :: st) w) : zWp X M cs pc ls (.int y :: .int x :: st) w := by
  subst hp
  intro p e s m args below meth c H locs als Qf R C hH hl F
  exact lv_iadd C.1 C.2.1 hd (kk p e s m args below meth c H locs als Qf R C hH hl F)
theorem z_isub {X : zX} {M : zM} {cs : Nat × Nat} {pc pc' : Nat} {ls : List (Option Value)} {st : List Value} {w : zWd} {x y : Int32} (hd : decode M.2.1 pc = .ok (.isub, 1)) (hp : pc + 1 = pc')  (kk : zWp X M cs pc' ls (.int (x - y) :: st) w) : zWp X M cs pc ls (.int y :: .int x :: st) w := by
  subst hp
  intro p e s m args below meth c H locs als Qf R C hH hl F
  exact lv_isub C.1 C.2.1 hd (kk p e s m args below meth c H locs als Qf R C hH hl F)
theorem z_imul {X : zX} {M : zM} {cs : Nat × Nat} {pc pc' : Nat} {ls : List (Option Value)} {st : List Value} {w : zWd} {x y : Int32} (hd : decode M.2.1 pc = .ok (.imul, 1)) (hp : pc + 1 = pc')  (kk : zWp X M cs pc' ls (.int (x * y) :: st) w) : zWp X M cs pc ls (.int y :: .int x :: st) w := by
  subst hp
  intro p e s m args below meth c H locs als Qf R C hH hl F
  exact lv_imul C.1 C.2.1 hd (kk p e s m args below meth c H locs als Qf R C hH hl F)
theorem z_iand {X : zX} {M : zM} {cs : Nat × Nat} {pc pc' : Nat} {ls : List (Option Value)} {st : List Value} {w : zWd} {x y : Int32} (hd : decode M.2.1 pc = .ok (.iand, 1)) (hp : pc + 1 = pc')  (kk : zWp X M cs pc' ls (.int (x &&& y) :: st) w) : zWp X M cs pc ls (.int y :: .int x :: st) w := by
  subst hp
  intro p e s m args below meth c H locs als Qf R C hH hl F
  exact lv_iand C.1 C.2.1 hd (kk p e s m args below meth c H locs als Qf R C hH hl F)
theorem z_ior {X : zX} {M : zM} {cs : Nat × Nat} {pc pc' : Nat} {ls : List (Option Value)} {st : List Value} {w : zWd} {x y : Int32} (hd : decode M.2.1 pc = .ok (.ior, 1)) (hp : pc + 1 = pc')  (kk : zWp X M cs pc' ls (.int (x ||| y) :: st) w) : zWp X M cs pc ls (.int y :: .int x :: st) w := by
  subst hp
  intro p e s m args below meth c H locs als Qf R C hH hl F
  exact lv_ior C.1 C.2.1 hd (kk p e s m args below meth c H locs als Qf R C hH hl F)
theorem z_ixor {X : zX} {M : zM} {cs : Nat × Nat} {pc pc' : Nat} {ls : List (Option Value)} {st : List Value} {w : zWd} {x y : Int32} (hd : decode M.2.1 pc = .ok (.ixor, 1)) (hp : pc + 1 = pc')  (kk : zWp X M cs pc' ls (.int (x ^^^ y) :: st) w) : zWp X M cs pc ls (.int y :: .int x :: st) w := by
  subst hp
  intro p e s m args below meth c H locs als Qf R C hH hl F
  exact lv_ixor C.1 C.2.1 hd (kk p e s m args below meth c H locs als Qf R C hH hl F)
theorem z_rem32 (x y : Int32) : x - x / y * y = x % y := by
  have h : x / y = Int32.ofInt (x.toInt.tdiv y.toInt) := by
    apply Int32.toInt_inj.mp
    rw [Int32.toInt_div, Int32.toInt_ofInt]
  have h2 : x % y = Int32.ofInt (x.toInt.tmod y.toInt) := by rw [← Int32.toInt_mod, Int32.ofInt_toInt]
  rw [h, h2, Int.tmod_def, Int32.ofInt_sub, Int32.ofInt_mul, Int32.ofInt_toInt, Int32.ofInt_toInt, Int32.mul_comm]
theorem z_rem64 (x y : Int64) : x - x / y * y = x % y := by
  have h : x / y = Int64.ofInt (x.toInt.tdiv y.toInt) := by
    apply Int64.toInt_inj.mp
    rw [Int64.toInt_div, Int64.toInt_ofInt]
  have h2 : x % y = Int64.ofInt (x.toInt.tmod y.toInt) := by rw [← Int64.toInt_mod, Int64.ofInt_toInt]
  rw [h, h2, Int.tmod_def, Int64.ofInt_sub, Int64.ofInt_mul, Int64.ofInt_toInt, Int64.ofInt_toInt, Int64.mul_comm]
theorem z_idiv {X : zX} {M : zM} {cs : Nat × Nat} {pc pc' : Nat} {ls : List (Option Value)} {st : List Value} {w : zWd} {x y : Int32} (hd : decode M.2.1 pc = .ok (.idiv, 1)) (hp : pc + 1 = pc') (hne : ¬ y = 0) (kk : zWp X M cs pc' ls (.int (x / y) :: st) w) : zWp X M cs pc ls (.int y :: .int x :: st) w := by
  subst hp
  intro p e s m args below meth c H locs als Qf R C hH hl F
  exact lv_idiv C.1 C.2.1 hd hne (kk p e s m args below meth c H locs als Qf R C hH hl F)
theorem z_irem {X : zX} {M : zM} {cs : Nat × Nat} {pc pc' : Nat} {ls : List (Option Value)} {st : List Value} {w : zWd} {x y : Int32} (hd : decode M.2.1 pc = .ok (.irem, 1)) (hp : pc + 1 = pc') (hne : ¬ y = 0) (kk : zWp X M cs pc' ls (.int (x % y) :: st) w) : zWp X M cs pc ls (.int y :: .int x :: st) w := by
  subst hp
  intro p e s m args below meth c H locs als Qf R C hH hl F
  refine lv_irem C.1 C.2.1 hd hne ?_
  rw [z_rem32]
  exact (kk p e s m args below meth c H locs als Qf R C hH hl F)
theorem z_ladd {X : zX} {M : zM} {cs : Nat × Nat} {pc pc' : Nat} {ls : List (Option Value)} {st : List Value} {w : zWd} {x y : Int64} (hd : decode M.2.1 pc = .ok (.ladd, 1)) (hp : pc + 1 = pc')  (kk : zWp X M cs pc' ls (.long (x + y) :: st) w) : zWp X M cs pc ls (.long y :: .long x :: st) w := by
  subst hp
  intro p e s m args below meth c H locs als Qf R C hH hl F
  exact lv_ladd C.1 C.2.1 hd (kk p e s m args below meth c H locs als Qf R C hH hl F)
theorem z_lsub {X : zX} {M : zM} {cs : Nat × Nat} {pc pc' : Nat} {ls : List (Option Value)} {st : List Value} {w : zWd} {x y : Int64} (hd : decode M.2.1 pc = .ok (.lsub, 1)) (hp : pc + 1 = pc')  (kk : zWp X M cs pc' ls (.long (x - y) :: st) w) : zWp X M cs pc ls (.long y :: .long x :: st) w := by
  subst hp
  intro p e s m args below meth c H locs als Qf R C hH hl F
  exact lv_lsub C.1 C.2.1 hd (kk p e s m args below meth c H locs als Qf R C hH hl F)
theorem z_lmul {X : zX} {M : zM} {cs : Nat × Nat} {pc pc' : Nat} {ls : List (Option Value)} {st : List Value} {w : zWd} {x y : Int64} (hd : decode M.2.1 pc = .ok (.lmul, 1)) (hp : pc + 1 = pc')  (kk : zWp X M cs pc' ls (.long (x * y) :: st) w) : zWp X M cs pc ls (.long y :: .long x :: st) w := by
  subst hp
  intro p e s m args below meth c H locs als Qf R C hH hl F
  exact lv_lmul C.1 C.2.1 hd (kk p e s m args below meth c H locs als Qf R C hH hl F)
theorem z_land {X : zX} {M : zM} {cs : Nat × Nat} {pc pc' : Nat} {ls : List (Option Value)} {st : List Value} {w : zWd} {x y : Int64} (hd : decode M.2.1 pc = .ok (.land, 1)) (hp : pc + 1 = pc')  (kk : zWp X M cs pc' ls (.long (x &&& y) :: st) w) : zWp X M cs pc ls (.long y :: .long x :: st) w := by
  subst hp
  intro p e s m args below meth c H locs als Qf R C hH hl F
  exact lv_land C.1 C.2.1 hd (kk p e s m args below meth c H locs als Qf R C hH hl F)
theorem z_lor {X : zX} {M : zM} {cs : Nat × Nat} {pc pc' : Nat} {ls : List (Option Value)} {st : List Value} {w : zWd} {x y : Int64} (hd : decode M.2.1 pc = .ok (.lor, 1)) (hp : pc + 1 = pc')  (kk : zWp X M cs pc' ls (.long (x ||| y) :: st) w) : zWp X M cs pc ls (.long y :: .long x :: st) w := by
  subst hp
  intro p e s m args below meth c H locs als Qf R C hH hl F
  exact lv_lor C.1 C.2.1 hd (kk p e s m args below meth c H locs als Qf R C hH hl F)
theorem z_ldiv {X : zX} {M : zM} {cs : Nat × Nat} {pc pc' : Nat} {ls : List (Option Value)} {st : List Value} {w : zWd} {x y : Int64} (hd : decode M.2.1 pc = .ok (.ldiv, 1)) (hp : pc + 1 = pc') (hne : ¬ y = 0) (kk : zWp X M cs pc' ls (.long (x / y) :: st) w) : zWp X M cs pc ls (.long y :: .long x :: st) w := by
  subst hp
  intro p e s m args below meth c H locs als Qf R C hH hl F
  exact lv_ldiv C.1 C.2.1 hd hne (kk p e s m args below meth c H locs als Qf R C hH hl F)
theorem z_lrem {X : zX} {M : zM} {cs : Nat × Nat} {pc pc' : Nat} {ls : List (Option Value)} {st : List Value} {w : zWd} {x y : Int64} (hd : decode M.2.1 pc = .ok (.lrem, 1)) (hp : pc + 1 = pc') (hne : ¬ y = 0) (kk : zWp X M cs pc' ls (.long (x % y) :: st) w) : zWp X M cs pc ls (.long y :: .long x :: st) w := by
  subst hp
  intro p e s m args below meth c H locs als Qf R C hH hl F
  refine lv_lrem C.1 C.2.1 hd hne ?_
  rw [z_rem64]
  exact (kk p e s m args below meth c H locs als Qf R C hH hl F)
theorem z_ishl {X : zX} {M : zM} {cs : Nat × Nat} {pc pc' : Nat} {ls : List (Option Value)} {st : List Value} {w : zWd} {x y : Int32} (hd : decode M.2.1 pc = .ok (.ishl, 1)) (hp : pc + 1 = pc')  (kk : zWp X M cs pc' ls (.int (x <<< (y &&& 31)) :: st) w) : zWp X M cs pc ls (.int y :: .int x :: st) w := by
  subst hp
  intro p e s m args below meth c H locs als Qf R C hH hl F
  exact lv_ishl C.1 C.2.1 hd (kk p e s m args below meth c H locs als Qf R C hH hl F)
theorem z_ishr {X : zX} {M : zM} {cs : Nat × Nat} {pc pc' : Nat} {ls : List (Option Value)} {st : List Value} {w : zWd} {x y : Int32} (hd : decode M.2.1 pc = .ok (.ishr, 1)) (hp : pc + 1 = pc')  (kk : zWp X M cs pc' ls (.int (x >>> (y &&& 31)) :: st) w) : zWp X M cs pc ls (.int y :: .int x :: st) w := by
  subst hp
  intro p e s m args below meth c H locs als Qf R C hH hl F
  exact lv_ishr C.1 C.2.1 hd (kk p e s m args below meth c H locs als Qf R C hH hl F)
theorem z_iushr {X : zX} {M : zM} {cs : Nat × Nat} {pc pc' : Nat} {ls : List (Option Value)} {st : List Value} {w : zWd} {x y : Int32} (hd : decode M.2.1 pc = .ok (.iushr, 1)) (hp : pc + 1 = pc')  (kk : zWp X M cs pc' ls (.int ((x.toUInt32 >>> (y.toUInt32 &&& Int32.toUInt32 31)).toInt32) :: st) w) : zWp X M cs pc ls (.int y :: .int x :: st) w := by
  subst hp
  intro p e s m args below meth c H locs als Qf R C hH hl F
  exact lv_iushr C.1 C.2.1 hd rfl (kk p e s m args below meth c H locs als Qf R C hH hl F)
theorem z_lshl {X : zX} {M : zM} {cs : Nat × Nat} {pc pc' : Nat} {ls : List (Option Value)} {st : List Value} {w : zWd} {x : Int64} {y : Int32} (hd : decode M.2.1 pc = .ok (.lshl, 1)) (hp : pc + 1 = pc')  (kk : zWp X M cs pc' ls (.long (x <<< (y.toInt64 &&& 63)) :: st) w) : zWp X M cs pc ls (.int y :: .long x :: st) w := by
  subst hp
  intro p e s m args below meth c H locs als Qf R C hH hl F
  exact lv_lshl C.1 C.2.1 hd rfl (kk p e s m args below meth c H locs als Qf R C hH hl F)
theorem z_ineg {X : zX} {M : zM} {cs : Nat × Nat} {pc pc' : Nat} {ls : List (Option Value)} {st : List Value} {w : zWd} {x : Int32} (hd : decode M.2.1 pc = .ok (.ineg, 1)) (hp : pc + 1 = pc')  (kk : zWp X M cs pc' ls (.int (-x) :: st) w) : zWp X M cs pc ls (.int x :: st) w := by
  subst hp
  intro p e s m args below meth c H locs als Qf R C hH hl F
  exact lv_ineg C.1 C.2.1 hd (kk p e s m args below meth c H locs als Qf R C hH hl F)
theorem z_lneg {X : zX} {M : zM} {cs : Nat × Nat} {pc pc' : Nat} {ls : List (Option Value)} {st : List Value} {w : zWd} {x : Int64} (hd : decode M.2.1 pc = .ok (.lneg, 1)) (hp : pc + 1 = pc')  (kk : zWp X M cs pc' ls (.long (-x) :: st) w) : zWp X M cs pc ls (.long x :: st) w := by
  subst hp
  intro p e s m args below meth c H locs als Qf R C hH hl F
  exact lv_lneg C.1 C.2.1 hd (kk p e s m args below meth c H locs als Qf R C hH hl F)
theorem z_i2l {X : zX} {M : zM} {cs : Nat × Nat} {pc pc' : Nat} {ls : List (Option Value)} {st : List Value} {w : zWd} {x : Int32} (hd : decode M.2.1 pc = .ok (.i2l, 1)) (hp : pc + 1 = pc')  (kk : zWp X M cs pc' ls (.long x.toInt64 :: st) w) : zWp X M cs pc ls (.int x :: st) w := by
  subst hp
  intro p e s m args below meth c H locs als Qf R C hH hl F
  exact lv_i2l C.1 C.2.1 hd rfl (kk p e s m args below meth c H locs als Qf R C hH hl F)
theorem z_l2i {X : zX} {M : zM} {cs : Nat × Nat} {pc pc' : Nat} {ls : List (Option Value)} {st : List Value} {w : zWd} {x : Int64} (hd : decode M.2.1 pc = .ok (.l2i, 1)) (hp : pc + 1 = pc')  (kk : zWp X M cs pc' ls (.int x.toInt32 :: st) w) : zWp X M cs pc ls (.long x :: st) w := by
  subst hp
  intro p e s m args below meth c H locs als Qf R C hH hl F
  exact lv_l2i C.1 C.2.1 hd rfl (kk p e s m args below meth c H locs als Qf R C hH hl F)
theorem z_i2b {X : zX} {M : zM} {cs : Nat × Nat} {pc pc' : Nat} {ls : List (Option Value)} {st : List Value} {w : zWd} {x : Int32} (hd : decode M.2.1 pc = .ok (.i2b, 1)) (hp : pc + 1 = pc')  (kk : zWp X M cs pc' ls (.int x.toInt8.toInt32 :: st) w) : zWp X M cs pc ls (.int x :: st) w := by
  subst hp
  intro p e s m args below meth c H locs als Qf R C hH hl F
  exact lv_i2b C.1 C.2.1 hd rfl (kk p e s m args below meth c H locs als Qf R C hH hl F)
theorem z_i2s {X : zX} {M : zM} {cs : Nat × Nat} {pc pc' : Nat} {ls : List (Option Value)} {st : List Value} {w : zWd} {x : Int32} (hd : decode M.2.1 pc = .ok (.i2s, 1)) (hp : pc + 1 = pc')  (kk : zWp X M cs pc' ls (.int x.toInt16.toInt32 :: st) w) : zWp X M cs pc ls (.int x :: st) w := by
  subst hp
  intro p e s m args below meth c H locs als Qf R C hH hl F
  exact lv_i2s C.1 C.2.1 hd rfl (kk p e s m args below meth c H locs als Qf R C hH hl F)
theorem z_dup {X : zX} {M : zM} {cs : Nat × Nat} {pc pc' : Nat} {ls : List (Option Value)} {st : List Value} {w : zWd} {v : Value} (hd : decode M.2.1 pc = .ok (.dup, 1)) (hp : pc + 1 = pc') (hc : v.category = 1) (kk : zWp X M cs pc' ls (v :: v :: st) w) : zWp X M cs pc ls (v :: st) w := by
  subst hp
  intro p e s m args below meth c H locs als Qf R C hH hl F
  exact lv_dup C.1 C.2.1 hd (by rw [zcv_cat]; exact hc) (kk p e s m args below meth c H locs als Qf R C hH hl F)
theorem z_pop {X : zX} {M : zM} {cs : Nat × Nat} {pc pc' : Nat} {ls : List (Option Value)} {st : List Value} {w : zWd} {v : Value} (hd : decode M.2.1 pc = .ok (.pop, 1)) (hp : pc + 1 = pc') (hc : v.category = 1) (kk : zWp X M cs pc' ls (st) w) : zWp X M cs pc ls (v :: st) w := by
  subst hp
  intro p e s m args below meth c H locs als Qf R C hH hl F
  exact lv_pop C.1 C.2.1 hd (by rw [zcv_cat]; exact hc) (kk p e s m args below meth c H locs als Qf R C hH hl F)
theorem z_dup2 {X : zX} {M : zM} {cs : Nat × Nat} {pc pc' : Nat} {ls : List (Option Value)} {st : List Value} {w : zWd} {v u : Value} (hd : decode M.2.1 pc = .ok (.dup2, 1)) (hp : pc + 1 = pc') (hc : v.category = 1) (hc2 : u.category = 1) (kk : zWp X M cs pc' ls (v :: u :: v :: u :: st) w) : zWp X M cs pc ls (v :: u :: st) w := by
  subst hp
  intro p e s m args below meth c H locs als Qf R C hH hl F
  exact lv_dup2_11 C.1 C.2.1 hd (by rw [zcv_cat]; exact hc) (by rw [zcv_cat]; exact hc2) (kk p e s m args below meth c H locs als Qf R C hH hl F)
theorem z_lcmp {X : zX} {M : zM} {cs : Nat × Nat} {pc pc' : Nat} {ls : List (Option Value)} {st : List Value} {w : zWd} {x y : Int64} (hd : decode M.2.1 pc = .ok (.lcmp, 1)) (hp : pc + 1 = pc')  (kk : zWp X M cs pc' ls (.int (lg_cmp x y) :: st) w) : zWp X M cs pc ls (.long y :: .long x :: st) w := by
  subst hp
  intro p e s m args below meth c H locs als Qf R C hH hl F
  exact W.lcmp C.1 C.2.1 hd (kk p e s m args below meth c H locs als Qf R C hH hl F)
theorem z_if_eq {X : zX} {M : zM} {cs : Nat × Nat} {pc pc' : Nat} {ls : List (Option Value)} {st : List Value} {w : zWd} {tgt : Nat} {off : Int} {x : Int32} (hd : decode M.2.1 pc = .ok (.ifCond .eq off, 3)) (hp : pc + 3 = pc') (ht : (pc : Int) + off = (tgt : Int)) (kt : x = 0 → zWp X M cs tgt ls st w) (kf : ¬ x = 0 → zWp X M cs pc' ls st w) : zWp X M cs pc ls (.int x :: st) w := by
  subst hp
  intro p e s m args below meth c H locs als Qf R C hH hl F
  exact lv_if_eq C.1 C.2.1 hd ht (fun h => kt h p e s m args below meth c H locs als Qf R C hH hl F) (fun h => kf h p e s m args below meth c H locs als Qf R C hH hl F)
theorem z_icmp_eq {X : zX} {M : zM} {cs : Nat × Nat} {pc pc' : Nat} {ls : List (Option Value)} {st : List Value} {w : zWd} {tgt : Nat} {off : Int} {x y : Int32} (hd : decode M.2.1 pc = .ok (.if_icmp .eq off, 3)) (hp : pc + 3 = pc') (ht : (pc : Int) + off = (tgt : Int)) (kt : x = y → zWp X M cs tgt ls st w) (kf : ¬ x = y → zWp X M cs pc' ls st w) : zWp X M cs pc ls (.int y :: .int x :: st) w := by
  subst hp
  intro p e s m args below meth c H locs als Qf R C hH hl F
  exact lv_icmp_eq C.1 C.2.1 hd ht (fun h => kt h p e s m args below meth c H locs als Qf R C hH hl F) (fun h => kf h p e s m args below meth c H locs als Qf R C hH hl F)
theorem z_if_ne {X : zX} {M : zM} {cs : Nat × Nat} {pc pc' : Nat} {ls : List (Option Value)} {st : List Value} {w : zWd} {tgt : Nat} {off : Int} {x : Int32} (hd : decode M.2.1 pc = .ok (.ifCond .ne off, 3)) (hp : pc + 3 = pc') (ht : (pc : Int) + off = (tgt : Int)) (kt : ¬ x = 0 → zWp X M cs tgt ls st w) (kf : x = 0 → zWp X M cs pc' ls st w) : zWp X M cs pc ls (.int x :: st) w := by
  subst hp
  intro p e s m args below meth c H locs als Qf R C hH hl F
  exact lv_if_ne C.1 C.2.1 hd ht (fun h => kt h p e s m args below meth c H locs als Qf R C hH hl F) (fun h => kf h p e s m args below meth c H locs als Qf R C hH hl F)
theorem z_icmp_ne {X : zX} {M : zM} {cs : Nat × Nat} {pc pc' : Nat} {ls : List (Option Value)} {st : List Value} {w : zWd} {tgt : Nat} {off : Int} {x y : Int32} (hd : decode M.2.1 pc = .ok (.if_icmp .ne off, 3)) (hp : pc + 3 = pc') (ht : (pc : Int) + off = (tgt : Int)) (kt : ¬ x = y → zWp X M cs tgt ls st w) (kf : x = y → zWp X M cs pc' ls st w) : zWp X M cs pc ls (.int y :: .int x :: st) w := by
  subst hp
  intro p e s m args below meth c H locs als Qf R C hH hl F
  exact lv_icmp_ne C.1 C.2.1 hd ht (fun h => kt h p e s m args below meth c H locs als Qf R C hH hl F) (fun h => kf h p e s m args below meth c H locs als Qf R C hH hl F)
theorem z_if_lt {X : zX} {M : zM} {cs : Nat × Nat} {pc pc' : Nat} {ls : List (Option Value)} {st : List Value} {w : zWd} {tgt : Nat} {off : Int} {x : Int32} (hd : decode M.2.1 pc = .ok (.ifCond .lt off, 3)) (hp : pc + 3 = pc') (ht : (pc : Int) + off = (tgt : Int)) (kt : x < 0 → zWp X M cs tgt ls st w) (kf : ¬ x < 0 → zWp X M cs pc' ls st w) : zWp X M cs pc ls (.int x :: st) w := by
  subst hp
  intro p e s m args below meth c H locs als Qf R C hH hl F
  exact lv_if_lt C.1 C.2.1 hd ht (fun h => kt h p e s m args below meth c H locs als Qf R C hH hl F) (fun h => kf h p e s m args below meth c H locs als Qf R C hH hl F)
theorem z_icmp_lt {X : zX} {M : zM} {cs : Nat × Nat} {pc pc' : Nat} {ls : List (Option Value)} {st : List Value} {w : zWd} {tgt : Nat} {off : Int} {x y : Int32} (hd : decode M.2.1 pc = .ok (.if_icmp .lt off, 3)) (hp : pc + 3 = pc') (ht : (pc : Int) + off = (tgt : Int)) (kt : x < y → zWp X M cs tgt ls st w) (kf : ¬ x < y → zWp X M cs pc' ls st w) : zWp X M cs pc ls (.int y :: .int x :: st) w := by
  subst hp
  intro p e s m args below meth c H locs als Qf R C hH hl F
  exact lv_icmp_lt C.1 C.2.1 hd ht (fun h => kt h p e s m args below meth c H locs als Qf R C hH hl F) (fun h => kf h p e s m args below meth c H locs als Qf R C hH hl F)
theorem z_if_ge {X : zX} {M : zM} {cs : Nat × Nat} {pc pc' : Nat} {ls : List (Option Value)} {st : List Value} {w : zWd} {tgt : Nat} {off : Int} {x : Int32} (hd : decode M.2.1 pc = .ok (.ifCond .ge off, 3)) (hp : pc + 3 = pc') (ht : (pc : Int) + off = (tgt : Int)) (kt : 0 ≤ x → zWp X M cs tgt ls st w) (kf : ¬ 0 ≤ x → zWp X M cs pc' ls st w) : zWp X M cs pc ls (.int x :: st) w := by
  subst hp
  intro p e s m args below meth c H locs als Qf R C hH hl F
  exact lv_if_ge C.1 C.2.1 hd ht (fun h => kt h p e s m args below meth c H locs als Qf R C hH hl F) (fun h => kf h p e s m args below meth c H locs als Qf R C hH hl F)
theorem z_icmp_ge {X : zX} {M : zM} {cs : Nat × Nat} {pc pc' : Nat} {ls : List (Option Value)} {st : List Value} {w : zWd} {tgt : Nat} {off : Int} {x y : Int32} (hd : decode M.2.1 pc = .ok (.if_icmp .ge off, 3)) (hp : pc + 3 = pc') (ht : (pc : Int) + off = (tgt : Int)) (kt : y ≤ x → zWp X M cs tgt ls st w) (kf : ¬ y ≤ x → zWp X M cs pc' ls st w) : zWp X M cs pc ls (.int y :: .int x :: st) w := by
  subst hp
  intro p e s m args below meth c H locs als Qf R C hH hl F
  exact lv_icmp_ge C.1 C.2.1 hd ht (fun h => kt h p e s m args below meth c H locs als Qf R C hH hl F) (fun h => kf h p e s m args below meth c H locs als Qf R C hH hl F)
theorem z_if_gt {X : zX} {M : zM} {cs : Nat × Nat} {pc pc' : Nat} {ls : List (Option Value)} {st : List Value} {w : zWd} {tgt : Nat} {off : Int} {x : Int32} (hd : decode M.2.1 pc = .ok (.ifCond .gt off, 3)) (hp : pc + 3 = pc') (ht : (pc : Int) + off = (tgt : Int)) (kt : 0 < x → zWp X M cs tgt ls st w) (kf : ¬ 0 < x → zWp X M cs pc' ls st w) : zWp X M cs pc ls (.int x :: st) w := by
  subst hp
  intro p e s m args below meth c H locs als Qf R C hH hl F
  exact lv_if_gt C.1 C.2.1 hd ht (fun h => kt h p e s m args below meth c H locs als Qf R C hH hl F) (fun h => kf h p e s m args below meth c H locs als Qf R C hH hl F)
theorem z_icmp_gt {X : zX} {M : zM} {cs : Nat × Nat} {pc pc' : Nat} {ls : List (Option Value)} {st : List Value} {w : zWd} {tgt : Nat} {off : Int} {x y : Int32} (hd : decode M.2.1 pc = .ok (.if_icmp .gt off, 3)) (hp : pc + 3 = pc') (ht : (pc : Int) + off = (tgt : Int)) (kt : y < x → zWp X M cs tgt ls st w) (kf : ¬ y < x → zWp X M cs pc' ls st w) : zWp X M cs pc ls (.int y :: .int x :: st) w := by
  subst hp
  intro p e s m args below meth c H locs als Qf R C hH hl F
  exact lv_icmp_gt C.1 C.2.1 hd ht (fun h => kt h p e s m args below meth c H locs als Qf R C hH hl F) (fun h => kf h p e s m args below meth c H locs als Qf R C hH hl F)
theorem z_if_le {X : zX} {M : zM} {cs : Nat × Nat} {pc pc' : Nat} {ls : List (Option Value)} {st : List Value} {w : zWd} {tgt : Nat} {off : Int} {x : Int32} (hd : decode M.2.1 pc = .ok (.ifCond .le off, 3)) (hp : pc + 3 = pc') (ht : (pc : Int) + off = (tgt : Int)) (kt : x ≤ 0 → zWp X M cs tgt ls st w) (kf : ¬ x ≤ 0 → zWp X M cs pc' ls st w) : zWp X M cs pc ls (.int x :: st) w := by
  subst hp
  intro p e s m args below meth c H locs als Qf R C hH hl F
  exact lv_if_le C.1 C.2.1 hd ht (fun h => kt h p e s m args below meth c H locs als Qf R C hH hl F) (fun h => kf h p e s m args below meth c H locs als Qf R C hH hl F)
theorem z_icmp_le {X : zX} {M : zM} {cs : Nat × Nat} {pc pc' : Nat} {ls : List (Option Value)} {st : List Value} {w : zWd} {tgt : Nat} {off : Int} {x y : Int32} (hd : decode M.2.1 pc = .ok (.if_icmp .le off, 3)) (hp : pc + 3 = pc') (ht : (pc : Int) + off = (tgt : Int)) (kt : x ≤ y → zWp X M cs tgt ls st w) (kf : ¬ x ≤ y → zWp X M cs pc' ls st w) : zWp X M cs pc ls (.int y :: .int x :: st) w := by
  subst hp
  intro p e s m args below meth c H locs als Qf R C hH hl F
  exact lv_icmp_le C.1 C.2.1 hd ht (fun h => kt h p e s m args below meth c H locs als Qf R C hH hl F) (fun h => kf h p e s m args below meth c H locs als Qf R C hH hl F)
theorem z_lc_eq {X : zX} {M : zM} {cs : Nat × Nat} {pc pc' : Nat} {ls : List (Option Value)} {st : List Value} {w : zWd} {tgt : Nat} {off : Int} {x y : Int64} (hd : decode M.2.1 pc = .ok (.lcmp, 1)) (hd2 : decode M.2.1 (pc + 1) = .ok (.ifCond .eq off, 3)) (hp : pc + 4 = pc') (ht : ((pc + 1 : Nat) : Int) + off = (tgt : Int)) (kt : x = y → zWp X M cs tgt ls st w) (kf : ¬ x = y → zWp X M cs pc' ls st w) : zWp X M cs pc ls (.long y :: .long x :: st) w := z_lcmp hd rfl (z_if_eq hd2 hp ht (fun h => kt ((lg_cmp_eq x y).mp h)) (fun h => kf (fun q => h ((lg_cmp_eq x y).mpr q))))
theorem z_lc_ne {X : zX} {M : zM} {cs : Nat × Nat} {pc pc' : Nat} {ls : List (Option Value)} {st : List Value} {w : zWd} {tgt : Nat} {off : Int} {x y : Int64} (hd : decode M.2.1 pc = .ok (.lcmp, 1)) (hd2 : decode M.2.1 (pc + 1) = .ok (.ifCond .ne off, 3)) (hp : pc + 4 = pc') (ht : ((pc + 1 : Nat) : Int) + off = (tgt : Int)) (kt : ¬ x = y → zWp X M cs tgt ls st w) (kf : x = y → zWp X M cs pc' ls st w) : zWp X M cs pc ls (.long y :: .long x :: st) w := z_lcmp hd rfl (z_if_ne hd2 hp ht (fun h => kt (fun q => h ((lg_cmp_eq x y).mpr q))) (fun h => kf ((lg_cmp_eq x y).mp h)))
theorem z_lc_lt {X : zX} {M : zM} {cs : Nat × Nat} {pc pc' : Nat} {ls : List (Option Value)} {st : List Value} {w : zWd} {tgt : Nat} {off : Int} {x y : Int64} (hd : decode M.2.1 pc = .ok (.lcmp, 1)) (hd2 : decode M.2.1 (pc + 1) = .ok (.ifCond .lt off, 3)) (hp : pc + 4 = pc') (ht : ((pc + 1 : Nat) : Int) + off = (tgt : Int)) (kt : x < y → zWp X M cs tgt ls st w) (kf : ¬ x < y → zWp X M cs pc' ls st w) : zWp X M cs pc ls (.long y :: .long x :: st) w := z_lcmp hd rfl (z_if_lt hd2 hp ht (fun h => kt ((lg_cmp_lt x y).mp h)) (fun h => kf (fun q => h ((lg_cmp_lt x y).mpr q))))
theorem z_lc_ge {X : zX} {M : zM} {cs : Nat × Nat} {pc pc' : Nat} {ls : List (Option Value)} {st : List Value} {w : zWd} {tgt : Nat} {off : Int} {x y : Int64} (hd : decode M.2.1 pc = .ok (.lcmp, 1)) (hd2 : decode M.2.1 (pc + 1) = .ok (.ifCond .ge off, 3)) (hp : pc + 4 = pc') (ht : ((pc + 1 : Nat) : Int) + off = (tgt : Int)) (kt : y ≤ x → zWp X M cs tgt ls st w) (kf : ¬ y ≤ x → zWp X M cs pc' ls st w) : zWp X M cs pc ls (.long y :: .long x :: st) w := z_lcmp hd rfl (z_if_ge hd2 hp ht (fun h => kt ((lg_cmp_ge x y).mp h)) (fun h => kf (fun q => h ((lg_cmp_ge x y).mpr q))))
theorem z_lc_gt {X : zX} {M : zM} {cs : Nat × Nat} {pc pc' : Nat} {ls : List (Option Value)} {st : List Value} {w : zWd} {tgt : Nat} {off : Int} {x y : Int64} (hd : decode M.2.1 pc = .ok (.lcmp, 1)) (hd2 : decode M.2.1 (pc + 1) = .ok (.ifCond .gt off, 3)) (hp : pc + 4 = pc') (ht : ((pc + 1 : Nat) : Int) + off = (tgt : Int)) (kt : y < x → zWp X M cs tgt ls st w) (kf : ¬ y < x → zWp X M cs pc' ls st w) : zWp X M cs pc ls (.long y :: .long x :: st) w := z_lcmp hd rfl (z_if_gt hd2 hp ht (fun h => kt ((lg_cmp_gt x y).mp h)) (fun h => kf (fun q => h ((lg_cmp_gt x y).mpr q))))
theorem z_lc_le {X : zX} {M : zM} {cs : Nat × Nat} {pc pc' : Nat} {ls : List (Option Value)} {st : List Value} {w : zWd} {tgt : Nat} {off : Int} {x y : Int64} (hd : decode M.2.1 pc = .ok (.lcmp, 1)) (hd2 : decode M.2.1 (pc + 1) = .ok (.ifCond .le off, 3)) (hp : pc + 4 = pc') (ht : ((pc + 1 : Nat) : Int) + off = (tgt : Int)) (kt : x ≤ y → zWp X M cs tgt ls st w) (kf : ¬ x ≤ y → zWp X M cs pc' ls st w) : zWp X M cs pc ls (.long y :: .long x :: st) w := z_lcmp hd rfl (z_if_le hd2 hp ht (fun h => kt ((lg_cmp_le x y).mp h)) (fun h => kf (fun q => h ((lg_cmp_le x y).mpr q))))
theorem z_goto {X : zX} {M : zM} {cs : Nat × Nat} {pc pc' : Nat} {ls : List (Option Value)} {st : List Value} {w : zWd} {off : Int} (hd : decode M.2.1 pc = .ok (.goto off, 3)) (ht : (pc : Int) + off = (pc' : Int)) (kk : zWp X M cs pc' ls st w) : zWp X M cs pc ls st w := by
  intro p e s m args below meth c H locs als Qf R C hH hl F
  exact lv_goto C.1 C.2.1 hd ht (kk p e s m args below meth c H locs als Qf R C hH hl F)
theorem z_sub {X : zX} {M : zM} {cs : Nat × Nat} {pc pc' : Nat} {ls : List (Option Value)} {st : List Value} {w : zWd} (ls' : List (Option Value)) (hs : zsub ls' ls) (kk : zWp X M cs pc ls' st w) : zWp X M cs pc ls st w := by
  intro p e s m args below meth c H locs als Qf R C hH hl F
  exact kk p e s m args below meth c H locs als Qf R C hH (zll_of hl.1 hl.2.1 fun i v hi => zll_at hl (zsub_at _ _ hs i v hi)) F
theorem z_lookup {X : zX} {M : zM} {cs : Nat × Nat} {pc pc' : Nat} {ls : List (Option Value)} {st : List Value} {w : zWd} {dflt : Int} {ps : Array (Int × Int)} {len : Nat} {x : Int32} (hd : decode M.2.1 pc = .ok (.lookupswitch dflt ps, len)) (hp : (ps.toList.zip (ps.toList.drop 1)).all (fun (a, next) => a.1 < next.1) = true) (ht : (pc : Int) + Op.lookupswitch.offset ps.toList dflt x.toInt = (pc' : Int)) (kk : zWp X M cs pc' ls st w) : zWp X M cs pc ls (.int x :: st) w := by
  intro p e s m args below meth c H locs als Qf R C hH hl F
  exact lv_lookup C.1 C.2.1 hd hp rfl ht (kk p e s m args below meth c H locs als Qf R C hH hl F)
theorem z_tableOut {X : zX} {M : zM} {cs : Nat × Nat} {pc pc' : Nat} {ls : List (Option Value)} {st : List Value} {w : zWd} {dflt lo hi : Int} {offs : Array Int} {len : Nat} {x : Int32} (hd : decode M.2.1 pc = .ok (.tableswitch dflt lo hi offs, len)) (h : x.toInt < lo ∨ hi < x.toInt) (ht : (pc : Int) + dflt = (pc' : Int)) (kk : zWp X M cs pc' ls st w) : zWp X M cs pc ls (.int x :: st) w := by
  intro p e s m args below meth c H locs als Qf R C hH hl F
  exact lv_tableOut C.1 C.2.1 hd h ht (kk p e s m args below meth c H locs als Qf R C hH hl F)
theorem z_tableIn {X : zX} {M : zM} {cs : Nat × Nat} {pc pc' : Nat} {ls : List (Option Value)} {st : List Value} {w : zWd} {dflt lo hi : Int} {offs : Array Int} {len : Nat} {x : Int32} {off : Int} (hd : decode M.2.1 pc = .ok (.tableswitch dflt lo hi offs, len)) (h1 : ¬ x.toInt < lo) (h2 : ¬ hi < x.toInt) (ho : offs[(x.toInt - lo).toNat]? = some off) (ht : (pc : Int) + off = (pc' : Int)) (kk : zWp X M cs pc' ls st w) : zWp X M cs pc ls (.int x :: st) w := by
  intro p e s m args below meth c H locs als Qf R C hH hl F
  exact lv_tableIn C.1 C.2.1 hd h1 h2 ho ht (kk p e s m args below meth c H locs als Qf R C hH hl F)
end
section
/-! ===== rows over the world: fields, arrays, making, calls, returns ===== -/
/-- a field that a class's instruction names: own class, pool index, class, place -/
def zFl (own : String) (idx ci j : Nat) : Prop := ci < 10 ∧ j < zN ci ∧ Cond.fieldLink own idx (zT ci j).1 (zT ci j).2.1 (zT ci j).2.2.1 ∈ zTb
theorem zin : ∀ ci, ci < 10 → ∀ w ∈ u_ws (zR ci) (zT ci) (zN ci), w ∈ zTb := by
  have key : ∀ (ws : List Cond), ws.all (fun w => decide (w ∈ lw_tbl) && goodWord w) = true → ∀ w ∈ ws, w ∈ zTb := fun ws h w hw => by
    have h1 := List.all_eq_true.mp h w hw
    simp only [Bool.and_eq_true, decide_eq_true_eq] at h1
    exact List.mem_filter.mpr h1
  exact zlt10 (key _ (by decide +kernel)) (key _ (by decide +kernel)) (key _ (by decide +kernel)) (key _ (by decide +kernel)) (key _ (by decide +kernel)) (key _ (by decide +kernel)) (key _ (by decide +kernel)) (key _ (by decide +kernel)) (key _ (by decide +kernel)) (key _ (by decide +kernel))
theorem zgood : ∀ w ∈ zTb, (w.onTables && w.keeps) = true ∨ ∃ ty, w = .arrayClass ty := fun w hw => good_of_word (List.mem_filter.mp hw).2
section ZM
variable {X : zX} {M : zM} {cs : Nat × Nat} {pc pc' : Nat} {ls : List (Option Value)} {st : List Value} {w : zWd}
theorem zobj {G : zG} {w : zWd} {q ci : Nat} (hci : ci < 10) (h : w.1[q]? = some (3, ci)) : (zconc G w)[q]? = some (zad G q, .inr (ci, (List.range (zN ci)).map (zfv G w q ci))) := zconc_get h
theorem zfs_at {G : zG} {w : zWd} {q ci j : Nat} (hj : j < zN ci) : ((List.range (zN ci)).map (zfv G w q ci))[j]? = some (zfv G w q ci j) := by
  rw [List.getElem?_map, List.getElem?_range hj]; rfl
theorem z_get {v : Value} {q idx ci j : Nat} (hd : decode M.2.1 pc = .ok (.getfield idx, 3)) (hp : pc + 3 = pc') (hF : zFl M.1.cls idx ci j) (hs : w.1[q]? = some (3, ci)) (hv : zfv X.2.1 w q ci j = zcv X.2.1 v)
    (kk : zWp X M cs pc' ls (v :: st) w) : zWp X M cs pc ls (.ref q :: st) w := by
  subst hp
  intro p e s m args below meth c H locs als Qf R C hH hl F
  have hk := kk p e s m args below meth c H locs als Qf R C hH hl F
  obtain ⟨hci, hj, hlk⟩ := hF
  exact va_get C.1 C.2.1 C.2.2.2.2.2.1 (zin ci hci) C.2.2.2.2.1 hH.2.1 hH.2.2.1 q (zobj hci hs) (zcls_at ci hci) j hj (C.2.2.2.2.2.1 _ hlk) (fun _ h => h) ((zfs_at hj).trans (congrArg some hv)) hd hk
theorem z_geti {x : Int32} {q idx ci j : Nat} (hd : decode M.2.1 pc = .ok (.getfield idx, 3)) (hp : pc + 3 = pc') (hF : zFl M.1.cls idx ci j) (hs : w.1[q]? = some (3, ci)) (ht : zkof (zty ci j) = 0) (hv : w.2.2.1 q j = x)
    (kk : zWp X M cs pc' ls (.int x :: st) w) : zWp X M cs pc ls (.ref q :: st) w :=
  z_get hd hp hF hs (by unfold zfv; rw [ht, hv]; rfl) kk
theorem z_getl {x : Int64} {q idx ci j : Nat} (hd : decode M.2.1 pc = .ok (.getfield idx, 3)) (hp : pc + 3 = pc') (hF : zFl M.1.cls idx ci j) (hs : w.1[q]? = some (3, ci)) (ht : zkof (zty ci j) = 1) (hv : w.2.2.2 q j = x)
    (kk : zWp X M cs pc' ls (.long x :: st) w) : zWp X M cs pc ls (.ref q :: st) w :=
  z_get hd hp hF hs (by unfold zfv; rw [ht, hv]; rfl) kk
theorem z_getr {x : Nat} {q idx ci j : Nat} (hd : decode M.2.1 pc = .ok (.getfield idx, 3)) (hp : pc + 3 = pc') (hF : zFl M.1.cls idx ci j) (hs : w.1[q]? = some (3, ci)) (ht : zkof (zty ci j) = 2) (hv : w.2.1 q j = some x)
    (kk : zWp X M cs pc' ls (.ref x :: st) w) : zWp X M cs pc ls (.ref q :: st) w :=
  z_get hd hp hF hs (by unfold zfv; rw [ht, hv]; rfl) kk
theorem zHp_set {G : zG} {w w' : zWd} {s : State} {H H1 : Heap} {locs locs1 : List Loc} {k : Nat} {sh : zSh} {E : va_E} (h : zHp G w s H locs) (hs : w.1[k]? = some sh) (h1 : w'.1 = w.1) (h2 : E = zce G w' k sh) (h3 : ∀ (j : Nat) (sh' : zSh), j ≠ k → zce G w' j sh' = zce G w j sh')
    (hP : va_P G.2.1 zcls ((zconc G w).set k (zad G k, E)) H1) (hz : H1.size = H.size) (hS : va_S (zA G) s.heap H1 locs1) : zHp G w' s H1 locs1 := by
  obtain ⟨a1, a2, a3, a4, a5, a6⟩ := h
  rw [zconc_set hs h1 h2 h3] at hP
  exact ⟨a1, a2, hP, by rw [hz, h1]; exact a4, by rw [h1]; exact a5, hS⟩
theorem z_put {v : Value} {w' : zWd} {q idx ci j : Nat} (hd : decode M.2.1 pc = .ok (.putfield idx, 3)) (hp : pc + 3 = pc') (hF : zFl M.1.cls idx ci j) (hs : w.1[q]? = some (3, ci)) (hf : (zT ci j).2.2.2 = false) (hn : narrow (zty ci j) (zcv X.2.1 v) = zcv X.2.1 v) (hfit : fits (zty ci j) (zcv X.2.1 v) = true)
    (h1 : w'.1 = w.1) (h2 : ((List.range (zN ci)).map (zfv X.2.1 w q ci)).set j (zcv X.2.1 v) = (List.range (zN ci)).map (zfv X.2.1 w' q ci)) (h3 : ∀ (j : Nat) (sh' : zSh), j ≠ q → zce X.2.1 w' j sh' = zce X.2.1 w j sh')
    (kk : zWp X M cs pc' ls st w') : zWp X M cs pc ls (v :: .ref q :: st) w := by
  subst hp
  intro p e s m args below meth c H locs als Qf R C hH hl F
  obtain ⟨hci, hj, hlk⟩ := hF
  have hsz : ∀ (H1 : Heap) (locs1 : List Loc), va_S (zA X.2.1) s.heap H1 locs1 → True := fun _ _ _ => trivial
  obtain ⟨a1, a2, a3, a4, a5, a6⟩ := id hH
  obtain ⟨r, g1, cell, q1, q2, q3, q4⟩ := a3 q _ (zobj hci hs)
  have hr : r = (zR ci, zT ci, zN ci) := Option.some.inj (g1.symm.trans (zcls_at ci hci))
  subst hr
  have hap := va_apart (own := M.1.cls) C.2.2.2.2.2.1 (zin ci hci) (zty ci) (zty_ok ci hci) (znm_ok ci hci) a2 (zcls_at ci hci)
  obtain ⟨hS, hfc, kC, hkC, hkind⟩ := a2.1 ci _ (zcls_at ci hci)
  obtain ⟨cf, kf, fi, f, hi, hsl⟩ := hS j hj
  have hlay := C.2.2.2.2.2.1 _ (zin ci hci _ (u_in_lay hj))
  unfold u_lay at hlay
  rw [if_neg (by rw [hf]; decide)] at hlay
  have hst := (u_facts hfc hkC (u_lays C.2.2.2.2.2.1 (zin ci hci) hj) hi).1
  have h6 := u_store hfc hkC hkind hlay hi (zty_ok ci hci j hj) hn hfit
  refine W.putK C.1 C.2.1 (f := f) ⟨C.2.2.2.2.1, C.2.2.2.2.2.1 _ hlk, ⟨_, _, _, hi⟩, hst⟩ (by rw [q2]; exact h6) q1 q3 (by rw [hsl]; exact k2_hasslot (q4 j hj)) rfl rfl hd fun H' e1 e2 e3 => ?_
  rw [hsl] at e1 ⊢
  refine kk p e s m args below meth c H' _ als Qf R C (zHp_set hH hs h1 (E := .inr (ci, ((List.range (zN ci)).map (zfv X.2.1 w q ci)).set j (zcv X.2.1 v))) (by rw [h2]; rfl) h3 ?_ e2 (a6.put e2 e3 ((zD a5).2 q _ (zobj hci hs)))) hl F
  exact a3.set (zD a5) (zobj hci hs) ⟨_, zcls_at ci hci, t_OB.to (V := updV (vp_V ((List.range (zN ci)).map (zfv X.2.1 w q ci))) j (zcv X.2.1 v)) ⟨_, e1, q2, q3, t_set q4 hap hj _⟩ (fun k _ => vp_updV_set (by simpa using hj) _ k)⟩ e3
theorem zfv_I {G : zG} {w : zWd} {q ci j : Nat} {v : Int32} (ht : zkof (zty ci j) = 0) : ((List.range (zN ci)).map (zfv G w q ci)).set j (.int v) = (List.range (zN ci)).map (zfv G (zuI w q j v) q ci) := by
  refine zrange_set (fun _ => ?_) (fun k hk => ?_)
  · unfold zfv; rw [ht]; simp [zuI]
  · unfold zfv zuI; simp only [hk, and_false, if_false]
theorem zfv_L {G : zG} {w : zWd} {q ci j : Nat} {v : Int64} (ht : zkof (zty ci j) = 1) : ((List.range (zN ci)).map (zfv G w q ci)).set j (.long v) = (List.range (zN ci)).map (zfv G (zuL w q j v) q ci) := by
  refine zrange_set (fun _ => ?_) (fun k hk => ?_)
  · unfold zfv; rw [ht]; simp [zuL]
  · unfold zfv zuL; simp only [hk, and_false, if_false]
theorem zfv_R {G : zG} {w : zWd} {q ci j x : Nat} (ht : zkof (zty ci j) = 2) : ((List.range (zN ci)).map (zfv G w q ci)).set j (.ref (zad G x)) = (List.range (zN ci)).map (zfv G (zuR w q j (some x)) q ci) := by
  refine zrange_set (fun _ => ?_) (fun k hk => ?_)
  · unfold zfv; rw [ht]; simp [zuR, va_rf]
  · unfold zfv zuR; simp only [hk, and_false, if_false]
theorem z_puti {x : Int32} {w' : zWd} {q idx ci j : Nat} (hd : decode M.2.1 pc = .ok (.putfield idx, 3)) (hp : pc + 3 = pc') (hF : zFl M.1.cls idx ci j) (hs : w.1[q]? = some (3, ci)) (ht : zkof (zty ci j) = 0) (hf : (zT ci j).2.2.2 = false) (hn : narrow (zty ci j) (.int x) = .int x) (hfit : fits (zty ci j) (.int x) = true)
    (hw : zuI w q j x = w') (kk : zWp X M cs pc' ls st w') : zWp X M cs pc ls (.int x :: .ref q :: st) w := by
  subst hw
  exact z_put (w' := zuI w q j x) hd hp hF hs hf hn hfit rfl (zfv_I ht) (fun j sh hj => zuI_off j sh hj) kk
theorem z_putl {x : Int64} {w' : zWd} {q idx ci j : Nat} (hd : decode M.2.1 pc = .ok (.putfield idx, 3)) (hp : pc + 3 = pc') (hF : zFl M.1.cls idx ci j) (hs : w.1[q]? = some (3, ci)) (ht : zty ci j = .long) (hf : (zT ci j).2.2.2 = false)
    (hw : zuL w q j x = w') (kk : zWp X M cs pc' ls st w') : zWp X M cs pc ls (.long x :: .ref q :: st) w := by
  subst hw
  exact z_put (w' := zuL w q j x) hd hp hF hs hf (by rw [ht]; rfl) (by rw [ht]; rfl) rfl (zfv_L (by rw [ht]; rfl)) (fun j sh hj => zuL_off j sh hj) kk
/-- a final field that holds a cell, in a constructor -/
theorem z_putr {x : Nat} {w' : zWd} {q idx ci j : Nat} (hd : decode M.2.1 pc = .ok (.putfield idx, 3)) (hp : pc + 3 = pc') (hF : zFl M.1.cls idx ci j) (hs : w.1[q]? = some (3, ci)) (ht : zkof (zty ci j) = 2) (hf : (zT ci j).2.2.2 = true) (hin : M.1.name = "<init>") (hdc : (zT ci j).1 = M.1.cls)
    (hw : zuR w q j (some x) = w') (kk : zWp X M cs pc' ls st w') : zWp X M cs pc ls (.ref x :: .ref q :: st) w := by
  subst hp
  subst hw
  intro p e s m args below meth c H locs als Qf R C hH hl F
  obtain ⟨hci, hj, hlk⟩ := hF
  obtain ⟨a1, a2, a3, a4, a5, a6⟩ := id hH
  obtain ⟨r, g1, cell, q1, q2, q3, q4⟩ := a3 q _ (zobj hci hs)
  have hr : r = (zR ci, zT ci, zN ci) := Option.some.inj (g1.symm.trans (zcls_at ci hci))
  subst hr
  have hap := va_apart (own := M.1.cls) C.2.2.2.2.2.1 (zin ci hci) (zty ci) (zty_ok ci hci) (znm_ok ci hci) a2 (zcls_at ci hci)
  obtain ⟨hS, hfc, kC, hkC, hkind⟩ := a2.1 ci _ (zcls_at ci hci)
  obtain ⟨cf, kf, fi, f, hi, hsl⟩ := hS j hj
  have hlay := C.2.2.2.2.2.1 _ (zin ci hci _ (u_in_lay hj))
  unfold u_lay at hlay
  rw [if_pos hf] at hlay
  have hst := (u_facts hfc hkC (u_lays C.2.2.2.2.2.1 (zin ci hci) hj) hi).1
  have hcf : m.cls = cf := by
    obtain ⟨_, _, c', _, _, _, -, -, hf', -, -, -, hown2, -⟩ := Cond.laysFinal_spec hlay
    have e1 : c' = cf := by have := hi.symm.trans hf'; simp at this; exact this.1.symm
    rw [hdc] at hown2
    rw [← e1]; exact Option.some.inj (C.2.2.2.2.1.symm.trans hown2)
  have hn : narrow (zty ci j) (.ref (zad X.2.1 x)) = .ref (zad X.2.1 x) := by cases hz : zty ci j <;> first | rfl | (rw [hz] at ht; simp [zkof] at ht)
  have hfit : fits (zty ci j) (.ref (zad X.2.1 x)) = true := by cases hz : zty ci j <;> first | rfl | (rw [hz] at ht; simp [zkof] at ht)
  have h6 := u_fits hfc hkC hkind (Or.inr hlay) hi (zty_ok ci hci j hj) hn hfit
  refine W.putFinK C.1 C.2.1 C.2.2.2.2.1 (C.2.2.2.2.2.1 _ hlk) hi hst hcf (C.2.2.2.2.2.2.2.1 hin) (by rw [q2]; exact h6) q1 q3 (by rw [hsl]; exact k2_hasslot (q4 j hj)) rfl rfl hd fun H' e1 e2 e3 => ?_
  rw [hsl] at e1 ⊢
  refine kk p e s m args below meth c H' _ als Qf R C (zHp_set hH hs rfl (E := .inr (ci, ((List.range (zN ci)).map (zfv X.2.1 w q ci)).set j (.ref (zad X.2.1 x)))) (by rw [zfv_R ht]; rfl) (fun j sh hj => zuR_off j sh hj) ?_ e2 (a6.put e2 e3 ((zD a5).2 q _ (zobj hci hs)))) hl F
  exact a3.set (zD a5) (zobj hci hs) ⟨_, zcls_at ci hci, t_OB.to (V := updV (vp_V ((List.range (zN ci)).map (zfv X.2.1 w q ci))) j (.ref (zad X.2.1 x))) ⟨_, e1, q2, q3, t_set q4 hap hj _⟩ (fun k _ => vp_updV_set (by simpa using hj) _ k)⟩ e3
/-! arrays -/
theorem zin_of {i : Int32} {j n : Nat} (hi : i = nI j) (hj : j < n) (hn : n < 2 ^ 31) : vp_in i n := by rw [hi]; exact nI_in hj hn
theorem z_iald {q n j : Nat} {i x : Int32} (hd : decode M.2.1 pc = .ok (.iaload, 1)) (hp : pc + 1 = pc') (hs : w.1[q]? = some (0, n)) (hn : n < 2 ^ 31) (hi : i = nI j) (hj : j < n) (hv : w.2.2.1 q j = x)
    (kk : zWp X M cs pc' ls (.int x :: st) w) : zWp X M cs pc ls (.int i :: .ref q :: st) w := by
  subst hp
  subst hv
  intro p e s m args below meth c H locs als Qf R C hH hl F
  have hk := kk p e s m args below meth c H locs als Qf R C hH hl F
  refine va_iald C.1 C.2.1 hH.2.1 hH.2.2.1 q 0 (zconc_get hs) rfl (zin_of hi hj hn) hd ?_
  rw [hi, nI_clamp (Nat.lt_trans hj hn)]
  exact hk
theorem z_lald {q n j : Nat} {i : Int32} {x : Int64} (hd : decode M.2.1 pc = .ok (.laload, 1)) (hp : pc + 1 = pc') (hs : w.1[q]? = some (1, n)) (hn : n < 2 ^ 31) (hi : i = nI j) (hj : j < n) (hv : w.2.2.2 q j = x)
    (kk : zWp X M cs pc' ls (.long x :: st) w) : zWp X M cs pc ls (.int i :: .ref q :: st) w := by
  subst hp
  subst hv
  intro p e s m args below meth c H locs als Qf R C hH hl F
  have hk := kk p e s m args below meth c H locs als Qf R C hH hl F
  refine va_lald C.1 C.2.1 hH.2.1 hH.2.2.1 q 1 (zconc_get hs) rfl (zin_of hi hj hn) hd ?_
  rw [hi, nI_clamp (Nat.lt_trans hj hn)]
  exact hk
theorem z_aald {q n j x : Nat} {i : Int32} (hd : decode M.2.1 pc = .ok (.aaload, 1)) (hp : pc + 1 = pc') (hs : w.1[q]? = some (2, n)) (hn : n < 2 ^ 31) (hi : i = nI j) (hj : j < n) (hv : w.2.1 q j = some x)
    (kk : zWp X M cs pc' ls (.ref x :: st) w) : zWp X M cs pc ls (.int i :: .ref q :: st) w := by
  subst hp
  intro p e s m args below meth c H locs als Qf R C hH hl F
  have hk := kk p e s m args below meth c H locs als Qf R C hH hl F
  refine va_aldq C.1 C.2.1 hH.2.1 hH.2.2.1 q 2 (zconc_get hs) rfl (zin_of hi hj hn) hd ?_
  rw [hi, nI_clamp (Nat.lt_trans hj hn), hv]
  exact hk
theorem z_iast {q n j : Nat} {i x : Int32} {w' : zWd} (hd : decode M.2.1 pc = .ok (.iastore, 1)) (hp : pc + 1 = pc') (hs : w.1[q]? = some (0, n)) (hn : n < 2 ^ 31) (hi : i = nI j) (hj : j < n) (hw : zuI w q j x = w')
    (kk : zWp X M cs pc' ls st w') : zWp X M cs pc ls (.int x :: .int i :: .ref q :: st) w := by
  subst hp
  subst hw
  intro p e s m args below meth c H locs als Qf R C hH hl F
  obtain ⟨a1, a2, a3, a4, a5, a6⟩ := id hH
  have ec : i.toNatClampNeg = j := by rw [hi]; exact nI_clamp (Nat.lt_trans hj hn)
  refine W.iast C.1 C.2.1 (a3 q _ (zconc_get hs)) ((a2.2 0 _ rfl).1 n (fun j => .int (w.2.2.1 q j))) (fun z => by cases z) (by show ¬ (i < 0 ∨ (arrV _ _ _).slots.size ≤ _); rw [arrV_size]; exact zin_of hi hj hn) rfl rfl hd fun H1 e z oq => ?_
  refine kk p _ s m args below meth c H1 _ als Qf R C (zHp_set hH hs rfl (E := .inl (X.2.1.1 0, n, .inl ((zuI w q j x).2.2.1 q))) rfl (fun j sh hj => zuI_off j sh hj) ?_ z (a6.put z oq ((zD a5).2 q _ (zconc_get hs)))) hl F
  refine a3.set (zD a5) (zconc_get hs) ?_ oq
  show H1[zad X.2.1 q]? = some (vp_cell _ _)
  rw [e]
  show some ((vp_cell (X.2.1.1 0) (n, .inl (w.2.2.1 q))).setSlot _ _) = _
  rw [vp_cell_i, vp_cell_i, arrV_store, ec]
  congr 2
  funext b
  by_cases hb : b = j
  · subst hb; simp [updV, zuI]
  · simp [updV, zuI, hb]
theorem z_last {q n j : Nat} {i : Int32} {x : Int64} {w' : zWd} (hd : decode M.2.1 pc = .ok (.lastore, 1)) (hp : pc + 1 = pc') (hs : w.1[q]? = some (1, n)) (hn : n < 2 ^ 31) (hi : i = nI j) (hj : j < n) (hw : zuL w q j x = w')
    (kk : zWp X M cs pc' ls st w') : zWp X M cs pc ls (.long x :: .int i :: .ref q :: st) w := by
  subst hp
  subst hw
  intro p e s m args below meth c H locs als Qf R C hH hl F
  obtain ⟨a1, a2, a3, a4, a5, a6⟩ := id hH
  have ec : i.toNatClampNeg = j := by rw [hi]; exact nI_clamp (Nat.lt_trans hj hn)
  refine W.last C.1 C.2.1 (a3 q _ (zconc_get hs)) ((a2.2 1 _ rfl).1 n (fun j => .long (w.2.2.2 q j))) (fun z => by cases z) (by show ¬ (i < 0 ∨ (arrV _ _ _).slots.size ≤ _); rw [arrV_size]; exact zin_of hi hj hn) rfl rfl hd fun H1 e z oq => ?_
  refine kk p _ s m args below meth c H1 _ als Qf R C (zHp_set hH hs rfl (E := .inl (X.2.1.1 1, n, .inr (.inl ((zuL w q j x).2.2.2 q)))) rfl (fun j sh hj => zuL_off j sh hj) ?_ z (a6.put z oq ((zD a5).2 q _ (zconc_get hs)))) hl F
  refine a3.set (zD a5) (zconc_get hs) ?_ oq
  show H1[zad X.2.1 q]? = some (vp_cell _ _)
  rw [e]
  show some ((vp_cell (X.2.1.1 1) (n, .inr (.inl (w.2.2.2 q)))).setSlot _ _) = _
  rw [vp_cell_l, vp_cell_l, arrV_store, ec]
  congr 2
  funext b
  by_cases hb : b = j
  · subst hb; simp [updV, zuL]
  · simp [updV, zuL, hb]
/-! the script, the tables -/
theorem zad_ex {G : zG} (e : Nat) : zad G (1000 + e) = G.2.2.2.2.2 e := by
  unfold zad
  rw [if_neg (by omega), show 1000 + e - 1000 = e by omega]
theorem z_sld {j : Nat} {i : Int32} (hd : decode M.2.1 pc = .ok (.iaload, 1)) (hp : pc + 1 = pc') (hn : X.2.1.2.2.2.1 < 2 ^ 31) (hi : i = nI j) (hj : j < X.2.1.2.2.2.1)
    (kk : zWp X M cs pc' ls (.int (X.2.1.2.2.2.2.1 j) :: st) w) : zWp X M cs pc ls (.int i :: .ref 1000 :: st) w := by
  subst hp
  intro p e s m args below meth c H locs als Qf R C hH hl F
  have hk := kk p e s m args below meth c H locs als Qf R C hH hl F
  obtain ⟨⟨g1, g2, g3, -⟩, a2, a3, a4, a5, a6⟩ := id hH
  show W p X.1 e R s m args below meth c H locs cs.1 cs.2 Qf (F0 m pc als (.int i :: .ref (zad X.2.1 (1000 + 0)) :: _))
  rw [zad_ex]
  refine va_sld C.1 C.2.1 g3 (Nat.lt_of_lt_of_le g2 g1.1) (Nat.not_le.mpr g2) a6 (zin_of hi hj hn) hd ?_
  rw [hi, nI_clamp (Nat.lt_trans hj hn)]
  exact hk
theorem z_slen (hd : decode M.2.1 pc = .ok (.arraylength, 1)) (hp : pc + 1 = pc')
    (kk : zWp X M cs pc' ls (.int (nI X.2.1.2.2.2.1) :: st) w) : zWp X M cs pc ls (.ref 1000 :: st) w := by
  subst hp
  intro p e s m args below meth c H locs als Qf R C hH hl F
  have hk := kk p e s m args below meth c H locs als Qf R C hH hl F
  obtain ⟨⟨g1, g2, g3, -⟩, a2, a3, a4, a5, a6⟩ := id hH
  show W p X.1 e R s m args below meth c H locs cs.1 cs.2 Qf (F0 m pc als (.ref (zad X.2.1 (1000 + 0)) :: _))
  rw [zad_ex]
  exact va_slen C.1 C.2.1 g3 (Nat.lt_of_lt_of_le g2 g1.1) (Nat.not_le.mpr g2) a6 hd hk
theorem z_tpow {j : Nat} {i : Int32} (hd : decode M.2.1 pc = .ok (.laload, 1)) (hp : pc + 1 = pc') (hi : i = nI j) (hj : j < 10)
    (kk : zWp X M cs pc' ls (.long (zPOW j) :: st) w) : zWp X M cs pc ls (.int i :: .ref 1001 :: st) w := by
  subst hp
  intro p e s m args below meth c H locs als Qf R C hH hl F
  have hk := kk p e s m args below meth c H locs als Qf R C hH hl F
  obtain ⟨⟨g1, g2, g3, ⟨g4, g5⟩, -⟩, a2, a3, a4, a5, a6⟩ := id hH
  show W p X.1 e R s m args below meth c H locs cs.1 cs.2 Qf (F0 m pc als (.int i :: .ref (zad X.2.1 (1000 + 1)) :: _))
  rw [zad_ex]
  exact va_tl C.1 C.2.1 g5 a6 (zin_of hi hj (by decide)) (by rw [hi, nI_clamp (Nat.lt_trans hj (by decide))]; rfl) hd hk
theorem z_tabo {j : Nat} {i : Int32} (hd : decode M.2.1 pc = .ok (.iaload, 1)) (hp : pc + 1 = pc') (hi : i = nI j) (hj : j < 8)
    (kk : zWp X M cs pc' ls (.int (zABO j) :: st) w) : zWp X M cs pc ls (.int i :: .ref 1002 :: st) w := by
  subst hp
  intro p e s m args below meth c H locs als Qf R C hH hl F
  have hk := kk p e s m args below meth c H locs als Qf R C hH hl F
  obtain ⟨⟨g1, g2, g3, -, ⟨g4, g5⟩, -⟩, a2, a3, a4, a5, a6⟩ := id hH
  show W p X.1 e R s m args below meth c H locs cs.1 cs.2 Qf (F0 m pc als (.int i :: .ref (zad X.2.1 (1000 + 2)) :: _))
  rw [zad_ex]
  exact va_ti C.1 C.2.1 g5 a6 (zin_of hi hj (by decide)) (by rw [hi, nI_clamp (Nat.lt_trans hj (by decide))]; rfl) hd hk
theorem z_town {j : Nat} {i : Int32} (hd : decode M.2.1 pc = .ok (.iaload, 1)) (hp : pc + 1 = pc') (hi : i = nI j) (hj : j < 32)
    (kk : zWp X M cs pc' ls (.int (zOWN j) :: st) w) : zWp X M cs pc ls (.int i :: .ref 1003 :: st) w := by
  subst hp
  intro p e s m args below meth c H locs als Qf R C hH hl F
  have hk := kk p e s m args below meth c H locs als Qf R C hH hl F
  obtain ⟨⟨g1, g2, g3, -, -, ⟨g4, g5⟩⟩, a2, a3, a4, a5, a6⟩ := id hH
  show W p X.1 e R s m args below meth c H locs cs.1 cs.2 Qf (F0 m pc als (.int i :: .ref (zad X.2.1 (1000 + 3)) :: _))
  rw [zad_ex]
  exact va_ti C.1 C.2.1 g5 a6 (zin_of hi hj (by decide)) (by rw [hi, nI_clamp (Nat.lt_trans hj (by decide))]; rfl) hd hk
theorem z_gpow {idx : Nat} (hd : decode M.2.1 pc = .ok (.getstatic idx, 3)) (hp : pc + 3 = pc') (hlk : Cond.fieldLink M.1.cls idx RX4 "POWERS" "[J" ∈ zTb)
    (kk : zWp X M cs pc' ls (.ref 1001 :: st) w) : zWp X M cs pc ls st w := by
  subst hp
  intro p e s m args below meth c H locs als Qf R C hH hl F
  have hk := kk p e s m args below meth c H locs als Qf R C hH hl F
  obtain ⟨⟨g1, g2, g3, ⟨g4, g5⟩, -⟩, a2, a3, a4, a5, a6⟩ := id hH
  refine va_gets C.1 C.2.1 g4 a6 C.2.2.2.2.1 (C.2.2.2.2.2.1 _ hlk) (fun _ h => h) hd ?_
  rw [← zad_ex]
  exact hk
theorem z_gabo {idx : Nat} (hd : decode M.2.1 pc = .ok (.getstatic idx, 3)) (hp : pc + 3 = pc') (hlk : Cond.fieldLink M.1.cls idx RX6 "ABOVE" "[I" ∈ zTb)
    (kk : zWp X M cs pc' ls (.ref 1002 :: st) w) : zWp X M cs pc ls st w := by
  subst hp
  intro p e s m args below meth c H locs als Qf R C hH hl F
  have hk := kk p e s m args below meth c H locs als Qf R C hH hl F
  obtain ⟨⟨g1, g2, g3, -, ⟨g4, g5⟩, -⟩, a2, a3, a4, a5, a6⟩ := id hH
  refine va_gets C.1 C.2.1 g4 a6 C.2.2.2.2.1 (C.2.2.2.2.2.1 _ hlk) (fun _ h => h) hd ?_
  rw [← zad_ex]
  exact hk
theorem z_gown {idx : Nat} (hd : decode M.2.1 pc = .ok (.getstatic idx, 3)) (hp : pc + 3 = pc') (hlk : Cond.fieldLink M.1.cls idx RX6 "OWN" "[I" ∈ zTb)
    (kk : zWp X M cs pc' ls (.ref 1003 :: st) w) : zWp X M cs pc ls st w := by
  subst hp
  intro p e s m args below meth c H locs als Qf R C hH hl F
  have hk := kk p e s m args below meth c H locs als Qf R C hH hl F
  obtain ⟨⟨g1, g2, g3, -, -, ⟨g4, g5⟩⟩, a2, a3, a4, a5, a6⟩ := id hH
  refine va_gets C.1 C.2.1 g4 a6 C.2.2.2.2.1 (C.2.2.2.2.2.1 _ hlk) (fun _ h => h) hd ?_
  rw [← zad_ex]
  exact hk
end ZM
end
section
/-! ===== rows: making, calls, returns; a contract out of a walk ===== -/
def zal (w : zWd) (sh : zSh) : zWd := (w.1 ++ [sh], fun a b => if a = w.1.length then none else w.2.1 a b, fun a b => if a = w.1.length then 0 else w.2.2.1 a b, fun a b => if a = w.1.length then 0 else w.2.2.2 a b)
theorem zal_conc {G : zG} {w : zWd} {sh : zSh} : zconc G (zal w sh) = zconc G w ++ [(zad G w.1.length, zce G (zal w sh) w.1.length sh)] := by
  apply List.ext_getElem?
  intro j
  have hl : (zal w sh).1 = w.1 ++ [sh] := rfl
  by_cases h1 : j < w.1.length
  · have e := List.getElem?_eq_getElem h1
    rw [List.getElem?_append_left (by rw [zconc_len]; exact h1), zconc_get e, zconc_get (w := zal w sh) (sh := w.1[j]) (by rw [hl, List.getElem?_append_left h1, e])]
    congr 2
    exact zce_congr (w := w) (w' := zal w sh) (fun b => if_neg (by omega)) (fun b => if_neg (by omega)) (fun b => if_neg (by omega)) _
  · rw [List.getElem?_append_right (by rw [zconc_len]; omega), zconc_len]
    by_cases h2 : j = w.1.length
    · subst h2
      rw [Nat.sub_self, zconc_get (w := zal w sh) (sh := sh) (by rw [hl, List.getElem?_append_right (Nat.le_refl _), Nat.sub_self]; rfl)]
      rfl
    · rw [List.getElem?_eq_none (by rw [zconc_len, hl, List.length_append]; simp; omega), List.getElem?_eq_none (by simp; omega)]
theorem zHp_al {G : zG} {w : zWd} {sh : zSh} {s : State} {H H1 : Heap} {locs : List Loc} (h : zHp G w s H locs) (hl : w.1.length < 1000) (hz : H1.size = H.size + 1) (ho : ∀ q, q < H.size → H1[q]? = H[q]?)
    (hc : va_at G.2.1 zcls (zad G w.1.length, zce G (zal w sh) w.1.length sh) H1) : zHp G (zal w sh) s H1 locs := by
  obtain ⟨a1, a2, a3, a4, a5, a6⟩ := h
  refine ⟨a1, a2, ?_, ?_, ?_, ⟨Nat.le_trans a6.1 (by omega), fun q h1 h2 => (ho q (Nat.lt_of_lt_of_le h1 a6.1)).trans (a6.2.1 q h1 h2), a6.2.2⟩⟩
  · rw [zal_conc]
    refine (a3.kept fun k q hk => ho q.1 (a3 k q hk).lt).app fun k q hk => ?_
    have hz : k < 1 := (List.getElem?_eq_some_iff.mp hk).1
    rw [show k = 0 by omega] at hk
    cases hk
    exact hc
  · rw [hz, a4]
    show G.2.2.1 + w.1.length + 1 = G.2.2.1 + (w.1 ++ [sh]).length
    rw [List.length_append]
    rfl
  · show (w.1 ++ [sh]).length ≤ 1000
    rw [List.length_append]
    show w.1.length + 1 ≤ 1000
    omega
theorem zborn : ∀ ci, ci < 10 → ∀ j, j < zN ci → defaultValue (zty ci j) = (match zkof (zty ci j) with | 0 => Value.int 0 | 1 => Value.long 0 | _ => Value.null) := zlt10 (by decide +kernel) (by decide +kernel) (by decide +kernel) (by decide +kernel) (by decide +kernel) (by decide +kernel) (by decide +kernel) (by decide +kernel) (by decide +kernel) (by decide +kernel)
section ZC
variable {X : zX} {M : zM} {cs : Nat × Nat} {pc pc' : Nat} {ls : List (Option Value)} {st : List Value} {w : zWd}
theorem z_new {idx ci : Nat} (hd : decode M.2.1 pc = .ok (.new idx, 3)) (hp : pc + 3 = pc') (hci : ci < 10) (hlk : Cond.classLink M.1.cls idx (zR ci) ∈ zTb) (hin : Cond.instantiable (zR ci) (zN ci) ∈ zTb) (hini : Cond.initialized (zR ci) ∈ zTb)
    (hl0 : w.1.length < 1000) (hcs : cs.1 + 1 ≤ X.2.2.2.1 ∧ cs.2 + zN ci ≤ X.2.2.2.2.1) (kk : zWp X M (cs.1 + 1, cs.2 + zN ci) pc' ls (.ref w.1.length :: st) (zal w (3, ci))) : zWp X M cs pc ls st w := by
  subst hp
  intro p e s m args below meth c H locs als Qf R C hH hl F
  obtain ⟨a1, a2, a3, a4, a5, a6⟩ := id hH
  have hKn := a2.1 ci _ (zcls_at ci hci)
  refine W.newcK C.1 C.2.1 C.2.2.2.2.1 (C.2.2.2.2.2.1 _ hlk) (C.2.2.2.2.2.1 _ hin) (C.2.2.2.2.2.1 _ hini) rfl hd (Nat.le_trans hcs.1 C.2.2.2.2.2.2.2.2.2.2.1) (Nat.le_trans hcs.2 C.2.2.2.2.2.2.2.2.2.2.2) hKn.2.1 rfl fun H1 kC hkC e1 z1 o1 => ?_
  have ea : zad X.2.1 w.1.length = H.size := by rw [zad_lt hl0, a4]
  have hk := kk p e s m args below meth c H1 locs als Qf R C (zHp_al hH hl0 z1 o1 ?_) hl F
  · rw [List.map_cons, show zcv X.2.1 (.ref w.1.length) = .ref H.size from congrArg Value.ref ea] at hk
    exact hk
  · rw [ea]
    refine ⟨_, zcls_at ci hci, (u_born (zty ci) C.2.2.2.2.2.1 (zin ci hci) hKn hkC e1 (zty_ok ci hci)).to fun j hj => ?_⟩
    show defaultValue (zty ci j) = vp_V ((List.range (zN ci)).map (zfv X.2.1 (zal w (3, ci)) w.1.length ci)) j
    unfold vp_V
    rw [List.getD_eq_getElem?_getD, zfs_at hj, zborn ci hci j hj]
    show _ = zfv X.2.1 (zal w (3, ci)) w.1.length ci j
    unfold zfv zal
    simp only [if_true]
    split <;> simp_all [va_rf]
theorem z_newi {n : Int32} {N : Nat} (hd : decode M.2.1 pc = .ok (.newarray .int, 2)) (hp : pc + 2 = pc') (hn : n = nI N) (hN : N ≤ 100000) (har : Cond.arrayClass .int ∈ zTb)
    (hl0 : w.1.length < 1000) (hcs : cs.1 + 1 ≤ X.2.2.2.1 ∧ cs.2 + N ≤ X.2.2.2.2.1) (kk : zWp X M (cs.1 + 1, cs.2 + N) pc' ls (.ref w.1.length :: st) (zal w (0, N))) : zWp X M cs pc ls (.int n :: st) w := by
  subst hp
  intro p e s m args below meth c H locs als Qf R C hH hl F
  obtain ⟨a1, a2, a3, a4, a5, a6⟩ := id hH
  have ec : n.toNatClampNeg = N := by rw [hn]; exact nI_clamp (by omega)
  have ea : zad X.2.1 w.1.length = H.size := by rw [zad_lt hl0, a4]
  refine va_newaK C.1 C.2.1 (atype := .int) (C.2.2.2.2.2.1 _ har) rfl hd rfl (by rw [hn]; exact nI_pos (by omega)) ec (by show N * 4 ≤ _; omega) (Nat.le_trans hcs.1 C.2.2.2.2.2.2.2.2.2.2.1) (Nat.le_trans hcs.2 C.2.2.2.2.2.2.2.2.2.2.2) rfl fun H1 cA e1 z1 o1 hAr hNm => ?_
  have hcA : cA = X.2.1.1 0 := by
    have h2 : s.vm.findClass ("[" ++ FieldType.int.toString) = some (X.2.1.1 0) := (a2.2 0 _ rfl).2
    exact Option.some.inj (hNm.symm.trans h2)
  have hk := kk p e s m args below meth c H1 locs als Qf R C (zHp_al hH hl0 z1 o1 ?_) hl F
  · rw [List.map_cons, show zcv X.2.1 (.ref w.1.length) = .ref H.size from congrArg Value.ref ea] at hk
    exact hk
  · rw [ea]
    show H1[H.size]? = some (vp_cell (X.2.1.1 0) (N, .inl ((zal w (0, N)).2.2.1 w.1.length)))
    rw [e1, vp_cell_i, hcA]
    unfold zal
    simp only [if_true]
    rfl
theorem z_newl {n : Int32} {N : Nat} (hd : decode M.2.1 pc = .ok (.newarray .long, 2)) (hp : pc + 2 = pc') (hn : n = nI N) (hN : N ≤ 100000) (har : Cond.arrayClass .long ∈ zTb)
    (hl0 : w.1.length < 1000) (hcs : cs.1 + 1 ≤ X.2.2.2.1 ∧ cs.2 + N ≤ X.2.2.2.2.1) (kk : zWp X M (cs.1 + 1, cs.2 + N) pc' ls (.ref w.1.length :: st) (zal w (1, N))) : zWp X M cs pc ls (.int n :: st) w := by
  subst hp
  intro p e s m args below meth c H locs als Qf R C hH hl F
  obtain ⟨a1, a2, a3, a4, a5, a6⟩ := id hH
  have ec : n.toNatClampNeg = N := by rw [hn]; exact nI_clamp (by omega)
  have ea : zad X.2.1 w.1.length = H.size := by rw [zad_lt hl0, a4]
  refine va_newaK C.1 C.2.1 (atype := .long) (C.2.2.2.2.2.1 _ har) rfl hd rfl (by rw [hn]; exact nI_pos (by omega)) ec (by show N * 8 ≤ _; omega) (Nat.le_trans hcs.1 C.2.2.2.2.2.2.2.2.2.2.1) (Nat.le_trans hcs.2 C.2.2.2.2.2.2.2.2.2.2.2) rfl fun H1 cA e1 z1 o1 hAr hNm => ?_
  have hcA : cA = X.2.1.1 1 := by
    have h2 : s.vm.findClass ("[" ++ FieldType.long.toString) = some (X.2.1.1 1) := (a2.2 1 _ rfl).2
    exact Option.some.inj (hNm.symm.trans h2)
  have hk := kk p e s m args below meth c H1 locs als Qf R C (zHp_al hH hl0 z1 o1 ?_) hl F
  · rw [List.map_cons, show zcv X.2.1 (.ref w.1.length) = .ref H.size from congrArg Value.ref ea] at hk
    exact hk
  · rw [ea]
    show H1[H.size]? = some (vp_cell (X.2.1.1 1) (N, .inr (.inl ((zal w (1, N)).2.2.2 w.1.length))))
    rw [e1, vp_cell_l, hcA]
    unfold zal
    simp only [if_true]
    rfl
theorem z_newq {n : Int32} {idx N : Nat} (hd : decode M.2.1 pc = .ok (.anewarray idx, 3)) (hp : pc + 3 = pc') (hn : n = nI N) (hN : N ≤ 100000) (hlk : Cond.classLink M.1.cls idx RX5 ∈ zTb)
    (hl0 : w.1.length < 1000) (hcs : cs.1 + 1 ≤ X.2.2.2.1 ∧ cs.2 + N ≤ X.2.2.2.2.1) (kk : zWp X M (cs.1 + 1, cs.2 + N) pc' ls (.ref w.1.length :: st) (zal w (2, N))) : zWp X M cs pc ls (.int n :: st) w := by
  subst hp
  intro p e s m args below meth c H locs als Qf R C hH hl F
  obtain ⟨a1, a2, a3, a4, a5, a6⟩ := id hH
  have ec : n.toNatClampNeg = N := by rw [hn]; exact nI_clamp (by omega)
  subst ec
  have ea : zad X.2.1 w.1.length = H.size := by rw [zad_lt hl0, a4]
  refine W.anew C.1 C.2.1 C.2.2.2.2.1 (C.2.2.2.2.2.1 _ hlk) (va_AO.use a1.1.2.1) rfl hd rfl (by rw [hn]; exact nI_pos (by omega)) (by omega) (Nat.le_trans hcs.1 C.2.2.2.2.2.2.2.2.2.2.1) (Nat.le_trans hcs.2 C.2.2.2.2.2.2.2.2.2.2.2) fun cA kA comp f1 f2 f3 f4 => ?_
  generalize hH1 : H.push ({ cls := cA, slots := Array.replicate n.toNatClampNeg .null, vm := .none } : Cell) = H1
  have z1 : H1.size = H.size + 1 := by rw [← hH1, Array.size_push]
  have e1 : H1[H.size]? = some (arrV cA n.toNatClampNeg (fun _ => .null)) := by rw [← hH1, Array.getElem?_push_size, ← arrV_new]
  have o1 : ∀ q : Nat, q < H.size → H1[q]? = H[q]? := fun q hq => by rw [← hH1, Array.getElem?_push, if_neg (Nat.ne_of_lt hq)]
  have hcA : cA = X.2.1.1 2 := by
    obtain ⟨_, _, _, _, _, h2⟩ := (a2.2 2 _ rfl).2
    exact Option.some.inj (f1.symm.trans h2)
  have hk := kk p e s m args below meth c H1 locs als Qf R C (zHp_al hH hl0 z1 o1 ?_) hl F
  · rw [List.map_cons, show zcv X.2.1 (.ref w.1.length) = .ref H.size from congrArg Value.ref ea] at hk
    exact hk
  · rw [ea]
    show H1[H.size]? = some (vp_cell (X.2.1.1 2) (n.toNatClampNeg, .inr (.inr (.inr (.inr (fun j => ((zal w (2, n.toNatClampNeg)).2.1 w.1.length j).map (zad X.2.1)))))))
    rw [e1, vp_cell_q, hcA]
    unfold zal
    simp only [if_true]
    rfl
theorem z_aast {q n j v : Nat} {i : Int32} {w' : zWd} (hd : decode M.2.1 pc = .ok (.aastore, 1)) (hp : pc + 1 = pc') (hs : w.1[q]? = some (2, n)) (hn : n < 2 ^ 31) (hi : i = nI j) (hj : j < n) (hv : w.1[v]? = some (3, 5)) (hw : zuR w q j (some v) = w')
    (kk : zWp X M cs pc' ls st w') : zWp X M cs pc ls (.ref v :: .int i :: .ref q :: st) w := by
  subst hp
  subst hw
  intro p e s m args below meth c H locs als Qf R C hH hl F
  obtain ⟨a1, a2, a3, a4, a5, a6⟩ := id hH
  have ec : i.toNatClampNeg = j := by rw [hi]; exact nI_clamp (Nat.lt_trans hj hn)
  obtain ⟨r', hr', cellV, g1, g2, g3, -⟩ := a3 v _ (zobj (by decide) hv)
  have hcls := (a2.1 5 _ (zcls_at 5 (by decide))).2
  obtain ⟨kA, comp, k1, k2, k3, -⟩ := (a2.2 2 _ rfl).2
  have hcomp : comp = X.2.1.2.1.1 5 := Option.some.inj (k3.symm.trans hcls.1)
  subst hcomp
  obtain ⟨kC, hkC, -⟩ := hcls.2
  have hin := zin_of hi hj hn
  refine W.aast C.1 C.2.1 (a3 q _ (zconc_get hs)) (fun q h => by cases h) (fun h => by cases h) k1 k2 rfl hkC ⟨fun z => hin (Or.inl z), by show _ < (arrV _ _ _).slots.size; rw [arrV_size, ec]; exact hj⟩ g1 (fun q h => by rw [g3] at h; cases h) (by rw [g2]; exact hkC) (by rw [g2]; exact va_assign hcls) rfl rfl hd fun H1 e z oq => ?_
  refine kk p _ s m args below meth c H1 _ als Qf R C (zHp_set hH hs rfl (E := .inl (X.2.1.1 2, n, .inr (.inr (.inr (.inr (fun b => ((zuR w q j (some v)).2.1 q b).map (zad X.2.1))))))) rfl (fun j sh hj => zuR_off j sh hj) ?_ z (a6.put z oq ((zD a5).2 q _ (zconc_get hs)))) hl F
  refine a3.set (zD a5) (zconc_get hs) ?_ oq
  show H1[zad X.2.1 q]? = some (vp_cell _ _)
  rw [e]
  show some ((vp_cell (X.2.1.1 2) (n, .inr (.inr (.inr (.inr (fun b => (w.2.1 q b).map (zad X.2.1))))))).setSlot _ _) = _
  rw [vp_cell_q, vp_cell_q, arrV_store, ec]
  congr 2
  funext b
  by_cases hb : b = j
  · subst hb; simp [updV, zuR, va_rf]
  · simp [updV, zuR, hb]
theorem z_oinit {q idx : Nat} (hd : decode M.2.1 pc = .ok (.invokespecial idx, 3)) (hp : pc + 3 = pc') (hlk : Cond.methodLink M.1.cls idx objectInit ∈ zTb) (hin : Cond.instanceMethod objectInit ∈ zTb) (hco : Cond.code objectInit ⟨#[0xb1]⟩ 1 none ∈ zTb) (hdp : 1 ≤ X.2.2.1) (hst : (st.map fun v => v.category).sum ≤ 8)
    (kk : zWp X M cs pc' ls st w) : zWp X M cs pc ls (.ref q :: st) w := by
  subst hp
  intro p e s m args below meth c H locs als Qf R C hH hl F
  have hk := kk p e s m args below meth c H locs als Qf R C hH hl F
  have hst' : ((st.map (zcv X.2.1)).map fun v => v.category).sum ≤ 8 := by
    rw [List.map_map, show ((fun v : Value => v.category) ∘ zcv X.2.1) = (fun v => v.category) from funext fun v => zcv_cat _ v]
    exact hst
  have h1 := C.2.2.2.2.2.2.2.2.1
  have h2 := C.2.2.2.2.2.2.2.2.2.1
  exact W.objInit C.1 C.2.1 C.2.2.2.2.1 (C.2.2.2.2.2.1 _ hlk) (C.2.2.2.2.2.1 _ hin) (C.2.2.2.2.2.1 _ hco) rfl (hl.1.trans C.2.2.2.1.symm) rfl hd (by omega) (by show 2 * 0 + _ + 12 ≤ _; omega) hk
/-! calls -/
theorem zPre.of {G : zG} {w : zWd} {s U : State} {H : Heap} {locs : List Loc} (h : zHp G w s H locs) (hU : U.heap = H) (hW : s.WarmedH U.vm) : zPre G w U := by
  obtain ⟨a1, a2, a3, a4, a5, a6⟩ := h
  subst hU
  exact ⟨(a1.moved hW).kept a6.1 a6.2.1, va_K.moved hW.alike a2, a3, a4, a5⟩
theorem zblind {G : zG} {w : zWd} (av : List Value) : FrameBlind (va_Pc av (zPre G w)) := by
  intro a U g mk h
  obtain ⟨h0, h1, h2, h3, h4, h5⟩ := h
  exact ⟨h0, h1.moved (u := U) (State.WarmedH.refl U), va_K.moved (u := U) (Vm.Alike.refl U.vm) h2, h3, h4, h5⟩
def zQa (G : zG) (Q : Option Value → zWd → Prop) (st : State) (o : Outcome) (t : State) : Prop := (∃ (r : Option Value) (w' : zWd), o = .returned (r.map (zcv G)) ∧ Q r w' ∧ zPre G w' t) ∧ va_F (zA G) st t
/-- behind a call -/
theorem zrun {Q' : Option Value → zWd → Prop} {mc' ms' : Nat} {p : Program} {e : Env} {s : State} {m : MethodId} {args : Array Value} {below : List Frame} {meth : Method} {c : Code} {H : Heap} {locs : List Loc} {als : Array Slot} {Qf : State → Prop} {R : Room} {st0 : List Value}
    (C : zCx X M p s m args meth c R) (hH : zHp X.2.1 w s H locs) (hl : lv_has als M.2.2.1 (zll X.2.1 0 ls))
    (F : ∀ (r : Option Value) (w' : zWd) (H' : Heap) (locs' : List Loc) (pc' : Nat) (als' : Array Slot), X.2.2.2.2.2 r w' → zHp X.2.1 w' s H' locs' → zRet M pc' r →
      W p X.1 e R s m args below meth c H' locs' X.2.2.2.1 X.2.2.2.2.1 Qf (F0 m pc' als' (r.map (zcv X.2.1)).toList))
    (hr : va_Run p X.1 e R s m args below meth c H locs cs.1 cs.2 mc' ms' (F0 m pc als st0) (st.map (zcv X.2.1)) (zQa X.2.1 Q') (zA X.2.1))
    (kk : ∀ r w', Q' r w' → zWp X M (cs.1 + mc', cs.2 + ms') (pc + 3) ls (r.toList ++ st) w') : W p X.1 e R s m args below meth c H locs cs.1 cs.2 Qf (F0 m pc als st0) := by
  intro T hT XX
  obtain ⟨v, st₀, t, T', L, h0, X', hL, e1, e2, ⟨⟨r, w', hv, hq, b1, b2, b3, b4, b5⟩, hz, hk⟩, stp⟩ := hr T hT XX
  cases hv
  rw [h0] at hz hk
  obtain ⟨a1, a2, a3, a4, a5, a6⟩ := id hH
  obtain ⟨t2, c1, c2⟩ := kk r w' hq p e s m args below meth c T'.heap (locs ++ L) als Qf R C
    ⟨a1, a2, by rw [e1]; exact b3, by rw [e1]; exact b4, b5, ⟨Nat.le_trans a6.1 (by rw [e1]; exact hz), fun q h1 h2 => by rw [e1, hk q (Nat.lt_of_lt_of_le h1 a6.1) h2]; exact a6.2.1 q h1 h2, fun q hq => by
      rcases List.mem_append.mp hq with h | h
      · exact a6.2.2 q h
      · exact hL q h⟩⟩ hl F T' rfl X'
  refine ⟨t2, stp t2 ?_, c2⟩
  have ee : (r.toList ++ st).map (zcv X.2.1) = (r.map (zcv X.2.1)).toList ++ st.map (zcv X.2.1) := by cases r <;> rfl
  rw [ee] at c1
  exact c1
/-- what the tables say of a method, and of a call of it -/
def zMe (M' : zM) (n : Nat) : Prop := Cond.initialized M'.1.cls ∈ zTb ∧ Cond.code M'.1 M'.2.1 M'.2.2.1 M'.2.2.2 ∈ zTb ∧ (M'.1.cls ≠ "java/lang/invoke/MethodHandle" ∧ M'.1.cls ≠ "java/lang/invoke/VarHandle" ∧ (parseMethodDescriptor M'.1.desc).map (fun d => d.parameters.length) = some n) ∧ M'.2.2.1 ≤ 40
def zMeV (M' : zM) (n : Nat) : Prop := zMe M' n ∧ Cond.instanceMethod M'.1 ∈ zTb ∧ Cond.selects M'.1.cls M'.1 M'.1 ∈ zTb
def zMeS (M' : zM) (n : Nat) : Prop := zMe M' n ∧ Cond.static M'.1 ∈ zTb
def zMeI (M' : zM) (n : Nat) : Prop := zMe M' n ∧ Cond.instanceMethod M'.1 ∈ zTb ∧ M'.1.name = "<init>" ∧ M'.2.2.2 = none
theorem zst8 {G : zG} {st : List Value} (hst : (st.map fun v => v.category).sum ≤ 8) : ((st.map (zcv G)).map fun v => v.category).sum ≤ 8 := by
  rw [List.map_map, show ((fun v : Value => v.category) ∘ zcv G) = (fun v => v.category) from funext fun v => zcv_cat _ v]
  exact hst
theorem zmapr {G : zG} (As : List Value) (b : Nat) (st : List Value) : (As.reverse ++ .ref b :: st).map (zcv G) = (As.map (zcv G)).reverse ++ .ref (zad G b) :: st.map (zcv G) := by
  rw [List.map_append, List.map_reverse, List.map_cons]; rfl
theorem z_callV {idx d' mc' ms' n b ci : Nat} {M' : zM} {As st0 : List Value} {Q' : Option Value → zWd → Prop} (hd : decode M.2.1 pc = .ok (.invokevirtual idx, 3)) (hp : pc + 3 = pc') (hlk : Cond.methodLink M.1.cls idx M'.1 ∈ zTb) (hM : zMeV M' n) (hC : zCn X.1 X.2.1 d' M' mc' ms' (.ref b :: As) w Q')
    (hs : w.1[b]? = some (3, ci)) (hci : ci < 10) (hcl : zR ci = M'.1.cls) (hn : As.length = n) (hdp : d' + 1 ≤ X.2.2.1) (hst : (st.map fun v => v.category).sum ≤ 8) (hcs : cs.1 + mc' ≤ X.2.2.2.1 ∧ cs.2 + ms' ≤ X.2.2.2.2.1) (hsk : st0 = As.reverse ++ .ref b :: st)
    (kk : ∀ r w', Q' r w' → zWp X M (cs.1 + mc', cs.2 + ms') pc' ls (r.toList ++ st) w') : zWp X M cs pc ls st0 w := by
  subst hp
  subst hsk
  intro p e s m args below meth c H locs als Qf R C hH hl F
  rw [zmapr]
  obtain ⟨⟨m1, m2, m3, m4⟩, m5, m6⟩ := hM
  have h1 := C.2.2.2.2.2.2.2.2.1
  have h2 := C.2.2.2.2.2.2.2.2.2.1
  have hG : GoodIn zTb (wsV M.1.cls idx M'.1.cls M'.1 (zws M')) := by
    intro x hx
    have hm : x ∈ zTb := by
      simp only [wsV, zws, List.mem_append, List.mem_cons, List.not_mem_nil, or_false] at hx
      rcases hx with (rfl | rfl | rfl | rfl) | rfl | hx
      · exact hlk
      · exact m5
      · exact m6
      · exact m1
      · exact m2
      · exact hx
    exact ⟨hm, zgood x hm⟩
  refine zrun C hH hl F (va_runV (As := As.map (zcv X.2.1)) (C := M'.1.cls) (own := M.1.cls) (index := idx) (n := n) ⟨C.1, C.2.1, C.2.2.2.1, C.2.2.2.2.1, C.2.2.2.2.2.1⟩ hC (cwV n C.2.2.2.2.2.1 hG rfl rfl rfl ⟨rfl, m3.1, m3.2.1, m3.2.2⟩ ⟨by show d' + 1 ≤ _; omega, by show 8 + (M'.2.2.1 + 11) + 64 * d' ≤ _; omega⟩)
    ⟨zblind _, ?_, fun U hU hW => ⟨rfl, zPre.of hH hU hW⟩⟩ rfl (by rw [List.length_map]; exact hn) hl.1 rfl (lv_room (zst8 hst)) hd ⟨Nat.le_trans hcs.1 C.2.2.2.2.2.2.2.2.2.2.1, Nat.le_trans hcs.2 C.2.2.2.2.2.2.2.2.2.2.2⟩) kk
  rw [← hcl]
  exact va_recv hH.2.1 hH.2.2.1 (zcls_at ci hci) (zobj hci hs)
theorem z_callS {idx d' mc' ms' n : Nat} {M' : zM} {As st0 : List Value} {Q' : Option Value → zWd → Prop} (hd : decode M.2.1 pc = .ok (.invokestatic idx, 3)) (hp : pc + 3 = pc') (hlk : Cond.methodLink M.1.cls idx M'.1 ∈ zTb) (hM : zMeS M' n) (hC : zCn X.1 X.2.1 d' M' mc' ms' As w Q')
    (hn : As.length = n) (hdp : d' + 1 ≤ X.2.2.1) (hst : (st.map fun v => v.category).sum ≤ 8) (hcs : cs.1 + mc' ≤ X.2.2.2.1 ∧ cs.2 + ms' ≤ X.2.2.2.2.1) (hsk : st0 = As.reverse ++ st)
    (kk : ∀ r w', Q' r w' → zWp X M (cs.1 + mc', cs.2 + ms') pc' ls (r.toList ++ st) w') : zWp X M cs pc ls st0 w := by
  subst hp
  subst hsk
  intro p e s m args below meth c H locs als Qf R C hH hl F
  rw [List.map_append, List.map_reverse]
  obtain ⟨⟨m1, m2, m3, m4⟩, m5⟩ := hM
  have h1 := C.2.2.2.2.2.2.2.2.1
  have h2 := C.2.2.2.2.2.2.2.2.2.1
  have hG : GoodIn zTb (va_wsS M.1.cls idx M'.1 (zws M')) := by
    intro x hx
    have hm : x ∈ zTb := by
      simp only [va_wsS, zws, List.mem_append, List.mem_cons, List.not_mem_nil, or_false] at hx
      rcases hx with (rfl | rfl | rfl) | rfl | hx
      · exact hlk
      · exact m5
      · exact m1
      · exact m2
      · exact hx
    exact ⟨hm, zgood x hm⟩
  exact zrun C hH hl F (va_runS (As := As.map (zcv X.2.1)) (own := M.1.cls) (index := idx) (n := n) ⟨C.1, C.2.1, C.2.2.2.1, C.2.2.2.2.1, C.2.2.2.2.2.1⟩ hC (va_cwS n C.2.2.2.2.2.1 hG rfl rfl rfl m3 ⟨by show d' + 1 ≤ _; omega, by show 8 + (M'.2.2.1 + 11) + 64 * d' ≤ _; omega⟩)
    ⟨zblind _, fun U hU hW => ⟨rfl, zPre.of hH hU hW⟩⟩ rfl (by rw [List.length_map]; exact hn) hl.1 rfl (lv_room (zst8 hst)) hd ⟨Nat.le_trans hcs.1 C.2.2.2.2.2.2.2.2.2.2.1, Nat.le_trans hcs.2 C.2.2.2.2.2.2.2.2.2.2.2⟩) kk
theorem zGI {M' : zM} (m2 : Cond.code M'.1 M'.2.1 M'.2.2.1 M'.2.2.2 ∈ zTb) : GoodIn zTb (zws M') := by
  intro x hx
  have hm : x ∈ zTb := by
    rcases List.mem_cons.mp hx with rfl | hx
    · exact m2
    · exact hx
  exact ⟨hm, zgood x hm⟩
theorem z_callI {idx d' mc' ms' n b : Nat} {y : MethodName} {cd : ByteArray} {mL : Nat} {As st0 : List Value} {Q' : Option Value → zWd → Prop} (hd : decode M.2.1 pc = .ok (.invokespecial idx, 3)) (hp : pc + 3 = pc') (hlk : Cond.methodLink M.1.cls idx y ∈ zTb) (hM : zMeI (y, cd, mL, none) n) (hC : zCn X.1 X.2.1 d' (y, cd, mL, none) mc' ms' (.ref b :: As) w Q')
    (hn : As.length = n) (hdp : d' + 1 ≤ X.2.2.1) (hst : (st.map fun v => v.category).sum ≤ 8) (hcs : cs.1 + mc' ≤ X.2.2.2.1 ∧ cs.2 + ms' ≤ X.2.2.2.2.1) (hsk : st0 = As.reverse ++ .ref b :: st)
    (kk : ∀ r w', Q' r w' → zWp X M (cs.1 + mc', cs.2 + ms') pc' ls (r.toList ++ st) w') : zWp X M cs pc ls st0 w := by
  subst hp
  subst hsk
  intro p e s m args below meth c H locs als Qf R C hH hl F
  rw [zmapr]
  obtain ⟨⟨m1, m2, m3, m4⟩, m5, m6, m7⟩ := hM
  have h1 := C.2.2.2.2.2.2.2.2.1
  have h2 := C.2.2.2.2.2.2.2.2.2.1
  exact zrun C hH hl F (va_runI (As := As.map (zcv X.2.1)) (own := M.1.cls) (index := idx) (n := n) ⟨C.1, C.2.1, C.2.2.2.1, C.2.2.2.2.1, C.2.2.2.2.2.1⟩ hC (cwI n C.2.2.2.2.2.1 (zGI m2) rfl rfl rfl (C.2.2.2.2.2.1 _ m1) (C.2.2.2.2.2.1 _ hlk) (C.2.2.2.2.2.1 _ m5) m6 m3 ⟨by show d' + 1 ≤ _; omega, by show 8 + (mL + 11) + 64 * d' ≤ _; have : mL ≤ 40 := m4; omega⟩)
    ⟨zblind _, fun U hU hW => ⟨rfl, zPre.of hH hU hW⟩⟩ rfl (by rw [List.length_map]; exact hn) hl.1 rfl (lv_room (zst8 hst)) hd ⟨Nat.le_trans hcs.1 C.2.2.2.2.2.2.2.2.2.2.1, Nat.le_trans hcs.2 C.2.2.2.2.2.2.2.2.2.2.2⟩) kk
theorem z_callIN {idx d' mc' ms' n b : Nat} {y : MethodName} {cd : ByteArray} {mL : Nat} {As st0 : List Value} {Q' : Option Value → zWd → Prop} (hd : decode M.2.1 pc = .ok (.invokespecial idx, 3)) (hp : pc + 3 = pc') (hlk : ∀ U : State, zNest U → va_Nw (.methodLinkNest M.1.cls idx y RX8) U) (hM : zMeI (y, cd, mL, none) n) (hC : zCn X.1 X.2.1 d' (y, cd, mL, none) mc' ms' (.ref b :: As) w Q')
    (hn : As.length = n) (hdp : d' + 1 ≤ X.2.2.1) (hst : (st.map fun v => v.category).sum ≤ 8) (hcs : cs.1 + mc' ≤ X.2.2.2.1 ∧ cs.2 + ms' ≤ X.2.2.2.2.1) (hsk : st0 = As.reverse ++ .ref b :: st)
    (kk : ∀ r w', Q' r w' → zWp X M (cs.1 + mc', cs.2 + ms') pc' ls (r.toList ++ st) w') : zWp X M cs pc ls st0 w := by
  subst hp
  subst hsk
  intro p e s m args below meth c H locs als Qf R C hH hl F
  rw [zmapr]
  obtain ⟨⟨m1, m2, m3, m4⟩, m5, m6, m7⟩ := hM
  have h1 := C.2.2.2.2.2.2.2.2.1
  have h2 := C.2.2.2.2.2.2.2.2.2.1
  exact zrun C hH hl F (va_runIN (As := As.map (zcv X.2.1)) (own := M.1.cls) (index := idx) (n := n) ⟨C.1, C.2.1, C.2.2.2.1, C.2.2.2.2.1, C.2.2.2.2.2.1⟩ hC ⟨va_cnB n C.2.2.2.2.2.1 (zGI m2) rfl rfl rfl (hlk s hH.1.1.2.2) (C.2.2.2.2.2.1 _ m1) m3 ⟨by show d' + 1 ≤ _; omega, by show 8 + (mL + 11) + 64 * d' ≤ _; have : mL ≤ 40 := m4; omega⟩, m6, C.2.2.2.2.2.1 _ m5⟩
    ⟨zblind _, fun U hU hW => ⟨rfl, zPre.of hH hU hW⟩⟩ rfl (by rw [List.length_map]; exact hn) hl.1 rfl (lv_room (zst8 hst)) hd ⟨Nat.le_trans hcs.1 C.2.2.2.2.2.2.2.2.2.2.1, Nat.le_trans hcs.2 C.2.2.2.2.2.2.2.2.2.2.2⟩) kk
/-! returns -/
theorem z_vret (hd : decode M.2.1 pc = .ok (.return_, 1)) (hr : M.2.2.2 = none) (hcs : cs.1 ≤ X.2.2.2.1 ∧ cs.2 ≤ X.2.2.2.2.1) (hq : X.2.2.2.2.2 none w) : zWp X M cs pc ls [] w := by
  intro p e s m args below meth c H locs als Qf R C hH hl F
  exact W.widen hcs.1 hcs.2 (F none w H locs pc als hq hH ⟨hd, hr⟩)
theorem z_iret {v : Int32} {ty : FieldType} (hd : decode M.2.1 pc = .ok (.ireturn, 1)) (hr : M.2.2.2 = some ty) (hn : narrow ty (.int v) = .int v) (hcs : cs.1 ≤ X.2.2.2.1 ∧ cs.2 ≤ X.2.2.2.2.1) (hq : X.2.2.2.2.2 (some (.int v)) w) : zWp X M cs pc ls [.int v] w := by
  intro p e s m args below meth c H locs als Qf R C hH hl F
  exact W.widen hcs.1 hcs.2 (F (some (.int v)) w H locs pc als hq hH ⟨hd, ty, hr, hn⟩)
theorem z_lret {v : Int64} (hd : decode M.2.1 pc = .ok (.lreturn, 1)) (hr : M.2.2.2 = some .long) (hcs : cs.1 ≤ X.2.2.2.1 ∧ cs.2 ≤ X.2.2.2.2.1) (hq : X.2.2.2.2.2 (some (.long v)) w) : zWp X M cs pc ls [.long v] w := by
  intro p e s m args below meth c H locs als Qf R C hH hl F
  exact W.widen hcs.1 hcs.2 (F (some (.long v)) w H locs pc als hq hH ⟨hd, hr⟩)
end ZC
/-- a contract out of a walk from the entry -/
theorem zCn.of {l : Launch} {G : zG} {d mc ms : Nat} {M : zM} {args : List Value} {w : zWd} {Q : Option Value → zWd → Prop} {ls : List (Option Value)} (hpn : plainName M.1.cls = true) (hle : (zen args).length ≤ M.2.2.1) (hls : zen args ++ List.replicate (M.2.2.1 - (zen args).length) none = ls)
    (k : zWp (l, G, d, mc, ms, Q) M (0, 0) 0 ls [] w) : zCn l G d M mc ms args w Q := by
  subst hls
  refine Met.ofW (cc := M.2.1) (maxL := M.2.2.1) (ret := M.2.2.2) hpn rfl ?_
  intro p e s m args' below meth c s₁ B hml hv
  obtain ⟨rfl, b1, b2, b3, b4, b5⟩ := hv
  have hts : ∀ w ∈ zws M, w.before (args.map (zcv G)).toArray s = true := atoms_spec (ws := zws M) B.pre
  have hl := lv_entry (args.map (zcv G)) (n := M.2.2.1) (by rw [zen_len]; exact hle)
  rw [lg_entry_eq]
  generalize (lg_sl (args.map (zcv G)) ++ List.replicate (M.2.2.1 - (lg_sl (args.map (zcv G))).length) Slot.unset).toArray = als at hl ⊢
  rw [← zen_lv args 0 (M.2.2.1 - (zen args).length)] at hl
  have hlocks := B.notSynchronized
  have hloc : ∀ (H' : Heap) (locs' : List Loc) (w' : zWd), zHp G w' s H' locs' → ∀ q ∈ locs', zA G q.base := fun _ _ _ h => h.2.2.2.2.2.2.2
  refine k p e s m _ below meth c s.heap [] als _ (zrm d mc ms) ⟨B.exec, B.bytes, B.returns, hml, findClass_of_methodNamed B.named, fun w hw => hts w (List.mem_cons_of_mem _ hw), B.notSynchronized, fun h => ((name_of_methodNamed B.named B.method).1).trans h, Nat.le_refl _, Nat.le_refl _, Nat.le_refl _, Nat.le_refl _⟩ ⟨b1, b2, b3, b4, b5, va_S.rf⟩ hl ?_
  intro r w' H' locs' pc' als' hq hH' hret
  have hF : ∀ t : State, t.heap = H' → va_F (zA G) s t := fun t ht => hH'.2.2.2.2.2.F ht
  match r, hret with
  | none, hret =>
    exact W.vret B.exec B.bytes (B.returns.trans hret.2) (fun t ht hW => ⟨⟨none, w', rfl, hq, zPre.of hH' ht hW⟩, hF t ht⟩) (hloc _ _ _ hH') hret.1
  | some (.int v), hret =>
    obtain ⟨h1, ty, h2, h3⟩ := hret
    exact W.zret B.exec B.bytes (B.returns.trans h2) h3 (fun t ht hW => ⟨⟨some (.int v), w', rfl, hq, zPre.of hH' ht hW⟩, hF t ht⟩) (hloc _ _ _ hH') h1
  | some (.long v), hret =>
    exact W.lret B.exec B.bytes (B.returns.trans hret.2) (fun t ht hW => ⟨⟨some (.long v), w', rfl, hq, zPre.of hH' ht hW⟩, hF t ht⟩) (hloc _ _ _ hH') hret.1
end
section
/-! ===== Math, System.arraycopy; from the law's walk to whole_start (written by wip/whole/gen/p07.py) ===== -/
section ZK
variable {X : zX} {M : zM} {cs : Nat × Nat} {pc pc' : Nat} {ls : List (Option Value)} {st : List Value} {w : zWd}
theorem z_mmax {idx : Nat} {x y : Int32} (hd : decode M.2.1 pc = .ok (.invokestatic idx, 3)) (hp : pc + 3 = pc') (hlk : Cond.methodLink M.1.cls idx Lib.Math.max.name ∈ zTb) (hm : Cond.static Lib.Math.max.name ∈ zTb ∧ Cond.initialized "java/lang/Math" ∈ zTb ∧ Cond.code Lib.Math.max.name Lib.Math.max.code 2 (some .int) ∈ zTb) (hdp : 1 ≤ X.2.2.1) (hst : (st.map fun v => v.category).sum ≤ 8) (hcs : cs.1 ≤ X.2.2.2.1 ∧ cs.2 ≤ X.2.2.2.2.1)
    (kk : zWp X M cs pc' ls (.int (if x < y then y else x) :: st) w) : zWp X M cs pc ls (.int y :: .int x :: st) w := by
  subst hp
  intro p e s m args below meth c H locs als Qf R C hH hl F
  have hk := kk p e s m args below meth c H locs als Qf R C hH hl F
  have h1 := C.2.2.2.2.2.2.2.2.1
  have h2 := C.2.2.2.2.2.2.2.2.2.1
  have h3 := zst8 (G := X.2.1) hst
  exact va_mmax C.1 C.2.1 (C.2.2.2.1.trans hl.1.symm) C.2.2.2.2.1 (C.2.2.2.2.2.1 _ hlk) (C.2.2.2.2.2.1 _ hm.1) (C.2.2.2.2.2.1 _ hm.2.1) (C.2.2.2.2.2.1 _ hm.2.2) (by omega) (by omega) (Nat.le_trans hcs.1 C.2.2.2.2.2.2.2.2.2.2.1) (Nat.le_trans hcs.2 C.2.2.2.2.2.2.2.2.2.2.2) hd hk
theorem z_mmin {idx : Nat} {x y : Int32} (hd : decode M.2.1 pc = .ok (.invokestatic idx, 3)) (hp : pc + 3 = pc') (hlk : Cond.methodLink M.1.cls idx Lib.Math.min.name ∈ zTb) (hm : Cond.static Lib.Math.min.name ∈ zTb ∧ Cond.initialized "java/lang/Math" ∈ zTb ∧ Cond.code Lib.Math.min.name Lib.Math.min.code 2 (some .int) ∈ zTb) (hdp : 1 ≤ X.2.2.1) (hst : (st.map fun v => v.category).sum ≤ 8) (hcs : cs.1 ≤ X.2.2.2.1 ∧ cs.2 ≤ X.2.2.2.2.1)
    (kk : zWp X M cs pc' ls (.int (if y < x then y else x) :: st) w) : zWp X M cs pc ls (.int y :: .int x :: st) w := by
  subst hp
  intro p e s m args below meth c H locs als Qf R C hH hl F
  have hk := kk p e s m args below meth c H locs als Qf R C hH hl F
  have h1 := C.2.2.2.2.2.2.2.2.1
  have h2 := C.2.2.2.2.2.2.2.2.2.1
  have h3 := zst8 (G := X.2.1) hst
  exact va_mmin C.1 C.2.1 (C.2.2.2.1.trans hl.1.symm) C.2.2.2.2.1 (C.2.2.2.2.2.1 _ hlk) (C.2.2.2.2.2.1 _ hm.1) (C.2.2.2.2.2.1 _ hm.2.1) (C.2.2.2.2.2.1 _ hm.2.2) (by omega) (by omega) (Nat.le_trans hcs.1 C.2.2.2.2.2.2.2.2.2.2.1) (Nat.le_trans hcs.2 C.2.2.2.2.2.2.2.2.2.2.2) hd hk
theorem z_mmaxl {idx : Nat} {x y : Int64} (hd : decode M.2.1 pc = .ok (.invokestatic idx, 3)) (hp : pc + 3 = pc') (hlk : Cond.methodLink M.1.cls idx Lib.MathLoose.max_long.x ∈ zTb) (hm : Cond.static Lib.MathLoose.max_long.x ∈ zTb ∧ Cond.initialized "java/lang/Math" ∈ zTb ∧ Cond.code Lib.MathLoose.max_long.x Lib.MathLoose.max_long.code 4 (some .long) ∈ zTb) (hdp : 1 ≤ X.2.2.1) (hst : (st.map fun v => v.category).sum ≤ 8) (hcs : cs.1 ≤ X.2.2.2.1 ∧ cs.2 ≤ X.2.2.2.2.1)
    (kk : zWp X M cs pc' ls (.long (if y < x then x else y) :: st) w) : zWp X M cs pc ls (.long y :: .long x :: st) w := by
  subst hp
  intro p e s m args below meth c H locs als Qf R C hH hl F
  have hk := kk p e s m args below meth c H locs als Qf R C hH hl F
  have h1 := C.2.2.2.2.2.2.2.2.1
  have h2 := C.2.2.2.2.2.2.2.2.2.1
  have h3 := zst8 (G := X.2.1) hst
  exact va_mmax_long C.1 C.2.1 (C.2.2.2.1.trans hl.1.symm) C.2.2.2.2.1 (C.2.2.2.2.2.1 _ hlk) (C.2.2.2.2.2.1 _ hm.1) (C.2.2.2.2.2.1 _ hm.2.1) (C.2.2.2.2.2.1 _ hm.2.2) (by omega) (by omega) (Nat.le_trans hcs.1 C.2.2.2.2.2.2.2.2.2.2.1) (Nat.le_trans hcs.2 C.2.2.2.2.2.2.2.2.2.2.2) hd hk
theorem z_mminl {idx : Nat} {x y : Int64} (hd : decode M.2.1 pc = .ok (.invokestatic idx, 3)) (hp : pc + 3 = pc') (hlk : Cond.methodLink M.1.cls idx Lib.MathLoose.min_long.x ∈ zTb) (hm : Cond.static Lib.MathLoose.min_long.x ∈ zTb ∧ Cond.initialized "java/lang/Math" ∈ zTb ∧ Cond.code Lib.MathLoose.min_long.x Lib.MathLoose.min_long.code 4 (some .long) ∈ zTb) (hdp : 1 ≤ X.2.2.1) (hst : (st.map fun v => v.category).sum ≤ 8) (hcs : cs.1 ≤ X.2.2.2.1 ∧ cs.2 ≤ X.2.2.2.2.1)
    (kk : zWp X M cs pc' ls (.long (if y < x then y else x) :: st) w) : zWp X M cs pc ls (.long y :: .long x :: st) w := by
  subst hp
  intro p e s m args below meth c H locs als Qf R C hH hl F
  have hk := kk p e s m args below meth c H locs als Qf R C hH hl F
  have h1 := C.2.2.2.2.2.2.2.2.1
  have h2 := C.2.2.2.2.2.2.2.2.2.1
  have h3 := zst8 (G := X.2.1) hst
  exact va_mmin_long C.1 C.2.1 (C.2.2.2.1.trans hl.1.symm) C.2.2.2.2.1 (C.2.2.2.2.2.1 _ hlk) (C.2.2.2.2.2.1 _ hm.1) (C.2.2.2.2.2.1 _ hm.2.1) (C.2.2.2.2.2.1 _ hm.2.2) (by omega) (by omega) (Nat.le_trans hcs.1 C.2.2.2.2.2.2.2.2.2.2.1) (Nat.le_trans hcs.2 C.2.2.2.2.2.2.2.2.2.2.2) hd hk
theorem z_mabsl {idx : Nat} {x : Int64} (hd : decode M.2.1 pc = .ok (.invokestatic idx, 3)) (hp : pc + 3 = pc') (hlk : Cond.methodLink M.1.cls idx Lib.MathLoose.abs_long.x ∈ zTb) (hm : Cond.static Lib.MathLoose.abs_long.x ∈ zTb ∧ Cond.initialized "java/lang/Math" ∈ zTb ∧ Cond.code Lib.MathLoose.abs_long.x Lib.MathLoose.abs_long.code 2 (some .long) ∈ zTb) (hdp : 1 ≤ X.2.2.1) (hst : (st.map fun v => v.category).sum ≤ 8) (hcs : cs.1 ≤ X.2.2.2.1 ∧ cs.2 ≤ X.2.2.2.2.1)
    (kk : zWp X M cs pc' ls (.long (if 0 < x then x else -x) :: st) w) : zWp X M cs pc ls (.long x :: st) w := by
  subst hp
  intro p e s m args below meth c H locs als Qf R C hH hl F
  have hk := kk p e s m args below meth c H locs als Qf R C hH hl F
  have h1 := C.2.2.2.2.2.2.2.2.1
  have h2 := C.2.2.2.2.2.2.2.2.2.1
  have h3 := zst8 (G := X.2.1) hst
  exact va_mabs_long C.1 C.2.1 (C.2.2.2.1.trans hl.1.symm) C.2.2.2.2.1 (C.2.2.2.2.2.1 _ hlk) (C.2.2.2.2.2.1 _ hm.1) (C.2.2.2.2.2.1 _ hm.2.1) (C.2.2.2.2.2.1 _ hm.2.2) (by omega) (by omega) (Nat.le_trans hcs.1 C.2.2.2.2.2.2.2.2.2.2.1) (Nat.le_trans hcs.2 C.2.2.2.2.2.2.2.2.2.2.2) hd hk
end ZK
def zcpI (w : zWd) (q0 q1 sp dp n : Nat) : zWd := (w.1, w.2.1, fun a b => if a = q1 ∧ (dp ≤ b ∧ b < dp + n) then w.2.2.1 q0 (sp + (b - dp)) else w.2.2.1 a b, w.2.2.2)
def zcpL (w : zWd) (q0 q1 sp dp n : Nat) : zWd := (w.1, w.2.1, w.2.2.1, fun a b => if a = q1 ∧ (dp ≤ b ∧ b < dp + n) then w.2.2.2 q0 (sp + (b - dp)) else w.2.2.2 a b)
theorem nn_of {z : Int32} {n : Nat} (h : z = nI n) (hn : n < 2 ^ 31) : ¬ z < 0 ∧ z.toNatClampNeg = n ∧ z.toInt = (n : Int) := by
  subst h
  exact ⟨nI_pos hn, nI_clamp hn, nI_toInt hn⟩
def zcpM : Prop := Cond.native arraycopyName ∈ zTb ∧ Cond.static arraycopyName ∈ zTb ∧ Cond.initialized "java/lang/System" ∈ zTb
theorem z_cpyi {X : zX} {M : zM} {cs : Nat × Nat} {pc pc' : Nat} {ls : List (Option Value)} {st : List Value} {w w' : zWd} {idx q0 q1 n0 n1 sp dp n : Nat} {isp idp iN : Int32} (hd : decode M.2.1 pc = .ok (.invokestatic idx, 3)) (hp : pc + 3 = pc') (hlk : Cond.methodLink M.1.cls idx arraycopyName ∈ zTb) (hm : zcpM) (hdp : 1 ≤ X.2.2.1) (hst : (st.map fun v => v.category).sum ≤ 8)
    (hs0 : w.1[q0]? = some (0, n0)) (hs1 : w.1[q1]? = some (0, n1)) (h1 : isp = nI sp) (h2 : idp = nI dp) (h3 : iN = nI n) (h4 : sp + n ≤ n0) (h5 : dp + n ≤ n1) (hb : n0 < 2 ^ 31 ∧ n1 < 2 ^ 31) (hw : zcpI w q0 q1 sp dp n = w')
    (kk : zWp X M cs pc' ls st w') : zWp X M cs pc ls (.int iN :: .int idp :: .ref q1 :: .int isp :: .ref q0 :: st) w := by
  subst hp
  subst hw
  intro p e s m args below meth c H locs als Qf R C hH hl F T hT XX
  obtain ⟨a1, a2, a3, a4, a5, a6⟩ := id hH
  have r1 := C.2.2.2.2.2.2.2.2.1
  have r2 := C.2.2.2.2.2.2.2.2.2.1
  have r3 := zst8 (G := X.2.1) hst
  have r4 : nativeFrameWords "java/lang/System" "arraycopy" 5 ≤ 40 := by decide +kernel
  obtain ⟨u1, u2, u3⟩ := nn_of h1 (by omega)
  obtain ⟨v1, v2, v3⟩ := nn_of h2 (by omega)
  obtain ⟨x1, x2, x3⟩ := nn_of h3 (by omega)
  have hc0 : H[zad X.2.1 q0]? = some (vp_cell (X.2.1.1 0) (n0, .inl (w.2.2.1 q0))) := a3 q0 _ (zconc_get hs0)
  have hc1 : H[zad X.2.1 q1]? = some (vp_cell (X.2.1.1 0) (n1, .inl (w.2.2.1 q1))) := a3 q1 _ (zconc_get hs1)
  obtain ⟨-, k0, hk0, cm0, hkk0⟩ := (a2.2 0 _ rfl).1 n0 (fun j => .int (w.2.2.1 q0 j))
  obtain ⟨vm', X', step⟩ := XX.arraycopy C.1 C.2.2.2.2.1 (C.2.2.2.2.2.1 _ hlk) (C.2.2.2.2.2.1 _ hm.1) (C.2.2.2.2.2.1 _ hm.2.1) (C.2.2.2.2.2.1 _ hm.2.2) (src := zad X.2.1 q0) (dst := zad X.2.1 q1) (cs := vp_cell (X.2.1.1 0) (n0, .inl (w.2.2.1 q0))) (cd := vp_cell (X.2.1.1 0) (n1, .inl (w.2.2.1 q1))) (srcPos := isp) (destPos := idp) (n := iN) (by rw [hT]; exact hc0) (by rw [hT]; exact hc1)
    (fun _ h => by cases h) (fun _ h => by cases h) (fun h => by cases h) (fun h => by cases h) hk0 hk0 hkk0 hkk0 (by simp [refKind]) u1 v1 x1
    (by rw [u3, x3]; show ¬ _ > ((arrV _ n0 _).slots.size : Int); rw [arrV_size]; omega)
    (by rw [v3, x3]; show ¬ _ > ((arrV _ n1 _).slots.size : Int); rw [arrV_size]; omega)
    (fun vm₁ _ i hi => by
      have e : (vp_cell (X.2.1.1 0) (n0, .inl (w.2.2.1 q0))).slots.getD (isp.toNatClampNeg + i) .null = .int (w.2.2.1 q0 (isp.toNatClampNeg + i)) := by
        show (arrV _ n0 _).slots.getD _ _ = _
        rw [Array.getD_eq_getD_getElem?, arrV_read _ _ (by omega)]
        rfl
      exact ⟨by rw [e]; rfl, by rw [e]; exact trivial⟩)
    (g := F0 m pc als (.int iN :: .int idp :: .ref (zad X.2.1 q1) :: .int isp :: .ref (zad X.2.1 q0) :: st.map (zcv X.2.1))) rfl (hl.1.trans C.2.2.2.1.symm) (rest := st.map (zcv X.2.1)) rfl (by rw [C.2.1]; exact hd) (by omega) (by show 2 * 0 + _ + _ ≤ _; omega)
  have e1 : copied (vp_cell (X.2.1.1 0) (n0, .inl (w.2.2.1 q0))) (vp_cell (X.2.1.1 0) (n1, .inl (w.2.2.1 q1))) isp idp iN = vp_cell (X.2.1.1 0) (n1, .inl ((zcpI w q0 q1 sp dp n).2.2.1 q1)) := by
    refine (va_copied (fun z => .int z) _ _ (w.2.2.1 q0) (w.2.2.1 q1) (n0 := n0) (by omega)).trans ?_
    rw [vp_cell_i, u2, v2, x2]
    congr 1
    funext b
    unfold va_cpy zcpI
    simp
  rw [e1] at X' step
  have hla : zad X.2.1 q1 < H.size := (Array.getElem?_eq_some_iff.mp hc1).1
  have hq1 := (zD (G := X.2.1) a5).2 q1 _ (zconc_get hs1)
  obtain ⟨t, b1, b2⟩ := kk p e s m args below meth c _ _ als Qf R C (zHp_set (H1 := H.setIfInBounds (zad X.2.1 q1) (vp_cell (X.2.1.1 0) (n1, .inl ((zcpI w q0 q1 sp dp n).2.2.1 q1)))) hH hs1 rfl (E := .inl (X.2.1.1 0, n1, .inl ((zcpI w q0 q1 sp dp n).2.2.1 q1))) rfl
    (fun j sh hj => zce_congr (w := w) (w' := (zcpI w q0 q1 sp dp n)) (fun _ => rfl) (fun b => if_neg fun z => hj z.1) (fun _ => rfl) sh)
    (a3.set (zD a5) (zconc_get hs1) (show (H.setIfInBounds _ _)[zad X.2.1 q1]? = some _ by simp [Array.getElem?_setIfInBounds, hla]) (fun q hq => by simp [Array.getElem?_setIfInBounds, Ne.symm hq])) (by simp)
    ⟨by simp; exact a6.1, fun q g1 g2 => by
      rw [show (H.setIfInBounds (zad X.2.1 q1) (vp_cell (X.2.1.1 0) (n1, .inl ((zcpI w q0 q1 sp dp n).2.2.1 q1))))[q]? = H[q]? by simp [Array.getElem?_setIfInBounds, show ¬ zad X.2.1 q1 = q from fun z => g2 (by rw [← z]; exact hq1)]]
      exact a6.2.1 q g1 g2, fun q hq => by
      rcases List.mem_append.mp hq with h | h
      · exact a6.2.2 q h
      · obtain ⟨z, -, hz⟩ := List.mem_map.mp h
        rw [← hz]
        exact hq1⟩) hl F _ (by rw [← hT]; rfl) X'
  exact ⟨t, step t b1, b2⟩
theorem z_cpyl {X : zX} {M : zM} {cs : Nat × Nat} {pc pc' : Nat} {ls : List (Option Value)} {st : List Value} {w w' : zWd} {idx q0 q1 n0 n1 sp dp n : Nat} {isp idp iN : Int32} (hd : decode M.2.1 pc = .ok (.invokestatic idx, 3)) (hp : pc + 3 = pc') (hlk : Cond.methodLink M.1.cls idx arraycopyName ∈ zTb) (hm : zcpM) (hdp : 1 ≤ X.2.2.1) (hst : (st.map fun v => v.category).sum ≤ 8)
    (hs0 : w.1[q0]? = some (1, n0)) (hs1 : w.1[q1]? = some (1, n1)) (h1 : isp = nI sp) (h2 : idp = nI dp) (h3 : iN = nI n) (h4 : sp + n ≤ n0) (h5 : dp + n ≤ n1) (hb : n0 < 2 ^ 31 ∧ n1 < 2 ^ 31) (hw : zcpL w q0 q1 sp dp n = w')
    (kk : zWp X M cs pc' ls st w') : zWp X M cs pc ls (.int iN :: .int idp :: .ref q1 :: .int isp :: .ref q0 :: st) w := by
  subst hp
  subst hw
  intro p e s m args below meth c H locs als Qf R C hH hl F T hT XX
  obtain ⟨a1, a2, a3, a4, a5, a6⟩ := id hH
  have r1 := C.2.2.2.2.2.2.2.2.1
  have r2 := C.2.2.2.2.2.2.2.2.2.1
  have r3 := zst8 (G := X.2.1) hst
  have r4 : nativeFrameWords "java/lang/System" "arraycopy" 5 ≤ 40 := by decide +kernel
  obtain ⟨u1, u2, u3⟩ := nn_of h1 (by omega)
  obtain ⟨v1, v2, v3⟩ := nn_of h2 (by omega)
  obtain ⟨x1, x2, x3⟩ := nn_of h3 (by omega)
  have hc0 : H[zad X.2.1 q0]? = some (vp_cell (X.2.1.1 1) (n0, .inr (.inl (w.2.2.2 q0)))) := a3 q0 _ (zconc_get hs0)
  have hc1 : H[zad X.2.1 q1]? = some (vp_cell (X.2.1.1 1) (n1, .inr (.inl (w.2.2.2 q1)))) := a3 q1 _ (zconc_get hs1)
  obtain ⟨-, k0, hk0, cm0, hkk0⟩ := (a2.2 1 _ rfl).1 n0 (fun j => .long (w.2.2.2 q0 j))
  obtain ⟨vm', X', step⟩ := XX.arraycopy C.1 C.2.2.2.2.1 (C.2.2.2.2.2.1 _ hlk) (C.2.2.2.2.2.1 _ hm.1) (C.2.2.2.2.2.1 _ hm.2.1) (C.2.2.2.2.2.1 _ hm.2.2) (src := zad X.2.1 q0) (dst := zad X.2.1 q1) (cs := vp_cell (X.2.1.1 1) (n0, .inr (.inl (w.2.2.2 q0)))) (cd := vp_cell (X.2.1.1 1) (n1, .inr (.inl (w.2.2.2 q1)))) (srcPos := isp) (destPos := idp) (n := iN) (by rw [hT]; exact hc0) (by rw [hT]; exact hc1)
    (fun _ h => by cases h) (fun _ h => by cases h) (fun h => by cases h) (fun h => by cases h) hk0 hk0 hkk0 hkk0 (by simp [refKind]) u1 v1 x1
    (by rw [u3, x3]; show ¬ _ > ((arrV _ n0 _).slots.size : Int); rw [arrV_size]; omega)
    (by rw [v3, x3]; show ¬ _ > ((arrV _ n1 _).slots.size : Int); rw [arrV_size]; omega)
    (fun vm₁ _ i hi => by
      have e : (vp_cell (X.2.1.1 1) (n0, .inr (.inl (w.2.2.2 q0)))).slots.getD (isp.toNatClampNeg + i) .null = .long (w.2.2.2 q0 (isp.toNatClampNeg + i)) := by
        show (arrV _ n0 _).slots.getD _ _ = _
        rw [Array.getD_eq_getD_getElem?, arrV_read _ _ (by omega)]
        rfl
      exact ⟨by rw [e]; rfl, by rw [e]; exact trivial⟩)
    (g := F0 m pc als (.int iN :: .int idp :: .ref (zad X.2.1 q1) :: .int isp :: .ref (zad X.2.1 q0) :: st.map (zcv X.2.1))) rfl (hl.1.trans C.2.2.2.1.symm) (rest := st.map (zcv X.2.1)) rfl (by rw [C.2.1]; exact hd) (by omega) (by show 2 * 0 + _ + _ ≤ _; omega)
  have e1 : copied (vp_cell (X.2.1.1 1) (n0, .inr (.inl (w.2.2.2 q0)))) (vp_cell (X.2.1.1 1) (n1, .inr (.inl (w.2.2.2 q1)))) isp idp iN = vp_cell (X.2.1.1 1) (n1, .inr (.inl ((zcpL w q0 q1 sp dp n).2.2.2 q1))) := by
    refine (va_copied (fun z => .long z) _ _ (w.2.2.2 q0) (w.2.2.2 q1) (n0 := n0) (by omega)).trans ?_
    rw [vp_cell_l, u2, v2, x2]
    congr 1
    funext b
    unfold va_cpy zcpL
    simp
  rw [e1] at X' step
  have hla : zad X.2.1 q1 < H.size := (Array.getElem?_eq_some_iff.mp hc1).1
  have hq1 := (zD (G := X.2.1) a5).2 q1 _ (zconc_get hs1)
  obtain ⟨t, b1, b2⟩ := kk p e s m args below meth c _ _ als Qf R C (zHp_set (H1 := H.setIfInBounds (zad X.2.1 q1) (vp_cell (X.2.1.1 1) (n1, .inr (.inl ((zcpL w q0 q1 sp dp n).2.2.2 q1))))) hH hs1 rfl (E := .inl (X.2.1.1 1, n1, .inr (.inl ((zcpL w q0 q1 sp dp n).2.2.2 q1)))) rfl
    (fun j sh hj => zce_congr (w := w) (w' := (zcpL w q0 q1 sp dp n)) (fun _ => rfl) (fun _ => rfl) (fun b => if_neg fun z => hj z.1) sh)
    (a3.set (zD a5) (zconc_get hs1) (show (H.setIfInBounds _ _)[zad X.2.1 q1]? = some _ by simp [Array.getElem?_setIfInBounds, hla]) (fun q hq => by simp [Array.getElem?_setIfInBounds, Ne.symm hq])) (by simp)
    ⟨by simp; exact a6.1, fun q g1 g2 => by
      rw [show (H.setIfInBounds (zad X.2.1 q1) (vp_cell (X.2.1.1 1) (n1, .inr (.inl ((zcpL w q0 q1 sp dp n).2.2.2 q1)))))[q]? = H[q]? by simp [Array.getElem?_setIfInBounds, show ¬ zad X.2.1 q1 = q from fun z => g2 (by rw [← z]; exact hq1)]]
      exact a6.2.1 q g1 g2, fun q hq => by
      rcases List.mem_append.mp hq with h | h
      · exact a6.2.2 q h
      · obtain ⟨z, -, hz⟩ := List.mem_map.mp h
        rw [← hz]
        exact hq1⟩) hl F _ (by rw [← hT]; rfl) X'
  exact ⟨t, step t b1, b2⟩
theorem zt_POWERS {args : Array Value} {s : State} {A : Nat → Prop} (h : (Jvm.Cond.and given_1 narrow_1).before args s = true) (hts : ∀ w ∈ lw_tbl, w.before args s = true) (hA : ∀ a : Nat, a < s.heap.size → ¬ A a) : ∃ t : Nat, va_Z RX4 "POWERS" "[J" (.ref t) A s s.heap ∧ va_T .long t 10 (fun j => .long (zPOW j)) A s s.heap := by
  have hs := flat_of_before _ h
  have h1 : (Cond.arrayOf (.static RX4 "POWERS" "[J") .long).before args s = true := hs _ (by decide +kernel)
  have h2 : (Term.length (.static RX4 "POWERS" "[J")).eval args s none [] s = some (.int (Int32.ofNat 10)) := va_eqt (hs (Cond.eq (.length (.static RX4 "POWERS" "[J")) (.int 10)) (by decide +kernel))
  have h3 : ∀ j : Nat, j < 10 → (Term.elem (.static RX4 "POWERS" "[J") (.int (Int32.ofNat j))).eval args s none [] s = some (.long (zPOW j)) := by
    intro j hj
    match j, hj with
    | 0, _ => exact va_eqtl (hs (Cond.eq (.elem (.static RX4 "POWERS" "[J") (.int 0)) (.long (zPOW 0))) (by decide +kernel))
    | 1, _ => exact va_eqtl (hs (Cond.eq (.elem (.static RX4 "POWERS" "[J") (.int 1)) (.long (zPOW 1))) (by decide +kernel))
    | 2, _ => exact va_eqtl (hs (Cond.eq (.elem (.static RX4 "POWERS" "[J") (.int 2)) (.long (zPOW 2))) (by decide +kernel))
    | 3, _ => exact va_eqtl (hs (Cond.eq (.elem (.static RX4 "POWERS" "[J") (.int 3)) (.long (zPOW 3))) (by decide +kernel))
    | 4, _ => exact va_eqtl (hs (Cond.eq (.elem (.static RX4 "POWERS" "[J") (.int 4)) (.long (zPOW 4))) (by decide +kernel))
    | 5, _ => exact va_eqtl (hs (Cond.eq (.elem (.static RX4 "POWERS" "[J") (.int 5)) (.long (zPOW 5))) (by decide +kernel))
    | 6, _ => exact va_eqtl (hs (Cond.eq (.elem (.static RX4 "POWERS" "[J") (.int 6)) (.long (zPOW 6))) (by decide +kernel))
    | 7, _ => exact va_eqtl (hs (Cond.eq (.elem (.static RX4 "POWERS" "[J") (.int 7)) (.long (zPOW 7))) (by decide +kernel))
    | 8, _ => exact va_eqtl (hs (Cond.eq (.elem (.static RX4 "POWERS" "[J") (.int 8)) (.long (zPOW 8))) (by decide +kernel))
    | 9, _ => exact va_eqtl (hs (Cond.eq (.elem (.static RX4 "POWERS" "[J") (.int 9)) (.long (zPOW 9))) (by decide +kernel))
    | k + 10, h => omega
  obtain ⟨t, e1, e2⟩ := va_Tof (by decide) h1 h2 h3 hA
  exact ⟨t, va_Zof (hts (.laysStatic RX4 "POWERS" "[J") (by decide +kernel)) (hts (.initialized RX4) (by decide +kernel)) e1 hA, e2⟩
theorem zt_ABOVE {args : Array Value} {s : State} {A : Nat → Prop} (h : (Jvm.Cond.and given_1 narrow_1).before args s = true) (hts : ∀ w ∈ lw_tbl, w.before args s = true) (hA : ∀ a : Nat, a < s.heap.size → ¬ A a) : ∃ t : Nat, va_Z RX6 "ABOVE" "[I" (.ref t) A s s.heap ∧ va_T .int t 8 (fun j => .int (zABO j)) A s s.heap := by
  have hs := flat_of_before _ h
  have h1 : (Cond.arrayOf (.static RX6 "ABOVE" "[I") .int).before args s = true := hs _ (by decide +kernel)
  have h2 : (Term.length (.static RX6 "ABOVE" "[I")).eval args s none [] s = some (.int (Int32.ofNat 8)) := va_eqt (hs (Cond.eq (.length (.static RX6 "ABOVE" "[I")) (.int 8)) (by decide +kernel))
  have h3 : ∀ j : Nat, j < 8 → (Term.elem (.static RX6 "ABOVE" "[I") (.int (Int32.ofNat j))).eval args s none [] s = some (.int (zABO j)) := by
    intro j hj
    match j, hj with
    | 0, _ => exact va_eqt (hs (Cond.eq (.elem (.static RX6 "ABOVE" "[I") (.int 0)) (.int (zABO 0))) (by decide +kernel))
    | 1, _ => exact va_eqt (hs (Cond.eq (.elem (.static RX6 "ABOVE" "[I") (.int 1)) (.int (zABO 1))) (by decide +kernel))
    | 2, _ => exact va_eqt (hs (Cond.eq (.elem (.static RX6 "ABOVE" "[I") (.int 2)) (.int (zABO 2))) (by decide +kernel))
    | 3, _ => exact va_eqt (hs (Cond.eq (.elem (.static RX6 "ABOVE" "[I") (.int 3)) (.int (zABO 3))) (by decide +kernel))
    | 4, _ => exact va_eqt (hs (Cond.eq (.elem (.static RX6 "ABOVE" "[I") (.int 4)) (.int (zABO 4))) (by decide +kernel))
    | 5, _ => exact va_eqt (hs (Cond.eq (.elem (.static RX6 "ABOVE" "[I") (.int 5)) (.int (zABO 5))) (by decide +kernel))
    | 6, _ => exact va_eqt (hs (Cond.eq (.elem (.static RX6 "ABOVE" "[I") (.int 6)) (.int (zABO 6))) (by decide +kernel))
    | 7, _ => exact va_eqt (hs (Cond.eq (.elem (.static RX6 "ABOVE" "[I") (.int 7)) (.int (zABO 7))) (by decide +kernel))
    | k + 8, h => omega
  obtain ⟨t, e1, e2⟩ := va_Tof (by decide) h1 h2 h3 hA
  exact ⟨t, va_Zof (hts (.laysStatic RX6 "ABOVE" "[I") (by decide +kernel)) (hts (.initialized RX6) (by decide +kernel)) e1 hA, e2⟩
theorem zt_OWN {args : Array Value} {s : State} {A : Nat → Prop} (h : (Jvm.Cond.and given_1 narrow_1).before args s = true) (hts : ∀ w ∈ lw_tbl, w.before args s = true) (hA : ∀ a : Nat, a < s.heap.size → ¬ A a) : ∃ t : Nat, va_Z RX6 "OWN" "[I" (.ref t) A s s.heap ∧ va_T .int t 32 (fun j => .int (zOWN j)) A s s.heap := by
  have hs := flat_of_before _ h
  have h1 : (Cond.arrayOf (.static RX6 "OWN" "[I") .int).before args s = true := hs _ (by decide +kernel)
  have h2 : (Term.length (.static RX6 "OWN" "[I")).eval args s none [] s = some (.int (Int32.ofNat 32)) := va_eqt (hs (Cond.eq (.length (.static RX6 "OWN" "[I")) (.int 32)) (by decide +kernel))
  have h3 : ∀ j : Nat, j < 32 → (Term.elem (.static RX6 "OWN" "[I") (.int (Int32.ofNat j))).eval args s none [] s = some (.int (zOWN j)) := by
    intro j hj
    match j, hj with
    | 0, _ => exact va_eqt (hs (Cond.eq (.elem (.static RX6 "OWN" "[I") (.int 0)) (.int (zOWN 0))) (by decide +kernel))
    | 1, _ => exact va_eqt (hs (Cond.eq (.elem (.static RX6 "OWN" "[I") (.int 1)) (.int (zOWN 1))) (by decide +kernel))
    | 2, _ => exact va_eqt (hs (Cond.eq (.elem (.static RX6 "OWN" "[I") (.int 2)) (.int (zOWN 2))) (by decide +kernel))
    | 3, _ => exact va_eqt (hs (Cond.eq (.elem (.static RX6 "OWN" "[I") (.int 3)) (.int (zOWN 3))) (by decide +kernel))
    | 4, _ => exact va_eqt (hs (Cond.eq (.elem (.static RX6 "OWN" "[I") (.int 4)) (.int (zOWN 4))) (by decide +kernel))
    | 5, _ => exact va_eqt (hs (Cond.eq (.elem (.static RX6 "OWN" "[I") (.int 5)) (.int (zOWN 5))) (by decide +kernel))
    | 6, _ => exact va_eqt (hs (Cond.eq (.elem (.static RX6 "OWN" "[I") (.int 6)) (.int (zOWN 6))) (by decide +kernel))
    | 7, _ => exact va_eqt (hs (Cond.eq (.elem (.static RX6 "OWN" "[I") (.int 7)) (.int (zOWN 7))) (by decide +kernel))
    | 8, _ => exact va_eqt (hs (Cond.eq (.elem (.static RX6 "OWN" "[I") (.int 8)) (.int (zOWN 8))) (by decide +kernel))
    | 9, _ => exact va_eqt (hs (Cond.eq (.elem (.static RX6 "OWN" "[I") (.int 9)) (.int (zOWN 9))) (by decide +kernel))
    | 10, _ => exact va_eqt (hs (Cond.eq (.elem (.static RX6 "OWN" "[I") (.int 10)) (.int (zOWN 10))) (by decide +kernel))
    | 11, _ => exact va_eqt (hs (Cond.eq (.elem (.static RX6 "OWN" "[I") (.int 11)) (.int (zOWN 11))) (by decide +kernel))
    | 12, _ => exact va_eqt (hs (Cond.eq (.elem (.static RX6 "OWN" "[I") (.int 12)) (.int (zOWN 12))) (by decide +kernel))
    | 13, _ => exact va_eqt (hs (Cond.eq (.elem (.static RX6 "OWN" "[I") (.int 13)) (.int (zOWN 13))) (by decide +kernel))
    | 14, _ => exact va_eqt (hs (Cond.eq (.elem (.static RX6 "OWN" "[I") (.int 14)) (.int (zOWN 14))) (by decide +kernel))
    | 15, _ => exact va_eqt (hs (Cond.eq (.elem (.static RX6 "OWN" "[I") (.int 15)) (.int (zOWN 15))) (by decide +kernel))
    | 16, _ => exact va_eqt (hs (Cond.eq (.elem (.static RX6 "OWN" "[I") (.int 16)) (.int (zOWN 16))) (by decide +kernel))
    | 17, _ => exact va_eqt (hs (Cond.eq (.elem (.static RX6 "OWN" "[I") (.int 17)) (.int (zOWN 17))) (by decide +kernel))
    | 18, _ => exact va_eqt (hs (Cond.eq (.elem (.static RX6 "OWN" "[I") (.int 18)) (.int (zOWN 18))) (by decide +kernel))
    | 19, _ => exact va_eqt (hs (Cond.eq (.elem (.static RX6 "OWN" "[I") (.int 19)) (.int (zOWN 19))) (by decide +kernel))
    | 20, _ => exact va_eqt (hs (Cond.eq (.elem (.static RX6 "OWN" "[I") (.int 20)) (.int (zOWN 20))) (by decide +kernel))
    | 21, _ => exact va_eqt (hs (Cond.eq (.elem (.static RX6 "OWN" "[I") (.int 21)) (.int (zOWN 21))) (by decide +kernel))
    | 22, _ => exact va_eqt (hs (Cond.eq (.elem (.static RX6 "OWN" "[I") (.int 22)) (.int (zOWN 22))) (by decide +kernel))
    | 23, _ => exact va_eqt (hs (Cond.eq (.elem (.static RX6 "OWN" "[I") (.int 23)) (.int (zOWN 23))) (by decide +kernel))
    | 24, _ => exact va_eqt (hs (Cond.eq (.elem (.static RX6 "OWN" "[I") (.int 24)) (.int (zOWN 24))) (by decide +kernel))
    | 25, _ => exact va_eqt (hs (Cond.eq (.elem (.static RX6 "OWN" "[I") (.int 25)) (.int (zOWN 25))) (by decide +kernel))
    | 26, _ => exact va_eqt (hs (Cond.eq (.elem (.static RX6 "OWN" "[I") (.int 26)) (.int (zOWN 26))) (by decide +kernel))
    | 27, _ => exact va_eqt (hs (Cond.eq (.elem (.static RX6 "OWN" "[I") (.int 27)) (.int (zOWN 27))) (by decide +kernel))
    | 28, _ => exact va_eqt (hs (Cond.eq (.elem (.static RX6 "OWN" "[I") (.int 28)) (.int (zOWN 28))) (by decide +kernel))
    | 29, _ => exact va_eqt (hs (Cond.eq (.elem (.static RX6 "OWN" "[I") (.int 29)) (.int (zOWN 29))) (by decide +kernel))
    | 30, _ => exact va_eqt (hs (Cond.eq (.elem (.static RX6 "OWN" "[I") (.int 30)) (.int (zOWN 30))) (by decide +kernel))
    | 31, _ => exact va_eqt (hs (Cond.eq (.elem (.static RX6 "OWN" "[I") (.int 31)) (.int (zOWN 31))) (by decide +kernel))
    | k + 32, h => omega
  obtain ⟨t, e1, e2⟩ := va_Tof (by decide) h1 h2 h3 hA
  exact ⟨t, va_Zof (hts (.laysStatic RX6 "OWN" "[I") (by decide +kernel)) (hts (.initialized RX6) (by decide +kernel)) e1 hA, e2⟩
end
section
def R_law : String := "ThreeSnowballsLaw"
def lw_P (b : Addr) (xs : List Int32) (args : Array Value) (s : State) : Prop := args = #[.ref b] ∧ s.IntsAt b xs ∧ xs.length ≤ 3072 ∧ (Jvm.Cond.and given_1 narrow_1).before args s = true
def lw_Q (_ : Array Value) (s : State) (o : Outcome) (t : State) : Prop := o = .returned (some (.int 1)) ∧ Framed s o t [] 600000 7302250
def lw_Z (below : List Frame) (a : Array Value) (s : State) : State → Prop := fun t => ∃ o, t.status = .running ∧ Ended t below o ∧ lw_Q a s o t
/-- the law's own end, with 1 on the stack, nothing written that was there before, its room as the claim has it -/
theorem lw_ret {p : Program} {l : Launch} {e : Env} {s : State} {m : MethodId} {below : List Frame} {meth : Method} {c : Code} {b : Nat} (hx : p.tables.exec = Jvm.exec) (hb : c.code = code) (hr : meth.sig.returnType = ret) (hlocks : meth.locks = false) {pc : Nat} {H : Heap} {ls : Array Slot} (hdg : decode code pc = .ok (.ireturn, 1)) : W p l e room_1 s m #[Value.ref b] below meth c H [] 600000 7302250 (lw_Z below #[Value.ref b] s) (F0 m pc ls [.int 1]) := by
  intro T hT X
  obtain ⟨fs, hret, hrun, hended, hW, hframe⟩ := X.leave (v := some (.int 1)) (hlocks := hlocks) (fun h => by rw [hr] at h; cases h)
  have hmeth' : T.vm.method? m = some meth := X.method'
  refine ⟨T.setFrames fs, ?_, .returned (some (.int 1)), hrun, hended, rfl, ⟨_, rfl⟩, hW, hframe⟩
  jvm_step X.here [X.here.top, hx, hb, hdg, hmeth', hr, ret, narrow_b1]
  (try refine ⟨rfl, ?_⟩); (try refine ⟨rfl, ?_⟩)
  first | (intro acts; rw [hret _ acts rfl rfl rfl]) | rw [hret _ _ rfl rfl rfl]
  exact Steps.refl _
/-- what holds at the law's entry: the machine, the code, the tables' words (any of lw_tbl by 'hts w (by decide +kernel)'), the script of L ints xs at the cell b, what the Statement gives of the start (any of its parts by flat_of_before) -/
def lw_At (p : Program) (s : State) (m : MethodId) (meth : Method) (c : Code) (b L : Nat) (xs : Nat → Int32) : Prop :=
  p.tables.exec = Jvm.exec ∧ c.code = code ∧ meth.sig.returnType = ret ∧ c.maxLocals = 4 ∧ s.vm.findClass R_law = some m.cls ∧ (∀ w ∈ lw_tbl, w.before #[Value.ref b] s = true) ∧ va_X b L xs s s.heap ∧ b < s.heap.size ∧ meth.locks = false ∧ (Jvm.Cond.and given_1 narrow_1).before #[Value.ref b] s = true
/-! ===== from a walk over the abstract world to the law's start ===== -/
def mL_law : zM := (yL_law, code, 4, ret)
def zw0 : zWd := ([], fun _ _ => none, fun _ _ => 0, fun _ _ => 0)
def zXl (l : Launch) (G : zG) : zX := (l, G, 1000, 600000, 7302250, fun r _ => r = some (.int 1))
theorem z_u_known {C : String} {T : u_T} {N : Nat} {args : Array Value} {s : State} (hts : ∀ w ∈ lw_tbl, w.before args s = true) (hin : ∀ w ∈ u_ws C T N, w ∈ zTb) (hi : Cond.instantiable C N ∈ lw_tbl) : ∃ (cC : ClassId) (iS : Nat → Nat), u_Kn s C T N cC iS :=
  u_known (C := C) (T := T) (N := N) (n := N) hts (fun w h => (List.mem_filter.mp (hin w h)).1) (hts _ hi)
theorem zstart (K : ∀ (l : Launch) (G : zG), G.2.2.2.1 ≤ 3072 → zWp (zXl l G) mL_law (0, 0) 0 [some (.ref 1000), none, none, none] [] zw0) {p : Program} {e : Env} {s : State} {m : MethodId} {below : List Frame} {meth : Method} {c : Code} (l : Launch) {b L : Nat} {xs : Nat → Int32} (hL : L ≤ 3072) (C0 : lw_At p s m meth c b L xs) :
    W p l e room_1 s m #[Value.ref b] below meth c s.heap [] 0 0 (lw_Z below #[Value.ref b] s) (entryFrame m ([Value.ref b] : List Value).toArray 4) := by
  obtain ⟨hx, hb, hr, hml, hown, hts, hX, hbl, hlocks, hgv⟩ := id C0
  have hA : ∀ a : Nat, a < s.heap.size → ¬ (fun q : Nat => s.heap.size ≤ q) a := fun a h => Nat.not_le.mpr h
  obtain ⟨t1, y1, y2⟩ := zt_POWERS hgv hts hA
  obtain ⟨t2, y3, y4⟩ := zt_ABOVE hgv hts hA
  obtain ⟨t3, y5, y6⟩ := zt_OWN hgv hts hA
  have hkn : ∀ ci, ci < 10 → ∃ (cC : ClassId) (iS : Nat → Nat), u_Kn s (zR ci) (zT ci) (zN ci) cC iS := by
    intro ci hci
    refine z_u_known hts (zin ci hci) ?_
    revert ci
    exact zlt10 (by decide +kernel) (by decide +kernel) (by decide +kernel) (by decide +kernel) (by decide +kernel) (by decide +kernel) (by decide +kernel) (by decide +kernel) (by decide +kernel) (by decide +kernel)
  have hkn2 : ∀ ci, ∃ q : ClassId × (Nat → Nat), ci < 10 → u_Kn s (zR ci) (zT ci) (zN ci) q.1 q.2 := by
    intro ci
    by_cases h : ci < 10
    · obtain ⟨a, b, h2⟩ := hkn ci h
      exact ⟨(a, b), fun _ => h2⟩
    · exact ⟨(0, fun _ => 0), fun z => absurd z h⟩
  have hD : ∃ D : va_G, ∀ (k : Nat) (q : vw_C), zcls[k]? = some q → u_Kn s q.1 q.2.1 q.2.2 (D.1 k) (D.2 k) := by
    refine ⟨(fun k => (Classical.choose (hkn2 k)).1, fun k => (Classical.choose (hkn2 k)).2), fun k q hq => ?_⟩
    have hk : k < 10 := (List.getElem?_eq_some_iff.mp hq).1
    have e := zcls_at k hk
    rw [hq] at e
    cases e
    exact Classical.choose_spec (hkn2 k) hk
  obtain ⟨D, hD⟩ := hD
  obtain ⟨c0, k0, j0, z0a, z0b, z0c⟩ : ∃ (cA : ClassId) (kA : Class) (comp : ClassId), s.vm.findClass ("[" ++ FieldType.int.toString) = some cA ∧ s.vm.classes[cA]? = some kA ∧ kA.kind = .array comp .int := Cond.arrayClass_spec (hts (.arrayClass .int) (by decide +kernel))
  obtain ⟨c1, k1, j1, z1a, z1b, z1c⟩ : ∃ (cA : ClassId) (kA : Class) (comp : ClassId), s.vm.findClass ("[" ++ FieldType.long.toString) = some cA ∧ s.vm.classes[cA]? = some kA ∧ kA.kind = .array comp .long := Cond.arrayClass_spec (hts (.arrayClass .long) (by decide +kernel))
  obtain ⟨j2, c2, k2, z2a, z2b, z2c, z2d, z2e⟩ := Cond.arrayOver_spec (hts (.arrayOver (.object RX5)) (by decide +kernel))
  obtain ⟨G, hG⟩ : ∃ G : zG, G = (fun k => if k = 0 then c0 else if k = 1 then c1 else c2, D, s.heap.size, L, xs, fun e => if e = 0 then b else if e = 1 then t1 else if e = 2 then t2 else t3) := ⟨_, rfl⟩
  have g0 : G.1 0 = c0 := by rw [hG]; rfl
  have g1 : G.1 1 = c1 := by rw [hG]; rfl
  have g2 : G.1 2 = c2 := by rw [hG]; rfl
  have gD : G.2.1 = D := by rw [hG]
  have gN : G.2.2.1 = s.heap.size := by rw [hG]
  have gL : G.2.2.2.1 = L := by rw [hG]
  have gx : G.2.2.2.2.1 = xs := by rw [hG]
  have e0 : G.2.2.2.2.2 0 = b := by rw [hG]; rfl
  have e1 : G.2.2.2.2.2 1 = t1 := by rw [hG]; rfl
  have e2 : G.2.2.2.2.2 2 = t2 := by rw [hG]; rfl
  have e3 : G.2.2.2.2.2 3 = t3 := by rw [hG]; rfl
  have gA : zA G = fun q : Nat => s.heap.size ≤ q := by unfold zA; rw [gN]
  clear hG
  have hEx : zEx G s s.heap := by
    unfold zEx
    rw [gN, gL, gx, e0, e1, e2, e3, gA]
    exact ⟨⟨Nat.le_refl _, va_AO.of (hts (.arrayOver (.object RX5)) (by decide +kernel)), va_Nw.of rfl (hts (.methodLinkNest RX8 9 yX2_init RX8) (by decide +kernel)), va_Nw.of rfl (hts (.methodLinkNest RX8 18 yX3_init RX8) (by decide +kernel)), va_Nw.of rfl (hts (.methodLinkNest RX8 52 yX0_init RX8) (by decide +kernel)), va_Nw.of rfl (hts (.methodLinkNest RX8 59 yX6_init RX8) (by decide +kernel)), va_Nw.of rfl (hts (.methodLinkNest RX8 70 yX5_init RX8) (by decide +kernel))⟩, hbl, hX, ⟨y1, y2⟩, ⟨y3, y4⟩, ⟨y5, y6⟩⟩
  have hK : va_K G.2.1 zcls (ztys G) s := by
    rw [gD]
    refine ⟨hD, fun k q hk => ?_⟩
    unfold ztys at hk
    rw [g0, g1, g2] at hk
    match k, hk with
    | 0, hk => cases hk; exact ⟨fun n z => ⟨(fun k h => by cases h), k0, z0b, j0, z0c⟩, z0a⟩
    | 1, hk => cases hk; exact ⟨fun n z => ⟨(fun k h => by cases h), k1, z1b, j1, z1c⟩, z1a⟩
    | 2, hk => cases hk; exact ⟨fun n z => ⟨(fun k h => by cases h), k2, z2c, j2, z2d⟩, k2, j2, z2c, z2d, z2a, z2e⟩
    | k + 3, hk => simp at hk
  have hH : zHp G zw0 s s.heap [] := ⟨hEx, hK, fun k q h => by simp [zconc, zw0] at h, by rw [gN]; rfl, Nat.zero_le _, va_S.rf⟩
  have hl := lv_entry ([.ref b]) (n := 4) (Nat.le_of_ble_eq_true rfl)
  rw [lg_entry_eq]
  generalize (lg_sl ([.ref b]) ++ List.replicate (4 - (lg_sl ([.ref b])).length) Slot.unset).toArray = als at hl ⊢
  have hl : lv_has als 4 [(0, .ref b)] := hl
  have ez : zad G 1000 = b := (zad_ex (G := G) 0).trans e0
  refine K l G (by rw [gL]; exact hL) p e s m #[.ref b] below meth c s.heap [] als _ room_1 ⟨hx, hb, hr, hml, hown, fun w hw => hts w (List.mem_filter.mp hw).1, hlocks, fun h => absurd h (by decide), Nat.le_of_ble_eq_true rfl, Nat.le_of_ble_eq_true rfl, Nat.le_refl _, Nat.le_refl _⟩ hH ?_ ?_
  · show lv_has als 4 [(0, .ref (zad G 1000))]
    rw [ez]
    exact hl
  · intro r w' H' locs' pc' als' hq hH' hret
    have hq : r = some (.int 1) := hq
    subst hq
    obtain ⟨h1, ty, -, -⟩ := hret
    have hS : ∀ q ∈ locs', zA G q.base := hH'.2.2.2.2.2.2.2
    rw [gA] at hS
    exact va_forget hS (lw_ret hx hb hr hlocks h1)
end
