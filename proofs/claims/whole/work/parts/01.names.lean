/-- a private method of a class that the tables say can be made, by its rows of tables_1 -/
def lw_okq (q : MethodName × Nat) : Prop := (q.1.cls ≠ "java/lang/invoke/MethodHandle" ∧ q.1.cls ≠ "java/lang/invoke/VarHandle") ∧ Cond.instantiable q.1.cls q.2 ∈ tables_1 ∧ Cond.privateMethod q.1 ∈ tables_1 ∧ Cond.instanceMethod q.1 ∈ tables_1
theorem lw_p0 : lw_okq (⟨"KiteSummons", "isKite", "(I)Z"⟩, 17) := ⟨⟨by decide +kernel, by decide +kernel⟩, List.mem_of_getElem? (i := 23) (by decide +kernel), List.mem_of_getElem? (i := 432) (by decide +kernel), List.mem_of_getElem? (i := 433) (by decide +kernel)⟩
theorem lw_p1 : lw_okq (⟨"KiteSummons$County", "layFacts", "(LKiteSummons$Sky;II)V"⟩, 16) := ⟨⟨by decide +kernel, by decide +kernel⟩, List.mem_of_getElem? (i := 236) (by decide +kernel), List.mem_of_getElem? (i := 522) (by decide +kernel), List.mem_of_getElem? (i := 523) (by decide +kernel)⟩
theorem lw_p2 : lw_okq (⟨"KiteSummons$Rules", "isSo", "(I)Z"⟩, 8) := ⟨⟨by decide +kernel, by decide +kernel⟩, List.mem_of_getElem? (i := 39) (by decide +kernel), List.mem_of_getElem? (i := 533) (by decide +kernel), List.mem_of_getElem? (i := 534) (by decide +kernel)⟩
theorem lw_p3 : lw_okq (⟨"KiteSummons$Rules", "compares", "(III)Z"⟩, 8) := ⟨⟨by decide +kernel, by decide +kernel⟩, List.mem_of_getElem? (i := 39) (by decide +kernel), List.mem_of_getElem? (i := 537) (by decide +kernel), List.mem_of_getElem? (i := 538) (by decide +kernel)⟩
theorem lw_p4 : lw_okq (⟨"KiteSummons$RuleReader", "readTokens", "()V"⟩, 8) := ⟨⟨by decide +kernel, by decide +kernel⟩, List.mem_of_getElem? (i := 33) (by decide +kernel), List.mem_of_getElem? (i := 605) (by decide +kernel), List.mem_of_getElem? (i := 606) (by decide +kernel)⟩
theorem lw_p5 : lw_okq (⟨"KiteSummons$RuleReader", "isOneRow", "(II)Z"⟩, 8) := ⟨⟨by decide +kernel, by decide +kernel⟩, List.mem_of_getElem? (i := 33) (by decide +kernel), List.mem_of_getElem? (i := 609) (by decide +kernel), List.mem_of_getElem? (i := 610) (by decide +kernel)⟩
theorem lw_p6 : lw_okq (⟨"KiteSummons$RuleReader", "isLetter", "(I)Z"⟩, 8) := ⟨⟨by decide +kernel, by decide +kernel⟩, List.mem_of_getElem? (i := 33) (by decide +kernel), List.mem_of_getElem? (i := 613) (by decide +kernel), List.mem_of_getElem? (i := 614) (by decide +kernel)⟩
theorem lw_p7 : lw_okq (⟨"KiteSummons$RuleReader", "isDigit", "(I)Z"⟩, 8) := ⟨⟨by decide +kernel, by decide +kernel⟩, List.mem_of_getElem? (i := 33) (by decide +kernel), List.mem_of_getElem? (i := 618) (by decide +kernel), List.mem_of_getElem? (i := 619) (by decide +kernel)⟩
theorem lw_p8 : lw_okq (⟨"KiteSummons$RuleReader", "endOfRow", "(I)I"⟩, 8) := ⟨⟨by decide +kernel, by decide +kernel⟩, List.mem_of_getElem? (i := 33) (by decide +kernel), List.mem_of_getElem? (i := 622) (by decide +kernel), List.mem_of_getElem? (i := 623) (by decide +kernel)⟩
theorem lw_p9 : lw_okq (⟨"KiteSummons$RuleReader", "tokenOf", "(II)I"⟩, 8) := ⟨⟨by decide +kernel, by decide +kernel⟩, List.mem_of_getElem? (i := 33) (by decide +kernel), List.mem_of_getElem? (i := 626) (by decide +kernel), List.mem_of_getElem? (i := 627) (by decide +kernel)⟩
theorem lw_p10 : lw_okq (⟨"KiteSummons$RuleReader", "wordOf", "(II)I"⟩, 8) := ⟨⟨by decide +kernel, by decide +kernel⟩, List.mem_of_getElem? (i := 33) (by decide +kernel), List.mem_of_getElem? (i := 630) (by decide +kernel), List.mem_of_getElem? (i := 631) (by decide +kernel)⟩
theorem lw_p11 : lw_okq (⟨"KiteSummons$RuleReader", "numberOf", "(II)I"⟩, 8) := ⟨⟨by decide +kernel, by decide +kernel⟩, List.mem_of_getElem? (i := 33) (by decide +kernel), List.mem_of_getElem? (i := 683) (by decide +kernel), List.mem_of_getElem? (i := 684) (by decide +kernel)⟩
theorem lw_p12 : lw_okq (⟨"KiteSummons$RuleReader", "isStill", "()Z"⟩, 8) := ⟨⟨by decide +kernel, by decide +kernel⟩, List.mem_of_getElem? (i := 33) (by decide +kernel), List.mem_of_getElem? (i := 691) (by decide +kernel), List.mem_of_getElem? (i := 692) (by decide +kernel)⟩
theorem lw_p13 : lw_okq (⟨"KiteSummons$RuleReader", "token", "()I"⟩, 8) := ⟨⟨by decide +kernel, by decide +kernel⟩, List.mem_of_getElem? (i := 33) (by decide +kernel), List.mem_of_getElem? (i := 695) (by decide +kernel), List.mem_of_getElem? (i := 696) (by decide +kernel)⟩
theorem lw_p14 : lw_okq (⟨"KiteSummons$RuleReader", "readRule", "()V"⟩, 8) := ⟨⟨by decide +kernel, by decide +kernel⟩, List.mem_of_getElem? (i := 33) (by decide +kernel), List.mem_of_getElem? (i := 699) (by decide +kernel), List.mem_of_getElem? (i := 700) (by decide +kernel)⟩
theorem lw_p15 : lw_okq (⟨"KiteSummons$RuleReader", "pass", "(Z)V"⟩, 8) := ⟨⟨by decide +kernel, by decide +kernel⟩, List.mem_of_getElem? (i := 33) (by decide +kernel), List.mem_of_getElem? (i := 703) (by decide +kernel), List.mem_of_getElem? (i := 704) (by decide +kernel)⟩
def lw_privs_1 : List (MethodName × Nat) := [(⟨"KiteSummons", "isKite", "(I)Z"⟩, 17), (⟨"KiteSummons$County", "layFacts", "(LKiteSummons$Sky;II)V"⟩, 16), (⟨"KiteSummons$Rules", "isSo", "(I)Z"⟩, 8), (⟨"KiteSummons$Rules", "compares", "(III)Z"⟩, 8), (⟨"KiteSummons$RuleReader", "readTokens", "()V"⟩, 8), (⟨"KiteSummons$RuleReader", "isOneRow", "(II)Z"⟩, 8), (⟨"KiteSummons$RuleReader", "isLetter", "(I)Z"⟩, 8), (⟨"KiteSummons$RuleReader", "isDigit", "(I)Z"⟩, 8), (⟨"KiteSummons$RuleReader", "endOfRow", "(I)I"⟩, 8), (⟨"KiteSummons$RuleReader", "tokenOf", "(II)I"⟩, 8), (⟨"KiteSummons$RuleReader", "wordOf", "(II)I"⟩, 8), (⟨"KiteSummons$RuleReader", "numberOf", "(II)I"⟩, 8), (⟨"KiteSummons$RuleReader", "isStill", "()Z"⟩, 8), (⟨"KiteSummons$RuleReader", "token", "()I"⟩, 8), (⟨"KiteSummons$RuleReader", "readRule", "()V"⟩, 8), (⟨"KiteSummons$RuleReader", "pass", "(Z)V"⟩, 8)]
theorem lw_r1 : ∀ q ∈ lw_privs_1, lw_okq q := List.forall_mem_cons.mpr ⟨lw_p0, List.forall_mem_cons.mpr ⟨lw_p1, List.forall_mem_cons.mpr ⟨lw_p2, List.forall_mem_cons.mpr ⟨lw_p3, List.forall_mem_cons.mpr ⟨lw_p4, List.forall_mem_cons.mpr ⟨lw_p5, List.forall_mem_cons.mpr ⟨lw_p6, List.forall_mem_cons.mpr ⟨lw_p7, List.forall_mem_cons.mpr ⟨lw_p8, List.forall_mem_cons.mpr ⟨lw_p9, List.forall_mem_cons.mpr ⟨lw_p10, List.forall_mem_cons.mpr ⟨lw_p11, List.forall_mem_cons.mpr ⟨lw_p12, List.forall_mem_cons.mpr ⟨lw_p13, List.forall_mem_cons.mpr ⟨lw_p14, List.forall_mem_cons.mpr ⟨lw_p15, fun _ h => absurd h List.not_mem_nil⟩⟩⟩⟩⟩⟩⟩⟩⟩⟩⟩⟩⟩⟩⟩⟩
theorem lw_p16 : lw_okq (⟨"KiteSummons$RuleReader", "readAny", "(I)V"⟩, 8) := ⟨⟨by decide +kernel, by decide +kernel⟩, List.mem_of_getElem? (i := 33) (by decide +kernel), List.mem_of_getElem? (i := 707) (by decide +kernel), List.mem_of_getElem? (i := 708) (by decide +kernel)⟩
theorem lw_p17 : lw_okq (⟨"KiteSummons$RuleReader", "readAll", "(I)V"⟩, 8) := ⟨⟨by decide +kernel, by decide +kernel⟩, List.mem_of_getElem? (i := 33) (by decide +kernel), List.mem_of_getElem? (i := 711) (by decide +kernel), List.mem_of_getElem? (i := 712) (by decide +kernel)⟩
theorem lw_p18 : lw_okq (⟨"KiteSummons$RuleReader", "readOne", "(I)V"⟩, 8) := ⟨⟨by decide +kernel, by decide +kernel⟩, List.mem_of_getElem? (i := 33) (by decide +kernel), List.mem_of_getElem? (i := 715) (by decide +kernel), List.mem_of_getElem? (i := 716) (by decide +kernel)⟩
theorem lw_p19 : lw_okq (⟨"KiteSummons$RuleReader", "readComparison", "()V"⟩, 8) := ⟨⟨by decide +kernel, by decide +kernel⟩, List.mem_of_getElem? (i := 33) (by decide +kernel), List.mem_of_getElem? (i := 719) (by decide +kernel), List.mem_of_getElem? (i := 720) (by decide +kernel)⟩
theorem lw_p20 : lw_okq (⟨"KiteSummons$County", "drift", "(LKiteSummons$Sky;)V"⟩, 16) := ⟨⟨by decide +kernel, by decide +kernel⟩, List.mem_of_getElem? (i := 236) (by decide +kernel), List.mem_of_getElem? (i := 752) (by decide +kernel), List.mem_of_getElem? (i := 753) (by decide +kernel)⟩
theorem lw_p21 : lw_okq (⟨"KiteSummons$County", "firstInReach", "(LKiteSummons$Sky;)I"⟩, 16) := ⟨⟨by decide +kernel, by decide +kernel⟩, List.mem_of_getElem? (i := 236) (by decide +kernel), List.mem_of_getElem? (i := 764) (by decide +kernel), List.mem_of_getElem? (i := 765) (by decide +kernel)⟩
theorem lw_p22 : lw_okq (⟨"KiteSummons$County", "tell", "(LKiteSummons$Sky;I)I"⟩, 16) := ⟨⟨by decide +kernel, by decide +kernel⟩, List.mem_of_getElem? (i := 236) (by decide +kernel), List.mem_of_getElem? (i := 768) (by decide +kernel), List.mem_of_getElem? (i := 769) (by decide +kernel)⟩
theorem lw_p23 : lw_okq (⟨"KiteSummons", "worthOfRest", "(I)I"⟩, 17) := ⟨⟨by decide +kernel, by decide +kernel⟩, List.mem_of_getElem? (i := 23) (by decide +kernel), List.mem_of_getElem? (i := 777) (by decide +kernel), List.mem_of_getElem? (i := 778) (by decide +kernel)⟩
theorem lw_p24 : lw_okq (⟨"KiteSummons", "worthOnTrial", "(I)I"⟩, 17) := ⟨⟨by decide +kernel, by decide +kernel⟩, List.mem_of_getElem? (i := 23) (by decide +kernel), List.mem_of_getElem? (i := 786) (by decide +kernel), List.mem_of_getElem? (i := 787) (by decide +kernel)⟩
theorem lw_p25 : lw_okq (⟨"KiteSummons$County", "isTangledWithSome", "(II)Z"⟩, 16) := ⟨⟨by decide +kernel, by decide +kernel⟩, List.mem_of_getElem? (i := 236) (by decide +kernel), List.mem_of_getElem? (i := 826) (by decide +kernel), List.mem_of_getElem? (i := 827) (by decide +kernel)⟩
theorem lw_p26 : lw_okq (⟨"KiteSummons", "fewestSteps", "(II)I"⟩, 17) := ⟨⟨by decide +kernel, by decide +kernel⟩, List.mem_of_getElem? (i := 23) (by decide +kernel), List.mem_of_getElem? (i := 836) (by decide +kernel), List.mem_of_getElem? (i := 837) (by decide +kernel)⟩
theorem lw_p27 : lw_okq (⟨"KiteSummons", "firstOnCircuit", "(III)I"⟩, 17) := ⟨⟨by decide +kernel, by decide +kernel⟩, List.mem_of_getElem? (i := 23) (by decide +kernel), List.mem_of_getElem? (i := 841) (by decide +kernel), List.mem_of_getElem? (i := 842) (by decide +kernel)⟩
theorem lw_p28 : lw_okq (⟨"KiteSummons$Plans", "extend", "(IIII)V"⟩, 11) := ⟨⟨by decide +kernel, by decide +kernel⟩, List.mem_of_getElem? (i := 311) (by decide +kernel), List.mem_of_getElem? (i := 857) (by decide +kernel), List.mem_of_getElem? (i := 858) (by decide +kernel)⟩
theorem lw_p29 : lw_okq (⟨"KiteSummons$Plans", "weigh", "(III)V"⟩, 11) := ⟨⟨by decide +kernel, by decide +kernel⟩, List.mem_of_getElem? (i := 311) (by decide +kernel), List.mem_of_getElem? (i := 862) (by decide +kernel), List.mem_of_getElem? (i := 863) (by decide +kernel)⟩
theorem lw_p30 : lw_okq (⟨"KiteSummons$Plans", "valueFrom", "(II)I"⟩, 11) := ⟨⟨by decide +kernel, by decide +kernel⟩, List.mem_of_getElem? (i := 311) (by decide +kernel), List.mem_of_getElem? (i := 892) (by decide +kernel), List.mem_of_getElem? (i := 893) (by decide +kernel)⟩
theorem lw_p31 : lw_okq (⟨"KiteSummons$County", "fits", "(III)Z"⟩, 16) := ⟨⟨by decide +kernel, by decide +kernel⟩, List.mem_of_getElem? (i := 236) (by decide +kernel), List.mem_of_getElem? (i := 920) (by decide +kernel), List.mem_of_getElem? (i := 921) (by decide +kernel)⟩
def lw_privs_2 : List (MethodName × Nat) := [(⟨"KiteSummons$RuleReader", "readAny", "(I)V"⟩, 8), (⟨"KiteSummons$RuleReader", "readAll", "(I)V"⟩, 8), (⟨"KiteSummons$RuleReader", "readOne", "(I)V"⟩, 8), (⟨"KiteSummons$RuleReader", "readComparison", "()V"⟩, 8), (⟨"KiteSummons$County", "drift", "(LKiteSummons$Sky;)V"⟩, 16), (⟨"KiteSummons$County", "firstInReach", "(LKiteSummons$Sky;)I"⟩, 16), (⟨"KiteSummons$County", "tell", "(LKiteSummons$Sky;I)I"⟩, 16), (⟨"KiteSummons", "worthOfRest", "(I)I"⟩, 17), (⟨"KiteSummons", "worthOnTrial", "(I)I"⟩, 17), (⟨"KiteSummons$County", "isTangledWithSome", "(II)Z"⟩, 16), (⟨"KiteSummons", "fewestSteps", "(II)I"⟩, 17), (⟨"KiteSummons", "firstOnCircuit", "(III)I"⟩, 17), (⟨"KiteSummons$Plans", "extend", "(IIII)V"⟩, 11), (⟨"KiteSummons$Plans", "weigh", "(III)V"⟩, 11), (⟨"KiteSummons$Plans", "valueFrom", "(II)I"⟩, 11), (⟨"KiteSummons$County", "fits", "(III)Z"⟩, 16)]
theorem lw_r2 : ∀ q ∈ lw_privs_2, lw_okq q := List.forall_mem_cons.mpr ⟨lw_p16, List.forall_mem_cons.mpr ⟨lw_p17, List.forall_mem_cons.mpr ⟨lw_p18, List.forall_mem_cons.mpr ⟨lw_p19, List.forall_mem_cons.mpr ⟨lw_p20, List.forall_mem_cons.mpr ⟨lw_p21, List.forall_mem_cons.mpr ⟨lw_p22, List.forall_mem_cons.mpr ⟨lw_p23, List.forall_mem_cons.mpr ⟨lw_p24, List.forall_mem_cons.mpr ⟨lw_p25, List.forall_mem_cons.mpr ⟨lw_p26, List.forall_mem_cons.mpr ⟨lw_p27, List.forall_mem_cons.mpr ⟨lw_p28, List.forall_mem_cons.mpr ⟨lw_p29, List.forall_mem_cons.mpr ⟨lw_p30, List.forall_mem_cons.mpr ⟨lw_p31, fun _ h => absurd h List.not_mem_nil⟩⟩⟩⟩⟩⟩⟩⟩⟩⟩⟩⟩⟩⟩⟩⟩
theorem lw_p32 : lw_okq (⟨"KiteSummons$County", "isAsReported", "(III)Z"⟩, 16) := ⟨⟨by decide +kernel, by decide +kernel⟩, List.mem_of_getElem? (i := 236) (by decide +kernel), List.mem_of_getElem? (i := 924) (by decide +kernel), List.mem_of_getElem? (i := 925) (by decide +kernel)⟩
theorem lw_p33 : lw_okq (⟨"KiteSummons", "isInRows", "(II)Z"⟩, 17) := ⟨⟨by decide +kernel, by decide +kernel⟩, List.mem_of_getElem? (i := 23) (by decide +kernel), List.mem_of_getElem? (i := 964) (by decide +kernel), List.mem_of_getElem? (i := 965) (by decide +kernel)⟩
theorem lw_p34 : lw_okq (⟨"KiteSummons", "isRightOnTrial", "([I)Z"⟩, 17) := ⟨⟨by decide +kernel, by decide +kernel⟩, List.mem_of_getElem? (i := 23) (by decide +kernel), List.mem_of_getElem? (i := 976) (by decide +kernel), List.mem_of_getElem? (i := 977) (by decide +kernel)⟩
theorem lw_p35 : lw_okq (⟨"KiteSummons", "refusalAs", "(II)I"⟩, 17) := ⟨⟨by decide +kernel, by decide +kernel⟩, List.mem_of_getElem? (i := 23) (by decide +kernel), List.mem_of_getElem? (i := 1001) (by decide +kernel), List.mem_of_getElem? (i := 1002) (by decide +kernel)⟩
theorem lw_p36 : lw_okq (⟨"KiteSummons", "putOn", "(IIII)I"⟩, 17) := ⟨⟨by decide +kernel, by decide +kernel⟩, List.mem_of_getElem? (i := 23) (by decide +kernel), List.mem_of_getElem? (i := 1020) (by decide +kernel), List.mem_of_getElem? (i := 1021) (by decide +kernel)⟩
theorem lw_p37 : lw_okq (⟨"KiteSummons", "putRowOn", "(II)I"⟩, 17) := ⟨⟨by decide +kernel, by decide +kernel⟩, List.mem_of_getElem? (i := 23) (by decide +kernel), List.mem_of_getElem? (i := 1024) (by decide +kernel), List.mem_of_getElem? (i := 1025) (by decide +kernel)⟩
theorem lw_p38 : lw_okq (⟨"KiteSummons", "holdsKite", "(I)Z"⟩, 17) := ⟨⟨by decide +kernel, by decide +kernel⟩, List.mem_of_getElem? (i := 23) (by decide +kernel), List.mem_of_getElem? (i := 1032) (by decide +kernel), List.mem_of_getElem? (i := 1033) (by decide +kernel)⟩
theorem lw_p39 : lw_okq (⟨"KiteSummonsModel", "isKite", "(I)Z"⟩, 40) := ⟨⟨by decide +kernel, by decide +kernel⟩, List.mem_of_getElem? (i := 1178) (by decide +kernel), List.mem_of_getElem? (i := 1335) (by decide +kernel), List.mem_of_getElem? (i := 1336) (by decide +kernel)⟩
theorem lw_p40 : lw_okq (⟨"KiteSummonsModel", "drifts", "(I)I"⟩, 40) := ⟨⟨by decide +kernel, by decide +kernel⟩, List.mem_of_getElem? (i := 1178) (by decide +kernel), List.mem_of_getElem? (i := 1339) (by decide +kernel), List.mem_of_getElem? (i := 1340) (by decide +kernel)⟩
theorem lw_p41 : lw_okq (⟨"KiteSummonsModel", "its", "(II)I"⟩, 40) := ⟨⟨by decide +kernel, by decide +kernel⟩, List.mem_of_getElem? (i := 1178) (by decide +kernel), List.mem_of_getElem? (i := 1343) (by decide +kernel), List.mem_of_getElem? (i := 1344) (by decide +kernel)⟩
theorem lw_p42 : lw_okq (⟨"KiteSummonsModel", "windNow", "()I"⟩, 40) := ⟨⟨by decide +kernel, by decide +kernel⟩, List.mem_of_getElem? (i := 1178) (by decide +kernel), List.mem_of_getElem? (i := 1347) (by decide +kernel), List.mem_of_getElem? (i := 1348) (by decide +kernel)⟩
theorem lw_p43 : lw_okq (⟨"KiteSummonsModel", "fee", "(I)I"⟩, 40) := ⟨⟨by decide +kernel, by decide +kernel⟩, List.mem_of_getElem? (i := 1178) (by decide +kernel), List.mem_of_getElem? (i := 1354) (by decide +kernel), List.mem_of_getElem? (i := 1355) (by decide +kernel)⟩
theorem lw_p44 : lw_okq (⟨"KiteSummonsModel", "will", "(I)I"⟩, 40) := ⟨⟨by decide +kernel, by decide +kernel⟩, List.mem_of_getElem? (i := 1178) (by decide +kernel), List.mem_of_getElem? (i := 1358) (by decide +kernel), List.mem_of_getElem? (i := 1359) (by decide +kernel)⟩
theorem lw_p45 : lw_okq (⟨"KiteSummonsModel", "isSo", "(III)Z"⟩, 40) := ⟨⟨by decide +kernel, by decide +kernel⟩, List.mem_of_getElem? (i := 1178) (by decide +kernel), List.mem_of_getElem? (i := 1365) (by decide +kernel), List.mem_of_getElem? (i := 1366) (by decide +kernel)⟩
theorem lw_p46 : lw_okq (⟨"KiteSummonsModel", "fact", "(II)I"⟩, 40) := ⟨⟨by decide +kernel, by decide +kernel⟩, List.mem_of_getElem? (i := 1178) (by decide +kernel), List.mem_of_getElem? (i := 1369) (by decide +kernel), List.mem_of_getElem? (i := 1370) (by decide +kernel)⟩
theorem lw_p47 : lw_okq (⟨"KiteSummonsModel", "farOf", "(I)I"⟩, 40) := ⟨⟨by decide +kernel, by decide +kernel⟩, List.mem_of_getElem? (i := 1178) (by decide +kernel), List.mem_of_getElem? (i := 1373) (by decide +kernel), List.mem_of_getElem? (i := 1374) (by decide +kernel)⟩
def lw_privs_3 : List (MethodName × Nat) := [(⟨"KiteSummons$County", "isAsReported", "(III)Z"⟩, 16), (⟨"KiteSummons", "isInRows", "(II)Z"⟩, 17), (⟨"KiteSummons", "isRightOnTrial", "([I)Z"⟩, 17), (⟨"KiteSummons", "refusalAs", "(II)I"⟩, 17), (⟨"KiteSummons", "putOn", "(IIII)I"⟩, 17), (⟨"KiteSummons", "putRowOn", "(II)I"⟩, 17), (⟨"KiteSummons", "holdsKite", "(I)Z"⟩, 17), (⟨"KiteSummonsModel", "isKite", "(I)Z"⟩, 40), (⟨"KiteSummonsModel", "drifts", "(I)I"⟩, 40), (⟨"KiteSummonsModel", "its", "(II)I"⟩, 40), (⟨"KiteSummonsModel", "windNow", "()I"⟩, 40), (⟨"KiteSummonsModel", "fee", "(I)I"⟩, 40), (⟨"KiteSummonsModel", "will", "(I)I"⟩, 40), (⟨"KiteSummonsModel", "isSo", "(III)Z"⟩, 40), (⟨"KiteSummonsModel", "fact", "(II)I"⟩, 40), (⟨"KiteSummonsModel", "farOf", "(I)I"⟩, 40)]
theorem lw_r3 : ∀ q ∈ lw_privs_3, lw_okq q := List.forall_mem_cons.mpr ⟨lw_p32, List.forall_mem_cons.mpr ⟨lw_p33, List.forall_mem_cons.mpr ⟨lw_p34, List.forall_mem_cons.mpr ⟨lw_p35, List.forall_mem_cons.mpr ⟨lw_p36, List.forall_mem_cons.mpr ⟨lw_p37, List.forall_mem_cons.mpr ⟨lw_p38, List.forall_mem_cons.mpr ⟨lw_p39, List.forall_mem_cons.mpr ⟨lw_p40, List.forall_mem_cons.mpr ⟨lw_p41, List.forall_mem_cons.mpr ⟨lw_p42, List.forall_mem_cons.mpr ⟨lw_p43, List.forall_mem_cons.mpr ⟨lw_p44, List.forall_mem_cons.mpr ⟨lw_p45, List.forall_mem_cons.mpr ⟨lw_p46, List.forall_mem_cons.mpr ⟨lw_p47, fun _ h => absurd h List.not_mem_nil⟩⟩⟩⟩⟩⟩⟩⟩⟩⟩⟩⟩⟩⟩⟩⟩
theorem lw_p48 : lw_okq (⟨"KiteSummonsModel", "becomes", "(II)I"⟩, 40) := ⟨⟨by decide +kernel, by decide +kernel⟩, List.mem_of_getElem? (i := 1178) (by decide +kernel), List.mem_of_getElem? (i := 1390) (by decide +kernel), List.mem_of_getElem? (i := 1391) (by decide +kernel)⟩
theorem lw_p49 : lw_okq (⟨"KiteSummonsModel", "isOver", "()Z"⟩, 40) := ⟨⟨by decide +kernel, by decide +kernel⟩, List.mem_of_getElem? (i := 1178) (by decide +kernel), List.mem_of_getElem? (i := 1428) (by decide +kernel), List.mem_of_getElem? (i := 1429) (by decide +kernel)⟩
theorem lw_p50 : lw_okq (⟨"KiteSummonsModel", "those", "(I)I"⟩, 40) := ⟨⟨by decide +kernel, by decide +kernel⟩, List.mem_of_getElem? (i := 1178) (by decide +kernel), List.mem_of_getElem? (i := 1432) (by decide +kernel), List.mem_of_getElem? (i := 1433) (by decide +kernel)⟩
theorem lw_p51 : lw_okq (⟨"KiteSummonsModel", "goes", "(I)I"⟩, 40) := ⟨⟨by decide +kernel, by decide +kernel⟩, List.mem_of_getElem? (i := 1178) (by decide +kernel), List.mem_of_getElem? (i := 1440) (by decide +kernel), List.mem_of_getElem? (i := 1441) (by decide +kernel)⟩
theorem lw_p52 : lw_okq (⟨"KiteSummonsModel", "blows", "()V"⟩, 40) := ⟨⟨by decide +kernel, by decide +kernel⟩, List.mem_of_getElem? (i := 1178) (by decide +kernel), List.mem_of_getElem? (i := 1444) (by decide +kernel), List.mem_of_getElem? (i := 1445) (by decide +kernel)⟩
theorem lw_p53 : lw_okq (⟨"KiteSummonsModel", "chosen", "()I"⟩, 40) := ⟨⟨by decide +kernel, by decide +kernel⟩, List.mem_of_getElem? (i := 1178) (by decide +kernel), List.mem_of_getElem? (i := 1454) (by decide +kernel), List.mem_of_getElem? (i := 1455) (by decide +kernel)⟩
theorem lw_p54 : lw_okq (⟨"KiteSummonsModel", "isReached", "(I)Z"⟩, 40) := ⟨⟨by decide +kernel, by decide +kernel⟩, List.mem_of_getElem? (i := 1178) (by decide +kernel), List.mem_of_getElem? (i := 1458) (by decide +kernel), List.mem_of_getElem? (i := 1459) (by decide +kernel)⟩
theorem lw_p55 : lw_okq (⟨"KiteSummonsModel", "isTold", "(I)I"⟩, 40) := ⟨⟨by decide +kernel, by decide +kernel⟩, List.mem_of_getElem? (i := 1178) (by decide +kernel), List.mem_of_getElem? (i := 1462) (by decide +kernel), List.mem_of_getElem? (i := 1463) (by decide +kernel)⟩
theorem lw_p56 : lw_okq (⟨"KiteSummonsModel", "restTried", "(I)I"⟩, 40) := ⟨⟨by decide +kernel, by decide +kernel⟩, List.mem_of_getElem? (i := 1178) (by decide +kernel), List.mem_of_getElem? (i := 1470) (by decide +kernel), List.mem_of_getElem? (i := 1471) (by decide +kernel)⟩
theorem lw_p57 : lw_okq (⟨"KiteSummonsModel", "puts", "()V"⟩, 40) := ⟨⟨by decide +kernel, by decide +kernel⟩, List.mem_of_getElem? (i := 1178) (by decide +kernel), List.mem_of_getElem? (i := 1474) (by decide +kernel), List.mem_of_getElem? (i := 1475) (by decide +kernel)⟩
theorem lw_p58 : lw_okq (⟨"KiteSummonsModel", "rest", "(I)I"⟩, 40) := ⟨⟨by decide +kernel, by decide +kernel⟩, List.mem_of_getElem? (i := 1178) (by decide +kernel), List.mem_of_getElem? (i := 1478) (by decide +kernel), List.mem_of_getElem? (i := 1479) (by decide +kernel)⟩
theorem lw_p59 : lw_okq (⟨"KiteSummonsModel", "putsBack", "()V"⟩, 40) := ⟨⟨by decide +kernel, by decide +kernel⟩, List.mem_of_getElem? (i := 1178) (by decide +kernel), List.mem_of_getElem? (i := 1482) (by decide +kernel), List.mem_of_getElem? (i := 1483) (by decide +kernel)⟩
theorem lw_p60 : lw_okq (⟨"KiteSummonsModel", "mostFor", "(II)I"⟩, 40) := ⟨⟨by decide +kernel, by decide +kernel⟩, List.mem_of_getElem? (i := 1178) (by decide +kernel), List.mem_of_getElem? (i := 1494) (by decide +kernel), List.mem_of_getElem? (i := 1495) (by decide +kernel)⟩
theorem lw_p61 : lw_okq (⟨"KiteSummonsModel", "caseOf", "(I)I"⟩, 40) := ⟨⟨by decide +kernel, by decide +kernel⟩, List.mem_of_getElem? (i := 1178) (by decide +kernel), List.mem_of_getElem? (i := 1510) (by decide +kernel), List.mem_of_getElem? (i := 1511) (by decide +kernel)⟩
theorem lw_p62 : lw_okq (⟨"KiteSummonsModel", "areTangled", "(II)Z"⟩, 40) := ⟨⟨by decide +kernel, by decide +kernel⟩, List.mem_of_getElem? (i := 1178) (by decide +kernel), List.mem_of_getElem? (i := 1514) (by decide +kernel), List.mem_of_getElem? (i := 1515) (by decide +kernel)⟩
theorem lw_p63 : lw_okq (⟨"KiteSummonsModel", "steps", "(II)I"⟩, 40) := ⟨⟨by decide +kernel, by decide +kernel⟩, List.mem_of_getElem? (i := 1178) (by decide +kernel), List.mem_of_getElem? (i := 1522) (by decide +kernel), List.mem_of_getElem? (i := 1523) (by decide +kernel)⟩
def lw_privs_4 : List (MethodName × Nat) := [(⟨"KiteSummonsModel", "becomes", "(II)I"⟩, 40), (⟨"KiteSummonsModel", "isOver", "()Z"⟩, 40), (⟨"KiteSummonsModel", "those", "(I)I"⟩, 40), (⟨"KiteSummonsModel", "goes", "(I)I"⟩, 40), (⟨"KiteSummonsModel", "blows", "()V"⟩, 40), (⟨"KiteSummonsModel", "chosen", "()I"⟩, 40), (⟨"KiteSummonsModel", "isReached", "(I)Z"⟩, 40), (⟨"KiteSummonsModel", "isTold", "(I)I"⟩, 40), (⟨"KiteSummonsModel", "restTried", "(I)I"⟩, 40), (⟨"KiteSummonsModel", "puts", "()V"⟩, 40), (⟨"KiteSummonsModel", "rest", "(I)I"⟩, 40), (⟨"KiteSummonsModel", "putsBack", "()V"⟩, 40), (⟨"KiteSummonsModel", "mostFor", "(II)I"⟩, 40), (⟨"KiteSummonsModel", "caseOf", "(I)I"⟩, 40), (⟨"KiteSummonsModel", "areTangled", "(II)Z"⟩, 40), (⟨"KiteSummonsModel", "steps", "(II)I"⟩, 40)]
theorem lw_r4 : ∀ q ∈ lw_privs_4, lw_okq q := List.forall_mem_cons.mpr ⟨lw_p48, List.forall_mem_cons.mpr ⟨lw_p49, List.forall_mem_cons.mpr ⟨lw_p50, List.forall_mem_cons.mpr ⟨lw_p51, List.forall_mem_cons.mpr ⟨lw_p52, List.forall_mem_cons.mpr ⟨lw_p53, List.forall_mem_cons.mpr ⟨lw_p54, List.forall_mem_cons.mpr ⟨lw_p55, List.forall_mem_cons.mpr ⟨lw_p56, List.forall_mem_cons.mpr ⟨lw_p57, List.forall_mem_cons.mpr ⟨lw_p58, List.forall_mem_cons.mpr ⟨lw_p59, List.forall_mem_cons.mpr ⟨lw_p60, List.forall_mem_cons.mpr ⟨lw_p61, List.forall_mem_cons.mpr ⟨lw_p62, List.forall_mem_cons.mpr ⟨lw_p63, fun _ h => absurd h List.not_mem_nil⟩⟩⟩⟩⟩⟩⟩⟩⟩⟩⟩⟩⟩⟩⟩⟩
theorem lw_p64 : lw_okq (⟨"KiteSummonsModel", "plansOf", "(II)I"⟩, 40) := ⟨⟨by decide +kernel, by decide +kernel⟩, List.mem_of_getElem? (i := 1178) (by decide +kernel), List.mem_of_getElem? (i := 1533) (by decide +kernel), List.mem_of_getElem? (i := 1534) (by decide +kernel)⟩
theorem lw_p65 : lw_okq (⟨"KiteSummonsModel", "plans", "(III)V"⟩, 40) := ⟨⟨by decide +kernel, by decide +kernel⟩, List.mem_of_getElem? (i := 1178) (by decide +kernel), List.mem_of_getElem? (i := 1537) (by decide +kernel), List.mem_of_getElem? (i := 1538) (by decide +kernel)⟩
theorem lw_p66 : lw_okq (⟨"KiteSummonsModel", "ended", "(II)V"⟩, 40) := ⟨⟨by decide +kernel, by decide +kernel⟩, List.mem_of_getElem? (i := 1178) (by decide +kernel), List.mem_of_getElem? (i := 1541) (by decide +kernel), List.mem_of_getElem? (i := 1542) (by decide +kernel)⟩
theorem lw_p67 : lw_okq (⟨"KiteSummonsModel", "saves", "(I)V"⟩, 40) := ⟨⟨by decide +kernel, by decide +kernel⟩, List.mem_of_getElem? (i := 1178) (by decide +kernel), List.mem_of_getElem? (i := 1545) (by decide +kernel), List.mem_of_getElem? (i := 1546) (by decide +kernel)⟩
theorem lw_p68 : lw_okq (⟨"KiteSummonsModel", "takesBack", "(I)V"⟩, 40) := ⟨⟨by decide +kernel, by decide +kernel⟩, List.mem_of_getElem? (i := 1178) (by decide +kernel), List.mem_of_getElem? (i := 1549) (by decide +kernel), List.mem_of_getElem? (i := 1550) (by decide +kernel)⟩
theorem lw_p69 : lw_okq (⟨"KiteSummonsModel", "areKites", "(I)Z"⟩, 40) := ⟨⟨by decide +kernel, by decide +kernel⟩, List.mem_of_getElem? (i := 1178) (by decide +kernel), List.mem_of_getElem? (i := 1566) (by decide +kernel), List.mem_of_getElem? (i := 1567) (by decide +kernel)⟩
theorem lw_p70 : lw_okq (⟨"KiteSummonsModel", "played", "(IIZ)I"⟩, 40) := ⟨⟨by decide +kernel, by decide +kernel⟩, List.mem_of_getElem? (i := 1178) (by decide +kernel), List.mem_of_getElem? (i := 1578) (by decide +kernel), List.mem_of_getElem? (i := 1579) (by decide +kernel)⟩
theorem lw_p71 : lw_okq (⟨"KiteSummonsModel", "findFits", "(I)V"⟩, 40) := ⟨⟨by decide +kernel, by decide +kernel⟩, List.mem_of_getElem? (i := 1178) (by decide +kernel), List.mem_of_getElem? (i := 1600) (by decide +kernel), List.mem_of_getElem? (i := 1601) (by decide +kernel)⟩
theorem lw_p72 : lw_okq (⟨"KiteSummonsModel", "isFit", "(III)Z"⟩, 40) := ⟨⟨by decide +kernel, by decide +kernel⟩, List.mem_of_getElem? (i := 1178) (by decide +kernel), List.mem_of_getElem? (i := 1604) (by decide +kernel), List.mem_of_getElem? (i := 1605) (by decide +kernel)⟩
theorem lw_p73 : lw_okq (⟨"KiteSummonsModel", "isSoBy", "(III)Z"⟩, 40) := ⟨⟨by decide +kernel, by decide +kernel⟩, List.mem_of_getElem? (i := 1178) (by decide +kernel), List.mem_of_getElem? (i := 1608) (by decide +kernel), List.mem_of_getElem? (i := 1609) (by decide +kernel)⟩
theorem lw_p74 : lw_okq (⟨"KiteSummonsModel", "byLot", "()I"⟩, 40) := ⟨⟨by decide +kernel, by decide +kernel⟩, List.mem_of_getElem? (i := 1178) (by decide +kernel), List.mem_of_getElem? (i := 1624) (by decide +kernel), List.mem_of_getElem? (i := 1625) (by decide +kernel)⟩
theorem lw_p75 : lw_okq (⟨"KiteSummonsModel", "isRow", "(II)Z"⟩, 40) := ⟨⟨by decide +kernel, by decide +kernel⟩, List.mem_of_getElem? (i := 1178) (by decide +kernel), List.mem_of_getElem? (i := 1643) (by decide +kernel), List.mem_of_getElem? (i := 1644) (by decide +kernel)⟩
theorem lw_p76 : lw_okq (⟨"KiteSummonsModel", "isAct", "(I)Z"⟩, 40) := ⟨⟨by decide +kernel, by decide +kernel⟩, List.mem_of_getElem? (i := 1178) (by decide +kernel), List.mem_of_getElem? (i := 1655) (by decide +kernel), List.mem_of_getElem? (i := 1656) (by decide +kernel)⟩
theorem lw_p77 : lw_okq (⟨"KiteSummonsModel", "token", "()V"⟩, 40) := ⟨⟨by decide +kernel, by decide +kernel⟩, List.mem_of_getElem? (i := 1178) (by decide +kernel), List.mem_of_getElem? (i := 1669) (by decide +kernel), List.mem_of_getElem? (i := 1670) (by decide +kernel)⟩
theorem lw_p78 : lw_okq (⟨"KiteSummonsModel", "byteAt", "(I)I"⟩, 40) := ⟨⟨by decide +kernel, by decide +kernel⟩, List.mem_of_getElem? (i := 1178) (by decide +kernel), List.mem_of_getElem? (i := 1673) (by decide +kernel), List.mem_of_getElem? (i := 1674) (by decide +kernel)⟩
theorem lw_p79 : lw_okq (⟨"KiteSummonsModel", "rule", "()V"⟩, 40) := ⟨⟨by decide +kernel, by decide +kernel⟩, List.mem_of_getElem? (i := 1178) (by decide +kernel), List.mem_of_getElem? (i := 1687) (by decide +kernel), List.mem_of_getElem? (i := 1688) (by decide +kernel)⟩
def lw_privs_5 : List (MethodName × Nat) := [(⟨"KiteSummonsModel", "plansOf", "(II)I"⟩, 40), (⟨"KiteSummonsModel", "plans", "(III)V"⟩, 40), (⟨"KiteSummonsModel", "ended", "(II)V"⟩, 40), (⟨"KiteSummonsModel", "saves", "(I)V"⟩, 40), (⟨"KiteSummonsModel", "takesBack", "(I)V"⟩, 40), (⟨"KiteSummonsModel", "areKites", "(I)Z"⟩, 40), (⟨"KiteSummonsModel", "played", "(IIZ)I"⟩, 40), (⟨"KiteSummonsModel", "findFits", "(I)V"⟩, 40), (⟨"KiteSummonsModel", "isFit", "(III)Z"⟩, 40), (⟨"KiteSummonsModel", "isSoBy", "(III)Z"⟩, 40), (⟨"KiteSummonsModel", "byLot", "()I"⟩, 40), (⟨"KiteSummonsModel", "isRow", "(II)Z"⟩, 40), (⟨"KiteSummonsModel", "isAct", "(I)Z"⟩, 40), (⟨"KiteSummonsModel", "token", "()V"⟩, 40), (⟨"KiteSummonsModel", "byteAt", "(I)I"⟩, 40), (⟨"KiteSummonsModel", "rule", "()V"⟩, 40)]
theorem lw_r5 : ∀ q ∈ lw_privs_5, lw_okq q := List.forall_mem_cons.mpr ⟨lw_p64, List.forall_mem_cons.mpr ⟨lw_p65, List.forall_mem_cons.mpr ⟨lw_p66, List.forall_mem_cons.mpr ⟨lw_p67, List.forall_mem_cons.mpr ⟨lw_p68, List.forall_mem_cons.mpr ⟨lw_p69, List.forall_mem_cons.mpr ⟨lw_p70, List.forall_mem_cons.mpr ⟨lw_p71, List.forall_mem_cons.mpr ⟨lw_p72, List.forall_mem_cons.mpr ⟨lw_p73, List.forall_mem_cons.mpr ⟨lw_p74, List.forall_mem_cons.mpr ⟨lw_p75, List.forall_mem_cons.mpr ⟨lw_p76, List.forall_mem_cons.mpr ⟨lw_p77, List.forall_mem_cons.mpr ⟨lw_p78, List.forall_mem_cons.mpr ⟨lw_p79, fun _ h => absurd h List.not_mem_nil⟩⟩⟩⟩⟩⟩⟩⟩⟩⟩⟩⟩⟩⟩⟩⟩
theorem lw_p80 : lw_okq (⟨"KiteSummonsModel", "kindHere", "()I"⟩, 40) := ⟨⟨by decide +kernel, by decide +kernel⟩, List.mem_of_getElem? (i := 1178) (by decide +kernel), List.mem_of_getElem? (i := 1691) (by decide +kernel), List.mem_of_getElem? (i := 1692) (by decide +kernel)⟩
theorem lw_p81 : lw_okq (⟨"KiteSummonsModel", "word", "()J"⟩, 40) := ⟨⟨by decide +kernel, by decide +kernel⟩, List.mem_of_getElem? (i := 1178) (by decide +kernel), List.mem_of_getElem? (i := 1695) (by decide +kernel), List.mem_of_getElem? (i := 1696) (by decide +kernel)⟩
theorem lw_p82 : lw_okq (⟨"KiteSummonsModel", "wants", "(Z)V"⟩, 40) := ⟨⟨by decide +kernel, by decide +kernel⟩, List.mem_of_getElem? (i := 1178) (by decide +kernel), List.mem_of_getElem? (i := 1707) (by decide +kernel), List.mem_of_getElem? (i := 1708) (by decide +kernel)⟩
theorem lw_p83 : lw_okq (⟨"KiteSummonsModel", "condition", "()V"⟩, 40) := ⟨⟨by decide +kernel, by decide +kernel⟩, List.mem_of_getElem? (i := 1178) (by decide +kernel), List.mem_of_getElem? (i := 1712) (by decide +kernel), List.mem_of_getElem? (i := 1713) (by decide +kernel)⟩
theorem lw_p84 : lw_okq (⟨"KiteSummonsModel", "all", "()V"⟩, 40) := ⟨⟨by decide +kernel, by decide +kernel⟩, List.mem_of_getElem? (i := 1178) (by decide +kernel), List.mem_of_getElem? (i := 1716) (by decide +kernel), List.mem_of_getElem? (i := 1717) (by decide +kernel)⟩
theorem lw_p85 : lw_okq (⟨"KiteSummonsModel", "one", "()V"⟩, 40) := ⟨⟨by decide +kernel, by decide +kernel⟩, List.mem_of_getElem? (i := 1178) (by decide +kernel), List.mem_of_getElem? (i := 1720) (by decide +kernel), List.mem_of_getElem? (i := 1721) (by decide +kernel)⟩
theorem lw_p86 : lw_okq (⟨"KiteSummonsModel", "comparison", "()V"⟩, 40) := ⟨⟨by decide +kernel, by decide +kernel⟩, List.mem_of_getElem? (i := 1178) (by decide +kernel), List.mem_of_getElem? (i := 1725) (by decide +kernel), List.mem_of_getElem? (i := 1726) (by decide +kernel)⟩
theorem lw_p87 : lw_okq (⟨"KiteSummonsModel", "valueHere", "()V"⟩, 40) := ⟨⟨by decide +kernel, by decide +kernel⟩, List.mem_of_getElem? (i := 1178) (by decide +kernel), List.mem_of_getElem? (i := 1729) (by decide +kernel), List.mem_of_getElem? (i := 1730) (by decide +kernel)⟩
theorem lw_p88 : lw_okq (⟨"KiteSummonsModel", "factHere", "()I"⟩, 40) := ⟨⟨by decide +kernel, by decide +kernel⟩, List.mem_of_getElem? (i := 1178) (by decide +kernel), List.mem_of_getElem? (i := 1733) (by decide +kernel), List.mem_of_getElem? (i := 1734) (by decide +kernel)⟩
theorem lw_p89 : lw_okq (⟨"KiteSummonsModel", "writes", "(I)V"⟩, 40) := ⟨⟨by decide +kernel, by decide +kernel⟩, List.mem_of_getElem? (i := 1178) (by decide +kernel), List.mem_of_getElem? (i := 1742) (by decide +kernel), List.mem_of_getElem? (i := 1743) (by decide +kernel)⟩
theorem lw_p90 : lw_okq (⟨"KiteSummonsModel", "number", "(I)V"⟩, 40) := ⟨⟨by decide +kernel, by decide +kernel⟩, List.mem_of_getElem? (i := 1178) (by decide +kernel), List.mem_of_getElem? (i := 1746) (by decide +kernel), List.mem_of_getElem? (i := 1747) (by decide +kernel)⟩
theorem lw_p91 : lw_okq (⟨"KiteSummonsModel", "whyNot", "(II)I"⟩, 40) := ⟨⟨by decide +kernel, by decide +kernel⟩, List.mem_of_getElem? (i := 1178) (by decide +kernel), List.mem_of_getElem? (i := 1774) (by decide +kernel), List.mem_of_getElem? (i := 1775) (by decide +kernel)⟩
theorem lw_p92 : lw_okq (⟨"KiteSummonsModel", "isSpan", "(II)Z"⟩, 40) := ⟨⟨by decide +kernel, by decide +kernel⟩, List.mem_of_getElem? (i := 1178) (by decide +kernel), List.mem_of_getElem? (i := 1782) (by decide +kernel), List.mem_of_getElem? (i := 1783) (by decide +kernel)⟩
theorem lw_p93 : lw_okq (⟨"KiteSummonsModel", "isItem", "(IJ)Z"⟩, 40) := ⟨⟨by decide +kernel, by decide +kernel⟩, List.mem_of_getElem? (i := 1178) (by decide +kernel), List.mem_of_getElem? (i := 1787) (by decide +kernel), List.mem_of_getElem? (i := 1788) (by decide +kernel)⟩
theorem lw_p94 : lw_okq (⟨"KiteSummonsModel", "onShelf", "(I)I"⟩, 40) := ⟨⟨by decide +kernel, by decide +kernel⟩, List.mem_of_getElem? (i := 1178) (by decide +kernel), List.mem_of_getElem? (i := 1804) (by decide +kernel), List.mem_of_getElem? (i := 1805) (by decide +kernel)⟩
theorem lw_p95 : lw_okq (⟨"KiteSummonsModel", "flies", "(I)I"⟩, 40) := ⟨⟨by decide +kernel, by decide +kernel⟩, List.mem_of_getElem? (i := 1178) (by decide +kernel), List.mem_of_getElem? (i := 1812) (by decide +kernel), List.mem_of_getElem? (i := 1813) (by decide +kernel)⟩
def lw_privs_6 : List (MethodName × Nat) := [(⟨"KiteSummonsModel", "kindHere", "()I"⟩, 40), (⟨"KiteSummonsModel", "word", "()J"⟩, 40), (⟨"KiteSummonsModel", "wants", "(Z)V"⟩, 40), (⟨"KiteSummonsModel", "condition", "()V"⟩, 40), (⟨"KiteSummonsModel", "all", "()V"⟩, 40), (⟨"KiteSummonsModel", "one", "()V"⟩, 40), (⟨"KiteSummonsModel", "comparison", "()V"⟩, 40), (⟨"KiteSummonsModel", "valueHere", "()V"⟩, 40), (⟨"KiteSummonsModel", "factHere", "()I"⟩, 40), (⟨"KiteSummonsModel", "writes", "(I)V"⟩, 40), (⟨"KiteSummonsModel", "number", "(I)V"⟩, 40), (⟨"KiteSummonsModel", "whyNot", "(II)I"⟩, 40), (⟨"KiteSummonsModel", "isSpan", "(II)Z"⟩, 40), (⟨"KiteSummonsModel", "isItem", "(IJ)Z"⟩, 40), (⟨"KiteSummonsModel", "onShelf", "(I)I"⟩, 40), (⟨"KiteSummonsModel", "flies", "(I)I"⟩, 40)]
theorem lw_r6 : ∀ q ∈ lw_privs_6, lw_okq q := List.forall_mem_cons.mpr ⟨lw_p80, List.forall_mem_cons.mpr ⟨lw_p81, List.forall_mem_cons.mpr ⟨lw_p82, List.forall_mem_cons.mpr ⟨lw_p83, List.forall_mem_cons.mpr ⟨lw_p84, List.forall_mem_cons.mpr ⟨lw_p85, List.forall_mem_cons.mpr ⟨lw_p86, List.forall_mem_cons.mpr ⟨lw_p87, List.forall_mem_cons.mpr ⟨lw_p88, List.forall_mem_cons.mpr ⟨lw_p89, List.forall_mem_cons.mpr ⟨lw_p90, List.forall_mem_cons.mpr ⟨lw_p91, List.forall_mem_cons.mpr ⟨lw_p92, List.forall_mem_cons.mpr ⟨lw_p93, List.forall_mem_cons.mpr ⟨lw_p94, List.forall_mem_cons.mpr ⟨lw_p95, fun _ h => absurd h List.not_mem_nil⟩⟩⟩⟩⟩⟩⟩⟩⟩⟩⟩⟩⟩⟩⟩⟩
theorem lw_p96 : lw_okq (⟨"KiteSummonsModel", "runs", "(I)V"⟩, 40) := ⟨⟨by decide +kernel, by decide +kernel⟩, List.mem_of_getElem? (i := 1178) (by decide +kernel), List.mem_of_getElem? (i := 1816) (by decide +kernel), List.mem_of_getElem? (i := 1817) (by decide +kernel)⟩
theorem lw_p97 : lw_okq (⟨"KiteSummonsModel", "reads", "(I)I"⟩, 40) := ⟨⟨by decide +kernel, by decide +kernel⟩, List.mem_of_getElem? (i := 1178) (by decide +kernel), List.mem_of_getElem? (i := 1820) (by decide +kernel), List.mem_of_getElem? (i := 1821) (by decide +kernel)⟩
theorem lw_p98 : lw_okq (⟨"KiteSummonsModel", "parts", "(I)I"⟩, 40) := ⟨⟨by decide +kernel, by decide +kernel⟩, List.mem_of_getElem? (i := 1178) (by decide +kernel), List.mem_of_getElem? (i := 1824) (by decide +kernel), List.mem_of_getElem? (i := 1825) (by decide +kernel)⟩
theorem lw_p99 : lw_okq (⟨"KiteSummonsModel", "plainParts", "(I)I"⟩, 40) := ⟨⟨by decide +kernel, by decide +kernel⟩, List.mem_of_getElem? (i := 1178) (by decide +kernel), List.mem_of_getElem? (i := 1828) (by decide +kernel), List.mem_of_getElem? (i := 1829) (by decide +kernel)⟩
theorem lw_p100 : lw_okq (⟨"KiteSummonsModel", "calls", "(I)I"⟩, 40) := ⟨⟨by decide +kernel, by decide +kernel⟩, List.mem_of_getElem? (i := 1178) (by decide +kernel), List.mem_of_getElem? (i := 1832) (by decide +kernel), List.mem_of_getElem? (i := 1833) (by decide +kernel)⟩
theorem lw_p101 : lw_okq (⟨"KiteSummonsModel", "traced", "()I"⟩, 40) := ⟨⟨by decide +kernel, by decide +kernel⟩, List.mem_of_getElem? (i := 1178) (by decide +kernel), List.mem_of_getElem? (i := 1840) (by decide +kernel), List.mem_of_getElem? (i := 1841) (by decide +kernel)⟩
def lw_privs_7 : List (MethodName × Nat) := [(⟨"KiteSummonsModel", "runs", "(I)V"⟩, 40), (⟨"KiteSummonsModel", "reads", "(I)I"⟩, 40), (⟨"KiteSummonsModel", "parts", "(I)I"⟩, 40), (⟨"KiteSummonsModel", "plainParts", "(I)I"⟩, 40), (⟨"KiteSummonsModel", "calls", "(I)I"⟩, 40), (⟨"KiteSummonsModel", "traced", "()I"⟩, 40)]
theorem lw_r7 : ∀ q ∈ lw_privs_7, lw_okq q := List.forall_mem_cons.mpr ⟨lw_p96, List.forall_mem_cons.mpr ⟨lw_p97, List.forall_mem_cons.mpr ⟨lw_p98, List.forall_mem_cons.mpr ⟨lw_p99, List.forall_mem_cons.mpr ⟨lw_p100, List.forall_mem_cons.mpr ⟨lw_p101, fun _ h => absurd h List.not_mem_nil⟩⟩⟩⟩⟩⟩
def lw_privs : List (MethodName × Nat) := lw_privs_1 ++ (lw_privs_2 ++ (lw_privs_3 ++ (lw_privs_4 ++ (lw_privs_5 ++ (lw_privs_6 ++ (lw_privs_7))))))
def lw_tbl : List Cond := k2_sels lw_privs ++ tables_1
theorem lw_privs_ok : ∀ q ∈ lw_privs, lw_okq q := by
  show ∀ q ∈ lw_privs_1 ++ (lw_privs_2 ++ (lw_privs_3 ++ (lw_privs_4 ++ (lw_privs_5 ++ (lw_privs_6 ++ (lw_privs_7)))))), lw_okq q
  exact List.forall_mem_append.mpr ⟨lw_r1, List.forall_mem_append.mpr ⟨lw_r2, List.forall_mem_append.mpr ⟨lw_r3, List.forall_mem_append.mpr ⟨lw_r4, List.forall_mem_append.mpr ⟨lw_r5, List.forall_mem_append.mpr ⟨lw_r6, lw_r7⟩⟩⟩⟩⟩⟩
def RX0 : String := "KiteSummons$Box"
def TX0 : u_T := fun k => match k with
  | 0 => ("KiteSummons$Kite", "bodies", "[I", true)
  | 1 => ("KiteSummons$Kite", "n", "I", false)
  | 2 => ("KiteSummons$Kite", "a", "I", false)
  | 3 => ("KiteSummons$Kite", "begun", "I", false)
  | _ => ("KiteSummons$Kite", "isPartedBy0", "Z", false)
def tyX0 : Nat → FieldType := fun k => match k with
  | 0 => .array .int
  | 1 => .int
  | 2 => .int
  | 3 => .int
  | _ => .boolean
theorem nmX0 : ∀ a, a < 5 → ∀ b, b < 5 → a ≠ b → (TX0 a).2.1 ≠ (TX0 b).2.1 := by decide +kernel
theorem tyX0_ok : ∀ k, k < 5 → parseFieldDescriptor (TX0 k).2.2.1 = some (tyX0 k) := by decide +kernel
abbrev cX0_init : ByteArray := prog_2_method_1_code
def yX0_init : MethodName := ⟨RX0, "<init>", "([I)V"⟩
abbrev cX0_drifts : ByteArray := prog_2_method_2_code
def yX0_drifts : MethodName := ⟨RX0, "drifts", "(II)I"⟩
abbrev cX0_fee : ByteArray := prog_2_method_3_code
def yX0_fee : MethodName := ⟨RX0, "fee", "(I)I"⟩
abbrev cX0_parts : ByteArray := prog_2_method_4_code
def yX0_parts : MethodName := ⟨RX0, "parts", "(I)I"⟩
def RX1 : String := "KiteSummons$County"
def TX1 : u_T := fun k => match k with
  | 0 => ("KiteSummons$County", "kinds", "[LKiteSummons$Kite;", true)
  | 1 => ("KiteSummons$County", "kites", "I", false)
  | 2 => ("KiteSummons$County", "end", "I", false)
  | 3 => ("KiteSummons$County", "z", "I", false)
  | 4 => ("KiteSummons$County", "reports", "I", false)
  | 5 => ("KiteSummons$County", "kind", "[I", true)
  | 6 => ("KiteSummons$County", "name", "[I", true)
  | 7 => ("KiteSummons$County", "wind", "[I", true)
  | 8 => ("KiteSummons$County", "farmAt", "[I", true)
  | 9 => ("KiteSummons$County", "comes", "[I", true)
  | 10 => ("KiteSummons$County", "behind", "[I", true)
  | 11 => ("KiteSummons$County", "axis", "[I", true)
  | 12 => ("KiteSummons$County", "least", "[I", true)
  | 13 => ("KiteSummons$County", "most", "[I", true)
  | 14 => ("KiteSummons$County", "rules", "LKiteSummons$Rules;", true)
  | _ => ("KiteSummons$County", "sky", "LKiteSummons$Sky;", true)
def tyX1 : Nat → FieldType := fun k => match k with
  | 0 => .array (.object "KiteSummons$Kite")
  | 1 => .int
  | 2 => .int
  | 3 => .int
  | 4 => .int
  | 5 => .array .int
  | 6 => .array .int
  | 7 => .array .int
  | 8 => .array .int
  | 9 => .array .int
  | 10 => .array .int
  | 11 => .array .int
  | 12 => .array .int
  | 13 => .array .int
  | 14 => .object "KiteSummons$Rules"
  | _ => .object "KiteSummons$Sky"
theorem nmX1 : ∀ a, a < 16 → ∀ b, b < 16 → a ≠ b → (TX1 a).2.1 ≠ (TX1 b).2.1 := by decide +kernel
theorem tyX1_ok : ∀ k, k < 16 → parseFieldDescriptor (TX1 k).2.2.1 = some (tyX1 k) := by decide +kernel
abbrev cX1_init : ByteArray := prog_3_method_1_code
def yX1_init : MethodName := ⟨RX1, "<init>", "([LKiteSummons$Kite;)V"⟩
abbrev cX1_copy : ByteArray := prog_3_method_2_code
def yX1_copy : MethodName := ⟨RX1, "copy", "(LKiteSummons$County;)V"⟩
abbrev cX1_addKite : ByteArray := prog_3_method_3_code
def yX1_addKite : MethodName := ⟨RX1, "addKite", "(IIII)I"⟩
abbrev cX1_addReport : ByteArray := prog_3_method_4_code
def yX1_addReport : MethodName := ⟨RX1, "addReport", "(IIII)I"⟩
abbrev cX1_allKites : ByteArray := prog_3_method_5_code
def yX1_allKites : MethodName := ⟨RX1, "allKites", "()I"⟩
abbrev cX1_isOver : ByteArray := prog_3_method_6_code
def yX1_isOver : MethodName := ⟨RX1, "isOver", "(LKiteSummons$Sky;)Z"⟩
abbrev cX1_windOf : ByteArray := prog_3_method_7_code
def yX1_windOf : MethodName := ⟨RX1, "windOf", "(I)I"⟩
abbrev cX1_driftsNow : ByteArray := prog_3_method_8_code
def yX1_driftsNow : MethodName := ⟨RX1, "driftsNow", "(I)I"⟩
abbrev cX1_feeOf : ByteArray := prog_3_method_9_code
def yX1_feeOf : MethodName := ⟨RX1, "feeOf", "(I)I"⟩
abbrev cX1_farFromFarm : ByteArray := prog_3_method_10_code
def yX1_farFromFarm : MethodName := ⟨RX1, "farFromFarm", "(LKiteSummons$Sky;I)I"⟩
abbrev cX1_willOf : ByteArray := prog_3_method_11_code
def yX1_willOf : MethodName := ⟨RX1, "willOf", "(LKiteSummons$Sky;I)I"⟩
abbrev cX1_layFacts : ByteArray := prog_3_method_12_code
def yX1_layFacts : MethodName := ⟨RX1, "layFacts", "(LKiteSummons$Sky;II)V"⟩
abbrev cX1_actOfLot : ByteArray := prog_3_method_13_code
def yX1_actOfLot : MethodName := ⟨RX1, "actOfLot", "(I)I"⟩
abbrev cX1_goByAct : ByteArray := prog_3_method_14_code
def yX1_goByAct : MethodName := ⟨RX1, "goByAct", "(LKiteSummons$Sky;I)I"⟩
abbrev cX1_goByRest : ByteArray := prog_3_method_15_code
def yX1_goByRest : MethodName := ⟨RX1, "goByRest", "(LKiteSummons$Sky;)I"⟩
abbrev cX1_drift : ByteArray := prog_3_method_16_code
def yX1_drift : MethodName := ⟨RX1, "drift", "(LKiteSummons$Sky;)V"⟩
abbrev cX1_firstInReach : ByteArray := prog_3_method_17_code
def yX1_firstInReach : MethodName := ⟨RX1, "firstInReach", "(LKiteSummons$Sky;)I"⟩
abbrev cX1_tell : ByteArray := prog_3_method_18_code
def yX1_tell : MethodName := ⟨RX1, "tell", "(LKiteSummons$Sky;I)I"⟩
abbrev cX1_isSomeAloftAt : ByteArray := prog_3_method_19_code
def yX1_isSomeAloftAt : MethodName := ⟨RX1, "isSomeAloftAt", "(LKiteSummons$Sky;I)Z"⟩
abbrev cX1_countCases : ByteArray := prog_3_method_20_code
def yX1_countCases : MethodName := ⟨RX1, "countCases", "()I"⟩
abbrev cX1_caseOf : ByteArray := prog_3_method_21_code
def yX1_caseOf : MethodName := ⟨RX1, "caseOf", "(I)I"⟩
abbrev cX1_isTangledWithSome : ByteArray := prog_3_method_22_code
def yX1_isTangledWithSome : MethodName := ⟨RX1, "isTangledWithSome", "(II)Z"⟩
abbrev cX1_countFitting : ByteArray := prog_3_method_23_code
def yX1_countFitting : MethodName := ⟨RX1, "countFitting", "()I"⟩
abbrev cX1_firstFitting : ByteArray := prog_3_method_24_code
def yX1_firstFitting : MethodName := ⟨RX1, "firstFitting", "(I)I"⟩
abbrev cX1_fits : ByteArray := prog_3_method_25_code
def yX1_fits : MethodName := ⟨RX1, "fits", "(III)Z"⟩
abbrev cX1_isAsReported : ByteArray := prog_3_method_26_code
def yX1_isAsReported : MethodName := ⟨RX1, "isAsReported", "(III)Z"⟩
def RX2 : String := "KiteSummons$Heavy"
def TX2 : u_T := fun k => match k with
  | 0 => ("KiteSummons$Kite", "bodies", "[I", true)
  | 1 => ("KiteSummons$Kite", "n", "I", false)
  | 2 => ("KiteSummons$Kite", "a", "I", false)
  | 3 => ("KiteSummons$Kite", "begun", "I", false)
  | _ => ("KiteSummons$Kite", "isPartedBy0", "Z", false)
def tyX2 : Nat → FieldType := fun k => match k with
  | 0 => .array .int
  | 1 => .int
  | 2 => .int
  | 3 => .int
  | _ => .boolean
theorem nmX2 : ∀ a, a < 5 → ∀ b, b < 5 → a ≠ b → (TX2 a).2.1 ≠ (TX2 b).2.1 := by decide +kernel
theorem tyX2_ok : ∀ k, k < 5 → parseFieldDescriptor (TX2 k).2.2.1 = some (tyX2 k) := by decide +kernel
abbrev cX2_init : ByteArray := prog_4_method_1_code
def yX2_init : MethodName := ⟨RX2, "<init>", "([I)V"⟩
abbrev cX2_drifts : ByteArray := prog_4_method_2_code
def yX2_drifts : MethodName := ⟨RX2, "drifts", "(II)I"⟩
abbrev cX2_fee : ByteArray := prog_4_method_3_code
def yX2_fee : MethodName := ⟨RX2, "fee", "(I)I"⟩
abbrev cX2_reads : ByteArray := prog_4_method_4_code
def yX2_reads : MethodName := ⟨RX2, "reads", "(I)I"⟩
def RX3 : String := "KiteSummons$Judge"
def TX3 : u_T := fun k => match k with
  | 0 => ("KiteSummons$Kite", "bodies", "[I", true)
  | 1 => ("KiteSummons$Kite", "n", "I", false)
  | 2 => ("KiteSummons$Kite", "a", "I", false)
  | 3 => ("KiteSummons$Kite", "begun", "I", false)
  | _ => ("KiteSummons$Kite", "isPartedBy0", "Z", false)
def tyX3 : Nat → FieldType := fun k => match k with
  | 0 => .array .int
  | 1 => .int
  | 2 => .int
  | 3 => .int
  | _ => .boolean
theorem nmX3 : ∀ a, a < 5 → ∀ b, b < 5 → a ≠ b → (TX3 a).2.1 ≠ (TX3 b).2.1 := by decide +kernel
theorem tyX3_ok : ∀ k, k < 5 → parseFieldDescriptor (TX3 k).2.2.1 = some (tyX3 k) := by decide +kernel
abbrev cX3_init : ByteArray := prog_5_method_1_code
def yX3_init : MethodName := ⟨RX3, "<init>", "([I)V"⟩
abbrev cX3_drifts : ByteArray := prog_5_method_2_code
def yX3_drifts : MethodName := ⟨RX3, "drifts", "(II)I"⟩
abbrev cX3_fee : ByteArray := prog_5_method_3_code
def yX3_fee : MethodName := ⟨RX3, "fee", "(I)I"⟩
abbrev cX3_flies : ByteArray := prog_5_method_4_code
def yX3_flies : MethodName := ⟨RX3, "flies", "(I)I"⟩
abbrev cX3_calls : ByteArray := prog_5_method_5_code
def yX3_calls : MethodName := ⟨RX3, "calls", "(I)I"⟩
def RX4 : String := "KiteSummons$Kite"
def TX4 : u_T := fun k => match k with
  | 0 => ("KiteSummons$Kite", "bodies", "[I", true)
  | 1 => ("KiteSummons$Kite", "n", "I", false)
  | 2 => ("KiteSummons$Kite", "a", "I", false)
  | 3 => ("KiteSummons$Kite", "begun", "I", false)
  | _ => ("KiteSummons$Kite", "isPartedBy0", "Z", false)
def tyX4 : Nat → FieldType := fun k => match k with
  | 0 => .array .int
  | 1 => .int
  | 2 => .int
  | 3 => .int
  | _ => .boolean
theorem nmX4 : ∀ a, a < 5 → ∀ b, b < 5 → a ≠ b → (TX4 a).2.1 ≠ (TX4 b).2.1 := by decide +kernel
theorem tyX4_ok : ∀ k, k < 5 → parseFieldDescriptor (TX4 k).2.2.1 = some (tyX4 k) := by decide +kernel
abbrev cX4_init : ByteArray := prog_6_method_1_code
def yX4_init : MethodName := ⟨RX4, "<init>", "([I)V"⟩
abbrev cX4_drifts : ByteArray := prog_6_method_2_code
def yX4_drifts : MethodName := ⟨RX4, "drifts", "(II)I"⟩
abbrev cX4_fee : ByteArray := prog_6_method_3_code
def yX4_fee : MethodName := ⟨RX4, "fee", "(I)I"⟩
abbrev cX4_become : ByteArray := prog_6_method_4_code
def yX4_become : MethodName := ⟨RX4, "become", "(II)V"⟩
abbrev cX4_begin : ByteArray := prog_6_method_5_code
def yX4_begin : MethodName := ⟨RX4, "begin", "(I)V"⟩
abbrev cX4_flies : ByteArray := prog_6_method_6_code
def yX4_flies : MethodName := ⟨RX4, "flies", "(I)I"⟩
abbrev cX4_reads : ByteArray := prog_6_method_7_code
def yX4_reads : MethodName := ⟨RX4, "reads", "(I)I"⟩
abbrev cX4_parts : ByteArray := prog_6_method_8_code
def yX4_parts : MethodName := ⟨RX4, "parts", "(I)I"⟩
abbrev cX4_calls : ByteArray := prog_6_method_9_code
def yX4_calls : MethodName := ⟨RX4, "calls", "(I)I"⟩
def RX5 : String := "KiteSummons$Old"
def TX5 : u_T := fun k => match k with
  | 0 => ("KiteSummons$Kite", "bodies", "[I", true)
  | 1 => ("KiteSummons$Kite", "n", "I", false)
  | 2 => ("KiteSummons$Kite", "a", "I", false)
  | 3 => ("KiteSummons$Kite", "begun", "I", false)
  | _ => ("KiteSummons$Kite", "isPartedBy0", "Z", false)
def tyX5 : Nat → FieldType := fun k => match k with
  | 0 => .array .int
  | 1 => .int
  | 2 => .int
  | 3 => .int
  | _ => .boolean
theorem nmX5 : ∀ a, a < 5 → ∀ b, b < 5 → a ≠ b → (TX5 a).2.1 ≠ (TX5 b).2.1 := by decide +kernel
theorem tyX5_ok : ∀ k, k < 5 → parseFieldDescriptor (TX5 k).2.2.1 = some (tyX5 k) := by decide +kernel
abbrev cX5_init : ByteArray := prog_7_method_1_code
def yX5_init : MethodName := ⟨RX5, "<init>", "([I)V"⟩
abbrev cX5_drifts : ByteArray := prog_7_method_2_code
def yX5_drifts : MethodName := ⟨RX5, "drifts", "(II)I"⟩
abbrev cX5_fee : ByteArray := prog_7_method_3_code
def yX5_fee : MethodName := ⟨RX5, "fee", "(I)I"⟩
abbrev cX5_reads : ByteArray := prog_7_method_4_code
def yX5_reads : MethodName := ⟨RX5, "reads", "(I)I"⟩
abbrev cX5_parts : ByteArray := prog_7_method_5_code
def yX5_parts : MethodName := ⟨RX5, "parts", "(I)I"⟩
def RX6 : String := "KiteSummons$Plans"
def TX6 : u_T := fun k => match k with
  | 0 => ("KiteSummons$Plans", "county", "LKiteSummons$County;", true)
  | 1 => ("KiteSummons$Plans", "skies", "[LKiteSummons$Sky;", true)
  | 2 => ("KiteSummons$Plans", "acts", "[I", true)
  | 3 => ("KiteSummons$Plans", "first", "[I", true)
  | 4 => ("KiteSummons$Plans", "length", "I", false)
  | 5 => ("KiteSummons$Plans", "mostWorth", "I", false)
  | 6 => ("KiteSummons$Plans", "ways", "I", false)
  | 7 => ("KiteSummons$Plans", "fewestTold", "I", false)
  | 8 => ("KiteSummons$Plans", "wanted", "I", false)
  | 9 => ("KiteSummons$Plans", "servedBySome", "I", false)
  | _ => ("KiteSummons$Plans", "firstPlay", "I", false)
def tyX6 : Nat → FieldType := fun k => match k with
  | 0 => .object "KiteSummons$County"
  | 1 => .array (.object "KiteSummons$Sky")
  | 2 => .array .int
  | 3 => .array .int
  | 4 => .int
  | 5 => .int
  | 6 => .int
  | 7 => .int
  | 8 => .int
  | 9 => .int
  | _ => .int
theorem nmX6 : ∀ a, a < 11 → ∀ b, b < 11 → a ≠ b → (TX6 a).2.1 ≠ (TX6 b).2.1 := by decide +kernel
theorem tyX6_ok : ∀ k, k < 11 → parseFieldDescriptor (TX6 k).2.2.1 = some (tyX6 k) := by decide +kernel
abbrev cX6_init : ByteArray := prog_8_method_1_code
def yX6_init : MethodName := ⟨RX6, "<init>", "(LKiteSummons$County;)V"⟩
abbrev cX6_search : ByteArray := prog_8_method_2_code
def yX6_search : MethodName := ⟨RX6, "search", "(II)V"⟩
abbrev cX6_extend : ByteArray := prog_8_method_3_code
def yX6_extend : MethodName := ⟨RX6, "extend", "(IIII)V"⟩
abbrev cX6_weigh : ByteArray := prog_8_method_4_code
def yX6_weigh : MethodName := ⟨RX6, "weigh", "(III)V"⟩
abbrev cX6_valueOfGame : ByteArray := prog_8_method_5_code
def yX6_valueOfGame : MethodName := ⟨RX6, "valueOfGame", "(I)I"⟩
abbrev cX6_valueFrom : ByteArray := prog_8_method_6_code
def yX6_valueFrom : MethodName := ⟨RX6, "valueFrom", "(II)I"⟩
def RX7 : String := "KiteSummons$Red"
def TX7 : u_T := fun k => match k with
  | 0 => ("KiteSummons$Kite", "bodies", "[I", true)
  | 1 => ("KiteSummons$Kite", "n", "I", false)
  | 2 => ("KiteSummons$Kite", "a", "I", false)
  | 3 => ("KiteSummons$Kite", "begun", "I", false)
  | _ => ("KiteSummons$Kite", "isPartedBy0", "Z", false)
def tyX7 : Nat → FieldType := fun k => match k with
  | 0 => .array .int
  | 1 => .int
  | 2 => .int
  | 3 => .int
  | _ => .boolean
theorem nmX7 : ∀ a, a < 5 → ∀ b, b < 5 → a ≠ b → (TX7 a).2.1 ≠ (TX7 b).2.1 := by decide +kernel
theorem tyX7_ok : ∀ k, k < 5 → parseFieldDescriptor (TX7 k).2.2.1 = some (tyX7 k) := by decide +kernel
abbrev cX7_init : ByteArray := prog_9_method_1_code
def yX7_init : MethodName := ⟨RX7, "<init>", "([I)V"⟩
abbrev cX7_drifts : ByteArray := prog_9_method_2_code
def yX7_drifts : MethodName := ⟨RX7, "drifts", "(II)I"⟩
abbrev cX7_fee : ByteArray := prog_9_method_3_code
def yX7_fee : MethodName := ⟨RX7, "fee", "(I)I"⟩
abbrev cX7_flies : ByteArray := prog_9_method_4_code
def yX7_flies : MethodName := ⟨RX7, "flies", "(I)I"⟩
def RX8 : String := "KiteSummons$RuleReader"
def TX8 : u_T := fun k => match k with
  | 0 => ("KiteSummons$RuleReader", "length", "I", false)
  | 1 => ("KiteSummons$RuleReader", "tape", "[B", true)
  | 2 => ("KiteSummons$RuleReader", "tokens", "[I", true)
  | 3 => ("KiteSummons$RuleReader", "starts", "[I", true)
  | 4 => ("KiteSummons$RuleReader", "last", "I", false)
  | 5 => ("KiteSummons$RuleReader", "next", "I", false)
  | 6 => ("KiteSummons$RuleReader", "fault", "I", false)
  | _ => ("KiteSummons$RuleReader", "draft", "LKiteSummons$Rules;", true)
def tyX8 : Nat → FieldType := fun k => match k with
  | 0 => .int
  | 1 => .array .byte
  | 2 => .array .int
  | 3 => .array .int
  | 4 => .int
  | 5 => .int
  | 6 => .int
  | _ => .object "KiteSummons$Rules"
theorem nmX8 : ∀ a, a < 8 → ∀ b, b < 8 → a ≠ b → (TX8 a).2.1 ≠ (TX8 b).2.1 := by decide +kernel
theorem tyX8_ok : ∀ k, k < 8 → parseFieldDescriptor (TX8 k).2.2.1 = some (tyX8 k) := by decide +kernel
abbrev cX8_init : ByteArray := prog_10_method_1_code
def yX8_init : MethodName := ⟨RX8, "<init>", "()V"⟩
abbrev cX8_take : ByteArray := prog_10_method_2_code
def yX8_take : MethodName := ⟨RX8, "take", "(JI)I"⟩
abbrev cX8_readInto : ByteArray := prog_10_method_3_code
def yX8_readInto : MethodName := ⟨RX8, "readInto", "(LKiteSummons$Rules;)I"⟩
abbrev cX8_readTokens : ByteArray := prog_10_method_4_code
def yX8_readTokens : MethodName := ⟨RX8, "readTokens", "()V"⟩
abbrev cX8_isOneRow : ByteArray := prog_10_method_5_code
def yX8_isOneRow : MethodName := ⟨RX8, "isOneRow", "(II)Z"⟩
abbrev cX8_endOfRow : ByteArray := prog_10_method_6_code
def yX8_endOfRow : MethodName := ⟨RX8, "endOfRow", "(I)I"⟩
abbrev cX8_isLetter : ByteArray := prog_10_method_7_code
def yX8_isLetter : MethodName := ⟨RX8, "isLetter", "(I)Z"⟩
abbrev cX8_isDigit : ByteArray := prog_10_method_8_code
def yX8_isDigit : MethodName := ⟨RX8, "isDigit", "(I)Z"⟩
abbrev cX8_tokenOf : ByteArray := prog_10_method_9_code
def yX8_tokenOf : MethodName := ⟨RX8, "tokenOf", "(II)I"⟩
abbrev cX8_wordOf : ByteArray := prog_10_method_10_code
def yX8_wordOf : MethodName := ⟨RX8, "wordOf", "(II)I"⟩
abbrev cX8_numberOf : ByteArray := prog_10_method_11_code
def yX8_numberOf : MethodName := ⟨RX8, "numberOf", "(II)I"⟩
abbrev cX8_isStill : ByteArray := prog_10_method_12_code
def yX8_isStill : MethodName := ⟨RX8, "isStill", "()Z"⟩
abbrev cX8_token : ByteArray := prog_10_method_13_code
def yX8_token : MethodName := ⟨RX8, "token", "()I"⟩
abbrev cX8_pass : ByteArray := prog_10_method_14_code
def yX8_pass : MethodName := ⟨RX8, "pass", "(Z)V"⟩
abbrev cX8_readRule : ByteArray := prog_10_method_15_code
def yX8_readRule : MethodName := ⟨RX8, "readRule", "()V"⟩
abbrev cX8_readAny : ByteArray := prog_10_method_16_code
def yX8_readAny : MethodName := ⟨RX8, "readAny", "(I)V"⟩
abbrev cX8_readAll : ByteArray := prog_10_method_17_code
def yX8_readAll : MethodName := ⟨RX8, "readAll", "(I)V"⟩
abbrev cX8_readOne : ByteArray := prog_10_method_18_code
def yX8_readOne : MethodName := ⟨RX8, "readOne", "(I)V"⟩
abbrev cX8_readComparison : ByteArray := prog_10_method_19_code
def yX8_readComparison : MethodName := ⟨RX8, "readComparison", "()V"⟩
abbrev cX8_isValue : ByteArray := prog_10_method_20_code
def yX8_isValue : MethodName := ⟨RX8, "isValue", "(I)Z"⟩
abbrev cX8_operandOf : ByteArray := prog_10_method_21_code
def yX8_operandOf : MethodName := ⟨RX8, "operandOf", "(I)I"⟩
def RX9 : String := "KiteSummons$Rules"
def TX9 : u_T := fun k => match k with
  | 0 => ("KiteSummons$Rules", "count", "I", false)
  | 1 => ("KiteSummons$Rules", "codeLength", "I", false)
  | 2 => ("KiteSummons$Rules", "kind", "[I", true)
  | 3 => ("KiteSummons$Rules", "doing", "[I", true)
  | 4 => ("KiteSummons$Rules", "from", "[I", true)
  | 5 => ("KiteSummons$Rules", "to", "[I", true)
  | 6 => ("KiteSummons$Rules", "code", "[I", true)
  | _ => ("KiteSummons$Rules", "facts", "[I", true)
def tyX9 : Nat → FieldType := fun k => match k with
  | 0 => .int
  | 1 => .int
  | 2 => .array .int
  | 3 => .array .int
  | 4 => .array .int
  | 5 => .array .int
  | 6 => .array .int
  | _ => .array .int
theorem nmX9 : ∀ a, a < 8 → ∀ b, b < 8 → a ≠ b → (TX9 a).2.1 ≠ (TX9 b).2.1 := by decide +kernel
theorem tyX9_ok : ∀ k, k < 8 → parseFieldDescriptor (TX9 k).2.2.1 = some (tyX9 k) := by decide +kernel
abbrev cX9_init : ByteArray := prog_11_method_1_code
def yX9_init : MethodName := ⟨RX9, "<init>", "()V"⟩
abbrev cX9_clear : ByteArray := prog_11_method_2_code
def yX9_clear : MethodName := ⟨RX9, "clear", "()V"⟩
abbrev cX9_copy : ByteArray := prog_11_method_3_code
def yX9_copy : MethodName := ⟨RX9, "copy", "(LKiteSummons$Rules;)V"⟩
abbrev cX9_addCode : ByteArray := prog_11_method_4_code
def yX9_addCode : MethodName := ⟨RX9, "addCode", "(I)V"⟩
abbrev cX9_addRule : ByteArray := prog_11_method_5_code
def yX9_addRule : MethodName := ⟨RX9, "addRule", "(III)V"⟩
abbrev cX9_doFor : ByteArray := prog_11_method_6_code
def yX9_doFor : MethodName := ⟨RX9, "doFor", "(I)I"⟩
abbrev cX9_isSo : ByteArray := prog_11_method_7_code
def yX9_isSo : MethodName := ⟨RX9, "isSo", "(I)Z"⟩
abbrev cX9_compares : ByteArray := prog_11_method_8_code
def yX9_compares : MethodName := ⟨RX9, "compares", "(III)Z"⟩
def RX10 : String := "KiteSummons$Sky"
def TX10 : u_T := fun k => match k with
  | 0 => ("KiteSummons$Sky", "gust", "I", false)
  | 1 => ("KiteSummons$Sky", "score", "I", false)
  | 2 => ("KiteSummons$Sky", "aloft", "I", false)
  | 3 => ("KiteSummons$Sky", "served", "I", false)
  | 4 => ("KiteSummons$Sky", "at", "[I", true)
  | _ => ("KiteSummons$Sky", "string", "[I", true)
def tyX10 : Nat → FieldType := fun k => match k with
  | 0 => .int
  | 1 => .int
  | 2 => .int
  | 3 => .int
  | 4 => .array .int
  | _ => .array .int
theorem nmX10 : ∀ a, a < 6 → ∀ b, b < 6 → a ≠ b → (TX10 a).2.1 ≠ (TX10 b).2.1 := by decide +kernel
theorem tyX10_ok : ∀ k, k < 6 → parseFieldDescriptor (TX10 k).2.2.1 = some (tyX10 k) := by decide +kernel
abbrev cX10_init : ByteArray := prog_12_method_1_code
def yX10_init : MethodName := ⟨RX10, "<init>", "()V"⟩
abbrev cX10_copy : ByteArray := prog_12_method_2_code
def yX10_copy : MethodName := ⟨RX10, "copy", "(LKiteSummons$Sky;)V"⟩
def RX11 : String := "KiteSummons"
def TX11 : u_T := fun k => match k with
  | 0 => ("KiteSummons", "bodies", "[I", true)
  | 1 => ("KiteSummons", "kinds", "[LKiteSummons$Kite;", true)
  | 2 => ("KiteSummons", "county", "LKiteSummons$County;", true)
  | 3 => ("KiteSummons", "kept", "LKiteSummons$County;", true)
  | 4 => ("KiteSummons", "reader", "LKiteSummons$RuleReader;", true)
  | 5 => ("KiteSummons", "plans", "LKiteSummons$Plans;", true)
  | 6 => ("KiteSummons", "trial", "LKiteSummons$Sky;", true)
  | 7 => ("KiteSummons", "rows", "[[I", true)
  | 8 => ("KiteSummons", "items", "[[J", true)
  | 9 => ("KiteSummons", "sorts", "[I", true)
  | 10 => ("KiteSummons", "sizes", "[I", true)
  | 11 => ("KiteSummons", "holds", "[I", true)
  | 12 => ("KiteSummons", "held", "[I", true)
  | 13 => ("KiteSummons", "heldItems", "[I", true)
  | 14 => ("KiteSummons", "isKept", "Z", false)
  | 15 => ("KiteSummons", "rowCount", "I", false)
  | _ => ("KiteSummons", "traced", "I", false)
def tyX11 : Nat → FieldType := fun k => match k with
  | 0 => .array .int
  | 1 => .array (.object "KiteSummons$Kite")
  | 2 => .object "KiteSummons$County"
  | 3 => .object "KiteSummons$County"
  | 4 => .object "KiteSummons$RuleReader"
  | 5 => .object "KiteSummons$Plans"
  | 6 => .object "KiteSummons$Sky"
  | 7 => .array (.array .int)
  | 8 => .array (.array .long)
  | 9 => .array .int
  | 10 => .array .int
  | 11 => .array .int
  | 12 => .array .int
  | 13 => .array .int
  | 14 => .boolean
  | 15 => .int
  | _ => .int
theorem nmX11 : ∀ a, a < 17 → ∀ b, b < 17 → a ≠ b → (TX11 a).2.1 ≠ (TX11 b).2.1 := by decide +kernel
theorem tyX11_ok : ∀ k, k < 17 → parseFieldDescriptor (TX11 k).2.2.1 = some (tyX11 k) := by decide +kernel
abbrev cX11_init : ByteArray := prog_1_method_1_code
def yX11_init : MethodName := ⟨RX11, "<init>", "()V"⟩
abbrev cX11_kite : ByteArray := prog_1_method_2_code
def yX11_kite : MethodName := ⟨RX11, "kite", "(IIII)I"⟩
abbrev cX11_kiteOf : ByteArray := prog_1_method_3_code
def yX11_kiteOf : MethodName := ⟨RX11, "kiteOf", "(II)I"⟩
abbrev cX11_change : ByteArray := prog_1_method_4_code
def yX11_change : MethodName := ⟨RX11, "change", "(III)I"⟩
abbrev cX11_mostOf : ByteArray := prog_1_method_5_code
def yX11_mostOf : MethodName := ⟨RX11, "mostOf", "(I)I"⟩
abbrev cX11_remake : ByteArray := prog_1_method_6_code
def yX11_remake : MethodName := ⟨RX11, "remake", "(II)I"⟩
abbrev cX11_wind : ByteArray := prog_1_method_7_code
def yX11_wind : MethodName := ⟨RX11, "wind", "(II)I"⟩
abbrev cX11_farm : ByteArray := prog_1_method_8_code
def yX11_farm : MethodName := ⟨RX11, "farm", "(III)I"⟩
abbrev cX11_farmOf : ByteArray := prog_1_method_9_code
def yX11_farmOf : MethodName := ⟨RX11, "farmOf", "(II)I"⟩
abbrev cX11_ends : ByteArray := prog_1_method_10_code
def yX11_ends : MethodName := ⟨RX11, "ends", "(I)I"⟩
abbrev cX11_anew : ByteArray := prog_1_method_11_code
def yX11_anew : MethodName := ⟨RX11, "anew", "()I"⟩
abbrev cX11_state : ByteArray := prog_1_method_12_code
def yX11_state : MethodName := ⟨RX11, "state", "(I)I"⟩
abbrev cX11_feed : ByteArray := prog_1_method_13_code
def yX11_feed : MethodName := ⟨RX11, "feed", "(JI)I"⟩
abbrev cX11_rules : ByteArray := prog_1_method_14_code
def yX11_rules : MethodName := ⟨RX11, "rules", "()I"⟩
abbrev cX11_gust : ByteArray := prog_1_method_15_code
def yX11_gust : MethodName := ⟨RX11, "gust", "()I"⟩
abbrev cX11_on : ByteArray := prog_1_method_16_code
def yX11_on : MethodName := ⟨RX11, "on", "(I)I"⟩
abbrev cX11_worthOfRest : ByteArray := prog_1_method_17_code
def yX11_worthOfRest : MethodName := ⟨RX11, "worthOfRest", "(I)I"⟩
abbrev cX11_worthOnTrial : ByteArray := prog_1_method_18_code
def yX11_worthOnTrial : MethodName := ⟨RX11, "worthOnTrial", "(I)I"⟩
abbrev cX11_when : ByteArray := prog_1_method_19_code
def yX11_when : MethodName := ⟨RX11, "when", "(I)I"⟩
abbrev cX11_stringFor : ByteArray := prog_1_method_20_code
def yX11_stringFor : MethodName := ⟨RX11, "stringFor", "(I)I"⟩
abbrev cX11_nameFor : ByteArray := prog_1_method_21_code
def yX11_nameFor : MethodName := ⟨RX11, "nameFor", "(I)I"⟩
abbrev cX11_over : ByteArray := prog_1_method_22_code
def yX11_over : MethodName := ⟨RX11, "over", "(I)I"⟩
abbrev cX11_cases : ByteArray := prog_1_method_23_code
def yX11_cases : MethodName := ⟨RX11, "cases", "(I)I"⟩
abbrev cX11_circuit : ByteArray := prog_1_method_24_code
def yX11_circuit : MethodName := ⟨RX11, "circuit", "(II)I"⟩
abbrev cX11_fewestSteps : ByteArray := prog_1_method_25_code
def yX11_fewestSteps : MethodName := ⟨RX11, "fewestSteps", "(II)I"⟩
abbrev cX11_firstOnCircuit : ByteArray := prog_1_method_26_code
def yX11_firstOnCircuit : MethodName := ⟨RX11, "firstOnCircuit", "(III)I"⟩
abbrev cX11_best : ByteArray := prog_1_method_27_code
def yX11_best : MethodName := ⟨RX11, "best", "(I)I"⟩
abbrev cX11_ith : ByteArray := prog_1_method_28_code
def yX11_ith : MethodName := ⟨RX11, "ith", "(II)I"⟩
abbrev cX11_ways : ByteArray := prog_1_method_29_code
def yX11_ways : MethodName := ⟨RX11, "ways", "(I)I"⟩
abbrev cX11_writ : ByteArray := prog_1_method_30_code
def yX11_writ : MethodName := ⟨RX11, "writ", "(II)I"⟩
abbrev cX11_bars : ByteArray := prog_1_method_31_code
def yX11_bars : MethodName := ⟨RX11, "bars", "(II)I"⟩
abbrev cX11_game : ByteArray := prog_1_method_32_code
def yX11_game : MethodName := ⟨RX11, "game", "(I)I"⟩
abbrev cX11_play : ByteArray := prog_1_method_33_code
def yX11_play : MethodName := ⟨RX11, "play", "(I)I"⟩
abbrev cX11_report : ByteArray := prog_1_method_34_code
def yX11_report : MethodName := ⟨RX11, "report", "(IIII)I"⟩
abbrev cX11_forget : ByteArray := prog_1_method_35_code
def yX11_forget : MethodName := ⟨RX11, "forget", "()I"⟩
abbrev cX11_span : ByteArray := prog_1_method_36_code
def yX11_span : MethodName := ⟨RX11, "span", "(I)I"⟩
abbrev cX11_liar : ByteArray := prog_1_method_37_code
def yX11_liar : MethodName := ⟨RX11, "liar", "()I"⟩
abbrev cX11_seed : ByteArray := prog_1_method_38_code
def yX11_seed : MethodName := ⟨RX11, "seed", "(I)I"⟩
abbrev cX11_lot : ByteArray := prog_1_method_39_code
def yX11_lot : MethodName := ⟨RX11, "lot", "()I"⟩
abbrev cX11_nextLot : ByteArray := prog_1_method_40_code
def yX11_nextLot : MethodName := ⟨RX11, "nextLot", "(I)I"⟩
abbrev cX11_times : ByteArray := prog_1_method_41_code
def yX11_times : MethodName := ⟨RX11, "times", "(II)I"⟩
abbrev cX11_prove : ByteArray := prog_1_method_42_code
def yX11_prove : MethodName := ⟨RX11, "prove", "(I)I"⟩
abbrev cX11_row : ByteArray := prog_1_method_43_code
def yX11_row : MethodName := ⟨RX11, "row", "(II)I"⟩
abbrev cX11_alterRow : ByteArray := prog_1_method_44_code
def yX11_alterRow : MethodName := ⟨RX11, "alterRow", "(III)I"⟩
abbrev cX11_isInRows : ByteArray := prog_1_method_45_code
def yX11_isInRows : MethodName := ⟨RX11, "isInRows", "(II)Z"⟩
abbrev cX11_judge : ByteArray := prog_1_method_46_code
def yX11_judge : MethodName := ⟨RX11, "judge", "()I"⟩
abbrev cX11_isRightOnTrial : ByteArray := prog_1_method_47_code
def yX11_isRightOnTrial : MethodName := ⟨RX11, "isRightOnTrial", "([I)Z"⟩
abbrev cX11_sheet : ByteArray := prog_1_method_48_code
def yX11_sheet : MethodName := ⟨RX11, "sheet", "(III)I"⟩
abbrev cX11_write : ByteArray := prog_1_method_49_code
def yX11_write : MethodName := ⟨RX11, "write", "(III)I"⟩
abbrev cX11_narrowed : ByteArray := prog_1_method_50_code
def yX11_narrowed : MethodName := ⟨RX11, "narrowed", "(II)J"⟩
abbrev cX11_item : ByteArray := prog_1_method_51_code
def yX11_item : MethodName := ⟨RX11, "item", "(III)I"⟩
abbrev cX11_refusalAs : ByteArray := prog_1_method_52_code
def yX11_refusalAs : MethodName := ⟨RX11, "refusalAs", "(II)I"⟩
abbrev cX11_goAll : ByteArray := prog_1_method_53_code
def yX11_goAll : MethodName := ⟨RX11, "goAll", "(III)I"⟩
abbrev cX11_wouldBe : ByteArray := prog_1_method_54_code
def yX11_wouldBe : MethodName := ⟨RX11, "wouldBe", "(III)I"⟩
abbrev cX11_shelf : ByteArray := prog_1_method_55_code
def yX11_shelf : MethodName := ⟨RX11, "shelf", "(III)I"⟩
abbrev cX11_putRowOn : ByteArray := prog_1_method_56_code
def yX11_putRowOn : MethodName := ⟨RX11, "putRowOn", "(II)I"⟩
abbrev cX11_putOn : ByteArray := prog_1_method_57_code
def yX11_putOn : MethodName := ⟨RX11, "putOn", "(IIII)I"⟩
abbrev cX11_taken : ByteArray := prog_1_method_58_code
def yX11_taken : MethodName := ⟨RX11, "taken", "(II)I"⟩
abbrev cX11_holdsKite : ByteArray := prog_1_method_59_code
def yX11_holdsKite : MethodName := ⟨RX11, "holdsKite", "(I)Z"⟩
abbrev cX11_act : ByteArray := prog_1_method_60_code
def yX11_act : MethodName := ⟨RX11, "act", "(III)I"⟩
abbrev cX11_trace : ByteArray := prog_1_method_61_code
def yX11_trace : MethodName := ⟨RX11, "trace", "(I)I"⟩
abbrev cX11_many : ByteArray := prog_1_method_62_code
def yX11_many : MethodName := ⟨RX11, "many", "(I)I"⟩
abbrev cX11_keep : ByteArray := prog_1_method_63_code
def yX11_keep : MethodName := ⟨RX11, "keep", "()I"⟩
abbrev cX11_again : ByteArray := prog_1_method_64_code
def yX11_again : MethodName := ⟨RX11, "again", "()I"⟩
abbrev cX11_isKite : ByteArray := prog_1_method_65_code
def yX11_isKite : MethodName := ⟨RX11, "isKite", "(I)Z"⟩
abbrev cX11_isPlanLength : ByteArray := prog_1_method_66_code
def yX11_isPlanLength : MethodName := ⟨RX11, "isPlanLength", "(I)Z"⟩
abbrev cX11_isSheet : ByteArray := prog_1_method_67_code
def yX11_isSheet : MethodName := ⟨RX11, "isSheet", "(I)Z"⟩
abbrev cX11_isShelf : ByteArray := prog_1_method_68_code
def yX11_isShelf : MethodName := ⟨RX11, "isShelf", "(I)Z"⟩
abbrev cX11_within : ByteArray := prog_1_method_69_code
def yX11_within : MethodName := ⟨RX11, "within", "(III)Z"⟩
abbrev cX11_isIn : ByteArray := prog_1_method_70_code
def yX11_isIn : MethodName := ⟨RX11, "isIn", "(II)Z"⟩
abbrev cX11_withBit : ByteArray := prog_1_method_71_code
def yX11_withBit : MethodName := ⟨RX11, "withBit", "(III)I"⟩
abbrev cX11_isOrUnder : ByteArray := prog_1_method_72_code
def yX11_isOrUnder : MethodName := ⟨RX11, "isOrUnder", "(II)Z"⟩
abbrev cX11_far : ByteArray := prog_1_method_73_code
def yX11_far : MethodName := ⟨RX11, "far", "(II)I"⟩
abbrev cX11_room : ByteArray := prog_1_method_74_code
def yX11_room : MethodName := ⟨RX11, "room", "(II)I"⟩
abbrev cX11_step : ByteArray := prog_1_method_75_code
def yX11_step : MethodName := ⟨RX11, "step", "(I)I"⟩
def RX12 : String := "KiteSummonsModel"
def TX12 : u_T := fun k => match k with
  | 0 => ("KiteSummonsModel", "s", "[I", true)
  | 1 => ("KiteSummonsModel", "kept", "[I", true)
  | 2 => ("KiteSummonsModel", "other", "[I", true)
  | 3 => ("KiteSummonsModel", "isKept", "Z", false)
  | 4 => ("KiteSummonsModel", "stack", "[I", true)
  | 5 => ("KiteSummonsModel", "saved", "[I", true)
  | 6 => ("KiteSummonsModel", "line", "[I", true)
  | 7 => ("KiteSummonsModel", "first", "[I", true)
  | 8 => ("KiteSummonsModel", "most", "I", false)
  | 9 => ("KiteSummonsModel", "bestMany", "I", false)
  | 10 => ("KiteSummonsModel", "fewest", "I", false)
  | 11 => ("KiteSummonsModel", "servedEver", "I", false)
  | 12 => ("KiteSummonsModel", "asked", "I", false)
  | 13 => ("KiteSummonsModel", "longOf", "I", false)
  | 14 => ("KiteSummonsModel", "bestAct", "I", false)
  | 15 => ("KiteSummonsModel", "fitMany", "I", false)
  | 16 => ("KiteSummonsModel", "fitKind", "I", false)
  | 17 => ("KiteSummonsModel", "fitCell", "I", false)
  | 18 => ("KiteSummonsModel", "rows", "[I", true)
  | 19 => ("KiteSummonsModel", "rowMany", "I", false)
  | 20 => ("KiteSummonsModel", "tape", "[I", true)
  | 21 => ("KiteSummonsModel", "taped", "I", false)
  | 22 => ("KiteSummonsModel", "from", "I", false)
  | 23 => ("KiteSummonsModel", "to", "I", false)
  | 24 => ("KiteSummonsModel", "value", "I", false)
  | 25 => ("KiteSummonsModel", "open", "I", false)
  | 26 => ("KiteSummonsModel", "coded", "I", false)
  | 27 => ("KiteSummonsModel", "isWrong", "Z", false)
  | 28 => ("KiteSummonsModel", "sortOf", "[I", true)
  | 29 => ("KiteSummonsModel", "sizes", "[I", true)
  | 30 => ("KiteSummonsModel", "items", "[I", true)
  | 31 => ("KiteSummonsModel", "lies", "[I", true)
  | 32 => ("KiteSummonsModel", "liesNumber", "[I", true)
  | 33 => ("KiteSummonsModel", "liesSort", "[I", true)
  | 34 => ("KiteSummonsModel", "ran", "[I", true)
  | 35 => ("KiteSummonsModel", "bodies", "I", false)
  | 36 => ("KiteSummonsModel", "acting", "I", false)
  | 37 => ("KiteSummonsModel", "about", "I", false)
  | 38 => ("KiteSummonsModel", "kindActing", "I", false)
  | _ => ("KiteSummonsModel", "isParted", "Z", false)
def tyX12 : Nat → FieldType := fun k => match k with
  | 0 => .array .int
  | 1 => .array .int
  | 2 => .array .int
  | 3 => .boolean
  | 4 => .array .int
  | 5 => .array .int
  | 6 => .array .int
  | 7 => .array .int
  | 8 => .int
  | 9 => .int
  | 10 => .int
  | 11 => .int
  | 12 => .int
  | 13 => .int
  | 14 => .int
  | 15 => .int
  | 16 => .int
  | 17 => .int
  | 18 => .array .int
  | 19 => .int
  | 20 => .array .int
  | 21 => .int
  | 22 => .int
  | 23 => .int
  | 24 => .int
  | 25 => .int
  | 26 => .int
  | 27 => .boolean
  | 28 => .array .int
  | 29 => .array .int
  | 30 => .array .int
  | 31 => .array .int
  | 32 => .array .int
  | 33 => .array .int
  | 34 => .array .int
  | 35 => .int
  | 36 => .int
  | 37 => .int
  | 38 => .int
  | _ => .boolean
theorem nmX12 : ∀ a, a < 40 → ∀ b, b < 40 → a ≠ b → (TX12 a).2.1 ≠ (TX12 b).2.1 := by decide +kernel
theorem tyX12_ok : ∀ k, k < 40 → parseFieldDescriptor (TX12 k).2.2.1 = some (tyX12 k) := by decide +kernel
abbrev cX12_init : ByteArray := prog_14_method_1_code
def yX12_init : MethodName := ⟨RX12, "<init>", "()V"⟩
abbrev cX12_in : ByteArray := prog_14_method_2_code
def yX12_in : MethodName := ⟨RX12, "in", "(JJJ)Z"⟩
abbrev cX12_isKite : ByteArray := prog_14_method_3_code
def yX12_isKite : MethodName := ⟨RX12, "isKite", "(I)Z"⟩
abbrev cX12_areKites : ByteArray := prog_14_method_4_code
def yX12_areKites : MethodName := ⟨RX12, "areKites", "(I)Z"⟩
abbrev cX12_puts : ByteArray := prog_14_method_5_code
def yX12_puts : MethodName := ⟨RX12, "puts", "()V"⟩
abbrev cX12_putsBack : ByteArray := prog_14_method_6_code
def yX12_putsBack : MethodName := ⟨RX12, "putsBack", "()V"⟩
abbrev cX12_becomes : ByteArray := prog_14_method_7_code
def yX12_becomes : MethodName := ⟨RX12, "becomes", "(II)I"⟩
abbrev cX12_at : ByteArray := prog_14_method_8_code
def yX12_at : MethodName := ⟨RX12, "at", "(II)I"⟩
abbrev cX12_its : ByteArray := prog_14_method_9_code
def yX12_its : MethodName := ⟨RX12, "its", "(II)I"⟩
abbrev cX12_isKind : ByteArray := prog_14_method_10_code
def yX12_isKind : MethodName := ⟨RX12, "isKind", "(I)Z"⟩
abbrev cX12_isCell : ByteArray := prog_14_method_11_code
def yX12_isCell : MethodName := ⟨RX12, "isCell", "(I)Z"⟩
abbrev cX12_isFarm : ByteArray := prog_14_method_12_code
def yX12_isFarm : MethodName := ⟨RX12, "isFarm", "(I)Z"⟩
abbrev cX12_isPart : ByteArray := prog_14_method_13_code
def yX12_isPart : MethodName := ⟨RX12, "isPart", "(II)Z"⟩
abbrev cX12_kite : ByteArray := prog_14_method_14_code
def yX12_kite : MethodName := ⟨RX12, "kite", "(IIII)I"⟩
abbrev cX12_driftOf : ByteArray := prog_14_method_15_code
def yX12_driftOf : MethodName := ⟨RX12, "driftOf", "(III)I"⟩
abbrev cX12_windNow : ByteArray := prog_14_method_16_code
def yX12_windNow : MethodName := ⟨RX12, "windNow", "()I"⟩
abbrev cX12_drifts : ByteArray := prog_14_method_17_code
def yX12_drifts : MethodName := ⟨RX12, "drifts", "(I)I"⟩
abbrev cX12_fee : ByteArray := prog_14_method_18_code
def yX12_fee : MethodName := ⟨RX12, "fee", "(I)I"⟩
abbrev cX12_distance : ByteArray := prog_14_method_19_code
def yX12_distance : MethodName := ⟨RX12, "distance", "(II)I"⟩
abbrev cX12_far : ByteArray := prog_14_method_20_code
def yX12_far : MethodName := ⟨RX12, "far", "(II)I"⟩
abbrev cX12_farOf : ByteArray := prog_14_method_21_code
def yX12_farOf : MethodName := ⟨RX12, "farOf", "(I)I"⟩
abbrev cX12_isReached : ByteArray := prog_14_method_22_code
def yX12_isReached : MethodName := ⟨RX12, "isReached", "(I)Z"⟩
abbrev cX12_kiteOf : ByteArray := prog_14_method_23_code
def yX12_kiteOf : MethodName := ⟨RX12, "kiteOf", "(II)I"⟩
abbrev cX12_change : ByteArray := prog_14_method_24_code
def yX12_change : MethodName := ⟨RX12, "change", "(III)I"⟩
abbrev cX12_remake : ByteArray := prog_14_method_25_code
def yX12_remake : MethodName := ⟨RX12, "remake", "(II)I"⟩
abbrev cX12_isGust : ByteArray := prog_14_method_26_code
def yX12_isGust : MethodName := ⟨RX12, "isGust", "(I)Z"⟩
abbrev cX12_wind : ByteArray := prog_14_method_27_code
def yX12_wind : MethodName := ⟨RX12, "wind", "(II)I"⟩
abbrev cX12_farm : ByteArray := prog_14_method_28_code
def yX12_farm : MethodName := ⟨RX12, "farm", "(III)I"⟩
abbrev cX12_farmOf : ByteArray := prog_14_method_29_code
def yX12_farmOf : MethodName := ⟨RX12, "farmOf", "(II)I"⟩
abbrev cX12_ends : ByteArray := prog_14_method_30_code
def yX12_ends : MethodName := ⟨RX12, "ends", "(I)I"⟩
abbrev cX12_anew : ByteArray := prog_14_method_31_code
def yX12_anew : MethodName := ⟨RX12, "anew", "()I"⟩
abbrev cX12_isOver : ByteArray := prog_14_method_32_code
def yX12_isOver : MethodName := ⟨RX12, "isOver", "()Z"⟩
abbrev cX12_those : ByteArray := prog_14_method_33_code
def yX12_those : MethodName := ⟨RX12, "those", "(I)I"⟩
abbrev cX12_state : ByteArray := prog_14_method_34_code
def yX12_state : MethodName := ⟨RX12, "state", "(I)I"⟩
abbrev cX12_isUnder : ByteArray := prog_14_method_35_code
def yX12_isUnder : MethodName := ⟨RX12, "isUnder", "(II)Z"⟩
abbrev cX12_fact : ByteArray := prog_14_method_36_code
def yX12_fact : MethodName := ⟨RX12, "fact", "(II)I"⟩
abbrev cX12_isHolding : ByteArray := prog_14_method_37_code
def yX12_isHolding : MethodName := ⟨RX12, "isHolding", "(III)Z"⟩
abbrev cX12_isSo : ByteArray := prog_14_method_38_code
def yX12_isSo : MethodName := ⟨RX12, "isSo", "(III)Z"⟩
abbrev cX12_will : ByteArray := prog_14_method_39_code
def yX12_will : MethodName := ⟨RX12, "will", "(I)I"⟩
abbrev cX12_room : ByteArray := prog_14_method_40_code
def yX12_room : MethodName := ⟨RX12, "room", "(III)I"⟩
abbrev cX12_moved : ByteArray := prog_14_method_41_code
def yX12_moved : MethodName := ⟨RX12, "moved", "(III)I"⟩
abbrev cX12_blows : ByteArray := prog_14_method_42_code
def yX12_blows : MethodName := ⟨RX12, "blows", "()V"⟩
abbrev cX12_chosen : ByteArray := prog_14_method_43_code
def yX12_chosen : MethodName := ⟨RX12, "chosen", "()I"⟩
abbrev cX12_isTold : ByteArray := prog_14_method_44_code
def yX12_isTold : MethodName := ⟨RX12, "isTold", "(I)I"⟩
abbrev cX12_goes : ByteArray := prog_14_method_45_code
def yX12_goes : MethodName := ⟨RX12, "goes", "(I)I"⟩
abbrev cX12_gust : ByteArray := prog_14_method_46_code
def yX12_gust : MethodName := ⟨RX12, "gust", "()I"⟩
abbrev cX12_rest : ByteArray := prog_14_method_47_code
def yX12_rest : MethodName := ⟨RX12, "rest", "(I)I"⟩
abbrev cX12_restTried : ByteArray := prog_14_method_48_code
def yX12_restTried : MethodName := ⟨RX12, "restTried", "(I)I"⟩
abbrev cX12_on : ByteArray := prog_14_method_49_code
def yX12_on : MethodName := ⟨RX12, "on", "(I)I"⟩
abbrev cX12_when : ByteArray := prog_14_method_50_code
def yX12_when : MethodName := ⟨RX12, "when", "(I)I"⟩
abbrev cX12_mostFor : ByteArray := prog_14_method_51_code
def yX12_mostFor : MethodName := ⟨RX12, "mostFor", "(II)I"⟩
abbrev cX12_stringFor : ByteArray := prog_14_method_52_code
def yX12_stringFor : MethodName := ⟨RX12, "stringFor", "(I)I"⟩
abbrev cX12_nameFor : ByteArray := prog_14_method_53_code
def yX12_nameFor : MethodName := ⟨RX12, "nameFor", "(I)I"⟩
abbrev cX12_over : ByteArray := prog_14_method_54_code
def yX12_over : MethodName := ⟨RX12, "over", "(I)I"⟩
abbrev cX12_areTangled : ByteArray := prog_14_method_55_code
def yX12_areTangled : MethodName := ⟨RX12, "areTangled", "(II)Z"⟩
abbrev cX12_caseOf : ByteArray := prog_14_method_56_code
def yX12_caseOf : MethodName := ⟨RX12, "caseOf", "(I)I"⟩
abbrev cX12_cases : ByteArray := prog_14_method_57_code
def yX12_cases : MethodName := ⟨RX12, "cases", "(I)I"⟩
abbrev cX12_steps : ByteArray := prog_14_method_58_code
def yX12_steps : MethodName := ⟨RX12, "steps", "(II)I"⟩
abbrev cX12_circuit : ByteArray := prog_14_method_59_code
def yX12_circuit : MethodName := ⟨RX12, "circuit", "(II)I"⟩
abbrev cX12_ones : ByteArray := prog_14_method_60_code
def yX12_ones : MethodName := ⟨RX12, "ones", "(I)I"⟩
abbrev cX12_saves : ByteArray := prog_14_method_61_code
def yX12_saves : MethodName := ⟨RX12, "saves", "(I)V"⟩
abbrev cX12_takesBack : ByteArray := prog_14_method_62_code
def yX12_takesBack : MethodName := ⟨RX12, "takesBack", "(I)V"⟩
abbrev cX12_ended : ByteArray := prog_14_method_63_code
def yX12_ended : MethodName := ⟨RX12, "ended", "(II)V"⟩
abbrev cX12_plans : ByteArray := prog_14_method_64_code
def yX12_plans : MethodName := ⟨RX12, "plans", "(III)V"⟩
abbrev cX12_plansOf : ByteArray := prog_14_method_65_code
def yX12_plansOf : MethodName := ⟨RX12, "plansOf", "(II)I"⟩
abbrev cX12_isLong : ByteArray := prog_14_method_66_code
def yX12_isLong : MethodName := ⟨RX12, "isLong", "(I)Z"⟩
abbrev cX12_best : ByteArray := prog_14_method_67_code
def yX12_best : MethodName := ⟨RX12, "best", "(I)I"⟩
abbrev cX12_ith : ByteArray := prog_14_method_68_code
def yX12_ith : MethodName := ⟨RX12, "ith", "(II)I"⟩
abbrev cX12_ways : ByteArray := prog_14_method_69_code
def yX12_ways : MethodName := ⟨RX12, "ways", "(I)I"⟩
abbrev cX12_writ : ByteArray := prog_14_method_70_code
def yX12_writ : MethodName := ⟨RX12, "writ", "(II)I"⟩
abbrev cX12_bars : ByteArray := prog_14_method_71_code
def yX12_bars : MethodName := ⟨RX12, "bars", "(II)I"⟩
abbrev cX12_played : ByteArray := prog_14_method_72_code
def yX12_played : MethodName := ⟨RX12, "played", "(IIZ)I"⟩
abbrev cX12_game : ByteArray := prog_14_method_73_code
def yX12_game : MethodName := ⟨RX12, "game", "(I)I"⟩
abbrev cX12_play : ByteArray := prog_14_method_74_code
def yX12_play : MethodName := ⟨RX12, "play", "(I)I"⟩
abbrev cX12_report : ByteArray := prog_14_method_75_code
def yX12_report : MethodName := ⟨RX12, "report", "(IIII)I"⟩
abbrev cX12_forget : ByteArray := prog_14_method_76_code
def yX12_forget : MethodName := ⟨RX12, "forget", "()I"⟩
abbrev cX12_isSoBy : ByteArray := prog_14_method_77_code
def yX12_isSoBy : MethodName := ⟨RX12, "isSoBy", "(III)Z"⟩
abbrev cX12_isFit : ByteArray := prog_14_method_78_code
def yX12_isFit : MethodName := ⟨RX12, "isFit", "(III)Z"⟩
abbrev cX12_findFits : ByteArray := prog_14_method_79_code
def yX12_findFits : MethodName := ⟨RX12, "findFits", "(I)V"⟩
abbrev cX12_span : ByteArray := prog_14_method_80_code
def yX12_span : MethodName := ⟨RX12, "span", "(I)I"⟩
abbrev cX12_liar : ByteArray := prog_14_method_81_code
def yX12_liar : MethodName := ⟨RX12, "liar", "()I"⟩
abbrev cX12_seed : ByteArray := prog_14_method_82_code
def yX12_seed : MethodName := ⟨RX12, "seed", "(I)I"⟩
abbrev cX12_byLot : ByteArray := prog_14_method_83_code
def yX12_byLot : MethodName := ⟨RX12, "byLot", "()I"⟩
abbrev cX12_lot : ByteArray := prog_14_method_84_code
def yX12_lot : MethodName := ⟨RX12, "lot", "()I"⟩
abbrev cX12_times : ByteArray := prog_14_method_85_code
def yX12_times : MethodName := ⟨RX12, "times", "(II)I"⟩
abbrev cX12_prove : ByteArray := prog_14_method_86_code
def yX12_prove : MethodName := ⟨RX12, "prove", "(I)I"⟩
abbrev cX12_isRow : ByteArray := prog_14_method_87_code
def yX12_isRow : MethodName := ⟨RX12, "isRow", "(II)Z"⟩
abbrev cX12_row : ByteArray := prog_14_method_88_code
def yX12_row : MethodName := ⟨RX12, "row", "(II)I"⟩
abbrev cX12_alterRow : ByteArray := prog_14_method_89_code
def yX12_alterRow : MethodName := ⟨RX12, "alterRow", "(III)I"⟩
abbrev cX12_isAct : ByteArray := prog_14_method_90_code
def yX12_isAct : MethodName := ⟨RX12, "isAct", "(I)Z"⟩
abbrev cX12_judge : ByteArray := prog_14_method_91_code
def yX12_judge : MethodName := ⟨RX12, "judge", "()I"⟩
abbrev cX12_feed : ByteArray := prog_14_method_92_code
def yX12_feed : MethodName := ⟨RX12, "feed", "(JI)I"⟩
abbrev cX12_byteAt : ByteArray := prog_14_method_93_code
def yX12_byteAt : MethodName := ⟨RX12, "byteAt", "(I)I"⟩
abbrev cX12_isLetter : ByteArray := prog_14_method_94_code
def yX12_isLetter : MethodName := ⟨RX12, "isLetter", "(I)Z"⟩
abbrev cX12_isDigit : ByteArray := prog_14_method_95_code
def yX12_isDigit : MethodName := ⟨RX12, "isDigit", "(I)Z"⟩
abbrev cX12_token : ByteArray := prog_14_method_96_code
def yX12_token : MethodName := ⟨RX12, "token", "()V"⟩
abbrev cX12_wants : ByteArray := prog_14_method_97_code
def yX12_wants : MethodName := ⟨RX12, "wants", "(Z)V"⟩
abbrev cX12_word : ByteArray := prog_14_method_98_code
def yX12_word : MethodName := ⟨RX12, "word", "()J"⟩
abbrev cX12_number : ByteArray := prog_14_method_99_code
def yX12_number : MethodName := ⟨RX12, "number", "(I)V"⟩
abbrev cX12_kindHere : ByteArray := prog_14_method_100_code
def yX12_kindHere : MethodName := ⟨RX12, "kindHere", "()I"⟩
abbrev cX12_factHere : ByteArray := prog_14_method_101_code
def yX12_factHere : MethodName := ⟨RX12, "factHere", "()I"⟩
abbrev cX12_writes : ByteArray := prog_14_method_102_code
def yX12_writes : MethodName := ⟨RX12, "writes", "(I)V"⟩
abbrev cX12_valueHere : ByteArray := prog_14_method_103_code
def yX12_valueHere : MethodName := ⟨RX12, "valueHere", "()V"⟩
abbrev cX12_comparison : ByteArray := prog_14_method_104_code
def yX12_comparison : MethodName := ⟨RX12, "comparison", "()V"⟩
abbrev cX12_one : ByteArray := prog_14_method_105_code
def yX12_one : MethodName := ⟨RX12, "one", "()V"⟩
abbrev cX12_all : ByteArray := prog_14_method_106_code
def yX12_all : MethodName := ⟨RX12, "all", "()V"⟩
abbrev cX12_condition : ByteArray := prog_14_method_107_code
def yX12_condition : MethodName := ⟨RX12, "condition", "()V"⟩
abbrev cX12_rule : ByteArray := prog_14_method_108_code
def yX12_rule : MethodName := ⟨RX12, "rule", "()V"⟩
abbrev cX12_rules : ByteArray := prog_14_method_109_code
def yX12_rules : MethodName := ⟨RX12, "rules", "()I"⟩
abbrev cX12_isOne : ByteArray := prog_14_method_110_code
def yX12_isOne : MethodName := ⟨RX12, "isOne", "(I)Z"⟩
abbrev cX12_sheet : ByteArray := prog_14_method_111_code
def yX12_sheet : MethodName := ⟨RX12, "sheet", "(III)I"⟩
abbrev cX12_narrowed : ByteArray := prog_14_method_112_code
def yX12_narrowed : MethodName := ⟨RX12, "narrowed", "(II)I"⟩
abbrev cX12_write : ByteArray := prog_14_method_113_code
def yX12_write : MethodName := ⟨RX12, "write", "(III)I"⟩
abbrev cX12_whyNot : ByteArray := prog_14_method_114_code
def yX12_whyNot : MethodName := ⟨RX12, "whyNot", "(II)I"⟩
abbrev cX12_item : ByteArray := prog_14_method_115_code
def yX12_item : MethodName := ⟨RX12, "item", "(III)I"⟩
abbrev cX12_isItem : ByteArray := prog_14_method_116_code
def yX12_isItem : MethodName := ⟨RX12, "isItem", "(IJ)Z"⟩
abbrev cX12_isSpan : ByteArray := prog_14_method_117_code
def yX12_isSpan : MethodName := ⟨RX12, "isSpan", "(II)Z"⟩
abbrev cX12_goAll : ByteArray := prog_14_method_118_code
def yX12_goAll : MethodName := ⟨RX12, "goAll", "(III)I"⟩
abbrev cX12_wouldBe : ByteArray := prog_14_method_119_code
def yX12_wouldBe : MethodName := ⟨RX12, "wouldBe", "(III)I"⟩
abbrev cX12_shelf : ByteArray := prog_14_method_120_code
def yX12_shelf : MethodName := ⟨RX12, "shelf", "(III)I"⟩
abbrev cX12_onShelf : ByteArray := prog_14_method_121_code
def yX12_onShelf : MethodName := ⟨RX12, "onShelf", "(I)I"⟩
abbrev cX12_taken : ByteArray := prog_14_method_122_code
def yX12_taken : MethodName := ⟨RX12, "taken", "(II)I"⟩
abbrev cX12_runs : ByteArray := prog_14_method_123_code
def yX12_runs : MethodName := ⟨RX12, "runs", "(I)V"⟩
abbrev cX12_flies : ByteArray := prog_14_method_124_code
def yX12_flies : MethodName := ⟨RX12, "flies", "(I)I"⟩
abbrev cX12_reads : ByteArray := prog_14_method_125_code
def yX12_reads : MethodName := ⟨RX12, "reads", "(I)I"⟩
abbrev cX12_plainParts : ByteArray := prog_14_method_126_code
def yX12_plainParts : MethodName := ⟨RX12, "plainParts", "(I)I"⟩
abbrev cX12_parts : ByteArray := prog_14_method_127_code
def yX12_parts : MethodName := ⟨RX12, "parts", "(I)I"⟩
abbrev cX12_calls : ByteArray := prog_14_method_128_code
def yX12_calls : MethodName := ⟨RX12, "calls", "(I)I"⟩
abbrev cX12_act : ByteArray := prog_14_method_129_code
def yX12_act : MethodName := ⟨RX12, "act", "(III)I"⟩
abbrev cX12_traced : ByteArray := prog_14_method_130_code
def yX12_traced : MethodName := ⟨RX12, "traced", "()I"⟩
abbrev cX12_trace : ByteArray := prog_14_method_131_code
def yX12_trace : MethodName := ⟨RX12, "trace", "(I)I"⟩
abbrev cX12_many : ByteArray := prog_14_method_132_code
def yX12_many : MethodName := ⟨RX12, "many", "(I)I"⟩
abbrev cX12_keep : ByteArray := prog_14_method_133_code
def yX12_keep : MethodName := ⟨RX12, "keep", "()I"⟩
abbrev cX12_again : ByteArray := prog_14_method_134_code
def yX12_again : MethodName := ⟨RX12, "again", "()I"⟩
def RJx145de : String := "java/io/Serializable"
def RJx9f9b0 : String := "java/lang/CharSequence"
def RJxb160c : String := "java/lang/Comparable"
def RJ6 : String := "java/lang/Integer"
abbrev cJ6_bitCount_0f7a4 : ByteArray := prog_15_method_49_code
def yJ6_bitCount_0f7a4 : MethodName := ⟨RJ6, "bitCount", "(I)I"⟩
def RJ9 : String := "java/lang/Math"
abbrev cJ9_abs_0f7a4 : ByteArray := prog_16_method_59_code
def yJ9_abs_0f7a4 : MethodName := ⟨RJ9, "abs", "(I)I"⟩
abbrev cJ9_max_7cf53 : ByteArray := prog_16_method_65_code
def yJ9_max_7cf53 : MethodName := ⟨RJ9, "max", "(II)I"⟩
abbrev cJ9_min_7cf53 : ByteArray := prog_16_method_69_code
def yJ9_min_7cf53 : MethodName := ⟨RJ9, "min", "(II)I"⟩
def RJ0 : String := "java/lang/String"
abbrev cJ0_length_8abf5 : ByteArray := prog_17_method_54_code
def yJ0_length_8abf5 : MethodName := ⟨RJ0, "length", "()I"⟩
abbrev cJ0_charAt_5068e : ByteArray := prog_17_method_56_code
def yJ0_charAt_5068e : MethodName := ⟨RJ0, "charAt", "(I)C"⟩
abbrev cJ0_coder_7d493 : ByteArray := prog_17_method_152_code
def yJ0_coder_7d493 : MethodName := ⟨RJ0, "coder", "()B"⟩
abbrev cJ0_isLatin1_aae02 : ByteArray := prog_17_method_154_code
def yJ0_isLatin1_aae02 : MethodName := ⟨RJ0, "isLatin1", "()Z"⟩
abbrev cJ0_checkIndex_df160 : ByteArray := prog_17_method_155_code
def yJ0_checkIndex_df160 : MethodName := ⟨RJ0, "checkIndex", "(II)V"⟩
def RJ1 : String := "java/lang/StringLatin1"
abbrev cJ1_charAt_3b067 : ByteArray := prog_18_method_2_code
def yJ1_charAt_3b067 : MethodName := ⟨RJ1, "charAt", "([BI)C"⟩
def RJ2 : String := "java/lang/StringUTF16"
abbrev cJ2_getChar_3b067 : ByteArray := prog_19_method_5_code
def yJ2_getChar_3b067 : MethodName := ⟨RJ2, "getChar", "([BI)C"⟩
abbrev cJ2_length_9d52b : ByteArray := prog_19_method_6_code
def yJ2_length_9d52b : MethodName := ⟨RJ2, "length", "([B)I"⟩
abbrev cJ2_charAt_3b067 : ByteArray := prog_19_method_83_code
def yJ2_charAt_3b067 : MethodName := ⟨RJ2, "charAt", "([BI)C"⟩
abbrev cJ2_checkIndex_2214a : ByteArray := prog_19_method_91_code
def yJ2_checkIndex_2214a : MethodName := ⟨RJ2, "checkIndex", "(I[B)V"⟩
def RJ10 : String := "java/lang/System"
def RJxfd54e : String := "java/lang/constant/Constable"
def RJx3cf43 : String := "java/lang/constant/ConstantDesc"
def RJ7 : String := "java/util/Arrays"
abbrev cJ7_fill_d0a16 : ByteArray := prog_21_method_101_code
def yJ7_fill_d0a16 : MethodName := ⟨RJ7, "fill", "([JJ)V"⟩
abbrev cJ7_fill_53178 : ByteArray := prog_21_method_103_code
def yJ7_fill_53178 : MethodName := ⟨RJ7, "fill", "([II)V"⟩
def RJ3 : String := "jdk/internal/util/Preconditions"
abbrev cJ3_checkIndex_8e157 : ByteArray := prog_22_method_11_code
def yJ3_checkIndex_8e157 : MethodName := ⟨RJ3, "checkIndex", "(IILjava/util/function/BiFunction;)I"⟩
def RL : String := "KiteSummonsLaw"
abbrev cL_law : ByteArray := code
def yL_law : MethodName := ⟨RL, "law", "([I)Z"⟩
abbrev vwCl : List vw_C := [(RX0, TX0, 5), (RX1, TX1, 16), (RX2, TX2, 5), (RX3, TX3, 5), (RX4, TX4, 5), (RX5, TX5, 5), (RX6, TX6, 11), (RX7, TX7, 5), (RX8, TX8, 8), (RX9, TX9, 8), (RX10, TX10, 6), (RX11, TX11, 17), (RX12, TX12, 40)]
def TT : List Cond := lw_tbl.filter goodWord
theorem TT_in : ∀ w ∈ TT, w ∈ lw_tbl := fun w h => (List.mem_filter.mp h).1
theorem TT_good : ∀ w ∈ TT, goodWord w = true := fun w h => (List.mem_filter.mp h).2
theorem tt_of {w : Cond} (h : w ∈ lw_tbl) (hg : goodWord w = true) : w ∈ TT := List.mem_filter.mpr ⟨h, hg⟩
theorem tt_s {q : MethodName × Nat} (h : q ∈ lw_privs) : Cond.selects q.1.cls q.1 q.1 ∈ TT := tt_of (List.mem_append_left _ (List.mem_map.mpr ⟨q, h, rfl⟩)) rfl
theorem tl_1 {w : Cond} (h : w ∈ tables_1_1) : w ∈ lw_tbl := (List.mem_append_right _ (show w ∈ tables_1 from (List.mem_append_left _ h)))
theorem tt_1 {w : Cond} (h : w ∈ tables_1_1) (hg : goodWord w = true) : w ∈ TT := tt_of (tl_1 h) hg
theorem tl_2 {w : Cond} (h : w ∈ tables_1_2) : w ∈ lw_tbl := (List.mem_append_right _ (show w ∈ tables_1 from (List.mem_append_right _ (List.mem_append_left _ h))))
theorem tt_2 {w : Cond} (h : w ∈ tables_1_2) (hg : goodWord w = true) : w ∈ TT := tt_of (tl_2 h) hg
theorem tl_3 {w : Cond} (h : w ∈ tables_1_3) : w ∈ lw_tbl := (List.mem_append_right _ (show w ∈ tables_1 from (List.mem_append_right _ (List.mem_append_right _ (List.mem_append_left _ h)))))
theorem tt_3 {w : Cond} (h : w ∈ tables_1_3) (hg : goodWord w = true) : w ∈ TT := tt_of (tl_3 h) hg
theorem tl_4 {w : Cond} (h : w ∈ tables_1_4) : w ∈ lw_tbl := (List.mem_append_right _ (show w ∈ tables_1 from (List.mem_append_right _ (List.mem_append_right _ (List.mem_append_right _ (List.mem_append_left _ h))))))
theorem tt_4 {w : Cond} (h : w ∈ tables_1_4) (hg : goodWord w = true) : w ∈ TT := tt_of (tl_4 h) hg
theorem tl_5 {w : Cond} (h : w ∈ tables_1_5) : w ∈ lw_tbl := (List.mem_append_right _ (show w ∈ tables_1 from (List.mem_append_right _ (List.mem_append_right _ (List.mem_append_right _ (List.mem_append_right _ (List.mem_append_left _ h)))))))
theorem tt_5 {w : Cond} (h : w ∈ tables_1_5) (hg : goodWord w = true) : w ∈ TT := tt_of (tl_5 h) hg
theorem tl_6 {w : Cond} (h : w ∈ tables_1_6) : w ∈ lw_tbl := (List.mem_append_right _ (show w ∈ tables_1 from (List.mem_append_right _ (List.mem_append_right _ (List.mem_append_right _ (List.mem_append_right _ (List.mem_append_right _ (List.mem_append_left _ h))))))))
theorem tt_6 {w : Cond} (h : w ∈ tables_1_6) (hg : goodWord w = true) : w ∈ TT := tt_of (tl_6 h) hg
theorem tl_7 {w : Cond} (h : w ∈ tables_1_7) : w ∈ lw_tbl := (List.mem_append_right _ (show w ∈ tables_1 from (List.mem_append_right _ (List.mem_append_right _ (List.mem_append_right _ (List.mem_append_right _ (List.mem_append_right _ (List.mem_append_right _ (List.mem_append_left _ h)))))))))
theorem tt_7 {w : Cond} (h : w ∈ tables_1_7) (hg : goodWord w = true) : w ∈ TT := tt_of (tl_7 h) hg
theorem tl_8 {w : Cond} (h : w ∈ tables_1_8) : w ∈ lw_tbl := (List.mem_append_right _ (show w ∈ tables_1 from (List.mem_append_right _ (List.mem_append_right _ (List.mem_append_right _ (List.mem_append_right _ (List.mem_append_right _ (List.mem_append_right _ (List.mem_append_right _ h)))))))))
theorem tt_8 {w : Cond} (h : w ∈ tables_1_8) (hg : goodWord w = true) : w ∈ TT := tt_of (tl_8 h) hg
