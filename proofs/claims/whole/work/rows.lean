section
-- ===== PART A: goes FIRST, ahead of the names: the tables' words, and 'selects' of the private methods out of them =====
/-- a private method of a class that the tables say can be made, by its rows of tables_1 -/
def lw_okq (q : MethodName × Nat) : Prop := (q.1.cls ≠ "java/lang/invoke/MethodHandle" ∧ q.1.cls ≠ "java/lang/invoke/VarHandle") ∧ Cond.instantiable q.1.cls q.2 ∈ tables_1 ∧ Cond.privateMethod q.1 ∈ tables_1 ∧ Cond.instanceMethod q.1 ∈ tables_1
theorem lw_p0 : lw_okq (⟨"LikeYears$Tape", "scanToken", "(IZ)I"⟩, 12) := ⟨⟨by decide +kernel, by decide +kernel⟩, List.mem_of_getElem? (i := 33) (by decide +kernel), List.mem_of_getElem? (i := 541) (by decide +kernel), List.mem_of_getElem? (i := 542) (by decide +kernel)⟩
theorem lw_p1 : lw_okq (⟨"LikeYears$Tape", "scanWord", "(I)I"⟩, 12) := ⟨⟨by decide +kernel, by decide +kernel⟩, List.mem_of_getElem? (i := 33) (by decide +kernel), List.mem_of_getElem? (i := 548) (by decide +kernel), List.mem_of_getElem? (i := 549) (by decide +kernel)⟩
theorem lw_p2 : lw_okq (⟨"LikeYears$Tape", "note", "(IIJ)V"⟩, 12) := ⟨⟨by decide +kernel, by decide +kernel⟩, List.mem_of_getElem? (i := 33) (by decide +kernel), List.mem_of_getElem? (i := 552) (by decide +kernel), List.mem_of_getElem? (i := 553) (by decide +kernel)⟩
theorem lw_p3 : lw_okq (⟨"LikeYears$Tape", "scanNumber", "(I)I"⟩, 12) := ⟨⟨by decide +kernel, by decide +kernel⟩, List.mem_of_getElem? (i := 33) (by decide +kernel), List.mem_of_getElem? (i := 559) (by decide +kernel), List.mem_of_getElem? (i := 560) (by decide +kernel)⟩
theorem lw_p4 : lw_okq (⟨"LikeYears$BookReader", "readLine", "()Z"⟩, 6) := ⟨⟨by decide +kernel, by decide +kernel⟩, List.mem_of_getElem? (i := 103) (by decide +kernel), List.mem_of_getElem? (i := 656) (by decide +kernel), List.mem_of_getElem? (i := 657) (by decide +kernel)⟩
theorem lw_p5 : lw_okq (⟨"LikeYears$BookReader", "readMark", "()Z"⟩, 6) := ⟨⟨by decide +kernel, by decide +kernel⟩, List.mem_of_getElem? (i := 103) (by decide +kernel), List.mem_of_getElem? (i := 665) (by decide +kernel), List.mem_of_getElem? (i := 666) (by decide +kernel)⟩
theorem lw_p6 : lw_okq (⟨"LikeYears$BookReader", "passNewName", "()J"⟩, 6) := ⟨⟨by decide +kernel, by decide +kernel⟩, List.mem_of_getElem? (i := 103) (by decide +kernel), List.mem_of_getElem? (i := 674) (by decide +kernel), List.mem_of_getElem? (i := 675) (by decide +kernel)⟩
theorem lw_p7 : lw_okq (⟨"LikeYears$BookReader", "caseNamed", "(J)I"⟩, 6) := ⟨⟨by decide +kernel, by decide +kernel⟩, List.mem_of_getElem? (i := 103) (by decide +kernel), List.mem_of_getElem? (i := 688) (by decide +kernel), List.mem_of_getElem? (i := 689) (by decide +kernel)⟩
theorem lw_p8 : lw_okq (⟨"LikeYears$BookReader", "readNever", "()Z"⟩, 6) := ⟨⟨by decide +kernel, by decide +kernel⟩, List.mem_of_getElem? (i := 103) (by decide +kernel), List.mem_of_getElem? (i := 720) (by decide +kernel), List.mem_of_getElem? (i := 721) (by decide +kernel)⟩
theorem lw_p9 : lw_okq (⟨"LikeYears$BookReader", "markHere", "()I"⟩, 6) := ⟨⟨by decide +kernel, by decide +kernel⟩, List.mem_of_getElem? (i := 103) (by decide +kernel), List.mem_of_getElem? (i := 724) (by decide +kernel), List.mem_of_getElem? (i := 725) (by decide +kernel)⟩
theorem lw_p10 : lw_okq (⟨"LikeYears$BookReader", "readCase", "()Z"⟩, 6) := ⟨⟨by decide +kernel, by decide +kernel⟩, List.mem_of_getElem? (i := 103) (by decide +kernel), List.mem_of_getElem? (i := 733) (by decide +kernel), List.mem_of_getElem? (i := 734) (by decide +kernel)⟩
theorem lw_p11 : lw_okq (⟨"LikeYears$BookReader", "readFacts", "()Z"⟩, 6) := ⟨⟨by decide +kernel, by decide +kernel⟩, List.mem_of_getElem? (i := 103) (by decide +kernel), List.mem_of_getElem? (i := 737) (by decide +kernel), List.mem_of_getElem? (i := 738) (by decide +kernel)⟩
theorem lw_p12 : lw_okq (⟨"LikeYears$BookReader", "readSteps", "()Z"⟩, 6) := ⟨⟨by decide +kernel, by decide +kernel⟩, List.mem_of_getElem? (i := 103) (by decide +kernel), List.mem_of_getElem? (i := 749) (by decide +kernel), List.mem_of_getElem? (i := 750) (by decide +kernel)⟩
theorem lw_p13 : lw_okq (⟨"LikeYears$BookReader", "readTold", "()Z"⟩, 6) := ⟨⟨by decide +kernel, by decide +kernel⟩, List.mem_of_getElem? (i := 103) (by decide +kernel), List.mem_of_getElem? (i := 760) (by decide +kernel), List.mem_of_getElem? (i := 761) (by decide +kernel)⟩
theorem lw_p14 : lw_okq (⟨"LikeYears$BookReader", "passCase", "()I"⟩, 6) := ⟨⟨by decide +kernel, by decide +kernel⟩, List.mem_of_getElem? (i := 103) (by decide +kernel), List.mem_of_getElem? (i := 764) (by decide +kernel), List.mem_of_getElem? (i := 765) (by decide +kernel)⟩
theorem lw_p15 : lw_okq (⟨"LikeYears$BookReader", "toldHolds", "()Z"⟩, 6) := ⟨⟨by decide +kernel, by decide +kernel⟩, List.mem_of_getElem? (i := 103) (by decide +kernel), List.mem_of_getElem? (i := 774) (by decide +kernel), List.mem_of_getElem? (i := 775) (by decide +kernel)⟩
def lw_privs_1 : List (MethodName × Nat) := [(⟨"LikeYears$Tape", "scanToken", "(IZ)I"⟩, 12), (⟨"LikeYears$Tape", "scanWord", "(I)I"⟩, 12), (⟨"LikeYears$Tape", "note", "(IIJ)V"⟩, 12), (⟨"LikeYears$Tape", "scanNumber", "(I)I"⟩, 12), (⟨"LikeYears$BookReader", "readLine", "()Z"⟩, 6), (⟨"LikeYears$BookReader", "readMark", "()Z"⟩, 6), (⟨"LikeYears$BookReader", "passNewName", "()J"⟩, 6), (⟨"LikeYears$BookReader", "caseNamed", "(J)I"⟩, 6), (⟨"LikeYears$BookReader", "readNever", "()Z"⟩, 6), (⟨"LikeYears$BookReader", "markHere", "()I"⟩, 6), (⟨"LikeYears$BookReader", "readCase", "()Z"⟩, 6), (⟨"LikeYears$BookReader", "readFacts", "()Z"⟩, 6), (⟨"LikeYears$BookReader", "readSteps", "()Z"⟩, 6), (⟨"LikeYears$BookReader", "readTold", "()Z"⟩, 6), (⟨"LikeYears$BookReader", "passCase", "()I"⟩, 6), (⟨"LikeYears$BookReader", "toldHolds", "()Z"⟩, 6)]
theorem lw_r1 : ∀ q ∈ lw_privs_1, lw_okq q := List.forall_mem_cons.mpr ⟨lw_p0, List.forall_mem_cons.mpr ⟨lw_p1, List.forall_mem_cons.mpr ⟨lw_p2, List.forall_mem_cons.mpr ⟨lw_p3, List.forall_mem_cons.mpr ⟨lw_p4, List.forall_mem_cons.mpr ⟨lw_p5, List.forall_mem_cons.mpr ⟨lw_p6, List.forall_mem_cons.mpr ⟨lw_p7, List.forall_mem_cons.mpr ⟨lw_p8, List.forall_mem_cons.mpr ⟨lw_p9, List.forall_mem_cons.mpr ⟨lw_p10, List.forall_mem_cons.mpr ⟨lw_p11, List.forall_mem_cons.mpr ⟨lw_p12, List.forall_mem_cons.mpr ⟨lw_p13, List.forall_mem_cons.mpr ⟨lw_p14, List.forall_mem_cons.mpr ⟨lw_p15, fun _ h => absurd h List.not_mem_nil⟩⟩⟩⟩⟩⟩⟩⟩⟩⟩⟩⟩⟩⟩⟩⟩
theorem lw_p16 : lw_okq (⟨"LikeYears$Order", "tell", "(II)V"⟩, 2) := ⟨⟨by decide +kernel, by decide +kernel⟩, List.mem_of_getElem? (i := 89) (by decide +kernel), List.mem_of_getElem? (i := 799) (by decide +kernel), List.mem_of_getElem? (i := 800) (by decide +kernel)⟩
theorem lw_p17 : lw_okq (⟨"LikeYears$Laws", "readLine", "()Z"⟩, 12) := ⟨⟨by decide +kernel, by decide +kernel⟩, List.mem_of_getElem? (i := 209) (by decide +kernel), List.mem_of_getElem? (i := 819) (by decide +kernel), List.mem_of_getElem? (i := 820) (by decide +kernel)⟩
theorem lw_p18 : lw_okq (⟨"LikeYears$Laws", "readLevel", "(II)Z"⟩, 12) := ⟨⟨by decide +kernel, by decide +kernel⟩, List.mem_of_getElem? (i := 209) (by decide +kernel), List.mem_of_getElem? (i := 826) (by decide +kernel), List.mem_of_getElem? (i := 827) (by decide +kernel)⟩
theorem lw_p19 : lw_okq (⟨"LikeYears$Laws", "readUnit", "(I)Z"⟩, 12) := ⟨⟨by decide +kernel, by decide +kernel⟩, List.mem_of_getElem? (i := 209) (by decide +kernel), List.mem_of_getElem? (i := 830) (by decide +kernel), List.mem_of_getElem? (i := 831) (by decide +kernel)⟩
theorem lw_p20 : lw_okq (⟨"LikeYears$Laws", "readPlainUnit", "()Z"⟩, 12) := ⟨⟨by decide +kernel, by decide +kernel⟩, List.mem_of_getElem? (i := 209) (by decide +kernel), List.mem_of_getElem? (i := 837) (by decide +kernel), List.mem_of_getElem? (i := 838) (by decide +kernel)⟩
theorem lw_p21 : lw_okq (⟨"LikeYears$Laws", "write", "(II)Z"⟩, 12) := ⟨⟨by decide +kernel, by decide +kernel⟩, List.mem_of_getElem? (i := 209) (by decide +kernel), List.mem_of_getElem? (i := 841) (by decide +kernel), List.mem_of_getElem? (i := 842) (by decide +kernel)⟩
theorem lw_p22 : lw_okq (⟨"LikeYears$Laws", "factHere", "()I"⟩, 12) := ⟨⟨by decide +kernel, by decide +kernel⟩, List.mem_of_getElem? (i := 209) (by decide +kernel), List.mem_of_getElem? (i := 847) (by decide +kernel), List.mem_of_getElem? (i := 848) (by decide +kernel)⟩
theorem lw_p23 : lw_okq (⟨"LikeYears$Laws", "signHere", "(I)I"⟩, 12) := ⟨⟨by decide +kernel, by decide +kernel⟩, List.mem_of_getElem? (i := 209) (by decide +kernel), List.mem_of_getElem? (i := 857) (by decide +kernel), List.mem_of_getElem? (i := 858) (by decide +kernel)⟩
theorem lw_p24 : lw_okq (⟨"LikeYears$Laws", "relationHere", "()I"⟩, 12) := ⟨⟨by decide +kernel, by decide +kernel⟩, List.mem_of_getElem? (i := 209) (by decide +kernel), List.mem_of_getElem? (i := 863) (by decide +kernel), List.mem_of_getElem? (i := 864) (by decide +kernel)⟩
theorem lw_p25 : lw_okq (⟨"LikeYears", "knownOrder", "()LLikeYears$Order;"⟩, 18) := ⟨⟨by decide +kernel, by decide +kernel⟩, List.mem_of_getElem? (i := 25) (by decide +kernel), List.mem_of_getElem? (i := 882) (by decide +kernel), List.mem_of_getElem? (i := 883) (by decide +kernel)⟩
theorem lw_p26 : lw_okq (⟨"LikeYears$Order", "gap", "(LLikeYears$Book;II)I"⟩, 2) := ⟨⟨by decide +kernel, by decide +kernel⟩, List.mem_of_getElem? (i := 89) (by decide +kernel), List.mem_of_getElem? (i := 897) (by decide +kernel), List.mem_of_getElem? (i := 898) (by decide +kernel)⟩
theorem lw_p27 : lw_okq (⟨"LikeYears", "knownSquares", "()LLikeYears$Nearest;"⟩, 18) := ⟨⟨by decide +kernel, by decide +kernel⟩, List.mem_of_getElem? (i := 25) (by decide +kernel), List.mem_of_getElem? (i := 951) (by decide +kernel), List.mem_of_getElem? (i := 952) (by decide +kernel)⟩
theorem lw_p28 : lw_okq (⟨"LikeYears$Nearest", "upperPart", "(LLikeYears$Book;[II)I"⟩, 10) := ⟨⟨by decide +kernel, by decide +kernel⟩, List.mem_of_getElem? (i := 318) (by decide +kernel), List.mem_of_getElem? (i := 973) (by decide +kernel), List.mem_of_getElem? (i := 974) (by decide +kernel)⟩
theorem lw_p29 : lw_okq (⟨"LikeYears$Cut", "prepare", "(I)V"⟩, 9) := ⟨⟨by decide +kernel, by decide +kernel⟩, List.mem_of_getElem? (i := 283) (by decide +kernel), List.mem_of_getElem? (i := 981) (by decide +kernel), List.mem_of_getElem? (i := 982) (by decide +kernel)⟩
theorem lw_p30 : lw_okq (⟨"LikeYears$Cut", "payDirectly", "()V"⟩, 9) := ⟨⟨by decide +kernel, by decide +kernel⟩, List.mem_of_getElem? (i := 283) (by decide +kernel), List.mem_of_getElem? (i := 989) (by decide +kernel), List.mem_of_getElem? (i := 990) (by decide +kernel)⟩
theorem lw_p31 : lw_okq (⟨"LikeYears$Cut", "findOpenOwer", "()I"⟩, 9) := ⟨⟨by decide +kernel, by decide +kernel⟩, List.mem_of_getElem? (i := 283) (by decide +kernel), List.mem_of_getElem? (i := 994) (by decide +kernel), List.mem_of_getElem? (i := 995) (by decide +kernel)⟩
def lw_privs_2 : List (MethodName × Nat) := [(⟨"LikeYears$Order", "tell", "(II)V"⟩, 2), (⟨"LikeYears$Laws", "readLine", "()Z"⟩, 12), (⟨"LikeYears$Laws", "readLevel", "(II)Z"⟩, 12), (⟨"LikeYears$Laws", "readUnit", "(I)Z"⟩, 12), (⟨"LikeYears$Laws", "readPlainUnit", "()Z"⟩, 12), (⟨"LikeYears$Laws", "write", "(II)Z"⟩, 12), (⟨"LikeYears$Laws", "factHere", "()I"⟩, 12), (⟨"LikeYears$Laws", "signHere", "(I)I"⟩, 12), (⟨"LikeYears$Laws", "relationHere", "()I"⟩, 12), (⟨"LikeYears", "knownOrder", "()LLikeYears$Order;"⟩, 18), (⟨"LikeYears$Order", "gap", "(LLikeYears$Book;II)I"⟩, 2), (⟨"LikeYears", "knownSquares", "()LLikeYears$Nearest;"⟩, 18), (⟨"LikeYears$Nearest", "upperPart", "(LLikeYears$Book;[II)I"⟩, 10), (⟨"LikeYears$Cut", "prepare", "(I)V"⟩, 9), (⟨"LikeYears$Cut", "payDirectly", "()V"⟩, 9), (⟨"LikeYears$Cut", "findOpenOwer", "()I"⟩, 9)]
theorem lw_r2 : ∀ q ∈ lw_privs_2, lw_okq q := List.forall_mem_cons.mpr ⟨lw_p16, List.forall_mem_cons.mpr ⟨lw_p17, List.forall_mem_cons.mpr ⟨lw_p18, List.forall_mem_cons.mpr ⟨lw_p19, List.forall_mem_cons.mpr ⟨lw_p20, List.forall_mem_cons.mpr ⟨lw_p21, List.forall_mem_cons.mpr ⟨lw_p22, List.forall_mem_cons.mpr ⟨lw_p23, List.forall_mem_cons.mpr ⟨lw_p24, List.forall_mem_cons.mpr ⟨lw_p25, List.forall_mem_cons.mpr ⟨lw_p26, List.forall_mem_cons.mpr ⟨lw_p27, List.forall_mem_cons.mpr ⟨lw_p28, List.forall_mem_cons.mpr ⟨lw_p29, List.forall_mem_cons.mpr ⟨lw_p30, List.forall_mem_cons.mpr ⟨lw_p31, fun _ h => absurd h List.not_mem_nil⟩⟩⟩⟩⟩⟩⟩⟩⟩⟩⟩⟩⟩⟩⟩⟩
theorem lw_p32 : lw_okq (⟨"LikeYears$Cut", "startQueue", "()I"⟩, 9) := ⟨⟨by decide +kernel, by decide +kernel⟩, List.mem_of_getElem? (i := 283) (by decide +kernel), List.mem_of_getElem? (i := 998) (by decide +kernel), List.mem_of_getElem? (i := 999) (by decide +kernel)⟩
theorem lw_p33 : lw_okq (⟨"LikeYears$Cut", "queuePayersOf", "(II)I"⟩, 9) := ⟨⟨by decide +kernel, by decide +kernel⟩, List.mem_of_getElem? (i := 283) (by decide +kernel), List.mem_of_getElem? (i := 1002) (by decide +kernel), List.mem_of_getElem? (i := 1003) (by decide +kernel)⟩
theorem lw_p34 : lw_okq (⟨"LikeYears$Cut", "payAround", "(I)V"⟩, 9) := ⟨⟨by decide +kernel, by decide +kernel⟩, List.mem_of_getElem? (i := 283) (by decide +kernel), List.mem_of_getElem? (i := 1007) (by decide +kernel), List.mem_of_getElem? (i := 1008) (by decide +kernel)⟩
theorem lw_p35 : lw_okq (⟨"LikeYears$Nearest", "seal", "(LLikeYears$Book;I)V"⟩, 10) := ⟨⟨by decide +kernel, by decide +kernel⟩, List.mem_of_getElem? (i := 318) (by decide +kernel), List.mem_of_getElem? (i := 1011) (by decide +kernel), List.mem_of_getElem? (i := 1012) (by decide +kernel)⟩
theorem lw_p36 : lw_okq (⟨"LikeYears", "knownGaps", "()LLikeYears$Nearest;"⟩, 18) := ⟨⟨by decide +kernel, by decide +kernel⟩, List.mem_of_getElem? (i := 25) (by decide +kernel), List.mem_of_getElem? (i := 1024) (by decide +kernel), List.mem_of_getElem? (i := 1025) (by decide +kernel)⟩
theorem lw_p37 : lw_okq (⟨"LikeYears$Nearest", "shareOut", "(LLikeYears$Book;)V"⟩, 10) := ⟨⟨by decide +kernel, by decide +kernel⟩, List.mem_of_getElem? (i := 318) (by decide +kernel), List.mem_of_getElem? (i := 1037) (by decide +kernel), List.mem_of_getElem? (i := 1038) (by decide +kernel)⟩
theorem lw_p38 : lw_okq (⟨"LikeYears$Choices", "search", "(II)V"⟩, 7) := ⟨⟨by decide +kernel, by decide +kernel⟩, List.mem_of_getElem? (i := 381) (by decide +kernel), List.mem_of_getElem? (i := 1077) (by decide +kernel), List.mem_of_getElem? (i := 1078) (by decide +kernel)⟩
theorem lw_p39 : lw_okq (⟨"LikeYears$Choices", "mostFoes", "(I)I"⟩, 7) := ⟨⟨by decide +kernel, by decide +kernel⟩, List.mem_of_getElem? (i := 381) (by decide +kernel), List.mem_of_getElem? (i := 1082) (by decide +kernel), List.mem_of_getElem? (i := 1083) (by decide +kernel)⟩
theorem lw_p40 : lw_okq (⟨"LikeYears$Choices", "note", "(II)V"⟩, 7) := ⟨⟨by decide +kernel, by decide +kernel⟩, List.mem_of_getElem? (i := 381) (by decide +kernel), List.mem_of_getElem? (i := 1086) (by decide +kernel), List.mem_of_getElem? (i := 1087) (by decide +kernel)⟩
theorem lw_p41 : lw_okq (⟨"LikeYears", "isGrid", "(II)Z"⟩, 18) := ⟨⟨by decide +kernel, by decide +kernel⟩, List.mem_of_getElem? (i := 25) (by decide +kernel), List.mem_of_getElem? (i := 1095) (by decide +kernel), List.mem_of_getElem? (i := 1096) (by decide +kernel)⟩
theorem lw_p42 : lw_okq (⟨"LikeYears", "gridCost", "(II)LLikeYears$Fraction;"⟩, 18) := ⟨⟨by decide +kernel, by decide +kernel⟩, List.mem_of_getElem? (i := 25) (by decide +kernel), List.mem_of_getElem? (i := 1103) (by decide +kernel), List.mem_of_getElem? (i := 1104) (by decide +kernel)⟩
theorem lw_p43 : lw_okq (⟨"LikeYears", "findBest", "()I"⟩, 18) := ⟨⟨by decide +kernel, by decide +kernel⟩, List.mem_of_getElem? (i := 25) (by decide +kernel), List.mem_of_getElem? (i := 1117) (by decide +kernel), List.mem_of_getElem? (i := 1118) (by decide +kernel)⟩
theorem lw_p44 : lw_okq (⟨"LikeYears", "isRuns", "(II)Z"⟩, 18) := ⟨⟨by decide +kernel, by decide +kernel⟩, List.mem_of_getElem? (i := 25) (by decide +kernel), List.mem_of_getElem? (i := 1131) (by decide +kernel), List.mem_of_getElem? (i := 1132) (by decide +kernel)⟩
theorem lw_p45 : lw_okq (⟨"LikeYears$Parting", "pool", "(LLikeYears$Book;I)V"⟩, 10) := ⟨⟨by decide +kernel, by decide +kernel⟩, List.mem_of_getElem? (i := 412) (by decide +kernel), List.mem_of_getElem? (i := 1139) (by decide +kernel), List.mem_of_getElem? (i := 1140) (by decide +kernel)⟩
theorem lw_p46 : lw_okq (⟨"LikeYears$Parting", "joinFalling", "()V"⟩, 10) := ⟨⟨by decide +kernel, by decide +kernel⟩, List.mem_of_getElem? (i := 412) (by decide +kernel), List.mem_of_getElem? (i := 1144) (by decide +kernel), List.mem_of_getElem? (i := 1145) (by decide +kernel)⟩
theorem lw_p47 : lw_okq (⟨"LikeYears$Parting", "oneRun", "()V"⟩, 10) := ⟨⟨by decide +kernel, by decide +kernel⟩, List.mem_of_getElem? (i := 412) (by decide +kernel), List.mem_of_getElem? (i := 1153) (by decide +kernel), List.mem_of_getElem? (i := 1154) (by decide +kernel)⟩
def lw_privs_3 : List (MethodName × Nat) := [(⟨"LikeYears$Cut", "startQueue", "()I"⟩, 9), (⟨"LikeYears$Cut", "queuePayersOf", "(II)I"⟩, 9), (⟨"LikeYears$Cut", "payAround", "(I)V"⟩, 9), (⟨"LikeYears$Nearest", "seal", "(LLikeYears$Book;I)V"⟩, 10), (⟨"LikeYears", "knownGaps", "()LLikeYears$Nearest;"⟩, 18), (⟨"LikeYears$Nearest", "shareOut", "(LLikeYears$Book;)V"⟩, 10), (⟨"LikeYears$Choices", "search", "(II)V"⟩, 7), (⟨"LikeYears$Choices", "mostFoes", "(I)I"⟩, 7), (⟨"LikeYears$Choices", "note", "(II)V"⟩, 7), (⟨"LikeYears", "isGrid", "(II)Z"⟩, 18), (⟨"LikeYears", "gridCost", "(II)LLikeYears$Fraction;"⟩, 18), (⟨"LikeYears", "findBest", "()I"⟩, 18), (⟨"LikeYears", "isRuns", "(II)Z"⟩, 18), (⟨"LikeYears$Parting", "pool", "(LLikeYears$Book;I)V"⟩, 10), (⟨"LikeYears$Parting", "joinFalling", "()V"⟩, 10), (⟨"LikeYears$Parting", "oneRun", "()V"⟩, 10)]
theorem lw_r3 : ∀ q ∈ lw_privs_3, lw_okq q := List.forall_mem_cons.mpr ⟨lw_p32, List.forall_mem_cons.mpr ⟨lw_p33, List.forall_mem_cons.mpr ⟨lw_p34, List.forall_mem_cons.mpr ⟨lw_p35, List.forall_mem_cons.mpr ⟨lw_p36, List.forall_mem_cons.mpr ⟨lw_p37, List.forall_mem_cons.mpr ⟨lw_p38, List.forall_mem_cons.mpr ⟨lw_p39, List.forall_mem_cons.mpr ⟨lw_p40, List.forall_mem_cons.mpr ⟨lw_p41, List.forall_mem_cons.mpr ⟨lw_p42, List.forall_mem_cons.mpr ⟨lw_p43, List.forall_mem_cons.mpr ⟨lw_p44, List.forall_mem_cons.mpr ⟨lw_p45, List.forall_mem_cons.mpr ⟨lw_p46, List.forall_mem_cons.mpr ⟨lw_p47, fun _ h => absurd h List.not_mem_nil⟩⟩⟩⟩⟩⟩⟩⟩⟩⟩⟩⟩⟩⟩⟩⟩
theorem lw_p48 : lw_okq (⟨"LikeYears$Parting", "addRun", "(II)V"⟩, 10) := ⟨⟨by decide +kernel, by decide +kernel⟩, List.mem_of_getElem? (i := 412) (by decide +kernel), List.mem_of_getElem? (i := 1157) (by decide +kernel), List.mem_of_getElem? (i := 1158) (by decide +kernel)⟩
theorem lw_p49 : lw_okq (⟨"LikeYears$Parting", "store", "(II)V"⟩, 10) := ⟨⟨by decide +kernel, by decide +kernel⟩, List.mem_of_getElem? (i := 412) (by decide +kernel), List.mem_of_getElem? (i := 1162) (by decide +kernel), List.mem_of_getElem? (i := 1163) (by decide +kernel)⟩
theorem lw_p50 : lw_okq (⟨"LikeYears$Parting", "lastRun", "(II)V"⟩, 10) := ⟨⟨by decide +kernel, by decide +kernel⟩, List.mem_of_getElem? (i := 412) (by decide +kernel), List.mem_of_getElem? (i := 1166) (by decide +kernel), List.mem_of_getElem? (i := 1167) (by decide +kernel)⟩
theorem lw_p51 : lw_okq (⟨"LikeYears$Choices", "drawsFrom", "(III)I"⟩, 7) := ⟨⟨by decide +kernel, by decide +kernel⟩, List.mem_of_getElem? (i := 381) (by decide +kernel), List.mem_of_getElem? (i := 1188) (by decide +kernel), List.mem_of_getElem? (i := 1189) (by decide +kernel)⟩
theorem lw_p52 : lw_okq (⟨"LikeYears$Laws", "worth", "(LLikeYears$Book;III)I"⟩, 12) := ⟨⟨by decide +kernel, by decide +kernel⟩, List.mem_of_getElem? (i := 209) (by decide +kernel), List.mem_of_getElem? (i := 1232) (by decide +kernel), List.mem_of_getElem? (i := 1233) (by decide +kernel)⟩
theorem lw_p53 : lw_okq (⟨"LikeYears$Laws", "push", "(I)V"⟩, 12) := ⟨⟨by decide +kernel, by decide +kernel⟩, List.mem_of_getElem? (i := 209) (by decide +kernel), List.mem_of_getElem? (i := 1240) (by decide +kernel), List.mem_of_getElem? (i := 1241) (by decide +kernel)⟩
theorem lw_p54 : lw_okq (⟨"LikeYears$Laws", "pop", "()I"⟩, 12) := ⟨⟨by decide +kernel, by decide +kernel⟩, List.mem_of_getElem? (i := 209) (by decide +kernel), List.mem_of_getElem? (i := 1244) (by decide +kernel), List.mem_of_getElem? (i := 1245) (by decide +kernel)⟩
theorem lw_p55 : lw_okq (⟨"LikeYears", "moveOf", "(I)I"⟩, 18) := ⟨⟨by decide +kernel, by decide +kernel⟩, List.mem_of_getElem? (i := 25) (by decide +kernel), List.mem_of_getElem? (i := 1258) (by decide +kernel), List.mem_of_getElem? (i := 1259) (by decide +kernel)⟩
theorem lw_p56 : lw_okq (⟨"LikeYears", "act", "(IIII)V"⟩, 18) := ⟨⟨by decide +kernel, by decide +kernel⟩, List.mem_of_getElem? (i := 25) (by decide +kernel), List.mem_of_getElem? (i := 1300) (by decide +kernel), List.mem_of_getElem? (i := 1301) (by decide +kernel)⟩
theorem lw_p57 : lw_okq (⟨"LikeYearsModel", "four", "(I)V"⟩, 88) := ⟨⟨by decide +kernel, by decide +kernel⟩, List.mem_of_getElem? (i := 1359) (by decide +kernel), List.mem_of_getElem? (i := 1635) (by decide +kernel), List.mem_of_getElem? (i := 1636) (by decide +kernel)⟩
theorem lw_p58 : lw_okq (⟨"LikeYearsModel", "token", "()V"⟩, 88) := ⟨⟨by decide +kernel, by decide +kernel⟩, List.mem_of_getElem? (i := 1359) (by decide +kernel), List.mem_of_getElem? (i := 1647) (by decide +kernel), List.mem_of_getElem? (i := 1648) (by decide +kernel)⟩
theorem lw_p59 : lw_okq (⟨"LikeYearsModel", "here", "(I)I"⟩, 88) := ⟨⟨by decide +kernel, by decide +kernel⟩, List.mem_of_getElem? (i := 1359) (by decide +kernel), List.mem_of_getElem? (i := 1651) (by decide +kernel), List.mem_of_getElem? (i := 1652) (by decide +kernel)⟩
theorem lw_p60 : lw_okq (⟨"LikeYearsModel", "readLine", "()V"⟩, 88) := ⟨⟨by decide +kernel, by decide +kernel⟩, List.mem_of_getElem? (i := 1359) (by decide +kernel), List.mem_of_getElem? (i := 1664) (by decide +kernel), List.mem_of_getElem? (i := 1665) (by decide +kernel)⟩
theorem lw_p61 : lw_okq (⟨"LikeYearsModel", "isWord", "(J)Z"⟩, 88) := ⟨⟨by decide +kernel, by decide +kernel⟩, List.mem_of_getElem? (i := 1359) (by decide +kernel), List.mem_of_getElem? (i := 1669) (by decide +kernel), List.mem_of_getElem? (i := 1670) (by decide +kernel)⟩
theorem lw_p62 : lw_okq (⟨"LikeYearsModel", "readMark", "()V"⟩, 88) := ⟨⟨by decide +kernel, by decide +kernel⟩, List.mem_of_getElem? (i := 1359) (by decide +kernel), List.mem_of_getElem? (i := 1673) (by decide +kernel), List.mem_of_getElem? (i := 1674) (by decide +kernel)⟩
theorem lw_p63 : lw_okq (⟨"LikeYearsModel", "newName", "()J"⟩, 88) := ⟨⟨by decide +kernel, by decide +kernel⟩, List.mem_of_getElem? (i := 1359) (by decide +kernel), List.mem_of_getElem? (i := 1677) (by decide +kernel), List.mem_of_getElem? (i := 1678) (by decide +kernel)⟩
def lw_privs_4 : List (MethodName × Nat) := [(⟨"LikeYears$Parting", "addRun", "(II)V"⟩, 10), (⟨"LikeYears$Parting", "store", "(II)V"⟩, 10), (⟨"LikeYears$Parting", "lastRun", "(II)V"⟩, 10), (⟨"LikeYears$Choices", "drawsFrom", "(III)I"⟩, 7), (⟨"LikeYears$Laws", "worth", "(LLikeYears$Book;III)I"⟩, 12), (⟨"LikeYears$Laws", "push", "(I)V"⟩, 12), (⟨"LikeYears$Laws", "pop", "()I"⟩, 12), (⟨"LikeYears", "moveOf", "(I)I"⟩, 18), (⟨"LikeYears", "act", "(IIII)V"⟩, 18), (⟨"LikeYearsModel", "four", "(I)V"⟩, 88), (⟨"LikeYearsModel", "token", "()V"⟩, 88), (⟨"LikeYearsModel", "here", "(I)I"⟩, 88), (⟨"LikeYearsModel", "readLine", "()V"⟩, 88), (⟨"LikeYearsModel", "isWord", "(J)Z"⟩, 88), (⟨"LikeYearsModel", "readMark", "()V"⟩, 88), (⟨"LikeYearsModel", "newName", "()J"⟩, 88)]
theorem lw_r4 : ∀ q ∈ lw_privs_4, lw_okq q := List.forall_mem_cons.mpr ⟨lw_p48, List.forall_mem_cons.mpr ⟨lw_p49, List.forall_mem_cons.mpr ⟨lw_p50, List.forall_mem_cons.mpr ⟨lw_p51, List.forall_mem_cons.mpr ⟨lw_p52, List.forall_mem_cons.mpr ⟨lw_p53, List.forall_mem_cons.mpr ⟨lw_p54, List.forall_mem_cons.mpr ⟨lw_p55, List.forall_mem_cons.mpr ⟨lw_p56, List.forall_mem_cons.mpr ⟨lw_p57, List.forall_mem_cons.mpr ⟨lw_p58, List.forall_mem_cons.mpr ⟨lw_p59, List.forall_mem_cons.mpr ⟨lw_p60, List.forall_mem_cons.mpr ⟨lw_p61, List.forall_mem_cons.mpr ⟨lw_p62, List.forall_mem_cons.mpr ⟨lw_p63, fun _ h => absurd h List.not_mem_nil⟩⟩⟩⟩⟩⟩⟩⟩⟩⟩⟩⟩⟩⟩⟩⟩
theorem lw_p64 : lw_okq (⟨"LikeYearsModel", "isName", "()Z"⟩, 88) := ⟨⟨by decide +kernel, by decide +kernel⟩, List.mem_of_getElem? (i := 1359) (by decide +kernel), List.mem_of_getElem? (i := 1681) (by decide +kernel), List.mem_of_getElem? (i := 1682) (by decide +kernel)⟩
theorem lw_p65 : lw_okq (⟨"LikeYearsModel", "isNoLawWord", "()Z"⟩, 88) := ⟨⟨by decide +kernel, by decide +kernel⟩, List.mem_of_getElem? (i := 1359) (by decide +kernel), List.mem_of_getElem? (i := 1685) (by decide +kernel), List.mem_of_getElem? (i := 1686) (by decide +kernel)⟩
theorem lw_p66 : lw_okq (⟨"LikeYearsModel", "wrong", "(I)V"⟩, 88) := ⟨⟨by decide +kernel, by decide +kernel⟩, List.mem_of_getElem? (i := 1359) (by decide +kernel), List.mem_of_getElem? (i := 1704) (by decide +kernel), List.mem_of_getElem? (i := 1705) (by decide +kernel)⟩
theorem lw_p67 : lw_okq (⟨"LikeYearsModel", "markOf", "(J)I"⟩, 88) := ⟨⟨by decide +kernel, by decide +kernel⟩, List.mem_of_getElem? (i := 1359) (by decide +kernel), List.mem_of_getElem? (i := 1708) (by decide +kernel), List.mem_of_getElem? (i := 1709) (by decide +kernel)⟩
theorem lw_p68 : lw_okq (⟨"LikeYearsModel", "caseOf", "(J)I"⟩, 88) := ⟨⟨by decide +kernel, by decide +kernel⟩, List.mem_of_getElem? (i := 1359) (by decide +kernel), List.mem_of_getElem? (i := 1712) (by decide +kernel), List.mem_of_getElem? (i := 1713) (by decide +kernel)⟩
theorem lw_p69 : lw_okq (⟨"LikeYearsModel", "want", "(J)V"⟩, 88) := ⟨⟨by decide +kernel, by decide +kernel⟩, List.mem_of_getElem? (i := 1359) (by decide +kernel), List.mem_of_getElem? (i := 1716) (by decide +kernel), List.mem_of_getElem? (i := 1717) (by decide +kernel)⟩
theorem lw_p70 : lw_okq (⟨"LikeYearsModel", "told", "(II)I"⟩, 88) := ⟨⟨by decide +kernel, by decide +kernel⟩, List.mem_of_getElem? (i := 1359) (by decide +kernel), List.mem_of_getElem? (i := 1720) (by decide +kernel), List.mem_of_getElem? (i := 1721) (by decide +kernel)⟩
theorem lw_p71 : lw_okq (⟨"LikeYearsModel", "readNever", "()V"⟩, 88) := ⟨⟨by decide +kernel, by decide +kernel⟩, List.mem_of_getElem? (i := 1359) (by decide +kernel), List.mem_of_getElem? (i := 1724) (by decide +kernel), List.mem_of_getElem? (i := 1725) (by decide +kernel)⟩
theorem lw_p72 : lw_okq (⟨"LikeYearsModel", "oldName", "(Z)I"⟩, 88) := ⟨⟨by decide +kernel, by decide +kernel⟩, List.mem_of_getElem? (i := 1359) (by decide +kernel), List.mem_of_getElem? (i := 1728) (by decide +kernel), List.mem_of_getElem? (i := 1729) (by decide +kernel)⟩
theorem lw_p73 : lw_okq (⟨"LikeYearsModel", "readCase", "()V"⟩, 88) := ⟨⟨by decide +kernel, by decide +kernel⟩, List.mem_of_getElem? (i := 1359) (by decide +kernel), List.mem_of_getElem? (i := 1732) (by decide +kernel), List.mem_of_getElem? (i := 1733) (by decide +kernel)⟩
theorem lw_p74 : lw_okq (⟨"LikeYearsModel", "readTold", "()V"⟩, 88) := ⟨⟨by decide +kernel, by decide +kernel⟩, List.mem_of_getElem? (i := 1359) (by decide +kernel), List.mem_of_getElem? (i := 1736) (by decide +kernel), List.mem_of_getElem? (i := 1737) (by decide +kernel)⟩
theorem lw_p75 : lw_okq (⟨"LikeYearsModel", "firstRound", "()I"⟩, 88) := ⟨⟨by decide +kernel, by decide +kernel⟩, List.mem_of_getElem? (i := 1359) (by decide +kernel), List.mem_of_getElem? (i := 1740) (by decide +kernel), List.mem_of_getElem? (i := 1741) (by decide +kernel)⟩
theorem lw_p76 : lw_okq (⟨"LikeYearsModel", "isCase", "(I)Z"⟩, 88) := ⟨⟨by decide +kernel, by decide +kernel⟩, List.mem_of_getElem? (i := 1359) (by decide +kernel), List.mem_of_getElem? (i := 1755) (by decide +kernel), List.mem_of_getElem? (i := 1756) (by decide +kernel)⟩
theorem lw_p77 : lw_okq (⟨"LikeYearsModel", "orderNow", "()V"⟩, 88) := ⟨⟨by decide +kernel, by decide +kernel⟩, List.mem_of_getElem? (i := 1359) (by decide +kernel), List.mem_of_getElem? (i := 1759) (by decide +kernel), List.mem_of_getElem? (i := 1760) (by decide +kernel)⟩
theorem lw_p78 : lw_okq (⟨"LikeYearsModel", "counting", "()I"⟩, 88) := ⟨⟨by decide +kernel, by decide +kernel⟩, List.mem_of_getElem? (i := 1359) (by decide +kernel), List.mem_of_getElem? (i := 1763) (by decide +kernel), List.mem_of_getElem? (i := 1764) (by decide +kernel)⟩
theorem lw_p79 : lw_okq (⟨"LikeYearsModel", "order", "(IZ)V"⟩, 88) := ⟨⟨by decide +kernel, by decide +kernel⟩, List.mem_of_getElem? (i := 1359) (by decide +kernel), List.mem_of_getElem? (i := 1767) (by decide +kernel), List.mem_of_getElem? (i := 1768) (by decide +kernel)⟩
def lw_privs_5 : List (MethodName × Nat) := [(⟨"LikeYearsModel", "isName", "()Z"⟩, 88), (⟨"LikeYearsModel", "isNoLawWord", "()Z"⟩, 88), (⟨"LikeYearsModel", "wrong", "(I)V"⟩, 88), (⟨"LikeYearsModel", "markOf", "(J)I"⟩, 88), (⟨"LikeYearsModel", "caseOf", "(J)I"⟩, 88), (⟨"LikeYearsModel", "want", "(J)V"⟩, 88), (⟨"LikeYearsModel", "told", "(II)I"⟩, 88), (⟨"LikeYearsModel", "readNever", "()V"⟩, 88), (⟨"LikeYearsModel", "oldName", "(Z)I"⟩, 88), (⟨"LikeYearsModel", "readCase", "()V"⟩, 88), (⟨"LikeYearsModel", "readTold", "()V"⟩, 88), (⟨"LikeYearsModel", "firstRound", "()I"⟩, 88), (⟨"LikeYearsModel", "isCase", "(I)Z"⟩, 88), (⟨"LikeYearsModel", "orderNow", "()V"⟩, 88), (⟨"LikeYearsModel", "counting", "()I"⟩, 88), (⟨"LikeYearsModel", "order", "(IZ)V"⟩, 88)]
theorem lw_r5 : ∀ q ∈ lw_privs_5, lw_okq q := List.forall_mem_cons.mpr ⟨lw_p64, List.forall_mem_cons.mpr ⟨lw_p65, List.forall_mem_cons.mpr ⟨lw_p66, List.forall_mem_cons.mpr ⟨lw_p67, List.forall_mem_cons.mpr ⟨lw_p68, List.forall_mem_cons.mpr ⟨lw_p69, List.forall_mem_cons.mpr ⟨lw_p70, List.forall_mem_cons.mpr ⟨lw_p71, List.forall_mem_cons.mpr ⟨lw_p72, List.forall_mem_cons.mpr ⟨lw_p73, List.forall_mem_cons.mpr ⟨lw_p74, List.forall_mem_cons.mpr ⟨lw_p75, List.forall_mem_cons.mpr ⟨lw_p76, List.forall_mem_cons.mpr ⟨lw_p77, List.forall_mem_cons.mpr ⟨lw_p78, List.forall_mem_cons.mpr ⟨lw_p79, fun _ h => absurd h List.not_mem_nil⟩⟩⟩⟩⟩⟩⟩⟩⟩⟩⟩⟩⟩⟩⟩⟩
theorem lw_p80 : lw_okq (⟨"LikeYearsModel", "isOverBy", "(III)Z"⟩, 88) := ⟨⟨by decide +kernel, by decide +kernel⟩, List.mem_of_getElem? (i := 1359) (by decide +kernel), List.mem_of_getElem? (i := 1771) (by decide +kernel), List.mem_of_getElem? (i := 1772) (by decide +kernel)⟩
theorem lw_p81 : lw_okq (⟨"LikeYearsModel", "isOver", "(II)Z"⟩, 88) := ⟨⟨by decide +kernel, by decide +kernel⟩, List.mem_of_getElem? (i := 1359) (by decide +kernel), List.mem_of_getElem? (i := 1775) (by decide +kernel), List.mem_of_getElem? (i := 1776) (by decide +kernel)⟩
theorem lw_p82 : lw_okq (⟨"LikeYearsModel", "gapOf", "(II)I"⟩, 88) := ⟨⟨by decide +kernel, by decide +kernel⟩, List.mem_of_getElem? (i := 1359) (by decide +kernel), List.mem_of_getElem? (i := 1783) (by decide +kernel), List.mem_of_getElem? (i := 1784) (by decide +kernel)⟩
theorem lw_p83 : lw_okq (⟨"LikeYearsModel", "clashes", "()I"⟩, 88) := ⟨⟨by decide +kernel, by decide +kernel⟩, List.mem_of_getElem? (i := 1359) (by decide +kernel), List.mem_of_getElem? (i := 1787) (by decide +kernel), List.mem_of_getElem? (i := 1788) (by decide +kernel)⟩
theorem lw_p84 : lw_okq (⟨"LikeYearsModel", "eitherGap", "(II)I"⟩, 88) := ⟨⟨by decide +kernel, by decide +kernel⟩, List.mem_of_getElem? (i := 1359) (by decide +kernel), List.mem_of_getElem? (i := 1795) (by decide +kernel), List.mem_of_getElem? (i := 1796) (by decide +kernel)⟩
theorem lw_p85 : lw_okq (⟨"LikeYearsModel", "layOut", "()V"⟩, 88) := ⟨⟨by decide +kernel, by decide +kernel⟩, List.mem_of_getElem? (i := 1359) (by decide +kernel), List.mem_of_getElem? (i := 1807) (by decide +kernel), List.mem_of_getElem? (i := 1808) (by decide +kernel)⟩
theorem lw_p86 : lw_okq (⟨"LikeYearsModel", "raise", "()V"⟩, 88) := ⟨⟨by decide +kernel, by decide +kernel⟩, List.mem_of_getElem? (i := 1359) (by decide +kernel), List.mem_of_getElem? (i := 1814) (by decide +kernel), List.mem_of_getElem? (i := 1815) (by decide +kernel)⟩
theorem lw_p87 : lw_okq (⟨"LikeYearsModel", "allCases", "()I"⟩, 88) := ⟨⟨by decide +kernel, by decide +kernel⟩, List.mem_of_getElem? (i := 1359) (by decide +kernel), List.mem_of_getElem? (i := 1818) (by decide +kernel), List.mem_of_getElem? (i := 1819) (by decide +kernel)⟩
theorem lw_p88 : lw_okq (⟨"LikeYearsModel", "partedFrom", "(I)I"⟩, 88) := ⟨⟨by decide +kernel, by decide +kernel⟩, List.mem_of_getElem? (i := 1359) (by decide +kernel), List.mem_of_getElem? (i := 1822) (by decide +kernel), List.mem_of_getElem? (i := 1823) (by decide +kernel)⟩
theorem lw_p89 : lw_okq (⟨"LikeYearsModel", "square", "(I)V"⟩, 88) := ⟨⟨by decide +kernel, by decide +kernel⟩, List.mem_of_getElem? (i := 1359) (by decide +kernel), List.mem_of_getElem? (i := 1837) (by decide +kernel), List.mem_of_getElem? (i := 1838) (by decide +kernel)⟩
theorem lw_p90 : lw_okq (⟨"LikeYearsModel", "put", "(JJ)V"⟩, 88) := ⟨⟨by decide +kernel, by decide +kernel⟩, List.mem_of_getElem? (i := 1359) (by decide +kernel), List.mem_of_getElem? (i := 1841) (by decide +kernel), List.mem_of_getElem? (i := 1842) (by decide +kernel)⟩
theorem lw_p91 : lw_okq (⟨"LikeYearsModel", "takeOff", "(I)V"⟩, 88) := ⟨⟨by decide +kernel, by decide +kernel⟩, List.mem_of_getElem? (i := 1359) (by decide +kernel), List.mem_of_getElem? (i := 1848) (by decide +kernel), List.mem_of_getElem? (i := 1849) (by decide +kernel)⟩
theorem lw_p92 : lw_okq (⟨"LikeYearsModel", "add", "(JJ)V"⟩, 88) := ⟨⟨by decide +kernel, by decide +kernel⟩, List.mem_of_getElem? (i := 1359) (by decide +kernel), List.mem_of_getElem? (i := 1852) (by decide +kernel), List.mem_of_getElem? (i := 1853) (by decide +kernel)⟩
theorem lw_p93 : lw_okq (⟨"LikeYearsModel", "gaps", "()V"⟩, 88) := ⟨⟨by decide +kernel, by decide +kernel⟩, List.mem_of_getElem? (i := 1359) (by decide +kernel), List.mem_of_getElem? (i := 1856) (by decide +kernel), List.mem_of_getElem? (i := 1857) (by decide +kernel)⟩
theorem lw_p94 : lw_okq (⟨"LikeYearsModel", "nextGiven", "(I)I"⟩, 88) := ⟨⟨by decide +kernel, by decide +kernel⟩, List.mem_of_getElem? (i := 1359) (by decide +kernel), List.mem_of_getElem? (i := 1860) (by decide +kernel), List.mem_of_getElem? (i := 1861) (by decide +kernel)⟩
theorem lw_p95 : lw_okq (⟨"LikeYearsModel", "leastUpper", "(I)I"⟩, 88) := ⟨⟨by decide +kernel, by decide +kernel⟩, List.mem_of_getElem? (i := 1359) (by decide +kernel), List.mem_of_getElem? (i := 1864) (by decide +kernel), List.mem_of_getElem? (i := 1865) (by decide +kernel)⟩
def lw_privs_6 : List (MethodName × Nat) := [(⟨"LikeYearsModel", "isOverBy", "(III)Z"⟩, 88), (⟨"LikeYearsModel", "isOver", "(II)Z"⟩, 88), (⟨"LikeYearsModel", "gapOf", "(II)I"⟩, 88), (⟨"LikeYearsModel", "clashes", "()I"⟩, 88), (⟨"LikeYearsModel", "eitherGap", "(II)I"⟩, 88), (⟨"LikeYearsModel", "layOut", "()V"⟩, 88), (⟨"LikeYearsModel", "raise", "()V"⟩, 88), (⟨"LikeYearsModel", "allCases", "()I"⟩, 88), (⟨"LikeYearsModel", "partedFrom", "(I)I"⟩, 88), (⟨"LikeYearsModel", "square", "(I)V"⟩, 88), (⟨"LikeYearsModel", "put", "(JJ)V"⟩, 88), (⟨"LikeYearsModel", "takeOff", "(I)V"⟩, 88), (⟨"LikeYearsModel", "add", "(JJ)V"⟩, 88), (⟨"LikeYearsModel", "gaps", "()V"⟩, 88), (⟨"LikeYearsModel", "nextGiven", "(I)I"⟩, 88), (⟨"LikeYearsModel", "leastUpper", "(I)I"⟩, 88)]
theorem lw_r6 : ∀ q ∈ lw_privs_6, lw_okq q := List.forall_mem_cons.mpr ⟨lw_p80, List.forall_mem_cons.mpr ⟨lw_p81, List.forall_mem_cons.mpr ⟨lw_p82, List.forall_mem_cons.mpr ⟨lw_p83, List.forall_mem_cons.mpr ⟨lw_p84, List.forall_mem_cons.mpr ⟨lw_p85, List.forall_mem_cons.mpr ⟨lw_p86, List.forall_mem_cons.mpr ⟨lw_p87, List.forall_mem_cons.mpr ⟨lw_p88, List.forall_mem_cons.mpr ⟨lw_p89, List.forall_mem_cons.mpr ⟨lw_p90, List.forall_mem_cons.mpr ⟨lw_p91, List.forall_mem_cons.mpr ⟨lw_p92, List.forall_mem_cons.mpr ⟨lw_p93, List.forall_mem_cons.mpr ⟨lw_p94, List.forall_mem_cons.mpr ⟨lw_p95, fun _ h => absurd h List.not_mem_nil⟩⟩⟩⟩⟩⟩⟩⟩⟩⟩⟩⟩⟩⟩⟩⟩
theorem lw_p96 : lw_okq (⟨"LikeYearsModel", "between", "(I)I"⟩, 88) := ⟨⟨by decide +kernel, by decide +kernel⟩, List.mem_of_getElem? (i := 1359) (by decide +kernel), List.mem_of_getElem? (i := 1868) (by decide +kernel), List.mem_of_getElem? (i := 1869) (by decide +kernel)⟩
theorem lw_p97 : lw_okq (⟨"LikeYearsModel", "partOf", "(I)J"⟩, 88) := ⟨⟨by decide +kernel, by decide +kernel⟩, List.mem_of_getElem? (i := 1359) (by decide +kernel), List.mem_of_getElem? (i := 1873) (by decide +kernel), List.mem_of_getElem? (i := 1874) (by decide +kernel)⟩
theorem lw_p98 : lw_okq (⟨"LikeYearsModel", "gapOff", "(I)I"⟩, 88) := ⟨⟨by decide +kernel, by decide +kernel⟩, List.mem_of_getElem? (i := 1359) (by decide +kernel), List.mem_of_getElem? (i := 1881) (by decide +kernel), List.mem_of_getElem? (i := 1882) (by decide +kernel)⟩
theorem lw_p99 : lw_okq (⟨"LikeYearsModel", "isGrid", "(II)Z"⟩, 88) := ⟨⟨by decide +kernel, by decide +kernel⟩, List.mem_of_getElem? (i := 1359) (by decide +kernel), List.mem_of_getElem? (i := 1893) (by decide +kernel), List.mem_of_getElem? (i := 1894) (by decide +kernel)⟩
theorem lw_p100 : lw_okq (⟨"LikeYearsModel", "isMark", "(I)Z"⟩, 88) := ⟨⟨by decide +kernel, by decide +kernel⟩, List.mem_of_getElem? (i := 1359) (by decide +kernel), List.mem_of_getElem? (i := 1897) (by decide +kernel), List.mem_of_getElem? (i := 1898) (by decide +kernel)⟩
theorem lw_p101 : lw_okq (⟨"LikeYearsModel", "canRun", "(II)Z"⟩, 88) := ⟨⟨by decide +kernel, by decide +kernel⟩, List.mem_of_getElem? (i := 1359) (by decide +kernel), List.mem_of_getElem? (i := 1914) (by decide +kernel), List.mem_of_getElem? (i := 1915) (by decide +kernel)⟩
theorem lw_p102 : lw_okq (⟨"LikeYearsModel", "seekRuns", "(II)I"⟩, 88) := ⟨⟨by decide +kernel, by decide +kernel⟩, List.mem_of_getElem? (i := 1359) (by decide +kernel), List.mem_of_getElem? (i := 1918) (by decide +kernel), List.mem_of_getElem? (i := 1919) (by decide +kernel)⟩
theorem lw_p103 : lw_okq (⟨"LikeYearsModel", "runCost", "(II)V"⟩, 88) := ⟨⟨by decide +kernel, by decide +kernel⟩, List.mem_of_getElem? (i := 1359) (by decide +kernel), List.mem_of_getElem? (i := 1922) (by decide +kernel), List.mem_of_getElem? (i := 1923) (by decide +kernel)⟩
theorem lw_p104 : lw_okq (⟨"LikeYearsModel", "offOf", "(I)I"⟩, 88) := ⟨⟨by decide +kernel, by decide +kernel⟩, List.mem_of_getElem? (i := 1359) (by decide +kernel), List.mem_of_getElem? (i := 1937) (by decide +kernel), List.mem_of_getElem? (i := 1938) (by decide +kernel)⟩
theorem lw_p105 : lw_okq (⟨"LikeYearsModel", "readLaw", "()V"⟩, 88) := ⟨⟨by decide +kernel, by decide +kernel⟩, List.mem_of_getElem? (i := 1359) (by decide +kernel), List.mem_of_getElem? (i := 1972) (by decide +kernel), List.mem_of_getElem? (i := 1973) (by decide +kernel)⟩
theorem lw_p106 : lw_okq (⟨"LikeYearsModel", "isOpen", "()Z"⟩, 88) := ⟨⟨by decide +kernel, by decide +kernel⟩, List.mem_of_getElem? (i := 1359) (by decide +kernel), List.mem_of_getElem? (i := 1976) (by decide +kernel), List.mem_of_getElem? (i := 1977) (by decide +kernel)⟩
theorem lw_p107 : lw_okq (⟨"LikeYearsModel", "sign", "()I"⟩, 88) := ⟨⟨by decide +kernel, by decide +kernel⟩, List.mem_of_getElem? (i := 1359) (by decide +kernel), List.mem_of_getElem? (i := 1980) (by decide +kernel), List.mem_of_getElem? (i := 1981) (by decide +kernel)⟩
theorem lw_p108 : lw_okq (⟨"LikeYearsModel", "settle", "(I)V"⟩, 88) := ⟨⟨by decide +kernel, by decide +kernel⟩, List.mem_of_getElem? (i := 1359) (by decide +kernel), List.mem_of_getElem? (i := 1984) (by decide +kernel), List.mem_of_getElem? (i := 1985) (by decide +kernel)⟩
theorem lw_p109 : lw_okq (⟨"LikeYearsModel", "upper", "()I"⟩, 88) := ⟨⟨by decide +kernel, by decide +kernel⟩, List.mem_of_getElem? (i := 1359) (by decide +kernel), List.mem_of_getElem? (i := 1988) (by decide +kernel), List.mem_of_getElem? (i := 1989) (by decide +kernel)⟩
theorem lw_p110 : lw_okq (⟨"LikeYearsModel", "pop", "()V"⟩, 88) := ⟨⟨by decide +kernel, by decide +kernel⟩, List.mem_of_getElem? (i := 1359) (by decide +kernel), List.mem_of_getElem? (i := 1992) (by decide +kernel), List.mem_of_getElem? (i := 1993) (by decide +kernel)⟩
theorem lw_p111 : lw_okq (⟨"LikeYearsModel", "note", "(II)V"⟩, 88) := ⟨⟨by decide +kernel, by decide +kernel⟩, List.mem_of_getElem? (i := 1359) (by decide +kernel), List.mem_of_getElem? (i := 1996) (by decide +kernel), List.mem_of_getElem? (i := 1997) (by decide +kernel)⟩
def lw_privs_7 : List (MethodName × Nat) := [(⟨"LikeYearsModel", "between", "(I)I"⟩, 88), (⟨"LikeYearsModel", "partOf", "(I)J"⟩, 88), (⟨"LikeYearsModel", "gapOff", "(I)I"⟩, 88), (⟨"LikeYearsModel", "isGrid", "(II)Z"⟩, 88), (⟨"LikeYearsModel", "isMark", "(I)Z"⟩, 88), (⟨"LikeYearsModel", "canRun", "(II)Z"⟩, 88), (⟨"LikeYearsModel", "seekRuns", "(II)I"⟩, 88), (⟨"LikeYearsModel", "runCost", "(II)V"⟩, 88), (⟨"LikeYearsModel", "offOf", "(I)I"⟩, 88), (⟨"LikeYearsModel", "readLaw", "()V"⟩, 88), (⟨"LikeYearsModel", "isOpen", "()Z"⟩, 88), (⟨"LikeYearsModel", "sign", "()I"⟩, 88), (⟨"LikeYearsModel", "settle", "(I)V"⟩, 88), (⟨"LikeYearsModel", "upper", "()I"⟩, 88), (⟨"LikeYearsModel", "pop", "()V"⟩, 88), (⟨"LikeYearsModel", "note", "(II)V"⟩, 88)]
theorem lw_r7 : ∀ q ∈ lw_privs_7, lw_okq q := List.forall_mem_cons.mpr ⟨lw_p96, List.forall_mem_cons.mpr ⟨lw_p97, List.forall_mem_cons.mpr ⟨lw_p98, List.forall_mem_cons.mpr ⟨lw_p99, List.forall_mem_cons.mpr ⟨lw_p100, List.forall_mem_cons.mpr ⟨lw_p101, List.forall_mem_cons.mpr ⟨lw_p102, List.forall_mem_cons.mpr ⟨lw_p103, List.forall_mem_cons.mpr ⟨lw_p104, List.forall_mem_cons.mpr ⟨lw_p105, List.forall_mem_cons.mpr ⟨lw_p106, List.forall_mem_cons.mpr ⟨lw_p107, List.forall_mem_cons.mpr ⟨lw_p108, List.forall_mem_cons.mpr ⟨lw_p109, List.forall_mem_cons.mpr ⟨lw_p110, List.forall_mem_cons.mpr ⟨lw_p111, fun _ h => absurd h List.not_mem_nil⟩⟩⟩⟩⟩⟩⟩⟩⟩⟩⟩⟩⟩⟩⟩⟩
theorem lw_p112 : lw_okq (⟨"LikeYearsModel", "hold", "(I)V"⟩, 88) := ⟨⟨by decide +kernel, by decide +kernel⟩, List.mem_of_getElem? (i := 1359) (by decide +kernel), List.mem_of_getElem? (i := 2003) (by decide +kernel), List.mem_of_getElem? (i := 2004) (by decide +kernel)⟩
theorem lw_p113 : lw_okq (⟨"LikeYearsModel", "operand", "(I)I"⟩, 88) := ⟨⟨by decide +kernel, by decide +kernel⟩, List.mem_of_getElem? (i := 1359) (by decide +kernel), List.mem_of_getElem? (i := 2007) (by decide +kernel), List.mem_of_getElem? (i := 2008) (by decide +kernel)⟩
theorem lw_p114 : lw_okq (⟨"LikeYearsModel", "known", "()I"⟩, 88) := ⟨⟨by decide +kernel, by decide +kernel⟩, List.mem_of_getElem? (i := 1359) (by decide +kernel), List.mem_of_getElem? (i := 2011) (by decide +kernel), List.mem_of_getElem? (i := 2012) (by decide +kernel)⟩
theorem lw_p115 : lw_okq (⟨"LikeYearsModel", "named", "()I"⟩, 88) := ⟨⟨by decide +kernel, by decide +kernel⟩, List.mem_of_getElem? (i := 1359) (by decide +kernel), List.mem_of_getElem? (i := 2015) (by decide +kernel), List.mem_of_getElem? (i := 2016) (by decide +kernel)⟩
theorem lw_p116 : lw_okq (⟨"LikeYearsModel", "lineOf", "(I)I"⟩, 88) := ⟨⟨by decide +kernel, by decide +kernel⟩, List.mem_of_getElem? (i := 1359) (by decide +kernel), List.mem_of_getElem? (i := 2023) (by decide +kernel), List.mem_of_getElem? (i := 2024) (by decide +kernel)⟩
theorem lw_p117 : lw_okq (⟨"LikeYearsModel", "holds", "(II)Z"⟩, 88) := ⟨⟨by decide +kernel, by decide +kernel⟩, List.mem_of_getElem? (i := 1359) (by decide +kernel), List.mem_of_getElem? (i := 2027) (by decide +kernel), List.mem_of_getElem? (i := 2028) (by decide +kernel)⟩
theorem lw_p118 : lw_okq (⟨"LikeYearsModel", "askedOf", "(II)I"⟩, 88) := ⟨⟨by decide +kernel, by decide +kernel⟩, List.mem_of_getElem? (i := 1359) (by decide +kernel), List.mem_of_getElem? (i := 2031) (by decide +kernel), List.mem_of_getElem? (i := 2032) (by decide +kernel)⟩
theorem lw_p119 : lw_okq (⟨"LikeYearsModel", "movedBy", "(I)I"⟩, 88) := ⟨⟨by decide +kernel, by decide +kernel⟩, List.mem_of_getElem? (i := 1359) (by decide +kernel), List.mem_of_getElem? (i := 2042) (by decide +kernel), List.mem_of_getElem? (i := 2043) (by decide +kernel)⟩
theorem lw_p120 : lw_okq (⟨"LikeYearsModel", "aroundNew", "(Z)I"⟩, 88) := ⟨⟨by decide +kernel, by decide +kernel⟩, List.mem_of_getElem? (i := 1359) (by decide +kernel), List.mem_of_getElem? (i := 2054) (by decide +kernel), List.mem_of_getElem? (i := 2055) (by decide +kernel)⟩
theorem lw_p121 : lw_okq (⟨"LikeYearsModel", "act", "(III)V"⟩, 88) := ⟨⟨by decide +kernel, by decide +kernel⟩, List.mem_of_getElem? (i := 1359) (by decide +kernel), List.mem_of_getElem? (i := 2066) (by decide +kernel), List.mem_of_getElem? (i := 2067) (by decide +kernel)⟩
theorem lw_p122 : lw_okq (⟨"LikeYearsModel", "goesRound", "(I)Z"⟩, 88) := ⟨⟨by decide +kernel, by decide +kernel⟩, List.mem_of_getElem? (i := 1359) (by decide +kernel), List.mem_of_getElem? (i := 2074) (by decide +kernel), List.mem_of_getElem? (i := 2075) (by decide +kernel)⟩
theorem lw_p123 : lw_okq (⟨"LikeYearsModel", "turn", "(IZ)V"⟩, 88) := ⟨⟨by decide +kernel, by decide +kernel⟩, List.mem_of_getElem? (i := 1359) (by decide +kernel), List.mem_of_getElem? (i := 2086) (by decide +kernel), List.mem_of_getElem? (i := 2087) (by decide +kernel)⟩
def lw_privs_8 : List (MethodName × Nat) := [(⟨"LikeYearsModel", "hold", "(I)V"⟩, 88), (⟨"LikeYearsModel", "operand", "(I)I"⟩, 88), (⟨"LikeYearsModel", "known", "()I"⟩, 88), (⟨"LikeYearsModel", "named", "()I"⟩, 88), (⟨"LikeYearsModel", "lineOf", "(I)I"⟩, 88), (⟨"LikeYearsModel", "holds", "(II)Z"⟩, 88), (⟨"LikeYearsModel", "askedOf", "(II)I"⟩, 88), (⟨"LikeYearsModel", "movedBy", "(I)I"⟩, 88), (⟨"LikeYearsModel", "aroundNew", "(Z)I"⟩, 88), (⟨"LikeYearsModel", "act", "(III)V"⟩, 88), (⟨"LikeYearsModel", "goesRound", "(I)Z"⟩, 88), (⟨"LikeYearsModel", "turn", "(IZ)V"⟩, 88)]
theorem lw_r8 : ∀ q ∈ lw_privs_8, lw_okq q := List.forall_mem_cons.mpr ⟨lw_p112, List.forall_mem_cons.mpr ⟨lw_p113, List.forall_mem_cons.mpr ⟨lw_p114, List.forall_mem_cons.mpr ⟨lw_p115, List.forall_mem_cons.mpr ⟨lw_p116, List.forall_mem_cons.mpr ⟨lw_p117, List.forall_mem_cons.mpr ⟨lw_p118, List.forall_mem_cons.mpr ⟨lw_p119, List.forall_mem_cons.mpr ⟨lw_p120, List.forall_mem_cons.mpr ⟨lw_p121, List.forall_mem_cons.mpr ⟨lw_p122, List.forall_mem_cons.mpr ⟨lw_p123, fun _ h => absurd h List.not_mem_nil⟩⟩⟩⟩⟩⟩⟩⟩⟩⟩⟩⟩
def lw_privs : List (MethodName × Nat) := lw_privs_1 ++ (lw_privs_2 ++ (lw_privs_3 ++ (lw_privs_4 ++ (lw_privs_5 ++ (lw_privs_6 ++ (lw_privs_7 ++ (lw_privs_8)))))))
def lw_tbl : List Cond := k2_sels lw_privs ++ tables_1
theorem lw_privs_ok : ∀ q ∈ lw_privs, lw_okq q := by
  show ∀ q ∈ lw_privs_1 ++ (lw_privs_2 ++ (lw_privs_3 ++ (lw_privs_4 ++ (lw_privs_5 ++ (lw_privs_6 ++ (lw_privs_7 ++ (lw_privs_8))))))), lw_okq q
  exact List.forall_mem_append.mpr ⟨lw_r1, List.forall_mem_append.mpr ⟨lw_r2, List.forall_mem_append.mpr ⟨lw_r3, List.forall_mem_append.mpr ⟨lw_r4, List.forall_mem_append.mpr ⟨lw_r5, List.forall_mem_append.mpr ⟨lw_r6, List.forall_mem_append.mpr ⟨lw_r7, lw_r8⟩⟩⟩⟩⟩⟩⟩
def RX0 : String := "LikeYears$Acts"
def TX0 : u_T := fun k => match k with
  | 0 => ("LikeYears$Acts", "done", "I", false)
  | 1 => ("LikeYears$Acts", "size", "I", false)
  | 2 => ("LikeYears$Acts", "kinds", "[I", true)
  | 3 => ("LikeYears$Acts", "which", "[I", true)
  | 4 => ("LikeYears$Acts", "before", "[I", true)
  | _ => ("LikeYears$Acts", "after", "[I", true)
def tyX0 : Nat → FieldType := fun k => match k with
  | 0 => .int
  | 1 => .int
  | 2 => .array .int
  | 3 => .array .int
  | 4 => .array .int
  | _ => .array .int
set_option maxRecDepth 100000 in
theorem nmX0 : ∀ a, a < 6 → ∀ b, b < 6 → a ≠ b → (TX0 a).2.1 ≠ (TX0 b).2.1 := by decide +kernel
set_option maxRecDepth 100000 in
theorem tyX0_ok : ∀ k, k < 6 → parseFieldDescriptor (TX0 k).2.2.1 = some (tyX0 k) := by decide +kernel
abbrev cX0_init : ByteArray := prog_2_method_1_code
def yX0_init : MethodName := ⟨RX0, "<init>", "()V"⟩
abbrev cX0_forget : ByteArray := prog_2_method_2_code
def yX0_forget : MethodName := ⟨RX0, "forget", "()V"⟩
abbrev cX0_add : ByteArray := prog_2_method_3_code
def yX0_add : MethodName := ⟨RX0, "add", "(IIII)V"⟩
abbrev cX0_dropFirst : ByteArray := prog_2_method_4_code
def yX0_dropFirst : MethodName := ⟨RX0, "dropFirst", "([I)V"⟩
abbrev cX0_takeBack : ByteArray := prog_2_method_5_code
def yX0_takeBack : MethodName := ⟨RX0, "takeBack", "(LLikeYears$Book;)Z"⟩
abbrev cX0_doAgain : ByteArray := prog_2_method_6_code
def yX0_doAgain : MethodName := ⟨RX0, "doAgain", "(LLikeYears$Book;)Z"⟩
abbrev cX0_carryOut : ByteArray := prog_2_method_7_code
def yX0_carryOut : MethodName := ⟨RX0, "carryOut", "(LLikeYears$Book;III)V"⟩
def RX1 : String := "LikeYears$Book"
def TX1 : u_T := fun k => match k with
  | 0 => ("LikeYears$Book", "marks", "I", false)
  | 1 => ("LikeYears$Book", "markNames", "[J", true)
  | 2 => ("LikeYears$Book", "tops", "[I", true)
  | 3 => ("LikeYears$Book", "counted", "I", false)
  | 4 => ("LikeYears$Book", "cases", "I", false)
  | 5 => ("LikeYears$Book", "judge", "[I", true)
  | 6 => ("LikeYears$Book", "year", "[I", true)
  | 7 => ("LikeYears$Book", "given", "[I", true)
  | 8 => ("LikeYears$Book", "weight", "[I", true)
  | 9 => ("LikeYears$Book", "steps", "[I", true)
  | 10 => ("LikeYears$Book", "tolds", "I", false)
  | 11 => ("LikeYears$Book", "toldOver", "[I", true)
  | _ => ("LikeYears$Book", "toldUnder", "[I", true)
def tyX1 : Nat → FieldType := fun k => match k with
  | 0 => .int
  | 1 => .array .long
  | 2 => .array .int
  | 3 => .int
  | 4 => .int
  | 5 => .array .int
  | 6 => .array .int
  | 7 => .array .int
  | 8 => .array .int
  | 9 => .array .int
  | 10 => .int
  | 11 => .array .int
  | _ => .array .int
set_option maxRecDepth 100000 in
theorem nmX1 : ∀ a, a < 13 → ∀ b, b < 13 → a ≠ b → (TX1 a).2.1 ≠ (TX1 b).2.1 := by decide +kernel
set_option maxRecDepth 100000 in
theorem tyX1_ok : ∀ k, k < 13 → parseFieldDescriptor (TX1 k).2.2.1 = some (tyX1 k) := by decide +kernel
abbrev cX1_init : ByteArray := prog_3_method_1_code
def yX1_init : MethodName := ⟨RX1, "<init>", "()V"⟩
abbrev cX1_empty : ByteArray := prog_3_method_2_code
def yX1_empty : MethodName := ⟨RX1, "empty", "()V"⟩
abbrev cX1_addMark : ByteArray := prog_3_method_3_code
def yX1_addMark : MethodName := ⟨RX1, "addMark", "(JI)V"⟩
abbrev cX1_addTold : ByteArray := prog_3_method_4_code
def yX1_addTold : MethodName := ⟨RX1, "addTold", "(II)V"⟩
abbrev cX1_setCase : ByteArray := prog_3_method_5_code
def yX1_setCase : MethodName := ⟨RX1, "setCase", "(IIIII)V"⟩
abbrev cX1_markNamed : ByteArray := prog_3_method_6_code
def yX1_markNamed : MethodName := ⟨RX1, "markNamed", "(J)I"⟩
abbrev cX1_isMark : ByteArray := prog_3_method_7_code
def yX1_isMark : MethodName := ⟨RX1, "isMark", "(I)Z"⟩
abbrev cX1_isCase : ByteArray := prog_3_method_8_code
def yX1_isCase : MethodName := ⟨RX1, "isCase", "(I)Z"⟩
abbrev cX1_isStep : ByteArray := prog_3_method_9_code
def yX1_isStep : MethodName := ⟨RX1, "isStep", "(II)Z"⟩
abbrev cX1_isCounted : ByteArray := prog_3_method_10_code
def yX1_isCounted : MethodName := ⟨RX1, "isCounted", "(I)Z"⟩
abbrev cX1_stepOf : ByteArray := prog_3_method_11_code
def yX1_stepOf : MethodName := ⟨RX1, "stepOf", "(II)I"⟩
abbrev cX1_setStep : ByteArray := prog_3_method_12_code
def yX1_setStep : MethodName := ⟨RX1, "setStep", "(III)V"⟩
abbrev cX1_allCases : ByteArray := prog_3_method_13_code
def yX1_allCases : MethodName := ⟨RX1, "allCases", "()I"⟩
abbrev cX1_noLess : ByteArray := prog_3_method_14_code
def yX1_noLess : MethodName := ⟨RX1, "noLess", "(III)Z"⟩
abbrev cX1_copyCases : ByteArray := prog_3_method_15_code
def yX1_copyCases : MethodName := ⟨RX1, "copyCases", "(LLikeYears$Book;)V"⟩
def RX2 : String := "LikeYears$BookReader"
def TX2 : u_T := fun k => match k with
  | 0 => ("LikeYears$BookReader", "tape", "LLikeYears$Tape;", true)
  | 1 => ("LikeYears$BookReader", "order", "LLikeYears$Order;", true)
  | 2 => ("LikeYears$BookReader", "book", "LLikeYears$Book;", false)
  | 3 => ("LikeYears$BookReader", "caseNames", "[J", true)
  | 4 => ("LikeYears$BookReader", "toldPlaces", "[I", true)
  | _ => ("LikeYears$BookReader", "lines", "I", false)
def tyX2 : Nat → FieldType := fun k => match k with
  | 0 => .object "LikeYears$Tape"
  | 1 => .object "LikeYears$Order"
  | 2 => .object "LikeYears$Book"
  | 3 => .array .long
  | 4 => .array .int
  | _ => .int
set_option maxRecDepth 100000 in
theorem nmX2 : ∀ a, a < 6 → ∀ b, b < 6 → a ≠ b → (TX2 a).2.1 ≠ (TX2 b).2.1 := by decide +kernel
set_option maxRecDepth 100000 in
theorem tyX2_ok : ∀ k, k < 6 → parseFieldDescriptor (TX2 k).2.2.1 = some (tyX2 k) := by decide +kernel
abbrev cX2_init : ByteArray := prog_4_method_1_code
def yX2_init : MethodName := ⟨RX2, "<init>", "(LLikeYears$Tape;LLikeYears$Order;)V"⟩
abbrev cX2_read : ByteArray := prog_4_method_2_code
def yX2_read : MethodName := ⟨RX2, "read", "(LLikeYears$Book;)Z"⟩
abbrev cX2_readLine : ByteArray := prog_4_method_3_code
def yX2_readLine : MethodName := ⟨RX2, "readLine", "()Z"⟩
abbrev cX2_readMark : ByteArray := prog_4_method_4_code
def yX2_readMark : MethodName := ⟨RX2, "readMark", "()Z"⟩
abbrev cX2_readNever : ByteArray := prog_4_method_5_code
def yX2_readNever : MethodName := ⟨RX2, "readNever", "()Z"⟩
abbrev cX2_readCase : ByteArray := prog_4_method_6_code
def yX2_readCase : MethodName := ⟨RX2, "readCase", "()Z"⟩
abbrev cX2_readFacts : ByteArray := prog_4_method_7_code
def yX2_readFacts : MethodName := ⟨RX2, "readFacts", "()Z"⟩
abbrev cX2_readSteps : ByteArray := prog_4_method_8_code
def yX2_readSteps : MethodName := ⟨RX2, "readSteps", "()Z"⟩
abbrev cX2_readTold : ByteArray := prog_4_method_9_code
def yX2_readTold : MethodName := ⟨RX2, "readTold", "()Z"⟩
abbrev cX2_passNewName : ByteArray := prog_4_method_10_code
def yX2_passNewName : MethodName := ⟨RX2, "passNewName", "()J"⟩
abbrev cX2_markHere : ByteArray := prog_4_method_11_code
def yX2_markHere : MethodName := ⟨RX2, "markHere", "()I"⟩
abbrev cX2_passCase : ByteArray := prog_4_method_12_code
def yX2_passCase : MethodName := ⟨RX2, "passCase", "()I"⟩
abbrev cX2_caseNamed : ByteArray := prog_4_method_13_code
def yX2_caseNamed : MethodName := ⟨RX2, "caseNamed", "(J)I"⟩
abbrev cX2_toldHolds : ByteArray := prog_4_method_14_code
def yX2_toldHolds : MethodName := ⟨RX2, "toldHolds", "()Z"⟩
def RX3 : String := "LikeYears$Choices"
def TX3 : u_T := fun k => match k with
  | 0 => ("LikeYears$Choices", "fewest", "I", false)
  | 1 => ("LikeYears$Choices", "leastCover", "I", false)
  | 2 => ("LikeYears$Choices", "covers", "I", false)
  | 3 => ("LikeYears$Choices", "foes", "[I", true)
  | 4 => ("LikeYears$Choices", "shares", "[I", true)
  | 5 => ("LikeYears$Choices", "sums", "[I", true)
  | _ => ("LikeYears$Choices", "size", "I", false)
def tyX3 : Nat → FieldType := fun k => match k with
  | 0 => .int
  | 1 => .int
  | 2 => .int
  | 3 => .array .int
  | 4 => .array .int
  | 5 => .array .int
  | _ => .int
set_option maxRecDepth 100000 in
theorem nmX3 : ∀ a, a < 7 → ∀ b, b < 7 → a ≠ b → (TX3 a).2.1 ≠ (TX3 b).2.1 := by decide +kernel
set_option maxRecDepth 100000 in
theorem tyX3_ok : ∀ k, k < 7 → parseFieldDescriptor (TX3 k).2.2.1 = some (tyX3 k) := by decide +kernel
abbrev cX3_init : ByteArray := prog_5_method_1_code
def yX3_init : MethodName := ⟨RX3, "<init>", "()V"⟩
abbrev cX3_cover : ByteArray := prog_5_method_2_code
def yX3_cover : MethodName := ⟨RX3, "cover", "(LLikeYears$Book;LLikeYears$Order;)V"⟩
abbrev cX3_search : ByteArray := prog_5_method_3_code
def yX3_search : MethodName := ⟨RX3, "search", "(II)V"⟩
abbrev cX3_mostFoes : ByteArray := prog_5_method_4_code
def yX3_mostFoes : MethodName := ⟨RX3, "mostFoes", "(I)I"⟩
abbrev cX3_note : ByteArray := prog_5_method_5_code
def yX3_note : MethodName := ⟨RX3, "note", "(II)V"⟩
abbrev cX3_draws : ByteArray := prog_5_method_6_code
def yX3_draws : MethodName := ⟨RX3, "draws", "([IIII)I"⟩
abbrev cX3_drawsFrom : ByteArray := prog_5_method_7_code
def yX3_drawsFrom : MethodName := ⟨RX3, "drawsFrom", "(III)I"⟩
abbrev cX3_choose : ByteArray := prog_5_method_8_code
def yX3_choose : MethodName := ⟨RX3, "choose", "(II)I"⟩
def RX4 : String := "LikeYears$Cut"
def TX4 : u_T := fun k => match k with
  | 0 => ("LikeYears$Cut", "worth", "[I", true)
  | 1 => ("LikeYears$Cut", "left", "[I", true)
  | 2 => ("LikeYears$Cut", "paid", "[I", true)
  | 3 => ("LikeYears$Cut", "cameFrom", "[I", true)
  | 4 => ("LikeYears$Cut", "queue", "[I", true)
  | 5 => ("LikeYears$Cut", "above", "[I", false)
  | 6 => ("LikeYears$Cut", "payers", "I", false)
  | 7 => ("LikeYears$Cut", "owers", "I", false)
  | _ => ("LikeYears$Cut", "reached", "I", false)
def tyX4 : Nat → FieldType := fun k => match k with
  | 0 => .array .int
  | 1 => .array .int
  | 2 => .array .int
  | 3 => .array .int
  | 4 => .array .int
  | 5 => .array .int
  | 6 => .int
  | 7 => .int
  | _ => .int
set_option maxRecDepth 100000 in
theorem nmX4 : ∀ a, a < 9 → ∀ b, b < 9 → a ≠ b → (TX4 a).2.1 ≠ (TX4 b).2.1 := by decide +kernel
set_option maxRecDepth 100000 in
theorem tyX4_ok : ∀ k, k < 9 → parseFieldDescriptor (TX4 k).2.2.1 = some (tyX4 k) := by decide +kernel
abbrev cX4_init : ByteArray := prog_6_method_1_code
def yX4_init : MethodName := ⟨RX4, "<init>", "()V"⟩
abbrev cX4_choose : ByteArray := prog_6_method_2_code
def yX4_choose : MethodName := ⟨RX4, "choose", "(I[I)I"⟩
abbrev cX4_prepare : ByteArray := prog_6_method_3_code
def yX4_prepare : MethodName := ⟨RX4, "prepare", "(I)V"⟩
abbrev cX4_payDirectly : ByteArray := prog_6_method_4_code
def yX4_payDirectly : MethodName := ⟨RX4, "payDirectly", "()V"⟩
abbrev cX4_findOpenOwer : ByteArray := prog_6_method_5_code
def yX4_findOpenOwer : MethodName := ⟨RX4, "findOpenOwer", "()I"⟩
abbrev cX4_startQueue : ByteArray := prog_6_method_6_code
def yX4_startQueue : MethodName := ⟨RX4, "startQueue", "()I"⟩
abbrev cX4_queuePayersOf : ByteArray := prog_6_method_7_code
def yX4_queuePayersOf : MethodName := ⟨RX4, "queuePayersOf", "(II)I"⟩
abbrev cX4_payAround : ByteArray := prog_6_method_8_code
def yX4_payAround : MethodName := ⟨RX4, "payAround", "(I)V"⟩
def RX5 : String := "LikeYears$Fraction"
def TX5 : u_T := fun k => match k with
  | 0 => ("LikeYears$Fraction", "up", "J", false)
  | _ => ("LikeYears$Fraction", "low", "J", false)
def tyX5 : Nat → FieldType := fun k => match k with
  | 0 => .long
  | _ => .long
set_option maxRecDepth 100000 in
theorem nmX5 : ∀ a, a < 2 → ∀ b, b < 2 → a ≠ b → (TX5 a).2.1 ≠ (TX5 b).2.1 := by decide +kernel
set_option maxRecDepth 100000 in
theorem tyX5_ok : ∀ k, k < 2 → parseFieldDescriptor (TX5 k).2.2.1 = some (tyX5 k) := by decide +kernel
abbrev cX5_init : ByteArray := prog_7_method_1_code
def yX5_init : MethodName := ⟨RX5, "<init>", "()V"⟩
abbrev cX5_set : ByteArray := prog_7_method_2_code
def yX5_set : MethodName := ⟨RX5, "set", "(JJ)V"⟩
abbrev cX5_add : ByteArray := prog_7_method_3_code
def yX5_add : MethodName := ⟨RX5, "add", "(JJ)V"⟩
abbrev cX5_part : ByteArray := prog_7_method_4_code
def yX5_part : MethodName := ⟨RX5, "part", "(I)J"⟩
abbrev cX5_common : ByteArray := prog_7_method_5_code
def yX5_common : MethodName := ⟨RX5, "common", "(JJ)J"⟩
abbrev cX5_compare : ByteArray := prog_7_method_6_code
def yX5_compare : MethodName := ⟨RX5, "compare", "(JJJJ)I"⟩
def RX6 : String := "LikeYears$Laws"
def TX6 : u_T := fun k => match k with
  | 0 => ("LikeYears$Laws", "tape", "LLikeYears$Tape;", true)
  | 1 => ("LikeYears$Laws", "book", "LLikeYears$Book;", false)
  | 2 => ("LikeYears$Laws", "lines", "I", false)
  | 3 => ("LikeYears$Laws", "least", "[I", true)
  | 4 => ("LikeYears$Laws", "most", "[I", true)
  | 5 => ("LikeYears$Laws", "stops", "[I", true)
  | 6 => ("LikeYears$Laws", "signs", "[I", true)
  | 7 => ("LikeYears$Laws", "values", "[I", true)
  | 8 => ("LikeYears$Laws", "size", "I", false)
  | 9 => ("LikeYears$Laws", "units", "I", false)
  | 10 => ("LikeYears$Laws", "stack", "[I", true)
  | _ => ("LikeYears$Laws", "height", "I", false)
def tyX6 : Nat → FieldType := fun k => match k with
  | 0 => .object "LikeYears$Tape"
  | 1 => .object "LikeYears$Book"
  | 2 => .int
  | 3 => .array .int
  | 4 => .array .int
  | 5 => .array .int
  | 6 => .array .int
  | 7 => .array .int
  | 8 => .int
  | 9 => .int
  | 10 => .array .int
  | _ => .int
set_option maxRecDepth 100000 in
theorem nmX6 : ∀ a, a < 12 → ∀ b, b < 12 → a ≠ b → (TX6 a).2.1 ≠ (TX6 b).2.1 := by decide +kernel
set_option maxRecDepth 100000 in
theorem tyX6_ok : ∀ k, k < 12 → parseFieldDescriptor (TX6 k).2.2.1 = some (tyX6 k) := by decide +kernel
abbrev cX6_init : ByteArray := prog_8_method_1_code
def yX6_init : MethodName := ⟨RX6, "<init>", "(LLikeYears$Tape;)V"⟩
abbrev cX6_read : ByteArray := prog_8_method_2_code
def yX6_read : MethodName := ⟨RX6, "read", "(LLikeYears$Book;)Z"⟩
abbrev cX6_readLine : ByteArray := prog_8_method_3_code
def yX6_readLine : MethodName := ⟨RX6, "readLine", "()Z"⟩
abbrev cX6_readLevel : ByteArray := prog_8_method_4_code
def yX6_readLevel : MethodName := ⟨RX6, "readLevel", "(II)Z"⟩
abbrev cX6_signHere : ByteArray := prog_8_method_5_code
def yX6_signHere : MethodName := ⟨RX6, "signHere", "(I)I"⟩
abbrev cX6_relationHere : ByteArray := prog_8_method_6_code
def yX6_relationHere : MethodName := ⟨RX6, "relationHere", "()I"⟩
abbrev cX6_readUnit : ByteArray := prog_8_method_7_code
def yX6_readUnit : MethodName := ⟨RX6, "readUnit", "(I)Z"⟩
abbrev cX6_readPlainUnit : ByteArray := prog_8_method_8_code
def yX6_readPlainUnit : MethodName := ⟨RX6, "readPlainUnit", "()Z"⟩
abbrev cX6_factHere : ByteArray := prog_8_method_9_code
def yX6_factHere : MethodName := ⟨RX6, "factHere", "()I"⟩
abbrev cX6_write : ByteArray := prog_8_method_10_code
def yX6_write : MethodName := ⟨RX6, "write", "(II)Z"⟩
abbrev cX6_lineFor : ByteArray := prog_8_method_11_code
def yX6_lineFor : MethodName := ⟨RX6, "lineFor", "(LLikeYears$Book;I)I"⟩
abbrev cX6_worth : ByteArray := prog_8_method_12_code
def yX6_worth : MethodName := ⟨RX6, "worth", "(LLikeYears$Book;III)I"⟩
abbrev cX6_push : ByteArray := prog_8_method_13_code
def yX6_push : MethodName := ⟨RX6, "push", "(I)V"⟩
abbrev cX6_pop : ByteArray := prog_8_method_14_code
def yX6_pop : MethodName := ⟨RX6, "pop", "()I"⟩
abbrev cX6_fact : ByteArray := prog_8_method_15_code
def yX6_fact : MethodName := ⟨RX6, "fact", "(LLikeYears$Book;III)I"⟩
abbrev cX6_join : ByteArray := prog_8_method_16_code
def yX6_join : MethodName := ⟨RX6, "join", "(III)I"⟩
abbrev cX6_holds : ByteArray := prog_8_method_17_code
def yX6_holds : MethodName := ⟨RX6, "holds", "(III)Z"⟩
def RX7 : String := "LikeYears$Nearest"
def TX7 : u_T := fun k => match k with
  | 0 => ("LikeYears$Nearest", "cut", "LLikeYears$Cut;", true)
  | 1 => ("LikeYears$Nearest", "block", "[I", true)
  | 2 => ("LikeYears$Nearest", "up", "[J", true)
  | 3 => ("LikeYears$Nearest", "low", "[J", true)
  | 4 => ("LikeYears$Nearest", "total", "LLikeYears$Fraction;", true)
  | 5 => ("LikeYears$Nearest", "months", "[I", true)
  | 6 => ("LikeYears$Nearest", "share", "[I", true)
  | 7 => ("LikeYears$Nearest", "gapsTotal", "I", false)
  | 8 => ("LikeYears$Nearest", "open", "[I", true)
  | _ => ("LikeYears$Nearest", "mean", "LLikeYears$Fraction;", true)
def tyX7 : Nat → FieldType := fun k => match k with
  | 0 => .object "LikeYears$Cut"
  | 1 => .array .int
  | 2 => .array .long
  | 3 => .array .long
  | 4 => .object "LikeYears$Fraction"
  | 5 => .array .int
  | 6 => .array .int
  | 7 => .int
  | 8 => .array .int
  | _ => .object "LikeYears$Fraction"
set_option maxRecDepth 100000 in
theorem nmX7 : ∀ a, a < 10 → ∀ b, b < 10 → a ≠ b → (TX7 a).2.1 ≠ (TX7 b).2.1 := by decide +kernel
set_option maxRecDepth 100000 in
theorem tyX7_ok : ∀ k, k < 10 → parseFieldDescriptor (TX7 k).2.2.1 = some (tyX7 k) := by decide +kernel
abbrev cX7_init : ByteArray := prog_9_method_1_code
def yX7_init : MethodName := ⟨RX7, "<init>", "(LLikeYears$Cut;)V"⟩
abbrev cX7_fitSquares : ByteArray := prog_9_method_2_code
def yX7_fitSquares : MethodName := ⟨RX7, "fitSquares", "(LLikeYears$Book;[II)V"⟩
abbrev cX7_upperPart : ByteArray := prog_9_method_3_code
def yX7_upperPart : MethodName := ⟨RX7, "upperPart", "(LLikeYears$Book;[II)I"⟩
abbrev cX7_seal : ByteArray := prog_9_method_4_code
def yX7_seal : MethodName := ⟨RX7, "seal", "(LLikeYears$Book;I)V"⟩
abbrev cX7_partOf : ByteArray := prog_9_method_5_code
def yX7_partOf : MethodName := ⟨RX7, "partOf", "(II)J"⟩
abbrev cX7_isFarther : ByteArray := prog_9_method_6_code
def yX7_isFarther : MethodName := ⟨RX7, "isFarther", "(IIZ)Z"⟩
abbrev cX7_fitGaps : ByteArray := prog_9_method_7_code
def yX7_fitGaps : MethodName := ⟨RX7, "fitGaps", "(LLikeYears$Book;[I)V"⟩
abbrev cX7_nextLevel : ByteArray := prog_9_method_8_code
def yX7_nextLevel : MethodName := ⟨RX7, "nextLevel", "(LLikeYears$Book;II)I"⟩
abbrev cX7_shareOut : ByteArray := prog_9_method_9_code
def yX7_shareOut : MethodName := ⟨RX7, "shareOut", "(LLikeYears$Book;)V"⟩
def RX8 : String := "LikeYears$Order"
def TX8 : u_T := fun k => match k with
  | 0 => ("LikeYears$Order", "under", "[I", true)
  | _ => ("LikeYears$Order", "above", "[I", true)
def tyX8 : Nat → FieldType := fun k => match k with
  | 0 => .array .int
  | _ => .array .int
set_option maxRecDepth 100000 in
theorem nmX8 : ∀ a, a < 2 → ∀ b, b < 2 → a ≠ b → (TX8 a).2.1 ≠ (TX8 b).2.1 := by decide +kernel
set_option maxRecDepth 100000 in
theorem tyX8_ok : ∀ k, k < 2 → parseFieldDescriptor (TX8 k).2.2.1 = some (tyX8 k) := by decide +kernel
abbrev cX8_init : ByteArray := prog_10_method_1_code
def yX8_init : MethodName := ⟨RX8, "<init>", "()V"⟩
abbrev cX8_fill : ByteArray := prog_10_method_2_code
def yX8_fill : MethodName := ⟨RX8, "fill", "(LLikeYears$Book;I)V"⟩
abbrev cX8_tellAll : ByteArray := prog_10_method_3_code
def yX8_tellAll : MethodName := ⟨RX8, "tellAll", "(LLikeYears$Book;)I"⟩
abbrev cX8_tell : ByteArray := prog_10_method_4_code
def yX8_tell : MethodName := ⟨RX8, "tell", "(II)V"⟩
abbrev cX8_isOver : ByteArray := prog_10_method_5_code
def yX8_isOver : MethodName := ⟨RX8, "isOver", "(II)Z"⟩
abbrev cX8_gap : ByteArray := prog_10_method_6_code
def yX8_gap : MethodName := ⟨RX8, "gap", "(LLikeYears$Book;II)I"⟩
abbrev cX8_foes : ByteArray := prog_10_method_7_code
def yX8_foes : MethodName := ⟨RX8, "foes", "(LLikeYears$Book;I)I"⟩
abbrev cX8_gapsOf : ByteArray := prog_10_method_8_code
def yX8_gapsOf : MethodName := ⟨RX8, "gapsOf", "(LLikeYears$Book;I)I"⟩
abbrev cX8_pairs : ByteArray := prog_10_method_9_code
def yX8_pairs : MethodName := ⟨RX8, "pairs", "(LLikeYears$Book;Z)I"⟩
abbrev cX8_gapsTogether : ByteArray := prog_10_method_10_code
def yX8_gapsTogether : MethodName := ⟨RX8, "gapsTogether", "(LLikeYears$Book;)I"⟩
abbrev cX8_greatestGap : ByteArray := prog_10_method_11_code
def yX8_greatestGap : MethodName := ⟨RX8, "greatestGap", "(LLikeYears$Book;)I"⟩
abbrev cX8_oddestOf : ByteArray := prog_10_method_12_code
def yX8_oddestOf : MethodName := ⟨RX8, "oddestOf", "(LLikeYears$Book;)I"⟩
abbrev cX8_besideOf : ByteArray := prog_10_method_13_code
def yX8_besideOf : MethodName := ⟨RX8, "besideOf", "(LLikeYears$Book;I)I"⟩
abbrev cX8_twiceMiddle : ByteArray := prog_10_method_14_code
def yX8_twiceMiddle : MethodName := ⟨RX8, "twiceMiddle", "(LLikeYears$Book;I)I"⟩
abbrev cX8_twiceGreatest : ByteArray := prog_10_method_15_code
def yX8_twiceGreatest : MethodName := ⟨RX8, "twiceGreatest", "(LLikeYears$Book;)I"⟩
abbrev cX8_underNew : ByteArray := prog_10_method_16_code
def yX8_underNew : MethodName := ⟨RX8, "underNew", "(LLikeYears$Book;)I"⟩
abbrev cX8_overNew : ByteArray := prog_10_method_17_code
def yX8_overNew : MethodName := ⟨RX8, "overNew", "(LLikeYears$Book;)I"⟩
def RX9 : String := "LikeYears$Parting"
def TX9 : u_T := fun k => match k with
  | 0 => ("LikeYears$Parting", "total", "LLikeYears$Fraction;", true)
  | 1 => ("LikeYears$Parting", "starts", "I", false)
  | 2 => ("LikeYears$Parting", "pools", "I", false)
  | 3 => ("LikeYears$Parting", "weights", "[I", true)
  | 4 => ("LikeYears$Parting", "sums", "[I", true)
  | 5 => ("LikeYears$Parting", "begin", "[I", true)
  | 6 => ("LikeYears$Parting", "gainUp", "[J", true)
  | 7 => ("LikeYears$Parting", "gainLow", "[J", true)
  | 8 => ("LikeYears$Parting", "bits", "[I", true)
  | _ => ("LikeYears$Parting", "gain", "LLikeYears$Fraction;", true)
def tyX9 : Nat → FieldType := fun k => match k with
  | 0 => .object "LikeYears$Fraction"
  | 1 => .int
  | 2 => .int
  | 3 => .array .int
  | 4 => .array .int
  | 5 => .array .int
  | 6 => .array .long
  | 7 => .array .long
  | 8 => .array .int
  | _ => .object "LikeYears$Fraction"
set_option maxRecDepth 100000 in
theorem nmX9 : ∀ a, a < 10 → ∀ b, b < 10 → a ≠ b → (TX9 a).2.1 ≠ (TX9 b).2.1 := by decide +kernel
set_option maxRecDepth 100000 in
theorem tyX9_ok : ∀ k, k < 10 → parseFieldDescriptor (TX9 k).2.2.1 = some (tyX9 k) := by decide +kernel
abbrev cX9_init : ByteArray := prog_11_method_1_code
def yX9_init : MethodName := ⟨RX9, "<init>", "()V"⟩
abbrev cX9_reckon : ByteArray := prog_11_method_2_code
def yX9_reckon : MethodName := ⟨RX9, "reckon", "(LLikeYears$Book;II)V"⟩
abbrev cX9_squares : ByteArray := prog_11_method_3_code
def yX9_squares : MethodName := ⟨RX9, "squares", "(LLikeYears$Book;)J"⟩
abbrev cX9_pool : ByteArray := prog_11_method_4_code
def yX9_pool : MethodName := ⟨RX9, "pool", "(LLikeYears$Book;I)V"⟩
abbrev cX9_joinFalling : ByteArray := prog_11_method_5_code
def yX9_joinFalling : MethodName := ⟨RX9, "joinFalling", "()V"⟩
abbrev cX9_oneRun : ByteArray := prog_11_method_6_code
def yX9_oneRun : MethodName := ⟨RX9, "oneRun", "()V"⟩
abbrev cX9_lastRun : ByteArray := prog_11_method_7_code
def yX9_lastRun : MethodName := ⟨RX9, "lastRun", "(II)V"⟩
abbrev cX9_store : ByteArray := prog_11_method_8_code
def yX9_store : MethodName := ⟨RX9, "store", "(II)V"⟩
abbrev cX9_addRun : ByteArray := prog_11_method_9_code
def yX9_addRun : MethodName := ⟨RX9, "addRun", "(II)V"⟩
def RX10 : String := "LikeYears$Tape"
def TX10 : u_T := fun k => match k with
  | 0 => ("LikeYears$Tape", "size", "I", false)
  | 1 => ("LikeYears$Tape", "wrong", "I", false)
  | 2 => ("LikeYears$Tape", "wrongPlace", "I", false)
  | 3 => ("LikeYears$Tape", "kind", "I", false)
  | 4 => ("LikeYears$Tape", "place", "I", false)
  | 5 => ("LikeYears$Tape", "value", "J", false)
  | 6 => ("LikeYears$Tape", "bytes", "[B", true)
  | 7 => ("LikeYears$Tape", "kinds", "[I", true)
  | 8 => ("LikeYears$Tape", "places", "[I", true)
  | 9 => ("LikeYears$Tape", "values", "[J", true)
  | 10 => ("LikeYears$Tape", "tokens", "I", false)
  | _ => ("LikeYears$Tape", "now", "I", false)
def tyX10 : Nat → FieldType := fun k => match k with
  | 0 => .int
  | 1 => .int
  | 2 => .int
  | 3 => .int
  | 4 => .int
  | 5 => .long
  | 6 => .array .byte
  | 7 => .array .int
  | 8 => .array .int
  | 9 => .array .long
  | 10 => .int
  | _ => .int
set_option maxRecDepth 100000 in
theorem nmX10 : ∀ a, a < 12 → ∀ b, b < 12 → a ≠ b → (TX10 a).2.1 ≠ (TX10 b).2.1 := by decide +kernel
set_option maxRecDepth 100000 in
theorem tyX10_ok : ∀ k, k < 12 → parseFieldDescriptor (TX10 k).2.2.1 = some (tyX10 k) := by decide +kernel
abbrev cX10_init : ByteArray := prog_12_method_1_code
def yX10_init : MethodName := ⟨RX10, "<init>", "()V"⟩
abbrev cX10_put : ByteArray := prog_12_method_2_code
def yX10_put : MethodName := ⟨RX10, "put", "(I)V"⟩
abbrev cX10_open : ByteArray := prog_12_method_3_code
def yX10_open : MethodName := ⟨RX10, "open", "(Z)V"⟩
abbrev cX10_next : ByteArray := prog_12_method_4_code
def yX10_next : MethodName := ⟨RX10, "next", "()V"⟩
abbrev cX10_note : ByteArray := prog_12_method_5_code
def yX10_note : MethodName := ⟨RX10, "note", "(IIJ)V"⟩
abbrev cX10_scanToken : ByteArray := prog_12_method_6_code
def yX10_scanToken : MethodName := ⟨RX10, "scanToken", "(IZ)I"⟩
abbrev cX10_isLetter : ByteArray := prog_12_method_7_code
def yX10_isLetter : MethodName := ⟨RX10, "isLetter", "(I)Z"⟩
abbrev cX10_isDigit : ByteArray := prog_12_method_8_code
def yX10_isDigit : MethodName := ⟨RX10, "isDigit", "(I)Z"⟩
abbrev cX10_scanWord : ByteArray := prog_12_method_9_code
def yX10_scanWord : MethodName := ⟨RX10, "scanWord", "(I)I"⟩
abbrev cX10_scanNumber : ByteArray := prog_12_method_10_code
def yX10_scanNumber : MethodName := ⟨RX10, "scanNumber", "(I)I"⟩
abbrev cX10_refuse : ByteArray := prog_12_method_11_code
def yX10_refuse : MethodName := ⟨RX10, "refuse", "(I)Z"⟩
abbrev cX10_isWord : ByteArray := prog_12_method_12_code
def yX10_isWord : MethodName := ⟨RX10, "isWord", "(J)Z"⟩
abbrev cX10_isSign : ByteArray := prog_12_method_13_code
def yX10_isSign : MethodName := ⟨RX10, "isSign", "(C)Z"⟩
abbrev cX10_isName : ByteArray := prog_12_method_14_code
def yX10_isName : MethodName := ⟨RX10, "isName", "()Z"⟩
abbrev cX10_passWord : ByteArray := prog_12_method_15_code
def yX10_passWord : MethodName := ⟨RX10, "passWord", "(J)Z"⟩
abbrev cX10_passSign : ByteArray := prog_12_method_16_code
def yX10_passSign : MethodName := ⟨RX10, "passSign", "(C)Z"⟩
abbrev cX10_passNumber : ByteArray := prog_12_method_17_code
def yX10_passNumber : MethodName := ⟨RX10, "passNumber", "(II)I"⟩
abbrev cX10_passNumberOf : ByteArray := prog_12_method_18_code
def yX10_passNumberOf : MethodName := ⟨RX10, "passNumberOf", "(JII)I"⟩
def RX11 : String := "LikeYears"
def TX11 : u_T := fun k => match k with
  | 0 => ("LikeYears", "tape", "LLikeYears$Tape;", true)
  | 1 => ("LikeYears", "reader", "LLikeYears$BookReader;", true)
  | 2 => ("LikeYears", "book", "LLikeYears$Book;", false)
  | 3 => ("LikeYears", "spareBook", "LLikeYears$Book;", false)
  | 4 => ("LikeYears", "rules", "LLikeYears$Laws;", false)
  | 5 => ("LikeYears", "spareRules", "LLikeYears$Laws;", false)
  | 6 => ("LikeYears", "boxes", "[LLikeYears$Book;", true)
  | 7 => ("LikeYears", "boxFull", "[Z", true)
  | 8 => ("LikeYears", "acts", "LLikeYears$Acts;", true)
  | 9 => ("LikeYears", "order", "LLikeYears$Order;", true)
  | 10 => ("LikeYears", "trialOrder", "LLikeYears$Order;", true)
  | 11 => ("LikeYears", "nearest", "LLikeYears$Nearest;", true)
  | 12 => ("LikeYears", "trial", "LLikeYears$Nearest;", true)
  | 13 => ("LikeYears", "choices", "LLikeYears$Choices;", true)
  | 14 => ("LikeYears", "parting", "LLikeYears$Parting;", true)
  | 15 => ("LikeYears", "answer", "LLikeYears$Fraction;", true)
  | 16 => ("LikeYears", "bestPair", "I", false)
  | _ => ("LikeYears", "known", "I", false)
def tyX11 : Nat → FieldType := fun k => match k with
  | 0 => .object "LikeYears$Tape"
  | 1 => .object "LikeYears$BookReader"
  | 2 => .object "LikeYears$Book"
  | 3 => .object "LikeYears$Book"
  | 4 => .object "LikeYears$Laws"
  | 5 => .object "LikeYears$Laws"
  | 6 => .array (.object "LikeYears$Book")
  | 7 => .array .boolean
  | 8 => .object "LikeYears$Acts"
  | 9 => .object "LikeYears$Order"
  | 10 => .object "LikeYears$Order"
  | 11 => .object "LikeYears$Nearest"
  | 12 => .object "LikeYears$Nearest"
  | 13 => .object "LikeYears$Choices"
  | 14 => .object "LikeYears$Parting"
  | 15 => .object "LikeYears$Fraction"
  | 16 => .int
  | _ => .int
set_option maxRecDepth 100000 in
theorem nmX11 : ∀ a, a < 18 → ∀ b, b < 18 → a ≠ b → (TX11 a).2.1 ≠ (TX11 b).2.1 := by decide +kernel
set_option maxRecDepth 100000 in
theorem tyX11_ok : ∀ k, k < 18 → parseFieldDescriptor (TX11 k).2.2.1 = some (tyX11 k) := by decide +kernel
abbrev cX11_init : ByteArray := prog_1_method_1_code
def yX11_init : MethodName := ⟨RX11, "<init>", "()V"⟩
abbrev cX11_feed : ByteArray := prog_1_method_2_code
def yX11_feed : MethodName := ⟨RX11, "feed", "(IIIII)I"⟩
abbrev cX11_end : ByteArray := prog_1_method_3_code
def yX11_end : MethodName := ⟨RX11, "end", "(I)I"⟩
abbrev cX11_book : ByteArray := prog_1_method_4_code
def yX11_book : MethodName := ⟨RX11, "book", "()I"⟩
abbrev cX11_laws : ByteArray := prog_1_method_5_code
def yX11_laws : MethodName := ⟨RX11, "laws", "()I"⟩
abbrev cX11_fault : ByteArray := prog_1_method_6_code
def yX11_fault : MethodName := ⟨RX11, "fault", "(I)I"⟩
abbrev cX11_worse : ByteArray := prog_1_method_7_code
def yX11_worse : MethodName := ⟨RX11, "worse", "(II)I"⟩
abbrev cX11_clash : ByteArray := prog_1_method_8_code
def yX11_clash : MethodName := ⟨RX11, "clash", "(I)I"⟩
abbrev cX11_oddest : ByteArray := prog_1_method_9_code
def yX11_oddest : MethodName := ⟨RX11, "oddest", "(I)I"⟩
abbrev cX11_beside : ByteArray := prog_1_method_10_code
def yX11_beside : MethodName := ⟨RX11, "beside", "(I)I"⟩
abbrev cX11_kept : ByteArray := prog_1_method_11_code
def yX11_kept : MethodName := ⟨RX11, "kept", "(III)J"⟩
abbrev cX11_cost : ByteArray := prog_1_method_12_code
def yX11_cost : MethodName := ⟨RX11, "cost", "(II)J"⟩
abbrev cX11_block : ByteArray := prog_1_method_13_code
def yX11_block : MethodName := ⟨RX11, "block", "(I)I"⟩
abbrev cX11_again : ByteArray := prog_1_method_14_code
def yX11_again : MethodName := ⟨RX11, "again", "(I)I"⟩
abbrev cX11_grid : ByteArray := prog_1_method_15_code
def yX11_grid : MethodName := ⟨RX11, "grid", "(III)J"⟩
abbrev cX11_loses : ByteArray := prog_1_method_16_code
def yX11_loses : MethodName := ⟨RX11, "loses", "(III)J"⟩
abbrev cX11_best : ByteArray := prog_1_method_17_code
def yX11_best : MethodName := ⟨RX11, "best", "()I"⟩
abbrev cX11_runs : ByteArray := prog_1_method_18_code
def yX11_runs : MethodName := ⟨RX11, "runs", "(III)J"⟩
abbrev cX11_begins : ByteArray := prog_1_method_19_code
def yX11_begins : MethodName := ⟨RX11, "begins", "(II)I"⟩
abbrev cX11_off : ByteArray := prog_1_method_20_code
def yX11_off : MethodName := ⟨RX11, "off", "(I)I"⟩
abbrev cX11_luck : ByteArray := prog_1_method_21_code
def yX11_luck : MethodName := ⟨RX11, "luck", "(II)J"⟩
abbrev cX11_upto : ByteArray := prog_1_method_22_code
def yX11_upto : MethodName := ⟨RX11, "upto", "(II)J"⟩
abbrev cX11_drift : ByteArray := prog_1_method_23_code
def yX11_drift : MethodName := ⟨RX11, "drift", "(II)J"⟩
abbrev cX11_within : ByteArray := prog_1_method_24_code
def yX11_within : MethodName := ⟨RX11, "within", "()I"⟩
abbrev cX11_law : ByteArray := prog_1_method_25_code
def yX11_law : MethodName := ⟨RX11, "law", "(IIIII)I"⟩
abbrev cX11_lawOf : ByteArray := prog_1_method_26_code
def yX11_lawOf : MethodName := ⟨RX11, "lawOf", "(I)I"⟩
abbrev cX11_moved : ByteArray := prog_1_method_27_code
def yX11_moved : MethodName := ⟨RX11, "moved", "(I)I"⟩
abbrev cX11_mercy : ByteArray := prog_1_method_28_code
def yX11_mercy : MethodName := ⟨RX11, "mercy", "(I)I"⟩
abbrev cX11_step : ByteArray := prog_1_method_29_code
def yX11_step : MethodName := ⟨RX11, "step", "(II)Z"⟩
abbrev cX11_ends : ByteArray := prog_1_method_30_code
def yX11_ends : MethodName := ⟨RX11, "ends", "(ZI)J"⟩
abbrev cX11_first : ByteArray := prog_1_method_31_code
def yX11_first : MethodName := ⟨RX11, "first", "(I)I"⟩
abbrev cX11_come : ByteArray := prog_1_method_32_code
def yX11_come : MethodName := ⟨RX11, "come", "(IIII)I"⟩
abbrev cX11_count : ByteArray := prog_1_method_33_code
def yX11_count : MethodName := ⟨RX11, "count", "(IZ)Z"⟩
abbrev cX11_give : ByteArray := prog_1_method_34_code
def yX11_give : MethodName := ⟨RX11, "give", "(II)Z"⟩
abbrev cX11_undo : ByteArray := prog_1_method_35_code
def yX11_undo : MethodName := ⟨RX11, "undo", "()Z"⟩
abbrev cX11_redo : ByteArray := prog_1_method_36_code
def yX11_redo : MethodName := ⟨RX11, "redo", "()Z"⟩
abbrev cX11_keep : ByteArray := prog_1_method_37_code
def yX11_keep : MethodName := ⟨RX11, "keep", "(I)I"⟩
abbrev cX11_back : ByteArray := prog_1_method_38_code
def yX11_back : MethodName := ⟨RX11, "back", "(I)I"⟩
abbrev cX11_about : ByteArray := prog_1_method_39_code
def yX11_about : MethodName := ⟨RX11, "about", "(I)I"⟩
abbrev cX11_isPart : ByteArray := prog_1_method_40_code
def yX11_isPart : MethodName := ⟨RX11, "isPart", "(I)Z"⟩
abbrev cX11_isYear : ByteArray := prog_1_method_41_code
def yX11_isYear : MethodName := ⟨RX11, "isYear", "(I)Z"⟩
abbrev cX11_isGiven : ByteArray := prog_1_method_42_code
def yX11_isGiven : MethodName := ⟨RX11, "isGiven", "(I)Z"⟩
abbrev cX11_isGrid : ByteArray := prog_1_method_43_code
def yX11_isGrid : MethodName := ⟨RX11, "isGrid", "(II)Z"⟩
abbrev cX11_isRuns : ByteArray := prog_1_method_44_code
def yX11_isRuns : MethodName := ⟨RX11, "isRuns", "(II)Z"⟩
abbrev cX11_knownOrder : ByteArray := prog_1_method_45_code
def yX11_knownOrder : MethodName := ⟨RX11, "knownOrder", "()LLikeYears$Order;"⟩
abbrev cX11_knownSquares : ByteArray := prog_1_method_46_code
def yX11_knownSquares : MethodName := ⟨RX11, "knownSquares", "()LLikeYears$Nearest;"⟩
abbrev cX11_knownGaps : ByteArray := prog_1_method_47_code
def yX11_knownGaps : MethodName := ⟨RX11, "knownGaps", "()LLikeYears$Nearest;"⟩
abbrev cX11_gridCost : ByteArray := prog_1_method_48_code
def yX11_gridCost : MethodName := ⟨RX11, "gridCost", "(II)LLikeYears$Fraction;"⟩
abbrev cX11_findBest : ByteArray := prog_1_method_49_code
def yX11_findBest : MethodName := ⟨RX11, "findBest", "()I"⟩
abbrev cX11_outside : ByteArray := prog_1_method_50_code
def yX11_outside : MethodName := ⟨RX11, "outside", "(III)I"⟩
abbrev cX11_moveOf : ByteArray := prog_1_method_51_code
def yX11_moveOf : MethodName := ⟨RX11, "moveOf", "(I)I"⟩
abbrev cX11_act : ByteArray := prog_1_method_52_code
def yX11_act : MethodName := ⟨RX11, "act", "(IIII)V"⟩
def RX12 : String := "LikeYearsModel"
def TX12 : u_T := fun k => match k with
  | 0 => ("LikeYearsModel", "tape", "[I", true)
  | 1 => ("LikeYearsModel", "taped", "I", false)
  | 2 => ("LikeYearsModel", "fault", "I", false)
  | 3 => ("LikeYearsModel", "faultPlace", "I", false)
  | 4 => ("LikeYearsModel", "at", "I", false)
  | 5 => ("LikeYearsModel", "size", "I", false)
  | 6 => ("LikeYearsModel", "sort", "I", false)
  | 7 => ("LikeYearsModel", "place", "I", false)
  | 8 => ("LikeYearsModel", "number", "I", false)
  | 9 => ("LikeYearsModel", "word", "J", false)
  | 10 => ("LikeYearsModel", "ofLaws", "Z", false)
  | 11 => ("LikeYearsModel", "nMark", "[J", true)
  | 12 => ("LikeYearsModel", "nCase", "[J", true)
  | 13 => ("LikeYearsModel", "nTo", "[I", true)
  | 14 => ("LikeYearsModel", "nSteps", "[I", true)
  | 15 => ("LikeYearsModel", "nJudge", "[I", true)
  | 16 => ("LikeYearsModel", "nYear", "[I", true)
  | 17 => ("LikeYearsModel", "nGiven", "[I", true)
  | 18 => ("LikeYearsModel", "nWeight", "[I", true)
  | 19 => ("LikeYearsModel", "nFirst", "[I", true)
  | 20 => ("LikeYearsModel", "nSecond", "[I", true)
  | 21 => ("LikeYearsModel", "nPlace", "[I", true)
  | 22 => ("LikeYearsModel", "nNever", "[Z", true)
  | 23 => ("LikeYearsModel", "nHas", "[Z", true)
  | 24 => ("LikeYearsModel", "nMarks", "I", false)
  | 25 => ("LikeYearsModel", "nCases", "I", false)
  | 26 => ("LikeYearsModel", "nTolds", "I", false)
  | 27 => ("LikeYearsModel", "nLines", "I", false)
  | 28 => ("LikeYearsModel", "to", "[I", true)
  | 29 => ("LikeYearsModel", "steps", "[I", true)
  | 30 => ("LikeYearsModel", "judge", "[I", true)
  | 31 => ("LikeYearsModel", "year", "[I", true)
  | 32 => ("LikeYearsModel", "given", "[I", true)
  | 33 => ("LikeYearsModel", "weight", "[I", true)
  | 34 => ("LikeYearsModel", "firstOf", "[I", true)
  | 35 => ("LikeYearsModel", "secondOf", "[I", true)
  | 36 => ("LikeYearsModel", "counts", "[Z", true)
  | 37 => ("LikeYearsModel", "marks", "I", false)
  | 38 => ("LikeYearsModel", "cases", "I", false)
  | 39 => ("LikeYearsModel", "tolds", "I", false)
  | 40 => ("LikeYearsModel", "lines", "I", false)
  | 41 => ("LikeYearsModel", "names", "[J", true)
  | 42 => ("LikeYearsModel", "down", "[I", true)
  | 43 => ("LikeYearsModel", "up", "[I", true)
  | 44 => ("LikeYearsModel", "top", "J", false)
  | 45 => ("LikeYearsModel", "low", "J", false)
  | 46 => ("LikeYearsModel", "closed", "[I", true)
  | 47 => ("LikeYearsModel", "weights", "[I", true)
  | 48 => ("LikeYearsModel", "sums", "[I", true)
  | 49 => ("LikeYearsModel", "keptTop", "[J", true)
  | 50 => ("LikeYearsModel", "keptLow", "[J", true)
  | 51 => ("LikeYearsModel", "raised", "[I", true)
  | 52 => ("LikeYearsModel", "keptGap", "[I", true)
  | 53 => ("LikeYearsModel", "runWeight", "[I", true)
  | 54 => ("LikeYearsModel", "runSum", "[I", true)
  | 55 => ("LikeYearsModel", "runSquare", "[J", true)
  | 56 => ("LikeYearsModel", "nWhat", "[I", true)
  | 57 => ("LikeYearsModel", "nNumber", "[I", true)
  | 58 => ("LikeYearsModel", "nBegin", "[I", true)
  | 59 => ("LikeYearsModel", "nLeast", "[I", true)
  | 60 => ("LikeYearsModel", "nMost", "[I", true)
  | 61 => ("LikeYearsModel", "whats", "[I", true)
  | 62 => ("LikeYearsModel", "numbers", "[I", true)
  | 63 => ("LikeYearsModel", "begin", "[I", true)
  | 64 => ("LikeYearsModel", "leasts", "[I", true)
  | 65 => ("LikeYearsModel", "mosts", "[I", true)
  | 66 => ("LikeYearsModel", "waits", "[I", true)
  | 67 => ("LikeYearsModel", "pile", "[I", true)
  | 68 => ("LikeYearsModel", "nNotes", "I", false)
  | 69 => ("LikeYearsModel", "nLaws", "I", false)
  | 70 => ("LikeYearsModel", "lawMany", "I", false)
  | 71 => ("LikeYearsModel", "units", "I", false)
  | 72 => ("LikeYearsModel", "waiting", "I", false)
  | 73 => ("LikeYearsModel", "deep", "I", false)
  | 74 => ("LikeYearsModel", "news", "[I", true)
  | 75 => ("LikeYearsModel", "actKind", "[I", true)
  | 76 => ("LikeYearsModel", "actOf", "[I", true)
  | 77 => ("LikeYearsModel", "actOther", "[I", true)
  | 78 => ("LikeYearsModel", "done", "I", false)
  | 79 => ("LikeYearsModel", "undone", "I", false)
  | 80 => ("LikeYearsModel", "hasBox", "[Z", true)
  | 81 => ("LikeYearsModel", "boxCounts", "[Z", true)
  | 82 => ("LikeYearsModel", "boxCases", "[I", true)
  | 83 => ("LikeYearsModel", "boxSteps", "[I", true)
  | 84 => ("LikeYearsModel", "boxJudge", "[I", true)
  | 85 => ("LikeYearsModel", "boxYear", "[I", true)
  | 86 => ("LikeYearsModel", "boxGiven", "[I", true)
  | _ => ("LikeYearsModel", "boxWeight", "[I", true)
def tyX12 : Nat → FieldType := fun k => match k with
  | 0 => .array .int
  | 1 => .int
  | 2 => .int
  | 3 => .int
  | 4 => .int
  | 5 => .int
  | 6 => .int
  | 7 => .int
  | 8 => .int
  | 9 => .long
  | 10 => .boolean
  | 11 => .array .long
  | 12 => .array .long
  | 13 => .array .int
  | 14 => .array .int
  | 15 => .array .int
  | 16 => .array .int
  | 17 => .array .int
  | 18 => .array .int
  | 19 => .array .int
  | 20 => .array .int
  | 21 => .array .int
  | 22 => .array .boolean
  | 23 => .array .boolean
  | 24 => .int
  | 25 => .int
  | 26 => .int
  | 27 => .int
  | 28 => .array .int
  | 29 => .array .int
  | 30 => .array .int
  | 31 => .array .int
  | 32 => .array .int
  | 33 => .array .int
  | 34 => .array .int
  | 35 => .array .int
  | 36 => .array .boolean
  | 37 => .int
  | 38 => .int
  | 39 => .int
  | 40 => .int
  | 41 => .array .long
  | 42 => .array .int
  | 43 => .array .int
  | 44 => .long
  | 45 => .long
  | 46 => .array .int
  | 47 => .array .int
  | 48 => .array .int
  | 49 => .array .long
  | 50 => .array .long
  | 51 => .array .int
  | 52 => .array .int
  | 53 => .array .int
  | 54 => .array .int
  | 55 => .array .long
  | 56 => .array .int
  | 57 => .array .int
  | 58 => .array .int
  | 59 => .array .int
  | 60 => .array .int
  | 61 => .array .int
  | 62 => .array .int
  | 63 => .array .int
  | 64 => .array .int
  | 65 => .array .int
  | 66 => .array .int
  | 67 => .array .int
  | 68 => .int
  | 69 => .int
  | 70 => .int
  | 71 => .int
  | 72 => .int
  | 73 => .int
  | 74 => .array .int
  | 75 => .array .int
  | 76 => .array .int
  | 77 => .array .int
  | 78 => .int
  | 79 => .int
  | 80 => .array .boolean
  | 81 => .array .boolean
  | 82 => .array .int
  | 83 => .array .int
  | 84 => .array .int
  | 85 => .array .int
  | 86 => .array .int
  | _ => .array .int
set_option maxRecDepth 100000 in
theorem nmX12 : ∀ a, a < 88 → ∀ b, b < 88 → a ≠ b → (TX12 a).2.1 ≠ (TX12 b).2.1 := by decide +kernel
set_option maxRecDepth 100000 in
theorem tyX12_ok : ∀ k, k < 88 → parseFieldDescriptor (TX12 k).2.2.1 = some (tyX12 k) := by decide +kernel
abbrev cX12_init : ByteArray := prog_14_method_1_code
def yX12_init : MethodName := ⟨RX12, "<init>", "()V"⟩
abbrev cX12_feed : ByteArray := prog_14_method_2_code
def yX12_feed : MethodName := ⟨RX12, "feed", "(IIIII)I"⟩
abbrev cX12_four : ByteArray := prog_14_method_3_code
def yX12_four : MethodName := ⟨RX12, "four", "(I)V"⟩
abbrev cX12_end : ByteArray := prog_14_method_4_code
def yX12_end : MethodName := ⟨RX12, "end", "(I)I"⟩
abbrev cX12_here : ByteArray := prog_14_method_5_code
def yX12_here : MethodName := ⟨RX12, "here", "(I)I"⟩
abbrev cX12_isLetter : ByteArray := prog_14_method_6_code
def yX12_isLetter : MethodName := ⟨RX12, "isLetter", "(I)Z"⟩
abbrev cX12_isDigit : ByteArray := prog_14_method_7_code
def yX12_isDigit : MethodName := ⟨RX12, "isDigit", "(I)Z"⟩
abbrev cX12_isLawSign : ByteArray := prog_14_method_8_code
def yX12_isLawSign : MethodName := ⟨RX12, "isLawSign", "(I)Z"⟩
abbrev cX12_token : ByteArray := prog_14_method_9_code
def yX12_token : MethodName := ⟨RX12, "token", "()V"⟩
abbrev cX12_wrong : ByteArray := prog_14_method_10_code
def yX12_wrong : MethodName := ⟨RX12, "wrong", "(I)V"⟩
abbrev cX12_isWord : ByteArray := prog_14_method_11_code
def yX12_isWord : MethodName := ⟨RX12, "isWord", "(J)Z"⟩
abbrev cX12_isName : ByteArray := prog_14_method_12_code
def yX12_isName : MethodName := ⟨RX12, "isName", "()Z"⟩
abbrev cX12_isNoLawWord : ByteArray := prog_14_method_13_code
def yX12_isNoLawWord : MethodName := ⟨RX12, "isNoLawWord", "()Z"⟩
abbrev cX12_want : ByteArray := prog_14_method_14_code
def yX12_want : MethodName := ⟨RX12, "want", "(J)V"⟩
abbrev cX12_told : ByteArray := prog_14_method_15_code
def yX12_told : MethodName := ⟨RX12, "told", "(II)I"⟩
abbrev cX12_markOf : ByteArray := prog_14_method_16_code
def yX12_markOf : MethodName := ⟨RX12, "markOf", "(J)I"⟩
abbrev cX12_caseOf : ByteArray := prog_14_method_17_code
def yX12_caseOf : MethodName := ⟨RX12, "caseOf", "(J)I"⟩
abbrev cX12_newName : ByteArray := prog_14_method_18_code
def yX12_newName : MethodName := ⟨RX12, "newName", "()J"⟩
abbrev cX12_oldName : ByteArray := prog_14_method_19_code
def yX12_oldName : MethodName := ⟨RX12, "oldName", "(Z)I"⟩
abbrev cX12_readMark : ByteArray := prog_14_method_20_code
def yX12_readMark : MethodName := ⟨RX12, "readMark", "()V"⟩
abbrev cX12_readNever : ByteArray := prog_14_method_21_code
def yX12_readNever : MethodName := ⟨RX12, "readNever", "()V"⟩
abbrev cX12_readCase : ByteArray := prog_14_method_22_code
def yX12_readCase : MethodName := ⟨RX12, "readCase", "()V"⟩
abbrev cX12_readTold : ByteArray := prog_14_method_23_code
def yX12_readTold : MethodName := ⟨RX12, "readTold", "()V"⟩
abbrev cX12_readLine : ByteArray := prog_14_method_24_code
def yX12_readLine : MethodName := ⟨RX12, "readLine", "()V"⟩
abbrev cX12_book : ByteArray := prog_14_method_25_code
def yX12_book : MethodName := ⟨RX12, "book", "()I"⟩
abbrev cX12_fault : ByteArray := prog_14_method_26_code
def yX12_fault : MethodName := ⟨RX12, "fault", "(I)I"⟩
abbrev cX12_close : ByteArray := prog_14_method_27_code
def yX12_close : MethodName := ⟨RX12, "close", "([II)V"⟩
abbrev cX12_firstRound : ByteArray := prog_14_method_28_code
def yX12_firstRound : MethodName := ⟨RX12, "firstRound", "()I"⟩
abbrev cX12_isOverBy : ByteArray := prog_14_method_29_code
def yX12_isOverBy : MethodName := ⟨RX12, "isOverBy", "(III)Z"⟩
abbrev cX12_counting : ByteArray := prog_14_method_30_code
def yX12_counting : MethodName := ⟨RX12, "counting", "()I"⟩
abbrev cX12_order : ByteArray := prog_14_method_31_code
def yX12_order : MethodName := ⟨RX12, "order", "(IZ)V"⟩
abbrev cX12_orderNow : ByteArray := prog_14_method_32_code
def yX12_orderNow : MethodName := ⟨RX12, "orderNow", "()V"⟩
abbrev cX12_goesRound : ByteArray := prog_14_method_33_code
def yX12_goesRound : MethodName := ⟨RX12, "goesRound", "(I)Z"⟩
abbrev cX12_isCase : ByteArray := prog_14_method_34_code
def yX12_isCase : MethodName := ⟨RX12, "isCase", "(I)Z"⟩
abbrev cX12_isMark : ByteArray := prog_14_method_35_code
def yX12_isMark : MethodName := ⟨RX12, "isMark", "(I)Z"⟩
abbrev cX12_isOver : ByteArray := prog_14_method_36_code
def yX12_isOver : MethodName := ⟨RX12, "isOver", "(II)Z"⟩
abbrev cX12_worse : ByteArray := prog_14_method_37_code
def yX12_worse : MethodName := ⟨RX12, "worse", "(II)I"⟩
abbrev cX12_gapOf : ByteArray := prog_14_method_38_code
def yX12_gapOf : MethodName := ⟨RX12, "gapOf", "(II)I"⟩
abbrev cX12_eitherGap : ByteArray := prog_14_method_39_code
def yX12_eitherGap : MethodName := ⟨RX12, "eitherGap", "(II)I"⟩
abbrev cX12_clashes : ByteArray := prog_14_method_40_code
def yX12_clashes : MethodName := ⟨RX12, "clashes", "()I"⟩
abbrev cX12_clash : ByteArray := prog_14_method_41_code
def yX12_clash : MethodName := ⟨RX12, "clash", "(I)I"⟩
abbrev cX12_oddest : ByteArray := prog_14_method_42_code
def yX12_oddest : MethodName := ⟨RX12, "oddest", "(I)I"⟩
abbrev cX12_beside : ByteArray := prog_14_method_43_code
def yX12_beside : MethodName := ⟨RX12, "beside", "(I)I"⟩
abbrev cX12_common : ByteArray := prog_14_method_44_code
def yX12_common : MethodName := ⟨RX12, "common", "(JJ)J"⟩
abbrev cX12_put : ByteArray := prog_14_method_45_code
def yX12_put : MethodName := ⟨RX12, "put", "(JJ)V"⟩
abbrev cX12_add : ByteArray := prog_14_method_46_code
def yX12_add : MethodName := ⟨RX12, "add", "(JJ)V"⟩
abbrev cX12_isPart : ByteArray := prog_14_method_47_code
def yX12_isPart : MethodName := ⟨RX12, "isPart", "(I)Z"⟩
abbrev cX12_partOf : ByteArray := prog_14_method_48_code
def yX12_partOf : MethodName := ⟨RX12, "partOf", "(I)J"⟩
abbrev cX12_lowest : ByteArray := prog_14_method_49_code
def yX12_lowest : MethodName := ⟨RX12, "lowest", "(I)I"⟩
abbrev cX12_layOut : ByteArray := prog_14_method_50_code
def yX12_layOut : MethodName := ⟨RX12, "layOut", "()V"⟩
abbrev cX12_square : ByteArray := prog_14_method_51_code
def yX12_square : MethodName := ⟨RX12, "square", "(I)V"⟩
abbrev cX12_takeOff : ByteArray := prog_14_method_52_code
def yX12_takeOff : MethodName := ⟨RX12, "takeOff", "(I)V"⟩
abbrev cX12_allCases : ByteArray := prog_14_method_53_code
def yX12_allCases : MethodName := ⟨RX12, "allCases", "()I"⟩
abbrev cX12_nextGiven : ByteArray := prog_14_method_54_code
def yX12_nextGiven : MethodName := ⟨RX12, "nextGiven", "(I)I"⟩
abbrev cX12_raise : ByteArray := prog_14_method_55_code
def yX12_raise : MethodName := ⟨RX12, "raise", "()V"⟩
abbrev cX12_gaps : ByteArray := prog_14_method_56_code
def yX12_gaps : MethodName := ⟨RX12, "gaps", "()V"⟩
abbrev cX12_leastUpper : ByteArray := prog_14_method_57_code
def yX12_leastUpper : MethodName := ⟨RX12, "leastUpper", "(I)I"⟩
abbrev cX12_gapOff : ByteArray := prog_14_method_58_code
def yX12_gapOff : MethodName := ⟨RX12, "gapOff", "(I)I"⟩
abbrev cX12_partedFrom : ByteArray := prog_14_method_59_code
def yX12_partedFrom : MethodName := ⟨RX12, "partedFrom", "(I)I"⟩
abbrev cX12_block : ByteArray := prog_14_method_60_code
def yX12_block : MethodName := ⟨RX12, "block", "(I)I"⟩
abbrev cX12_between : ByteArray := prog_14_method_61_code
def yX12_between : MethodName := ⟨RX12, "between", "(I)I"⟩
abbrev cX12_kept : ByteArray := prog_14_method_62_code
def yX12_kept : MethodName := ⟨RX12, "kept", "(III)J"⟩
abbrev cX12_cost : ByteArray := prog_14_method_63_code
def yX12_cost : MethodName := ⟨RX12, "cost", "(II)J"⟩
abbrev cX12_bitsOf : ByteArray := prog_14_method_64_code
def yX12_bitsOf : MethodName := ⟨RX12, "bitsOf", "(I)I"⟩
abbrev cX12_again : ByteArray := prog_14_method_65_code
def yX12_again : MethodName := ⟨RX12, "again", "(I)I"⟩
abbrev cX12_isGrid : ByteArray := prog_14_method_66_code
def yX12_isGrid : MethodName := ⟨RX12, "isGrid", "(II)Z"⟩
abbrev cX12_grid : ByteArray := prog_14_method_67_code
def yX12_grid : MethodName := ⟨RX12, "grid", "(III)J"⟩
abbrev cX12_loses : ByteArray := prog_14_method_68_code
def yX12_loses : MethodName := ⟨RX12, "loses", "(III)J"⟩
abbrev cX12_best : ByteArray := prog_14_method_69_code
def yX12_best : MethodName := ⟨RX12, "best", "()I"⟩
abbrev cX12_runCost : ByteArray := prog_14_method_70_code
def yX12_runCost : MethodName := ⟨RX12, "runCost", "(II)V"⟩
abbrev cX12_canRun : ByteArray := prog_14_method_71_code
def yX12_canRun : MethodName := ⟨RX12, "canRun", "(II)Z"⟩
abbrev cX12_seekRuns : ByteArray := prog_14_method_72_code
def yX12_seekRuns : MethodName := ⟨RX12, "seekRuns", "(II)I"⟩
abbrev cX12_runs : ByteArray := prog_14_method_73_code
def yX12_runs : MethodName := ⟨RX12, "runs", "(III)J"⟩
abbrev cX12_begins : ByteArray := prog_14_method_74_code
def yX12_begins : MethodName := ⟨RX12, "begins", "(II)I"⟩
abbrev cX12_isJudge : ByteArray := prog_14_method_75_code
def yX12_isJudge : MethodName := ⟨RX12, "isJudge", "(I)Z"⟩
abbrev cX12_offOf : ByteArray := prog_14_method_76_code
def yX12_offOf : MethodName := ⟨RX12, "offOf", "(I)I"⟩
abbrev cX12_off : ByteArray := prog_14_method_77_code
def yX12_off : MethodName := ⟨RX12, "off", "(I)I"⟩
abbrev cX12_luck : ByteArray := prog_14_method_78_code
def yX12_luck : MethodName := ⟨RX12, "luck", "(II)J"⟩
abbrev cX12_upto : ByteArray := prog_14_method_79_code
def yX12_upto : MethodName := ⟨RX12, "upto", "(II)J"⟩
abbrev cX12_within : ByteArray := prog_14_method_80_code
def yX12_within : MethodName := ⟨RX12, "within", "()I"⟩
abbrev cX12_drift : ByteArray := prog_14_method_81_code
def yX12_drift : MethodName := ⟨RX12, "drift", "(II)J"⟩
abbrev cX12_isMonths : ByteArray := prog_14_method_82_code
def yX12_isMonths : MethodName := ⟨RX12, "isMonths", "(I)Z"⟩
abbrev cX12_law : ByteArray := prog_14_method_83_code
def yX12_law : MethodName := ⟨RX12, "law", "(IIIII)I"⟩
abbrev cX12_mercy : ByteArray := prog_14_method_84_code
def yX12_mercy : MethodName := ⟨RX12, "mercy", "(I)I"⟩
abbrev cX12_note : ByteArray := prog_14_method_85_code
def yX12_note : MethodName := ⟨RX12, "note", "(II)V"⟩
abbrev cX12_upper : ByteArray := prog_14_method_86_code
def yX12_upper : MethodName := ⟨RX12, "upper", "()I"⟩
abbrev cX12_hold : ByteArray := prog_14_method_87_code
def yX12_hold : MethodName := ⟨RX12, "hold", "(I)V"⟩
abbrev cX12_pop : ByteArray := prog_14_method_88_code
def yX12_pop : MethodName := ⟨RX12, "pop", "()V"⟩
abbrev cX12_settle : ByteArray := prog_14_method_89_code
def yX12_settle : MethodName := ⟨RX12, "settle", "(I)V"⟩
abbrev cX12_isOpen : ByteArray := prog_14_method_90_code
def yX12_isOpen : MethodName := ⟨RX12, "isOpen", "()Z"⟩
abbrev cX12_rank : ByteArray := prog_14_method_91_code
def yX12_rank : MethodName := ⟨RX12, "rank", "(I)I"⟩
abbrev cX12_known : ByteArray := prog_14_method_92_code
def yX12_known : MethodName := ⟨RX12, "known", "()I"⟩
abbrev cX12_named : ByteArray := prog_14_method_93_code
def yX12_named : MethodName := ⟨RX12, "named", "()I"⟩
abbrev cX12_operand : ByteArray := prog_14_method_94_code
def yX12_operand : MethodName := ⟨RX12, "operand", "(I)I"⟩
abbrev cX12_sign : ByteArray := prog_14_method_95_code
def yX12_sign : MethodName := ⟨RX12, "sign", "()I"⟩
abbrev cX12_readLaw : ByteArray := prog_14_method_96_code
def yX12_readLaw : MethodName := ⟨RX12, "readLaw", "()V"⟩
abbrev cX12_laws : ByteArray := prog_14_method_97_code
def yX12_laws : MethodName := ⟨RX12, "laws", "()I"⟩
abbrev cX12_worked : ByteArray := prog_14_method_98_code
def yX12_worked : MethodName := ⟨RX12, "worked", "(III)I"⟩
abbrev cX12_askedOf : ByteArray := prog_14_method_99_code
def yX12_askedOf : MethodName := ⟨RX12, "askedOf", "(II)I"⟩
abbrev cX12_holds : ByteArray := prog_14_method_100_code
def yX12_holds : MethodName := ⟨RX12, "holds", "(II)Z"⟩
abbrev cX12_lineOf : ByteArray := prog_14_method_101_code
def yX12_lineOf : MethodName := ⟨RX12, "lineOf", "(I)I"⟩
abbrev cX12_lawOf : ByteArray := prog_14_method_102_code
def yX12_lawOf : MethodName := ⟨RX12, "lawOf", "(I)I"⟩
abbrev cX12_movedBy : ByteArray := prog_14_method_103_code
def yX12_movedBy : MethodName := ⟨RX12, "movedBy", "(I)I"⟩
abbrev cX12_moved : ByteArray := prog_14_method_104_code
def yX12_moved : MethodName := ⟨RX12, "moved", "(I)I"⟩
abbrev cX12_step : ByteArray := prog_14_method_105_code
def yX12_step : MethodName := ⟨RX12, "step", "(II)Z"⟩
abbrev cX12_aroundNew : ByteArray := prog_14_method_106_code
def yX12_aroundNew : MethodName := ⟨RX12, "aroundNew", "(Z)I"⟩
abbrev cX12_ends : ByteArray := prog_14_method_107_code
def yX12_ends : MethodName := ⟨RX12, "ends", "(ZI)J"⟩
abbrev cX12_first : ByteArray := prog_14_method_108_code
def yX12_first : MethodName := ⟨RX12, "first", "(I)I"⟩
abbrev cX12_act : ByteArray := prog_14_method_109_code
def yX12_act : MethodName := ⟨RX12, "act", "(III)V"⟩
abbrev cX12_turn : ByteArray := prog_14_method_110_code
def yX12_turn : MethodName := ⟨RX12, "turn", "(IZ)V"⟩
abbrev cX12_come : ByteArray := prog_14_method_111_code
def yX12_come : MethodName := ⟨RX12, "come", "(IIII)I"⟩
abbrev cX12_count : ByteArray := prog_14_method_112_code
def yX12_count : MethodName := ⟨RX12, "count", "(IZ)Z"⟩
abbrev cX12_give : ByteArray := prog_14_method_113_code
def yX12_give : MethodName := ⟨RX12, "give", "(II)Z"⟩
abbrev cX12_undo : ByteArray := prog_14_method_114_code
def yX12_undo : MethodName := ⟨RX12, "undo", "()Z"⟩
abbrev cX12_redo : ByteArray := prog_14_method_115_code
def yX12_redo : MethodName := ⟨RX12, "redo", "()Z"⟩
abbrev cX12_isBox : ByteArray := prog_14_method_116_code
def yX12_isBox : MethodName := ⟨RX12, "isBox", "(I)Z"⟩
abbrev cX12_keep : ByteArray := prog_14_method_117_code
def yX12_keep : MethodName := ⟨RX12, "keep", "(I)I"⟩
abbrev cX12_back : ByteArray := prog_14_method_118_code
def yX12_back : MethodName := ⟨RX12, "back", "(I)I"⟩
abbrev cX12_about : ByteArray := prog_14_method_119_code
def yX12_about : MethodName := ⟨RX12, "about", "(I)I"⟩
def RJ6 : String := "java/lang/Integer"
abbrev cJ6_bitCount_0f7a4 : ByteArray := prog_16_method_49_code
def yJ6_bitCount_0f7a4 : MethodName := ⟨RJ6, "bitCount", "(I)I"⟩
def RJ13 : String := "java/lang/Long"
abbrev cJ13_compare_74951 : ByteArray := prog_17_method_42_code
def yJ13_compare_74951 : MethodName := ⟨RJ13, "compare", "(JJ)I"⟩
def RJ9 : String := "java/lang/Math"
abbrev cJ9_abs_0f7a4 : ByteArray := prog_18_method_59_code
def yJ9_abs_0f7a4 : MethodName := ⟨RJ9, "abs", "(I)I"⟩
abbrev cJ9_abs_067f4 : ByteArray := prog_18_method_61_code
def yJ9_abs_067f4 : MethodName := ⟨RJ9, "abs", "(J)J"⟩
abbrev cJ9_max_7cf53 : ByteArray := prog_18_method_65_code
def yJ9_max_7cf53 : MethodName := ⟨RJ9, "max", "(II)I"⟩
abbrev cJ9_min_7cf53 : ByteArray := prog_18_method_69_code
def yJ9_min_7cf53 : MethodName := ⟨RJ9, "min", "(II)I"⟩
def RJ7 : String := "java/util/Arrays"
abbrev cJ7_fill_53178 : ByteArray := prog_23_method_103_code
def yJ7_fill_53178 : MethodName := ⟨RJ7, "fill", "([II)V"⟩
abbrev cJ7_fill_49daa : ByteArray := prog_23_method_111_code
def yJ7_fill_49daa : MethodName := ⟨RJ7, "fill", "([ZZ)V"⟩
def RL : String := "LikeYearsLaw"
end
section
/-! TABLES of the program for the logic of part 03: owners, labels of the cells, kinds of fields, methods, their code -/
abbrev Ins : Type := Instr × Nat × Nat × Nat × Int
def cnmL : List String := ["LikeYears$Acts", "LikeYears$Book", "LikeYears$BookReader", "LikeYears$Choices", "LikeYears$Cut", "LikeYears$Fraction", "LikeYears$Laws", "LikeYears$Nearest", "LikeYears$Order", "LikeYears$Parting", "LikeYears$Tape", "LikeYears", "LikeYearsModel", "LikeYearsLaw", "java/lang/Math", "java/lang/Integer", "java/lang/Long", "java/util/Arrays"]
def cnm (k : Nat) : String := cnmL.getD k ""
/-- kind and size of each cell: below 13 an object of that class; 20 int[], 21 long[], 22 byte[], 23 boolean[], 24 Book[] -/
def shL : List (Nat × Nat) := [(11, 18), (10, 12), (22, 1300), (20, 1301), (20, 1301), (21, 1301), (8, 2), (20, 16), (20, 16), (2, 6), (21, 16), (20, 20), (1, 13), (21, 6), (20, 6), (20, 16), (20, 16), (20, 16), (20, 16), (20, 102), (20, 20), (20, 20), (1, 13), (21, 6), (20, 6), (20, 16), (20, 16), (20, 16), (20, 16), (20, 102), (20, 20), (20, 20), (1, 13), (21, 6), (20, 6), (20, 16), (20, 16), (20, 16), (20, 16), (20, 102), (20, 20), (20, 20), (1, 13), (21, 6), (20, 6), (20, 16), (20, 16), (20, 16), (20, 16), (20, 102), (20, 20), (20, 20), (1, 13), (21, 6), (20, 6), (20, 16), (20, 16), (20, 16), (20, 16), (20, 102), (20, 20), (20, 20), (6, 12), (20, 8), (20, 8), (20, 8), (20, 500), (20, 500), (20, 50), (6, 12), (20, 8), (20, 8), (20, 8), (20, 500), (20, 500), (20, 50), (24, 3), (23, 3), (0, 6), (20, 60), (20, 60), (20, 60), (20, 60), (8, 2), (20, 16), (20, 16), (4, 9), (20, 16), (20, 16), (20, 256), (20, 16), (20, 16), (7, 10), (20, 16), (21, 16), (21, 16), (5, 2), (20, 16), (20, 16), (20, 17), (5, 2), (7, 10), (20, 16), (21, 16), (21, 16), (5, 2), (20, 16), (20, 16), (20, 17), (5, 2), (3, 7), (20, 16), (20, 16), (20, 17), (9, 10), (5, 2), (20, 13), (20, 13), (20, 13), (21, 169), (21, 169), (20, 169), (5, 2), (5, 2), (12, 88), (20, 1300), (21, 6), (21, 16), (20, 6), (20, 96), (20, 16), (20, 16), (20, 16), (20, 16), (20, 20), (20, 20), (20, 20), (23, 6), (23, 6), (20, 6), (20, 96), (20, 16), (20, 16), (20, 16), (20, 16), (20, 20), (20, 20), (23, 6), (21, 6), (20, 16), (20, 16), (20, 65536), (20, 65536), (20, 65536), (21, 16), (21, 16), (20, 65536), (20, 16), (20, 13), (20, 13), (21, 13), (20, 600), (20, 600), (20, 9), (20, 8), (20, 8), (20, 600), (20, 600), (20, 9), (20, 8), (20, 8), (20, 600), (20, 60), (20, 6), (20, 60), (20, 60), (20, 60), (23, 3), (23, 18), (20, 3), (20, 288), (20, 48), (20, 48), (20, 48), (20, 48)]
def shp (k : Nat) : Nat × Nat := shL.getD k (99, 0)
/-- kinds of fields: 0 int, 1 long, 2 boolean, 3 a reference that changes, 4 a final one to the cell so much behind, 5 a final one to that cell -/
def fkL : List (List (Nat × Nat)) := [[(0, 0), (0, 0), (4, 1), (4, 2), (4, 3), (4, 4)],
  [(0, 0), (4, 1), (4, 2), (0, 0), (0, 0), (4, 3), (4, 4), (4, 5), (4, 6), (4, 7), (0, 0), (4, 8), (4, 9)],
  [(5, 1), (5, 6), (3, 0), (4, 1), (4, 2), (0, 0)],
  [(0, 0), (0, 0), (0, 0), (4, 1), (4, 2), (4, 3), (0, 0)],
  [(4, 1), (4, 2), (4, 3), (4, 4), (4, 5), (3, 0), (0, 0), (0, 0), (0, 0)],
  [(1, 0), (1, 0)],
  [(5, 1), (3, 0), (0, 0), (4, 1), (4, 2), (4, 3), (4, 4), (4, 5), (0, 0), (0, 0), (4, 6), (0, 0)],
  [(5, 86), (4, 1), (4, 2), (4, 3), (4, 4), (4, 5), (4, 6), (0, 0), (4, 7), (4, 8)],
  [(4, 1), (4, 2)],
  [(4, 1), (0, 0), (0, 0), (4, 2), (4, 3), (4, 4), (4, 5), (4, 6), (4, 7), (4, 8)],
  [(0, 0), (0, 0), (0, 0), (0, 0), (0, 0), (1, 0), (4, 1), (4, 2), (4, 3), (4, 4), (0, 0), (0, 0)],
  [(5, 1), (5, 9), (3, 0), (3, 0), (3, 0), (3, 0), (5, 76), (5, 77), (5, 78), (5, 83), (5, 6), (5, 92), (5, 101), (5, 110), (5, 114), (5, 123), (0, 0), (0, 0)],
  [(4, 1), (0, 0), (0, 0), (0, 0), (0, 0), (0, 0), (0, 0), (0, 0), (0, 0), (1, 0), (2, 0), (4, 2), (4, 3), (4, 4), (4, 5), (4, 6), (4, 7), (4, 8), (4, 9), (4, 10), (4, 11), (4, 12), (4, 13), (4, 14), (0, 0), (0, 0), (0, 0), (0, 0), (4, 15), (4, 16), (4, 17), (4, 18), (4, 19), (4, 20), (4, 21), (4, 22), (4, 23), (0, 0), (0, 0), (0, 0), (0, 0), (4, 24), (4, 25), (4, 26), (1, 0), (1, 0), (4, 27), (4, 28), (4, 29), (4, 30), (4, 31), (4, 32), (4, 33), (4, 34), (4, 35), (4, 36), (4, 37), (4, 38), (4, 39), (4, 40), (4, 41), (4, 42), (4, 43), (4, 44), (4, 45), (4, 46), (4, 47), (4, 48), (0, 0), (0, 0), (0, 0), (0, 0), (0, 0), (0, 0), (4, 49), (4, 50), (4, 51), (4, 52), (0, 0), (0, 0), (4, 53), (4, 54), (4, 55), (4, 56), (4, 57), (4, 58), (4, 59), (4, 60)]]
def fkd (ci k : Nat) : Nat × Nat := (fkL.getD ci []).getD k (9, 0)
abbrev clss : List vw_C := [(RX0, TX0, 6), (RX1, TX1, 13), (RX2, TX2, 6), (RX3, TX3, 7), (RX4, TX4, 9), (RX5, TX5, 2), (RX6, TX6, 12), (RX7, TX7, 10), (RX8, TX8, 2), (RX9, TX9, 10), (RX10, TX10, 12), (RX11, TX11, 18), (RX12, TX12, 88)]
def tyOf : Nat → Nat → FieldType := fun ci => match ci with
  | 0 => tyX0
  | 1 => tyX1
  | 2 => tyX2
  | 3 => tyX3
  | 4 => tyX4
  | 5 => tyX5
  | 6 => tyX6
  | 7 => tyX7
  | 8 => tyX8
  | 9 => tyX9
  | 10 => tyX10
  | 11 => tyX11
  | _ => tyX12
def tOf : Nat → u_T := fun ci => match ci with
  | 0 => TX0
  | 1 => TX1
  | 2 => TX2
  | 3 => TX3
  | 4 => TX4
  | 5 => TX5
  | 6 => TX6
  | 7 => TX7
  | 8 => TX8
  | 9 => TX9
  | 10 => TX10
  | 11 => TX11
  | _ => TX12
-- 0: LikeYears$Acts.forget()V
def mc0 : List (Nat × Ins) := [(0, .aload_n 0, 1, 0, 0, 0), (1, .iconst 0, 2, 0, 0, 0), (2, .putfield 22, 5, 0, 0, 261), (5, .aload_n 0, 6, 0, 0, 0), (6, .iconst 0, 7, 0, 0, 0), (7, .putfield 26, 10, 0, 1, 263), (10, .return_, 11, 0, 0, 0)]
-- 1: LikeYears$Acts.add(IIII)V
def mc1_0 : List (Nat × Ins) := [(0, .aload_n 0, 1, 0, 0, 0), (1, .getfield 22, 4, 0, 0, 261), (4, .bipush 60, 6, 0, 0, 0), (6, .if_icmp .ne 41, 9, 47, 0, 0), (9, .aload_n 0, 10, 0, 0, 0), (10, .getfield 9, 13, 0, 2, 264), (13, .invokestatic 29, 16, 2, 1307, 0), (16, .aload_n 0, 17, 0, 0, 0), (17, .getfield 13, 20, 0, 3, 265), (20, .invokestatic 29, 23, 2, 1307, 0), (23, .aload_n 0, 24, 0, 0, 0), (24, .getfield 16, 27, 0, 4, 266), (27, .invokestatic 29, 30, 2, 1307, 0), (30, .aload_n 0, 31, 0, 0, 0), (31, .getfield 19, 34, 0, 5, 267), (34, .invokestatic 29, 37, 2, 1307, 0), (37, .aload_n 0, 38, 0, 0, 0), (38, .dup, 39, 0, 0, 0), (39, .getfield 22, 42, 0, 0, 261), (42, .iconst 1, 43, 0, 0, 0), (43, .isub, 44, 0, 0, 0), (44, .putfield 22, 47, 0, 0, 261), (47, .aload_n 0, 48, 0, 0, 0), (48, .getfield 9, 51, 0, 2, 264), (51, .aload_n 0, 52, 0, 0, 0), (52, .getfield 22, 55, 0, 0, 261), (55, .iload_n 1, 56, 1, 0, 0), (56, .iastore, 57, 0, 0, 0), (57, .aload_n 0, 58, 0, 0, 0), (58, .getfield 13, 61, 0, 3, 265), (61, .aload_n 0, 62, 0, 0, 0), (62, .getfield 22, 65, 0, 0, 261), (65, .iload_n 2, 66, 2, 0, 0), (66, .iastore, 67, 0, 0, 0), (67, .aload_n 0, 68, 0, 0, 0), (68, .getfield 16, 71, 0, 4, 266), (71, .aload_n 0, 72, 0, 0, 0), (72, .getfield 22, 75, 0, 0, 261), (75, .iload_n 3, 76, 3, 0, 0), (76, .iastore, 77, 0, 0, 0)]
def mc1_1 : List (Nat × Ins) := [(77, .aload_n 0, 78, 0, 0, 0), (78, .getfield 19, 81, 0, 5, 267), (81, .aload_n 0, 82, 0, 0, 0), (82, .getfield 22, 85, 0, 0, 261), (85, .iload 4, 87, 4, 0, 0), (87, .iastore, 88, 0, 0, 0), (88, .aload_n 0, 89, 0, 0, 0), (89, .dup, 90, 0, 0, 0), (90, .getfield 22, 93, 0, 0, 261), (93, .iconst 1, 94, 0, 0, 0), (94, .iadd, 95, 0, 0, 0), (95, .putfield 22, 98, 0, 0, 261), (98, .aload_n 0, 99, 0, 0, 0), (99, .aload_n 0, 100, 0, 0, 0), (100, .getfield 22, 103, 0, 0, 261), (103, .putfield 26, 106, 0, 1, 263), (106, .return_, 107, 0, 0, 0)]
def mc1 : List (Nat × Ins) := mc1_0 ++ mc1_1
-- 2: LikeYears$Acts.dropFirst([I)V
def mc2 : List (Nat × Ins) := [(0, .aload_n 0, 1, 0, 0, 0), (1, .iconst 1, 2, 0, 0, 0), (2, .aload_n 0, 3, 0, 0, 0), (3, .iconst 0, 4, 0, 0, 0), (4, .bipush 59, 6, 0, 0, 0), (6, .invokestatic 33, 9, 9000, 1310, 0), (9, .return_, 10, 0, 0, 0)]
-- 3: LikeYears$Acts.takeBack(LLikeYears$Book;)Z
def mc3_0 : List (Nat × Ins) := [(0, .aload_n 0, 1, 0, 0, 0), (1, .getfield 22, 4, 0, 0, 261), (4, .ifCond .ne 5, 7, 9, 0, 0), (7, .iconst 0, 8, 0, 0, 0), (8, .ireturn, 9, 0, 0, 0), (9, .aload_n 0, 10, 0, 0, 0), (10, .dup, 11, 0, 0, 0), (11, .getfield 22, 14, 0, 0, 261), (14, .iconst 1, 15, 0, 0, 0), (15, .isub, 16, 0, 0, 0), (16, .putfield 22, 19, 0, 0, 261), (19, .aload_n 0, 20, 0, 0, 0), (20, .getfield 9, 23, 0, 2, 264), (23, .aload_n 0, 24, 0, 0, 0), (24, .getfield 22, 27, 0, 0, 261), (27, .iaload, 28, 0, 0, 0), (28, .ifCond .ne 19, 31, 47, 0, 0), (31, .aload_n 1, 32, 1, 0, 0), (32, .aload_n 0, 33, 0, 0, 0), (33, .getfield 13, 36, 0, 3, 265), (36, .aload_n 0, 37, 0, 0, 0), (37, .getfield 22, 40, 0, 0, 261), (40, .iaload, 41, 0, 0, 0), (41, .putfield 39, 44, 1, 4, 150), (44, .goto 34, 47, 78, 0, 0), (47, .aload_n 1, 48, 1, 0, 0), (48, .aload_n 0, 49, 0, 0, 0), (49, .getfield 9, 52, 0, 2, 264), (52, .aload_n 0, 53, 0, 0, 0), (53, .getfield 22, 56, 0, 0, 261), (56, .iaload, 57, 0, 0, 0), (57, .aload_n 0, 58, 0, 0, 0), (58, .getfield 13, 61, 0, 3, 265), (61, .aload_n 0, 62, 0, 0, 0), (62, .getfield 22, 65, 0, 0, 261), (65, .iaload, 66, 0, 0, 0), (66, .aload_n 0, 67, 0, 0, 0), (67, .getfield 16, 70, 0, 4, 266), (70, .aload_n 0, 71, 0, 0, 0), (71, .getfield 22, 74, 0, 0, 261)]
def mc3_1 : List (Nat × Ins) := [(74, .iaload, 75, 0, 0, 0), (75, .invokestatic 44, 78, 5, 1332, 0), (78, .iconst 1, 79, 0, 0, 0), (79, .ireturn, 80, 0, 0, 0)]
def mc3 : List (Nat × Ins) := mc3_0 ++ mc3_1
-- 4: LikeYears$Acts.doAgain(LLikeYears$Book;)Z
def mc4 : List (Nat × Ins) := [(0, .aload_n 0, 1, 0, 0, 0), (1, .getfield 22, 4, 0, 0, 261), (4, .aload_n 0, 5, 0, 0, 0), (5, .getfield 26, 8, 0, 1, 263), (8, .if_icmp .ne 5, 11, 13, 0, 0), (11, .iconst 0, 12, 0, 0, 0), (12, .ireturn, 13, 0, 0, 0), (13, .aload_n 1, 14, 1, 0, 0), (14, .aload_n 0, 15, 0, 0, 0), (15, .getfield 9, 18, 0, 2, 264), (18, .aload_n 0, 19, 0, 0, 0), (19, .getfield 22, 22, 0, 0, 261), (22, .iaload, 23, 0, 0, 0), (23, .aload_n 0, 24, 0, 0, 0), (24, .getfield 13, 27, 0, 3, 265), (27, .aload_n 0, 28, 0, 0, 0), (28, .getfield 22, 31, 0, 0, 261), (31, .iaload, 32, 0, 0, 0), (32, .aload_n 0, 33, 0, 0, 0), (33, .getfield 19, 36, 0, 5, 267), (36, .aload_n 0, 37, 0, 0, 0), (37, .getfield 22, 40, 0, 0, 261), (40, .iaload, 41, 0, 0, 0), (41, .invokestatic 44, 44, 5, 1332, 0), (44, .aload_n 0, 45, 0, 0, 0), (45, .dup, 46, 0, 0, 0), (46, .getfield 22, 49, 0, 0, 261), (49, .iconst 1, 50, 0, 0, 0), (50, .iadd, 51, 0, 0, 0), (51, .putfield 22, 54, 0, 0, 261), (54, .iconst 1, 55, 0, 0, 0), (55, .ireturn, 56, 0, 0, 0)]
-- 5: LikeYears$Acts.carryOut(LLikeYears$Book;III)V
def mc5 : List (Nat × Ins) := [(0, .iload_n 1, 1, 1, 0, 0), (1, .lookupswitch 58 #[(0, 27), (1, 37)], 28, 0, 0, 0), (28, .aload_n 0, 29, 0, 0, 0), (29, .iload_n 2, 30, 2, 0, 0), (30, .iconst 1, 31, 0, 0, 0), (31, .iadd, 32, 0, 0, 0), (32, .putfield 39, 35, 1, 4, 150), (35, .goto 31, 38, 66, 0, 0), (38, .aload_n 0, 39, 0, 0, 0), (39, .aload_n 0, 40, 0, 0, 0), (40, .getfield 48, 43, 1, 3, 142), (43, .iconst 1, 44, 0, 0, 0), (44, .iload_n 2, 45, 2, 0, 0), (45, .ishl, 46, 0, 0, 0), (46, .iconst (-1), 47, 0, 0, 0), (47, .ixor, 48, 0, 0, 0), (48, .iand, 49, 0, 0, 0), (49, .iload_n 3, 50, 3, 0, 0), (50, .iload_n 2, 51, 2, 0, 0), (51, .ishl, 52, 0, 0, 0), (52, .ior, 53, 0, 0, 0), (53, .putfield 48, 56, 1, 3, 142), (56, .goto 10, 59, 66, 0, 0), (59, .aload_n 0, 60, 0, 0, 0), (60, .getfield 51, 63, 1, 7, 164), (63, .iload_n 2, 64, 2, 0, 0), (64, .iload_n 3, 65, 3, 0, 0), (65, .iastore, 66, 0, 0, 0), (66, .return_, 67, 0, 0, 0)]
-- 6: LikeYears$Book.empty()V
def mc6 : List (Nat × Ins) := [(0, .aload_n 0, 1, 0, 0, 0), (1, .iconst 0, 2, 0, 0, 0), (2, .putfield 40, 5, 1, 0, 134), (5, .aload_n 0, 6, 0, 0, 0), (6, .iconst 0, 7, 0, 0, 0), (7, .putfield 44, 10, 1, 3, 140), (10, .aload_n 0, 11, 0, 0, 0), (11, .iconst 0, 12, 0, 0, 0), (12, .putfield 47, 15, 1, 4, 146), (15, .aload_n 0, 16, 0, 0, 0), (16, .iconst 0, 17, 0, 0, 0), (17, .putfield 50, 20, 1, 10, 173), (20, .aload_n 0, 21, 0, 0, 0), (21, .getfield 31, 24, 1, 9, 172), (24, .iconst 0, 25, 0, 0, 0), (25, .invokestatic 53, 28, 292, 533, 0), (28, .return_, 29, 0, 0, 0)]
-- 7: LikeYears$Book.addMark(JI)V
def mc7 : List (Nat × Ins) := [(0, .aload_n 0, 1, 0, 0, 0), (1, .getfield 9, 4, 1, 1, 137), (4, .aload_n 0, 5, 0, 0, 0), (5, .getfield 40, 8, 1, 0, 134), (8, .lload_n 1, 9, 1, 0, 0), (9, .lastore, 10, 0, 0, 0), (10, .aload_n 0, 11, 0, 0, 0), (11, .getfield 15, 14, 1, 2, 138), (14, .aload_n 0, 15, 0, 0, 0), (15, .getfield 40, 18, 1, 0, 134), (18, .iload_n 3, 19, 3, 0, 0), (19, .iastore, 20, 0, 0, 0), (20, .aload_n 0, 21, 0, 0, 0), (21, .dup, 22, 0, 0, 0), (22, .getfield 44, 25, 1, 3, 140), (25, .iconst 1, 26, 0, 0, 0), (26, .aload_n 0, 27, 0, 0, 0), (27, .getfield 40, 30, 1, 0, 134), (30, .ishl, 31, 0, 0, 0), (31, .ior, 32, 0, 0, 0), (32, .putfield 44, 35, 1, 3, 140), (35, .aload_n 0, 36, 0, 0, 0), (36, .dup, 37, 0, 0, 0), (37, .getfield 40, 40, 1, 0, 134), (40, .iconst 1, 41, 0, 0, 0), (41, .iadd, 42, 0, 0, 0), (42, .putfield 40, 45, 1, 0, 134), (45, .return_, 46, 0, 0, 0)]
-- 8: LikeYears$Book.addTold(II)V
def mc8 : List (Nat × Ins) := [(0, .aload_n 0, 1, 0, 0, 0), (1, .getfield 34, 4, 1, 11, 177), (4, .aload_n 0, 5, 0, 0, 0), (5, .getfield 50, 8, 1, 10, 173), (8, .iload_n 1, 9, 1, 0, 0), (9, .iastore, 10, 0, 0, 0), (10, .aload_n 0, 11, 0, 0, 0), (11, .getfield 37, 14, 1, 12, 179), (14, .aload_n 0, 15, 0, 0, 0), (15, .getfield 50, 18, 1, 10, 173), (18, .iload_n 2, 19, 2, 0, 0), (19, .iastore, 20, 0, 0, 0), (20, .aload_n 0, 21, 0, 0, 0), (21, .dup, 22, 0, 0, 0), (22, .getfield 50, 25, 1, 10, 173), (25, .iconst 1, 26, 0, 0, 0), (26, .iadd, 27, 0, 0, 0), (27, .putfield 50, 30, 1, 10, 173), (30, .return_, 31, 0, 0, 0)]
-- 9: LikeYears$Book.setCase(IIIII)V
def mc9 : List (Nat × Ins) := [(0, .aload_n 0, 1, 0, 0, 0), (1, .getfield 19, 4, 1, 5, 153), (4, .iload_n 1, 5, 1, 0, 0), (5, .iload_n 2, 6, 2, 0, 0), (6, .iastore, 7, 0, 0, 0), (7, .aload_n 0, 8, 0, 0, 0), (8, .getfield 22, 11, 1, 6, 156), (11, .iload_n 1, 12, 1, 0, 0), (12, .iload_n 3, 13, 3, 0, 0), (13, .iastore, 14, 0, 0, 0), (14, .aload_n 0, 15, 0, 0, 0), (15, .getfield 25, 18, 1, 7, 160), (18, .iload_n 1, 19, 1, 0, 0), (19, .iload 4, 21, 4, 0, 0), (21, .iastore, 22, 0, 0, 0), (22, .aload_n 0, 23, 0, 0, 0), (23, .getfield 28, 26, 1, 8, 167), (26, .iload_n 1, 27, 1, 0, 0), (27, .iload 5, 29, 5, 0, 0), (29, .iastore, 30, 0, 0, 0), (30, .return_, 31, 0, 0, 0)]
-- 10: LikeYears$Book.markNamed(J)I
def mc10 : List (Nat × Ins) := [(0, .iconst 0, 1, 0, 0, 0), (1, .istore_n 3, 2, 3, 0, 0), (2, .iload_n 3, 3, 3, 0, 0), (3, .aload_n 0, 4, 0, 0, 0), (4, .getfield 40, 7, 1, 0, 134), (7, .if_icmp .ge 22, 10, 29, 0, 0), (10, .aload_n 0, 11, 0, 0, 0), (11, .getfield 9, 14, 1, 1, 137), (14, .iload_n 3, 15, 3, 0, 0), (15, .laload, 16, 0, 0, 0), (16, .lload_n 1, 17, 1, 0, 0), (17, .lcmp, 18, 0, 0, 0), (18, .ifCond .ne 5, 21, 23, 0, 0), (21, .iload_n 3, 22, 3, 0, 0), (22, .ireturn, 23, 0, 0, 0), (23, .iinc 3 1, 26, 3, 0, 0), (26, .goto (-24), 29, 2, 0, 0), (29, .iconst (-1), 30, 0, 0, 0), (30, .ireturn, 31, 0, 0, 0)]
-- 11: LikeYears$Book.isMark(I)Z
def mc11 : List (Nat × Ins) := [(0, .iload_n 1, 1, 1, 0, 0), (1, .ifCond .lt 15, 4, 16, 0, 0), (4, .iload_n 1, 5, 1, 0, 0), (5, .aload_n 0, 6, 0, 0, 0), (6, .getfield 40, 9, 1, 0, 134), (9, .if_icmp .ge 7, 12, 16, 0, 0), (12, .iconst 1, 13, 0, 0, 0), (13, .goto 4, 16, 17, 0, 0), (16, .iconst 0, 17, 0, 0, 0), (17, .ireturn, 18, 0, 0, 0)]
-- 12: LikeYears$Book.isCase(I)Z
def mc12 : List (Nat × Ins) := [(0, .iload_n 1, 1, 1, 0, 0), (1, .ifCond .lt 15, 4, 16, 0, 0), (4, .iload_n 1, 5, 1, 0, 0), (5, .aload_n 0, 6, 0, 0, 0), (6, .getfield 47, 9, 1, 4, 146), (9, .if_icmp .ge 7, 12, 16, 0, 0), (12, .iconst 1, 13, 0, 0, 0), (13, .goto 4, 16, 17, 0, 0), (16, .iconst 0, 17, 0, 0, 0), (17, .ireturn, 18, 0, 0, 0)]
-- 13: LikeYears$Book.isStep(II)Z
def mc13 : List (Nat × Ins) := [(0, .aload_n 0, 1, 0, 0, 0), (1, .iload_n 1, 2, 1, 0, 0), (2, .invokevirtual 59, 5, 11, 1218, 0), (5, .ifCond .eq 21, 8, 26, 0, 0), (8, .iload_n 2, 9, 2, 0, 0), (9, .ifCond .lt 17, 12, 26, 0, 0), (12, .iload_n 2, 13, 2, 0, 0), (13, .aload_n 0, 14, 0, 0, 0), (14, .getfield 15, 17, 1, 2, 138), (17, .iload_n 1, 18, 1, 0, 0), (18, .iaload, 19, 0, 0, 0), (19, .if_icmp .gt 7, 22, 26, 0, 0), (22, .iconst 1, 23, 0, 0, 0), (23, .goto 4, 26, 27, 0, 0), (26, .iconst 0, 27, 0, 0, 0), (27, .ireturn, 28, 0, 0, 0)]
-- 14: LikeYears$Book.isCounted(I)Z
def mc14 : List (Nat × Ins) := [(0, .aload_n 0, 1, 0, 0, 0), (1, .getfield 44, 4, 1, 3, 140), (4, .iload_n 1, 5, 1, 0, 0), (5, .ishr, 6, 0, 0, 0), (6, .iconst 1, 7, 0, 0, 0), (7, .iand, 8, 0, 0, 0), (8, .ifCond .eq 7, 11, 15, 0, 0), (11, .iconst 1, 12, 0, 0, 0), (12, .goto 4, 15, 16, 0, 0), (15, .iconst 0, 16, 0, 0, 0), (16, .ireturn, 17, 0, 0, 0)]
-- 15: LikeYears$Book.stepOf(II)I
def mc15 : List (Nat × Ins) := [(0, .aload_n 0, 1, 0, 0, 0), (1, .getfield 31, 4, 1, 9, 172), (4, .iload_n 1, 5, 1, 0, 0), (5, .bipush 6, 7, 0, 0, 0), (7, .imul, 8, 0, 0, 0), (8, .iload_n 2, 9, 2, 0, 0), (9, .iadd, 10, 0, 0, 0), (10, .iaload, 11, 0, 0, 0), (11, .ireturn, 12, 0, 0, 0)]
-- 16: LikeYears$Book.setStep(III)V
def mc16 : List (Nat × Ins) := [(0, .aload_n 0, 1, 0, 0, 0), (1, .getfield 31, 4, 1, 9, 172), (4, .iload_n 1, 5, 1, 0, 0), (5, .bipush 6, 7, 0, 0, 0), (7, .imul, 8, 0, 0, 0), (8, .iload_n 2, 9, 2, 0, 0), (9, .iadd, 10, 0, 0, 0), (10, .iload_n 3, 11, 3, 0, 0), (11, .iastore, 12, 0, 0, 0), (12, .return_, 13, 0, 0, 0)]
-- 17: LikeYears$Book.allCases()I
def mc17 : List (Nat × Ins) := [(0, .iconst 1, 1, 0, 0, 0), (1, .aload_n 0, 2, 0, 0, 0), (2, .getfield 47, 5, 1, 4, 146), (5, .ishl, 6, 0, 0, 0), (6, .iconst 1, 7, 0, 0, 0), (7, .isub, 8, 0, 0, 0), (8, .ireturn, 9, 0, 0, 0)]
-- 18: LikeYears$Book.noLess(III)Z
def mc18 : List (Nat × Ins) := [(0, .iconst 0, 1, 0, 0, 0), (1, .istore 4, 3, 4, 0, 0), (3, .iload 4, 5, 4, 0, 0), (5, .aload_n 0, 6, 0, 0, 0), (6, .getfield 40, 9, 1, 0, 134), (9, .if_icmp .ge 37, 12, 46, 0, 0), (12, .iload_n 3, 13, 3, 0, 0), (13, .iload 4, 15, 4, 0, 0), (15, .ishr, 16, 0, 0, 0), (16, .iconst 1, 17, 0, 0, 0), (17, .iand, 18, 0, 0, 0), (18, .ifCond .eq 22, 21, 40, 0, 0), (21, .aload_n 0, 22, 0, 0, 0), (22, .iload_n 1, 23, 1, 0, 0), (23, .iload 4, 25, 4, 0, 0), (25, .invokevirtual 63, 28, 15, 786, 0), (28, .aload_n 0, 29, 0, 0, 0), (29, .iload_n 2, 30, 2, 0, 0), (30, .iload 4, 32, 4, 0, 0), (32, .invokevirtual 63, 35, 15, 786, 0), (35, .if_icmp .ge 5, 38, 40, 0, 0), (38, .iconst 0, 39, 0, 0, 0), (39, .ireturn, 40, 0, 0, 0), (40, .iinc 4 1, 43, 4, 0, 0), (43, .goto (-40), 46, 3, 0, 0), (46, .iconst 1, 47, 0, 0, 0), (47, .ireturn, 48, 0, 0, 0)]
-- 19: LikeYears$Book.copyCases(LLikeYears$Book;)V
def mc19_0 : List (Nat × Ins) := [(0, .aload_n 0, 1, 0, 0, 0), (1, .aload_n 1, 2, 1, 0, 0), (2, .getfield 44, 5, 1, 3, 140), (5, .putfield 44, 8, 1, 3, 140), (8, .aload_n 0, 9, 0, 0, 0), (9, .aload_n 1, 10, 1, 0, 0), (10, .getfield 47, 13, 1, 4, 146), (13, .putfield 47, 16, 1, 4, 146), (16, .aload_n 1, 17, 1, 0, 0), (17, .getfield 19, 20, 1, 5, 153), (20, .iconst 0, 21, 0, 0, 0), (21, .aload_n 0, 22, 0, 0, 0), (22, .getfield 19, 25, 1, 5, 153), (25, .iconst 0, 26, 0, 0, 0), (26, .bipush 16, 28, 0, 0, 0), (28, .invokestatic 67, 31, 9000, 1349, 0), (31, .aload_n 1, 32, 1, 0, 0), (32, .getfield 22, 35, 1, 6, 156), (35, .iconst 0, 36, 0, 0, 0), (36, .aload_n 0, 37, 0, 0, 0), (37, .getfield 22, 40, 1, 6, 156), (40, .iconst 0, 41, 0, 0, 0), (41, .bipush 16, 43, 0, 0, 0), (43, .invokestatic 67, 46, 9000, 1349, 0), (46, .aload_n 1, 47, 1, 0, 0), (47, .getfield 25, 50, 1, 7, 160), (50, .iconst 0, 51, 0, 0, 0), (51, .aload_n 0, 52, 0, 0, 0), (52, .getfield 25, 55, 1, 7, 160), (55, .iconst 0, 56, 0, 0, 0), (56, .bipush 16, 58, 0, 0, 0), (58, .invokestatic 67, 61, 9000, 1349, 0), (61, .aload_n 1, 62, 1, 0, 0), (62, .getfield 28, 65, 1, 8, 167), (65, .iconst 0, 66, 0, 0, 0), (66, .aload_n 0, 67, 0, 0, 0), (67, .getfield 28, 70, 1, 8, 167), (70, .iconst 0, 71, 0, 0, 0), (71, .bipush 16, 73, 0, 0, 0), (73, .invokestatic 67, 76, 9000, 1349, 0)]
def mc19_1 : List (Nat × Ins) := [(76, .aload_n 1, 77, 1, 0, 0), (77, .getfield 31, 80, 1, 9, 172), (80, .iconst 0, 81, 0, 0, 0), (81, .aload_n 0, 82, 0, 0, 0), (82, .getfield 31, 85, 1, 9, 172), (85, .iconst 0, 86, 0, 0, 0), (86, .bipush 96, 88, 0, 0, 0), (88, .invokestatic 67, 91, 9000, 1349, 0), (91, .return_, 92, 0, 0, 0)]
def mc19 : List (Nat × Ins) := mc19_0 ++ mc19_1
-- 20: LikeYears$BookReader.read(LLikeYears$Book;)Z
def mc20 : List (Nat × Ins) := [(0, .aload_n 0, 1, 0, 0, 0), (1, .aload_n 1, 2, 1, 0, 0), (2, .putfield 27, 5, 2, 2, 110), (5, .aload_n 0, 6, 0, 0, 0), (6, .getfield 27, 9, 2, 2, 110), (9, .invokevirtual 31, 12, 6, 529, 0), (12, .aload_n 0, 13, 0, 0, 0), (13, .iconst 0, 14, 0, 0, 0), (14, .putfield 36, 17, 2, 5, 113), (17, .aload_n 0, 18, 0, 0, 0), (18, .getfield 19, 21, 2, 0, 108), (21, .iconst 0, 22, 0, 0, 0), (22, .invokevirtual 40, 25, 101, 536, 0), (25, .iconst 0, 26, 0, 0, 0), (26, .istore_n 2, 27, 2, 0, 0), (27, .iload_n 2, 28, 2, 0, 0), (28, .sipush 1300, 31, 0, 0, 0), (31, .if_icmp .gt 38, 34, 69, 0, 0), (34, .aload_n 0, 35, 0, 0, 0), (35, .getfield 19, 38, 2, 0, 108), (38, .getfield 46, 41, 10, 3, 46), (41, .ifCond .eq 28, 44, 69, 0, 0), (44, .aload_n 0, 45, 0, 0, 0), (45, .invokevirtual 49, 48, 21, 655, 0), (48, .ifCond .ne 5, 51, 53, 0, 0), (51, .iconst 0, 52, 0, 0, 0), (52, .ireturn, 53, 0, 0, 0), (53, .aload_n 0, 54, 0, 0, 0), (54, .dup, 55, 0, 0, 0), (55, .getfield 36, 58, 2, 5, 113), (58, .iconst 1, 59, 0, 0, 0), (59, .iadd, 60, 0, 0, 0), (60, .putfield 36, 63, 2, 5, 113), (63, .iinc 2 1, 66, 2, 0, 0), (66, .goto (-39), 69, 27, 0, 0), (69, .aload_n 0, 70, 0, 0, 0), (70, .invokevirtual 53, 73, 32, 773, 0), (73, .ireturn, 74, 0, 0, 0)]
-- 21: LikeYears$BookReader.readLine()Z
def mc21 : List (Nat × Ins) := [(0, .aload_n 0, 1, 0, 0, 0), (1, .getfield 19, 4, 2, 0, 108), (4, .ldc2_w 56, 7, 0, 659, 1835102827), (7, .invokevirtual 58, 10, 110, 660, 0), (10, .ifCond .eq 8, 13, 18, 0, 0), (13, .aload_n 0, 14, 0, 0, 0), (14, .invokevirtual 62, 17, 22, 664, 0), (17, .ireturn, 18, 0, 0, 0), (18, .aload_n 0, 19, 0, 0, 0), (19, .getfield 19, 22, 2, 0, 108), (22, .ldc2_w 65, 25, 0, 718, 474148660594), (25, .invokevirtual 58, 28, 110, 660, 0), (28, .ifCond .eq 8, 31, 36, 0, 0), (31, .aload_n 0, 32, 0, 0, 0), (32, .invokevirtual 67, 35, 23, 719, 0), (35, .ireturn, 36, 0, 0, 0), (36, .aload_n 0, 37, 0, 0, 0), (37, .getfield 19, 40, 2, 0, 108), (40, .ldc2_w 70, 43, 0, 731, 1667330917), (43, .invokevirtual 58, 46, 110, 660, 0), (46, .ifCond .eq 8, 49, 54, 0, 0), (49, .aload_n 0, 50, 0, 0, 0), (50, .invokevirtual 72, 53, 24, 732, 0), (53, .ireturn, 54, 0, 0, 0), (54, .aload_n 0, 55, 0, 0, 0), (55, .getfield 19, 58, 2, 0, 108), (58, .ldc2_w 75, 61, 0, 758, 1953459300), (61, .invokevirtual 58, 64, 110, 660, 0), (64, .ifCond .eq 8, 67, 72, 0, 0), (67, .aload_n 0, 68, 0, 0, 0), (68, .invokevirtual 77, 71, 27, 759, 0), (71, .ireturn, 72, 0, 0, 0), (72, .aload_n 0, 73, 0, 0, 0), (73, .getfield 19, 76, 2, 0, 108), (76, .iconst 2, 77, 0, 0, 0), (77, .invokevirtual 80, 80, 109, 668, 0), (80, .ireturn, 81, 0, 0, 0)]
-- 22: LikeYears$BookReader.readMark()Z
def mc22_0 : List (Nat × Ins) := [(0, .aload_n 0, 1, 0, 0, 0), (1, .getfield 27, 4, 2, 2, 110), (4, .getfield 84, 7, 1, 0, 135), (7, .bipush 6, 9, 0, 0, 0), (9, .if_icmp .lt 12, 12, 21, 0, 0), (12, .aload_n 0, 13, 0, 0, 0), (13, .getfield 19, 16, 2, 0, 108), (16, .iconst 2, 17, 0, 0, 0), (17, .invokevirtual 80, 20, 109, 668, 0), (20, .ireturn, 21, 0, 0, 0), (21, .aload_n 0, 22, 0, 0, 0), (22, .getfield 19, 25, 2, 0, 108), (25, .invokevirtual 87, 28, 102, 672, 0), (28, .aload_n 0, 29, 0, 0, 0), (29, .invokevirtual 90, 32, 28, 673, 0), (32, .lstore_n 1, 33, 1, 0, 0), (33, .lload_n 1, 34, 1, 0, 0), (34, .lconst 0, 35, 0, 0, 0), (35, .lcmp, 36, 0, 0, 0), (36, .ifCond .ne 5, 39, 41, 0, 0), (39, .iconst 0, 40, 0, 0, 0), (40, .ireturn, 41, 0, 0, 0), (41, .aload_n 0, 42, 0, 0, 0), (42, .getfield 19, 45, 2, 0, 108), (45, .ldc2_w 94, 48, 0, 691, 29807), (48, .iconst 1, 49, 0, 0, 0), (49, .bipush 11, 51, 0, 0, 0), (51, .invokevirtual 96, 54, 116, 692, 0), (54, .istore_n 3, 55, 3, 0, 0), (55, .iload_n 3, 56, 3, 0, 0), (56, .ifCond .lt 15, 59, 71, 0, 0), (59, .aload_n 0, 60, 0, 0, 0), (60, .getfield 19, 63, 2, 0, 108), (63, .bipush 59, 65, 0, 0, 0), (65, .invokevirtual 100, 68, 114, 706, 0), (68, .ifCond .ne 5, 71, 73, 0, 0), (71, .iconst 0, 72, 0, 0, 0), (72, .ireturn, 73, 0, 0, 0), (73, .aload_n 0, 74, 0, 0, 0), (74, .getfield 27, 77, 2, 2, 110)]
def mc22_1 : List (Nat × Ins) := [(77, .lload_n 1, 78, 1, 0, 0), (78, .iload_n 3, 79, 3, 0, 0), (79, .invokevirtual 104, 82, 7, 714, 0), (82, .iconst 1, 83, 0, 0, 0), (83, .ireturn, 84, 0, 0, 0)]
def mc22 : List (Nat × Ins) := mc22_0 ++ mc22_1
-- 23: LikeYears$BookReader.readNever()Z
def mc23 : List (Nat × Ins) := [(0, .aload_n 0, 1, 0, 0, 0), (1, .getfield 19, 4, 2, 0, 108), (4, .invokevirtual 87, 7, 102, 672, 0), (7, .aload_n 0, 8, 0, 0, 0), (8, .invokevirtual 108, 11, 29, 723, 0), (11, .istore_n 1, 12, 1, 0, 0), (12, .iload_n 1, 13, 1, 0, 0), (13, .ifCond .ge 5, 16, 18, 0, 0), (16, .iconst 0, 17, 0, 0, 0), (17, .ireturn, 18, 0, 0, 0), (18, .aload_n 0, 19, 0, 0, 0), (19, .getfield 27, 22, 2, 2, 110), (22, .iload_n 1, 23, 1, 0, 0), (23, .invokevirtual 112, 26, 14, 727, 0), (26, .ifCond .ne 12, 29, 38, 0, 0), (29, .aload_n 0, 30, 0, 0, 0), (30, .getfield 19, 33, 2, 0, 108), (33, .iconst 3, 34, 0, 0, 0), (34, .invokevirtual 80, 37, 109, 668, 0), (37, .ireturn, 38, 0, 0, 0), (38, .aload_n 0, 39, 0, 0, 0), (39, .getfield 19, 42, 2, 0, 108), (42, .invokevirtual 87, 45, 102, 672, 0), (45, .aload_n 0, 46, 0, 0, 0), (46, .getfield 27, 49, 2, 2, 110), (49, .dup, 50, 0, 0, 0), (50, .getfield 115, 53, 1, 3, 141), (53, .iconst 1, 54, 0, 0, 0), (54, .iload_n 1, 55, 1, 0, 0), (55, .ishl, 56, 0, 0, 0), (56, .iconst (-1), 57, 0, 0, 0), (57, .ixor, 58, 0, 0, 0), (58, .iand, 59, 0, 0, 0), (59, .putfield 115, 62, 1, 3, 141), (62, .aload_n 0, 63, 0, 0, 0), (63, .getfield 19, 66, 2, 0, 108), (66, .bipush 59, 68, 0, 0, 0), (68, .invokevirtual 100, 71, 114, 706, 0), (71, .ireturn, 72, 0, 0, 0)]
-- 24: LikeYears$BookReader.readCase()Z
def mc24_0 : List (Nat × Ins) := [(0, .aload_n 0, 1, 0, 0, 0), (1, .getfield 27, 4, 2, 2, 110), (4, .getfield 118, 7, 1, 4, 151), (7, .bipush 16, 9, 0, 0, 0), (9, .if_icmp .lt 12, 12, 21, 0, 0), (12, .aload_n 0, 13, 0, 0, 0), (13, .getfield 19, 16, 2, 0, 108), (16, .iconst 2, 17, 0, 0, 0), (17, .invokevirtual 80, 20, 109, 668, 0), (20, .ireturn, 21, 0, 0, 0), (21, .aload_n 0, 22, 0, 0, 0), (22, .getfield 19, 25, 2, 0, 108), (25, .invokevirtual 87, 28, 102, 672, 0), (28, .aload_n 0, 29, 0, 0, 0), (29, .invokevirtual 90, 32, 28, 673, 0), (32, .lstore_n 1, 33, 1, 0, 0), (33, .lload_n 1, 34, 1, 0, 0), (34, .lconst 0, 35, 0, 0, 0), (35, .lcmp, 36, 0, 0, 0), (36, .ifCond .eq 17, 39, 53, 0, 0), (39, .aload_n 0, 40, 0, 0, 0), (40, .invokevirtual 121, 43, 25, 736, 0), (43, .ifCond .eq 10, 46, 53, 0, 0), (46, .aload_n 0, 47, 0, 0, 0), (47, .invokevirtual 124, 50, 26, 748, 0), (50, .ifCond .ne 5, 53, 55, 0, 0), (53, .iconst 0, 54, 0, 0, 0), (54, .ireturn, 55, 0, 0, 0), (55, .aload_n 0, 56, 0, 0, 0), (56, .getfield 9, 59, 2, 3, 111), (59, .aload_n 0, 60, 0, 0, 0), (60, .getfield 27, 63, 2, 2, 110), (63, .getfield 118, 66, 1, 4, 151), (66, .lload_n 1, 67, 1, 0, 0), (67, .lastore, 68, 0, 0, 0), (68, .aload_n 0, 69, 0, 0, 0), (69, .getfield 27, 72, 2, 2, 110), (72, .dup, 73, 0, 0, 0), (73, .getfield 118, 76, 1, 4, 151), (76, .iconst 1, 77, 0, 0, 0)]
def mc24_1 : List (Nat × Ins) := [(77, .iadd, 78, 0, 0, 0), (78, .putfield 118, 81, 1, 4, 151), (81, .iconst 1, 82, 0, 0, 0), (82, .ireturn, 83, 0, 0, 0)]
def mc24 : List (Nat × Ins) := mc24_0 ++ mc24_1
-- 25: LikeYears$BookReader.readFacts()Z
def mc25_0 : List (Nat × Ins) := [(0, .aload_n 0, 1, 0, 0, 0), (1, .getfield 19, 4, 2, 0, 108), (4, .ldc2_w 127, 7, 0, 740, 457236047717), (7, .iconst 0, 8, 0, 0, 0), (8, .bipush 9, 10, 0, 0, 0), (10, .invokevirtual 96, 13, 116, 692, 0), (13, .istore_n 1, 14, 1, 0, 0), (14, .iload_n 1, 15, 1, 0, 0), (15, .ifCond .ge 5, 18, 20, 0, 0), (18, .iconst 0, 19, 0, 0, 0), (19, .ireturn, 20, 0, 0, 0), (20, .aload_n 0, 21, 0, 0, 0), (21, .getfield 19, 24, 2, 0, 108), (24, .ldc2_w 129, 27, 0, 741, 26990), (27, .iconst 0, 28, 0, 0, 0), (28, .bipush 99, 30, 0, 0, 0), (30, .invokevirtual 96, 33, 116, 692, 0), (33, .istore_n 2, 34, 2, 0, 0), (34, .iload_n 2, 35, 2, 0, 0), (35, .ifCond .ge 5, 38, 40, 0, 0), (38, .iconst 0, 39, 0, 0, 0), (39, .ireturn, 40, 0, 0, 0), (40, .aload_n 0, 41, 0, 0, 0), (41, .getfield 19, 44, 2, 0, 108), (44, .ldc2_w 131, 47, 0, 742, 444150998382), (47, .iconst 0, 48, 0, 0, 0), (48, .sipush 240, 51, 0, 0, 0), (51, .invokevirtual 96, 54, 116, 692, 0), (54, .istore_n 3, 55, 3, 0, 0), (55, .iload_n 3, 56, 3, 0, 0), (56, .ifCond .ge 5, 59, 61, 0, 0), (59, .iconst 0, 60, 0, 0, 0), (60, .ireturn, 61, 0, 0, 0), (61, .aload_n 0, 62, 0, 0, 0), (62, .getfield 19, 65, 2, 0, 108), (65, .ldc2_w 133, 68, 0, 743, 131277443786868), (68, .iconst 1, 69, 0, 0, 0), (69, .iconst 4, 70, 0, 0, 0), (70, .invokevirtual 96, 73, 116, 692, 0), (73, .istore 4, 75, 4, 0, 0)]
def mc25_1 : List (Nat × Ins) := [(75, .iload 4, 77, 4, 0, 0), (77, .ifCond .ge 5, 80, 82, 0, 0), (80, .iconst 0, 81, 0, 0, 0), (81, .ireturn, 82, 0, 0, 0), (82, .aload_n 0, 83, 0, 0, 0), (83, .getfield 27, 86, 2, 2, 110), (86, .aload_n 0, 87, 0, 0, 0), (87, .getfield 27, 90, 2, 2, 110), (90, .getfield 118, 93, 1, 4, 151), (93, .iload_n 1, 94, 1, 0, 0), (94, .iload_n 2, 95, 2, 0, 0), (95, .iload_n 3, 96, 3, 0, 0), (96, .iload 4, 98, 4, 0, 0), (98, .invokevirtual 135, 101, 9, 744, 0), (101, .iconst 1, 102, 0, 0, 0), (102, .ireturn, 103, 0, 0, 0)]
def mc25 : List (Nat × Ins) := mc25_0 ++ mc25_1
-- 26: LikeYears$BookReader.readSteps()Z
def mc26_0 : List (Nat × Ins) := [(0, .iconst 0, 1, 0, 0, 0), (1, .istore_n 1, 2, 1, 0, 0), (2, .iconst 0, 3, 0, 0, 0), (3, .istore_n 2, 4, 2, 0, 0), (4, .iload_n 2, 5, 2, 0, 0), (5, .bipush 6, 7, 0, 0, 0), (7, .if_icmp .gt 105, 10, 112, 0, 0), (10, .aload_n 0, 11, 0, 0, 0), (11, .getfield 19, 14, 2, 0, 108), (14, .bipush 59, 16, 0, 0, 0), (16, .invokevirtual 139, 19, 111, 752, 0), (19, .ifCond .ne 93, 22, 112, 0, 0), (22, .aload_n 0, 23, 0, 0, 0), (23, .invokevirtual 108, 26, 29, 723, 0), (26, .istore_n 3, 27, 3, 0, 0), (27, .iload_n 3, 28, 3, 0, 0), (28, .ifCond .ge 5, 31, 33, 0, 0), (31, .iconst 0, 32, 0, 0, 0), (32, .ireturn, 33, 0, 0, 0), (33, .iload_n 1, 34, 1, 0, 0), (34, .iload_n 3, 35, 3, 0, 0), (35, .ishr, 36, 0, 0, 0), (36, .iconst 1, 37, 0, 0, 0), (37, .iand, 38, 0, 0, 0), (38, .ifCond .eq 12, 41, 50, 0, 0), (41, .aload_n 0, 42, 0, 0, 0), (42, .getfield 19, 45, 2, 0, 108), (45, .iconst 3, 46, 0, 0, 0), (46, .invokevirtual 80, 49, 109, 668, 0), (49, .ireturn, 50, 0, 0, 0), (50, .iload_n 1, 51, 1, 0, 0), (51, .iconst 1, 52, 0, 0, 0), (52, .iload_n 3, 53, 3, 0, 0), (53, .ishl, 54, 0, 0, 0), (54, .ior, 55, 0, 0, 0), (55, .istore_n 1, 56, 1, 0, 0), (56, .aload_n 0, 57, 0, 0, 0), (57, .getfield 19, 60, 2, 0, 108), (60, .invokevirtual 87, 63, 102, 672, 0), (63, .aload_n 0, 64, 0, 0, 0)]
def mc26_1 : List (Nat × Ins) := [(64, .getfield 19, 67, 2, 0, 108), (67, .iconst 0, 68, 0, 0, 0), (68, .aload_n 0, 69, 0, 0, 0), (69, .getfield 27, 72, 2, 2, 110), (72, .getfield 142, 75, 1, 2, 139), (75, .iload_n 3, 76, 3, 0, 0), (76, .iaload, 77, 0, 0, 0), (77, .invokevirtual 145, 80, 115, 753, 0), (80, .istore 4, 82, 4, 0, 0), (82, .iload 4, 84, 4, 0, 0), (84, .ifCond .ge 5, 87, 89, 0, 0), (87, .iconst 0, 88, 0, 0, 0), (88, .ireturn, 89, 0, 0, 0), (89, .aload_n 0, 90, 0, 0, 0), (90, .getfield 27, 93, 2, 2, 110), (93, .aload_n 0, 94, 0, 0, 0), (94, .getfield 27, 97, 2, 2, 110), (97, .getfield 118, 100, 1, 4, 151), (100, .iload_n 3, 101, 3, 0, 0), (101, .iload 4, 103, 4, 0, 0), (103, .invokevirtual 149, 106, 16, 754, 0), (106, .iinc 2 1, 109, 2, 0, 0), (109, .goto (-105), 112, 4, 0, 0), (112, .aload_n 0, 113, 0, 0, 0), (113, .getfield 19, 116, 2, 0, 108), (116, .bipush 59, 118, 0, 0, 0), (118, .invokevirtual 100, 121, 114, 706, 0), (121, .ireturn, 122, 0, 0, 0)]
def mc26 : List (Nat × Ins) := mc26_0 ++ mc26_1
-- 27: LikeYears$BookReader.readTold()Z
def mc27_0 : List (Nat × Ins) := [(0, .aload_n 0, 1, 0, 0, 0), (1, .getfield 27, 4, 2, 2, 110), (4, .getfield 153, 7, 1, 10, 175), (7, .bipush 20, 9, 0, 0, 0), (9, .if_icmp .lt 12, 12, 21, 0, 0), (12, .aload_n 0, 13, 0, 0, 0), (13, .getfield 19, 16, 2, 0, 108), (16, .iconst 2, 17, 0, 0, 0), (17, .invokevirtual 80, 20, 109, 668, 0), (20, .ireturn, 21, 0, 0, 0), (21, .aload_n 0, 22, 0, 0, 0), (22, .getfield 19, 25, 2, 0, 108), (25, .invokevirtual 87, 28, 102, 672, 0), (28, .aload_n 0, 29, 0, 0, 0), (29, .invokevirtual 156, 32, 30, 763, 0), (32, .istore_n 1, 33, 1, 0, 0), (33, .iload_n 1, 34, 1, 0, 0), (34, .ifCond .lt 16, 37, 50, 0, 0), (37, .aload_n 0, 38, 0, 0, 0), (38, .getfield 19, 41, 2, 0, 108), (41, .ldc2_w 159, 44, 0, 767, 1870030194), (44, .invokevirtual 161, 47, 113, 768, 0), (47, .ifCond .ne 5, 50, 52, 0, 0), (50, .iconst 0, 51, 0, 0, 0), (51, .ireturn, 52, 0, 0, 0), (52, .aload_n 0, 53, 0, 0, 0), (53, .getfield 15, 56, 2, 4, 112), (56, .aload_n 0, 57, 0, 0, 0), (57, .getfield 27, 60, 2, 2, 110), (60, .getfield 153, 63, 1, 10, 175), (63, .aload_n 0, 64, 0, 0, 0), (64, .getfield 19, 67, 2, 0, 108), (67, .getfield 164, 70, 10, 4, 50), (70, .iastore, 71, 0, 0, 0), (71, .aload_n 0, 72, 0, 0, 0), (72, .invokevirtual 156, 75, 30, 763, 0), (75, .istore_n 2, 76, 2, 0, 0), (76, .iload_n 2, 77, 2, 0, 0), (77, .ifCond .lt 15, 80, 92, 0, 0), (80, .aload_n 0, 81, 0, 0, 0)]
def mc27_1 : List (Nat × Ins) := [(81, .getfield 19, 84, 2, 0, 108), (84, .bipush 59, 86, 0, 0, 0), (86, .invokevirtual 100, 89, 114, 706, 0), (89, .ifCond .ne 5, 92, 94, 0, 0), (92, .iconst 0, 93, 0, 0, 0), (93, .ireturn, 94, 0, 0, 0), (94, .aload_n 0, 95, 0, 0, 0), (95, .getfield 27, 98, 2, 2, 110), (98, .iload_n 1, 99, 1, 0, 0), (99, .iload_n 2, 100, 2, 0, 0), (100, .invokevirtual 167, 103, 8, 769, 0), (103, .iconst 1, 104, 0, 0, 0), (104, .ireturn, 105, 0, 0, 0)]
def mc27 : List (Nat × Ins) := mc27_0 ++ mc27_1
-- 28: LikeYears$BookReader.passNewName()J
def mc28 : List (Nat × Ins) := [(0, .aload_n 0, 1, 0, 0, 0), (1, .getfield 19, 4, 2, 0, 108), (4, .invokevirtual 171, 7, 112, 677, 0), (7, .ifCond .ne 14, 10, 21, 0, 0), (10, .aload_n 0, 11, 0, 0, 0), (11, .getfield 19, 14, 2, 0, 108), (14, .iconst 2, 15, 0, 0, 0), (15, .invokevirtual 80, 18, 109, 668, 0), (18, .pop, 19, 0, 0, 0), (19, .lconst 0, 20, 0, 0, 0), (20, .lreturn, 21, 0, 0, 0), (21, .aload_n 0, 22, 0, 0, 0), (22, .getfield 19, 25, 2, 0, 108), (25, .getfield 174, 28, 10, 5, 53), (28, .lstore_n 1, 29, 1, 0, 0), (29, .aload_n 0, 30, 0, 0, 0), (30, .getfield 27, 33, 2, 2, 110), (33, .lload_n 1, 34, 1, 0, 0), (34, .invokevirtual 178, 37, 10, 683, 0), (37, .ifCond .ge 11, 40, 48, 0, 0), (40, .aload_n 0, 41, 0, 0, 0), (41, .lload_n 1, 42, 1, 0, 0), (42, .invokevirtual 182, 45, 31, 687, 0), (45, .ifCond .lt 14, 48, 59, 0, 0), (48, .aload_n 0, 49, 0, 0, 0), (49, .getfield 19, 52, 2, 0, 108), (52, .iconst 3, 53, 0, 0, 0), (53, .invokevirtual 80, 56, 109, 668, 0), (56, .pop, 57, 0, 0, 0), (57, .lconst 0, 58, 0, 0, 0), (58, .lreturn, 59, 0, 0, 0), (59, .aload_n 0, 60, 0, 0, 0), (60, .getfield 19, 63, 2, 0, 108), (63, .invokevirtual 87, 66, 102, 672, 0), (66, .lload_n 1, 67, 1, 0, 0), (67, .lreturn, 68, 0, 0, 0)]
-- 29: LikeYears$BookReader.markHere()I
def mc29 : List (Nat × Ins) := [(0, .aload_n 0, 1, 0, 0, 0), (1, .getfield 19, 4, 2, 0, 108), (4, .invokevirtual 171, 7, 112, 677, 0), (7, .ifCond .ne 14, 10, 21, 0, 0), (10, .aload_n 0, 11, 0, 0, 0), (11, .getfield 19, 14, 2, 0, 108), (14, .iconst 2, 15, 0, 0, 0), (15, .invokevirtual 80, 18, 109, 668, 0), (18, .pop, 19, 0, 0, 0), (19, .iconst (-1), 20, 0, 0, 0), (20, .ireturn, 21, 0, 0, 0), (21, .aload_n 0, 22, 0, 0, 0), (22, .getfield 27, 25, 2, 2, 110), (25, .aload_n 0, 26, 0, 0, 0), (26, .getfield 19, 29, 2, 0, 108), (29, .getfield 174, 32, 10, 5, 53), (32, .invokevirtual 178, 35, 10, 683, 0), (35, .istore_n 1, 36, 1, 0, 0), (36, .iload_n 1, 37, 1, 0, 0), (37, .ifCond .ge 12, 40, 49, 0, 0), (40, .aload_n 0, 41, 0, 0, 0), (41, .getfield 19, 44, 2, 0, 108), (44, .iconst 5, 45, 0, 0, 0), (45, .invokevirtual 80, 48, 109, 668, 0), (48, .pop, 49, 0, 0, 0), (49, .iload_n 1, 50, 1, 0, 0), (50, .ireturn, 51, 0, 0, 0)]
-- 30: LikeYears$BookReader.passCase()I
def mc30 : List (Nat × Ins) := [(0, .aload_n 0, 1, 0, 0, 0), (1, .getfield 19, 4, 2, 0, 108), (4, .invokevirtual 171, 7, 112, 677, 0), (7, .ifCond .ne 14, 10, 21, 0, 0), (10, .aload_n 0, 11, 0, 0, 0), (11, .getfield 19, 14, 2, 0, 108), (14, .iconst 2, 15, 0, 0, 0), (15, .invokevirtual 80, 18, 109, 668, 0), (18, .pop, 19, 0, 0, 0), (19, .iconst (-1), 20, 0, 0, 0), (20, .ireturn, 21, 0, 0, 0), (21, .aload_n 0, 22, 0, 0, 0), (22, .aload_n 0, 23, 0, 0, 0), (23, .getfield 19, 26, 2, 0, 108), (26, .getfield 174, 29, 10, 5, 53), (29, .invokevirtual 182, 32, 31, 687, 0), (32, .istore_n 1, 33, 1, 0, 0), (33, .iload_n 1, 34, 1, 0, 0), (34, .ifCond .ge 14, 37, 48, 0, 0), (37, .aload_n 0, 38, 0, 0, 0), (38, .getfield 19, 41, 2, 0, 108), (41, .iconst 5, 42, 0, 0, 0), (42, .invokevirtual 80, 45, 109, 668, 0), (45, .pop, 46, 0, 0, 0), (46, .iconst (-1), 47, 0, 0, 0), (47, .ireturn, 48, 0, 0, 0), (48, .aload_n 0, 49, 0, 0, 0), (49, .getfield 19, 52, 2, 0, 108), (52, .invokevirtual 87, 55, 102, 672, 0), (55, .iload_n 1, 56, 1, 0, 0), (56, .ireturn, 57, 0, 0, 0)]
-- 31: LikeYears$BookReader.caseNamed(J)I
def mc31 : List (Nat × Ins) := [(0, .iconst 0, 1, 0, 0, 0), (1, .istore_n 3, 2, 3, 0, 0), (2, .iload_n 3, 3, 3, 0, 0), (3, .aload_n 0, 4, 0, 0, 0), (4, .getfield 27, 7, 2, 2, 110), (7, .getfield 118, 10, 1, 4, 151), (10, .if_icmp .ge 22, 13, 32, 0, 0), (13, .aload_n 0, 14, 0, 0, 0), (14, .getfield 9, 17, 2, 3, 111), (17, .iload_n 3, 18, 3, 0, 0), (18, .laload, 19, 0, 0, 0), (19, .lload_n 1, 20, 1, 0, 0), (20, .lcmp, 21, 0, 0, 0), (21, .ifCond .ne 5, 24, 26, 0, 0), (24, .iload_n 3, 25, 3, 0, 0), (25, .ireturn, 26, 0, 0, 0), (26, .iinc 3 1, 29, 3, 0, 0), (29, .goto (-27), 32, 2, 0, 0), (32, .iconst (-1), 33, 0, 0, 0), (33, .ireturn, 34, 0, 0, 0)]
-- 32: LikeYears$BookReader.toldHolds()Z
def mc32 : List (Nat × Ins) := [(0, .aload_n 0, 1, 0, 0, 0), (1, .getfield 23, 4, 2, 1, 109), (4, .aload_n 0, 5, 0, 0, 0), (5, .getfield 27, 8, 2, 2, 110), (8, .aload_n 0, 9, 0, 0, 0), (9, .getfield 27, 12, 2, 2, 110), (12, .getfield 115, 15, 1, 3, 141), (15, .invokevirtual 185, 18, 76, 777, 0), (18, .aload_n 0, 19, 0, 0, 0), (19, .getfield 23, 22, 2, 1, 109), (22, .aload_n 0, 23, 0, 0, 0), (23, .getfield 27, 26, 2, 2, 110), (26, .invokevirtual 191, 29, 77, 790, 0), (29, .istore_n 1, 30, 1, 0, 0), (30, .iload_n 1, 31, 1, 0, 0), (31, .ifCond .ge 5, 34, 36, 0, 0), (34, .iconst 1, 35, 0, 0, 0), (35, .ireturn, 36, 0, 0, 0), (36, .aload_n 0, 37, 0, 0, 0), (37, .getfield 19, 40, 2, 0, 108), (40, .bipush 6, 42, 0, 0, 0), (42, .putfield 195, 45, 10, 1, 42), (45, .aload_n 0, 46, 0, 0, 0), (46, .getfield 19, 49, 2, 0, 108), (49, .aload_n 0, 50, 0, 0, 0), (50, .getfield 15, 53, 2, 4, 112), (53, .iload_n 1, 54, 1, 0, 0), (54, .iaload, 55, 0, 0, 0), (55, .putfield 198, 58, 10, 2, 45), (58, .iconst 0, 59, 0, 0, 0), (59, .ireturn, 60, 0, 0, 0)]
-- 33: LikeYears$Choices.cover(LLikeYears$Book;LLikeYears$Order;)V
def mc33 : List (Nat × Ins) := [(0, .iconst 0, 1, 0, 0, 0), (1, .istore_n 3, 2, 3, 0, 0), (2, .iload_n 3, 3, 3, 0, 0), (3, .aload_n 1, 4, 1, 0, 0), (4, .getfield 21, 7, 1, 4, 145), (7, .if_icmp .ge 21, 10, 28, 0, 0), (10, .aload_n 0, 11, 0, 0, 0), (11, .getfield 9, 14, 3, 3, 392), (14, .iload_n 3, 15, 3, 0, 0), (15, .aload_n 2, 16, 2, 0, 0), (16, .aload_n 1, 17, 1, 0, 0), (17, .iload_n 3, 18, 3, 0, 0), (18, .invokevirtual 27, 21, 81, 1074, 0), (21, .iastore, 22, 0, 0, 0), (22, .iinc 3 1, 25, 3, 0, 0), (25, .goto (-23), 28, 2, 0, 0), (28, .aload_n 0, 29, 0, 0, 0), (29, .bipush 17, 31, 0, 0, 0), (31, .putfield 32, 34, 3, 0, 386), (34, .aload_n 0, 35, 0, 0, 0), (35, .iconst 0, 36, 0, 0, 0), (36, .putfield 35, 39, 3, 1, 388), (39, .aload_n 0, 40, 0, 0, 0), (40, .iconst 0, 41, 0, 0, 0), (41, .putfield 38, 44, 3, 2, 390), (44, .aload_n 0, 45, 0, 0, 0), (45, .aload_n 1, 46, 1, 0, 0), (46, .invokevirtual 41, 49, 17, 1075, 0), (49, .iconst 0, 50, 0, 0, 0), (50, .invokevirtual 45, 53, 34, 1076, 0), (53, .return_, 54, 0, 0, 0)]
-- 34: LikeYears$Choices.search(II)V
def mc34_0 : List (Nat × Ins) := [(0, .iload_n 2, 1, 2, 0, 0), (1, .invokestatic 49, 4, 286, 1080, 0), (4, .istore_n 3, 5, 3, 0, 0), (5, .iload_n 3, 6, 3, 0, 0), (6, .aload_n 0, 7, 0, 0, 0), (7, .getfield 32, 10, 3, 0, 386), (10, .if_icmp .le 4, 13, 14, 0, 0), (13, .return_, 14, 0, 0, 0), (14, .aload_n 0, 15, 0, 0, 0), (15, .iload_n 1, 16, 1, 0, 0), (16, .invokevirtual 55, 19, 35, 1081, 0), (19, .istore 4, 21, 4, 0, 0), (21, .iload 4, 23, 4, 0, 0), (23, .ifCond .ge 10, 26, 33, 0, 0), (26, .aload_n 0, 27, 0, 0, 0), (27, .iload_n 2, 28, 2, 0, 0), (28, .iload_n 3, 29, 3, 0, 0), (29, .invokevirtual 58, 32, 36, 1085, 0), (32, .return_, 33, 0, 0, 0), (33, .iload_n 1, 34, 1, 0, 0), (34, .iconst 1, 35, 0, 0, 0), (35, .iload 4, 37, 4, 0, 0), (37, .ishl, 38, 0, 0, 0), (38, .iconst (-1), 39, 0, 0, 0), (39, .ixor, 40, 0, 0, 0), (40, .iand, 41, 0, 0, 0), (41, .istore 5, 43, 5, 0, 0), (43, .aload_n 0, 44, 0, 0, 0), (44, .iload 5, 46, 5, 0, 0), (46, .iload_n 2, 47, 2, 0, 0), (47, .iconst 1, 48, 0, 0, 0), (48, .iload 4, 50, 4, 0, 0), (50, .ishl, 51, 0, 0, 0), (51, .ior, 52, 0, 0, 0), (52, .invokevirtual 45, 55, 34, 1076, 0), (55, .aload_n 0, 56, 0, 0, 0), (56, .iload 5, 58, 5, 0, 0), (58, .aload_n 0, 59, 0, 0, 0), (59, .getfield 9, 62, 3, 3, 392), (62, .iload 4, 64, 4, 0, 0)]
def mc34_1 : List (Nat × Ins) := [(64, .iaload, 65, 0, 0, 0), (65, .iconst (-1), 66, 0, 0, 0), (66, .ixor, 67, 0, 0, 0), (67, .iand, 68, 0, 0, 0), (68, .iload_n 2, 69, 2, 0, 0), (69, .aload_n 0, 70, 0, 0, 0), (70, .getfield 9, 73, 3, 3, 392), (73, .iload 4, 75, 4, 0, 0), (75, .iaload, 76, 0, 0, 0), (76, .iload_n 1, 77, 1, 0, 0), (77, .iand, 78, 0, 0, 0), (78, .ior, 79, 0, 0, 0), (79, .invokevirtual 45, 82, 34, 1076, 0), (82, .return_, 83, 0, 0, 0)]
def mc34 : List (Nat × Ins) := mc34_0 ++ mc34_1
-- 35: LikeYears$Choices.mostFoes(I)I
def mc35 : List (Nat × Ins) := [(0, .iconst (-1), 1, 0, 0, 0), (1, .istore_n 2, 2, 2, 0, 0), (2, .iconst 0, 3, 0, 0, 0), (3, .istore_n 3, 4, 3, 0, 0), (4, .iconst 0, 5, 0, 0, 0), (5, .istore 4, 7, 4, 0, 0), (7, .iload 4, 9, 4, 0, 0), (9, .bipush 16, 11, 0, 0, 0), (11, .if_icmp .ge 50, 14, 61, 0, 0), (14, .iload_n 1, 15, 1, 0, 0), (15, .iload 4, 17, 4, 0, 0), (17, .ishr, 18, 0, 0, 0), (18, .iconst 1, 19, 0, 0, 0), (19, .iand, 20, 0, 0, 0), (20, .ifCond .eq 35, 23, 55, 0, 0), (23, .aload_n 0, 24, 0, 0, 0), (24, .getfield 9, 27, 3, 3, 392), (27, .iload 4, 29, 4, 0, 0), (29, .iaload, 30, 0, 0, 0), (30, .iload_n 1, 31, 1, 0, 0), (31, .iand, 32, 0, 0, 0), (32, .invokestatic 49, 35, 286, 1080, 0), (35, .iload_n 3, 36, 3, 0, 0), (36, .if_icmp .le 19, 39, 55, 0, 0), (39, .aload_n 0, 40, 0, 0, 0), (40, .getfield 9, 43, 3, 3, 392), (43, .iload 4, 45, 4, 0, 0), (45, .iaload, 46, 0, 0, 0), (46, .iload_n 1, 47, 1, 0, 0), (47, .iand, 48, 0, 0, 0), (48, .invokestatic 49, 51, 286, 1080, 0), (51, .istore_n 3, 52, 3, 0, 0), (52, .iload 4, 54, 4, 0, 0), (54, .istore_n 2, 55, 2, 0, 0), (55, .iinc 4 1, 58, 4, 0, 0), (58, .goto (-51), 61, 7, 0, 0), (61, .iload_n 2, 62, 2, 0, 0), (62, .ireturn, 63, 0, 0, 0)]
-- 36: LikeYears$Choices.note(II)V
def mc36 : List (Nat × Ins) := [(0, .iload_n 2, 1, 2, 0, 0), (1, .aload_n 0, 2, 0, 0, 0), (2, .getfield 32, 5, 3, 0, 386), (5, .if_icmp .ge 18, 8, 23, 0, 0), (8, .aload_n 0, 9, 0, 0, 0), (9, .iload_n 2, 10, 2, 0, 0), (10, .putfield 32, 13, 3, 0, 386), (13, .aload_n 0, 14, 0, 0, 0), (14, .iload_n 1, 15, 1, 0, 0), (15, .putfield 35, 18, 3, 1, 388), (18, .aload_n 0, 19, 0, 0, 0), (19, .iconst 0, 20, 0, 0, 0), (20, .putfield 38, 23, 3, 2, 390), (23, .aload_n 0, 24, 0, 0, 0), (24, .dup, 25, 0, 0, 0), (25, .getfield 38, 28, 3, 2, 390), (28, .iconst 1, 29, 0, 0, 0), (29, .iadd, 30, 0, 0, 0), (30, .putfield 38, 33, 3, 2, 390), (33, .aload_n 0, 34, 0, 0, 0), (34, .aload_n 0, 35, 0, 0, 0), (35, .getfield 35, 38, 3, 1, 388), (38, .iload_n 1, 39, 1, 0, 0), (39, .invokestatic 61, 42, 291, 1089, 0), (42, .putfield 35, 45, 3, 1, 388), (45, .return_, 46, 0, 0, 0)]
-- 37: LikeYears$Choices.draws([IIII)I
def mc37_0 : List (Nat × Ins) := [(0, .aload_n 0, 1, 0, 0, 0), (1, .iload_n 2, 2, 2, 0, 0), (2, .putfield 67, 5, 3, 6, 395), (5, .iconst 0, 6, 0, 0, 0), (6, .istore 5, 8, 5, 0, 0), (8, .iload 5, 10, 5, 0, 0), (10, .iload_n 2, 11, 2, 0, 0), (11, .if_icmp .ge 67, 14, 78, 0, 0), (14, .iload 5, 16, 5, 0, 0), (16, .istore 6, 18, 6, 0, 0), (18, .iload 6, 20, 6, 0, 0), (20, .ifCond .le 41, 23, 61, 0, 0), (23, .aload_n 0, 24, 0, 0, 0), (24, .getfield 15, 27, 3, 4, 393), (27, .iload 6, 29, 6, 0, 0), (29, .iconst 1, 30, 0, 0, 0), (30, .isub, 31, 0, 0, 0), (31, .iaload, 32, 0, 0, 0), (32, .aload_n 1, 33, 1, 0, 0), (33, .iload 5, 35, 5, 0, 0), (35, .iaload, 36, 0, 0, 0), (36, .if_icmp .ge 25, 39, 61, 0, 0), (39, .aload_n 0, 40, 0, 0, 0), (40, .getfield 15, 43, 3, 4, 393), (43, .iload 6, 45, 6, 0, 0), (45, .aload_n 0, 46, 0, 0, 0), (46, .getfield 15, 49, 3, 4, 393), (49, .iload 6, 51, 6, 0, 0), (51, .iconst 1, 52, 0, 0, 0), (52, .isub, 53, 0, 0, 0), (53, .iaload, 54, 0, 0, 0), (54, .iastore, 55, 0, 0, 0), (55, .iinc 6 (-1), 58, 6, 0, 0), (58, .goto (-40), 61, 18, 0, 0), (61, .aload_n 0, 62, 0, 0, 0), (62, .getfield 15, 65, 3, 4, 393), (65, .iload 6, 67, 6, 0, 0), (67, .aload_n 1, 68, 1, 0, 0), (68, .iload 5, 70, 5, 0, 0), (70, .iaload, 71, 0, 0, 0)]
def mc37_1 : List (Nat × Ins) := [(71, .iastore, 72, 0, 0, 0), (72, .iinc 5 1, 75, 5, 0, 0), (75, .goto (-67), 78, 8, 0, 0), (78, .iconst 0, 79, 0, 0, 0), (79, .istore 5, 81, 5, 0, 0), (81, .iload 5, 83, 5, 0, 0), (83, .iload_n 2, 84, 2, 0, 0), (84, .if_icmp .ge 33, 87, 117, 0, 0), (87, .aload_n 0, 88, 0, 0, 0), (88, .getfield 18, 91, 3, 5, 394), (91, .iload 5, 93, 5, 0, 0), (93, .iconst 1, 94, 0, 0, 0), (94, .iadd, 95, 0, 0, 0), (95, .aload_n 0, 96, 0, 0, 0), (96, .getfield 18, 99, 3, 5, 394), (99, .iload 5, 101, 5, 0, 0), (101, .iaload, 102, 0, 0, 0), (102, .aload_n 0, 103, 0, 0, 0), (103, .getfield 15, 106, 3, 4, 393), (106, .iload 5, 108, 5, 0, 0), (108, .iaload, 109, 0, 0, 0), (109, .iadd, 110, 0, 0, 0), (110, .iastore, 111, 0, 0, 0), (111, .iinc 5 1, 114, 5, 0, 0), (114, .goto (-33), 117, 81, 0, 0), (117, .aload_n 0, 118, 0, 0, 0), (118, .iconst 0, 119, 0, 0, 0), (119, .iload_n 3, 120, 3, 0, 0), (120, .iload 4, 122, 4, 0, 0), (122, .invokevirtual 70, 125, 38, 1187, 0), (125, .ireturn, 126, 0, 0, 0)]
def mc37 : List (Nat × Ins) := mc37_0 ++ mc37_1
-- 38: LikeYears$Choices.drawsFrom(III)I
def mc38_0 : List (Nat × Ins) := [(0, .aload_n 0, 1, 0, 0, 0), (1, .getfield 67, 4, 3, 6, 395), (4, .iload_n 1, 5, 1, 0, 0), (5, .isub, 6, 0, 0, 0), (6, .istore 4, 8, 4, 0, 0), (8, .iload_n 2, 9, 2, 0, 0), (9, .ifCond .lt 28, 12, 37, 0, 0), (12, .iload_n 2, 13, 2, 0, 0), (13, .iload 4, 15, 4, 0, 0), (15, .if_icmp .gt 22, 18, 37, 0, 0), (18, .aload_n 0, 19, 0, 0, 0), (19, .getfield 18, 22, 3, 5, 394), (22, .iload_n 1, 23, 1, 0, 0), (23, .iload_n 2, 24, 2, 0, 0), (24, .iadd, 25, 0, 0, 0), (25, .iaload, 26, 0, 0, 0), (26, .aload_n 0, 27, 0, 0, 0), (27, .getfield 18, 30, 3, 5, 394), (30, .iload_n 1, 31, 1, 0, 0), (31, .iaload, 32, 0, 0, 0), (32, .isub, 33, 0, 0, 0), (33, .iload_n 3, 34, 3, 0, 0), (34, .if_icmp .ge 5, 37, 39, 0, 0), (37, .iconst 0, 38, 0, 0, 0), (38, .ireturn, 39, 0, 0, 0), (39, .aload_n 0, 40, 0, 0, 0), (40, .getfield 18, 43, 3, 5, 394), (43, .aload_n 0, 44, 0, 0, 0), (44, .getfield 67, 47, 3, 6, 395), (47, .iaload, 48, 0, 0, 0), (48, .aload_n 0, 49, 0, 0, 0), (49, .getfield 18, 52, 3, 5, 394), (52, .aload_n 0, 53, 0, 0, 0), (53, .getfield 67, 56, 3, 6, 395), (56, .iload_n 2, 57, 2, 0, 0), (57, .isub, 58, 0, 0, 0), (58, .iaload, 59, 0, 0, 0), (59, .isub, 60, 0, 0, 0), (60, .iload_n 3, 61, 3, 0, 0), (61, .if_icmp .lt 10, 64, 71, 0, 0)]
def mc38_1 : List (Nat × Ins) := [(64, .iload 4, 66, 4, 0, 0), (66, .iload_n 2, 67, 2, 0, 0), (67, .invokestatic 74, 70, 39, 1191, 0), (70, .ireturn, 71, 0, 0, 0), (71, .aload_n 0, 72, 0, 0, 0), (72, .iload_n 1, 73, 1, 0, 0), (73, .iconst 1, 74, 0, 0, 0), (74, .iadd, 75, 0, 0, 0), (75, .iload_n 2, 76, 2, 0, 0), (76, .iconst 1, 77, 0, 0, 0), (77, .isub, 78, 0, 0, 0), (78, .iload_n 3, 79, 3, 0, 0), (79, .aload_n 0, 80, 0, 0, 0), (80, .getfield 15, 83, 3, 4, 393), (83, .iload_n 1, 84, 1, 0, 0), (84, .iaload, 85, 0, 0, 0), (85, .isub, 86, 0, 0, 0), (86, .invokevirtual 70, 89, 38, 1187, 0), (89, .aload_n 0, 90, 0, 0, 0), (90, .iload_n 1, 91, 1, 0, 0), (91, .iconst 1, 92, 0, 0, 0), (92, .iadd, 93, 0, 0, 0), (93, .iload_n 2, 94, 2, 0, 0), (94, .iload_n 3, 95, 3, 0, 0), (95, .invokevirtual 70, 98, 38, 1187, 0), (98, .iadd, 99, 0, 0, 0), (99, .ireturn, 100, 0, 0, 0)]
def mc38 : List (Nat × Ins) := mc38_0 ++ mc38_1
-- 39: LikeYears$Choices.choose(II)I
def mc39 : List (Nat × Ins) := [(0, .iconst 1, 1, 0, 0, 0), (1, .istore_n 2, 2, 2, 0, 0), (2, .iconst 1, 3, 0, 0, 0), (3, .istore_n 3, 4, 3, 0, 0), (4, .iload_n 3, 5, 3, 0, 0), (5, .iload_n 1, 6, 1, 0, 0), (6, .if_icmp .gt 19, 9, 25, 0, 0), (9, .iload_n 2, 10, 2, 0, 0), (10, .iload_n 0, 11, 0, 0, 0), (11, .iload_n 1, 12, 1, 0, 0), (12, .isub, 13, 0, 0, 0), (13, .iload_n 3, 14, 3, 0, 0), (14, .iadd, 15, 0, 0, 0), (15, .imul, 16, 0, 0, 0), (16, .iload_n 3, 17, 3, 0, 0), (17, .idiv, 18, 0, 0, 0), (18, .istore_n 2, 19, 2, 0, 0), (19, .iinc 3 1, 22, 3, 0, 0), (22, .goto (-18), 25, 4, 0, 0), (25, .iload_n 2, 26, 2, 0, 0), (26, .ireturn, 27, 0, 0, 0)]
-- 40: LikeYears$Cut.choose(I[I)I
def mc40_0 : List (Nat × Ins) := [(0, .aload_n 0, 1, 0, 0, 0), (1, .aload_n 2, 2, 2, 0, 0), (2, .putfield 27, 5, 4, 5, 294), (5, .aload_n 0, 6, 0, 0, 0), (6, .iload_n 1, 7, 1, 0, 0), (7, .invokevirtual 30, 10, 41, 980, 0), (10, .aload_n 0, 11, 0, 0, 0), (11, .getfield 34, 14, 4, 6, 295), (14, .ifCond .ne 5, 17, 19, 0, 0), (17, .iconst 0, 18, 0, 0, 0), (18, .ireturn, 19, 0, 0, 0), (19, .aload_n 0, 20, 0, 0, 0), (20, .invokevirtual 38, 23, 42, 988, 0), (23, .aload_n 0, 24, 0, 0, 0), (24, .invokevirtual 41, 27, 43, 993, 0), (27, .istore_n 3, 28, 3, 0, 0), (28, .iconst 0, 29, 0, 0, 0), (29, .istore 4, 31, 4, 0, 0), (31, .iload 4, 33, 4, 0, 0), (33, .ldc 45, 35, 0, 1005, 100000), (35, .if_icmp .ge 23, 38, 58, 0, 0), (38, .iload_n 3, 39, 3, 0, 0), (39, .ifCond .lt 19, 42, 58, 0, 0), (42, .aload_n 0, 43, 0, 0, 0), (43, .iload_n 3, 44, 3, 0, 0), (44, .invokevirtual 46, 47, 46, 1006, 0), (47, .aload_n 0, 48, 0, 0, 0), (48, .invokevirtual 41, 51, 43, 993, 0), (51, .istore_n 3, 52, 3, 0, 0), (52, .iinc 4 1, 55, 4, 0, 0), (55, .goto (-24), 58, 31, 0, 0), (58, .iconst 0, 59, 0, 0, 0), (59, .istore 4, 61, 4, 0, 0), (61, .iconst 0, 62, 0, 0, 0), (62, .istore 5, 64, 5, 0, 0), (64, .iload 5, 66, 5, 0, 0), (66, .bipush 16, 68, 0, 0, 0), (68, .if_icmp .ge 43, 71, 111, 0, 0), (71, .aload_n 0, 72, 0, 0, 0), (72, .getfield 49, 75, 4, 8, 297)]
def mc40_1 : List (Nat × Ins) := [(75, .iload 5, 77, 5, 0, 0), (77, .ishr, 78, 0, 0, 0), (78, .aload_n 0, 79, 0, 0, 0), (79, .getfield 34, 82, 4, 6, 295), (82, .iload 5, 84, 5, 0, 0), (84, .ishr, 85, 0, 0, 0), (85, .iand, 86, 0, 0, 0), (86, .iconst 1, 87, 0, 0, 0), (87, .iand, 88, 0, 0, 0), (88, .ifCond .eq 17, 91, 105, 0, 0), (91, .iload 4, 93, 4, 0, 0), (93, .aload_n 0, 94, 0, 0, 0), (94, .getfield 27, 97, 4, 5, 294), (97, .iload 5, 99, 5, 0, 0), (99, .iaload, 100, 0, 0, 0), (100, .iload_n 1, 101, 1, 0, 0), (101, .iand, 102, 0, 0, 0), (102, .ior, 103, 0, 0, 0), (103, .istore 4, 105, 4, 0, 0), (105, .iinc 5 1, 108, 5, 0, 0), (108, .goto (-44), 111, 64, 0, 0), (111, .iload 4, 113, 4, 0, 0), (113, .ireturn, 114, 0, 0, 0)]
def mc40 : List (Nat × Ins) := mc40_0 ++ mc40_1
-- 41: LikeYears$Cut.prepare(I)V
def mc41_0 : List (Nat × Ins) := [(0, .aload_n 0, 1, 0, 0, 0), (1, .iconst 0, 2, 0, 0, 0), (2, .putfield 34, 5, 4, 6, 295), (5, .aload_n 0, 6, 0, 0, 0), (6, .iconst 0, 7, 0, 0, 0), (7, .putfield 52, 10, 4, 7, 296), (10, .iconst 0, 11, 0, 0, 0), (11, .istore_n 2, 12, 2, 0, 0), (12, .iload_n 2, 13, 2, 0, 0), (13, .bipush 16, 15, 0, 0, 0), (15, .if_icmp .ge 82, 18, 97, 0, 0), (18, .iload_n 1, 19, 1, 0, 0), (19, .iload_n 2, 20, 2, 0, 0), (20, .ishr, 21, 0, 0, 0), (21, .iconst 1, 22, 0, 0, 0), (22, .iand, 23, 0, 0, 0), (23, .ifCond .eq 68, 26, 91, 0, 0), (26, .aload_n 0, 27, 0, 0, 0), (27, .getfield 15, 30, 4, 1, 290), (30, .iload_n 2, 31, 2, 0, 0), (31, .aload_n 0, 32, 0, 0, 0), (32, .getfield 9, 35, 4, 0, 288), (35, .iload_n 2, 36, 2, 0, 0), (36, .iaload, 37, 0, 0, 0), (37, .invokestatic 55, 40, 288, 984, 0), (40, .iastore, 41, 0, 0, 0), (41, .aload_n 0, 42, 0, 0, 0), (42, .dup, 43, 0, 0, 0), (43, .getfield 34, 46, 4, 6, 295), (46, .aload_n 0, 47, 0, 0, 0), (47, .getfield 9, 50, 4, 0, 288), (50, .iload_n 2, 51, 2, 0, 0), (51, .iaload, 52, 0, 0, 0), (52, .ifCond .le 9, 55, 61, 0, 0), (55, .iconst 1, 56, 0, 0, 0), (56, .iload_n 2, 57, 2, 0, 0), (57, .ishl, 58, 0, 0, 0), (58, .goto 4, 61, 62, 0, 0), (61, .iconst 0, 62, 0, 0, 0), (62, .ior, 63, 0, 0, 0)]
def mc41_1 : List (Nat × Ins) := [(63, .putfield 34, 66, 4, 6, 295), (66, .aload_n 0, 67, 0, 0, 0), (67, .dup, 68, 0, 0, 0), (68, .getfield 52, 71, 4, 7, 296), (71, .aload_n 0, 72, 0, 0, 0), (72, .getfield 9, 75, 4, 0, 288), (75, .iload_n 2, 76, 2, 0, 0), (76, .iaload, 77, 0, 0, 0), (77, .ifCond .ge 9, 80, 86, 0, 0), (80, .iconst 1, 81, 0, 0, 0), (81, .iload_n 2, 82, 2, 0, 0), (82, .ishl, 83, 0, 0, 0), (83, .goto 4, 86, 87, 0, 0), (86, .iconst 0, 87, 0, 0, 0), (87, .ior, 88, 0, 0, 0), (88, .putfield 52, 91, 4, 7, 296), (91, .iinc 2 1, 94, 2, 0, 0), (94, .goto (-82), 97, 12, 0, 0), (97, .aload_n 0, 98, 0, 0, 0), (98, .getfield 18, 101, 4, 2, 291), (101, .iconst 0, 102, 0, 0, 0), (102, .invokestatic 61, 105, 292, 987, 0), (105, .return_, 106, 0, 0, 0)]
def mc41 : List (Nat × Ins) := mc41_0 ++ mc41_1
-- 42: LikeYears$Cut.payDirectly()V
def mc42_0 : List (Nat × Ins) := [(0, .iconst 0, 1, 0, 0, 0), (1, .istore_n 1, 2, 1, 0, 0), (2, .iload_n 1, 3, 1, 0, 0), (3, .bipush 16, 5, 0, 0, 0), (5, .if_icmp .ge 114, 8, 119, 0, 0), (8, .aload_n 0, 9, 0, 0, 0), (9, .getfield 34, 12, 4, 6, 295), (12, .iload_n 1, 13, 1, 0, 0), (13, .ishr, 14, 0, 0, 0), (14, .iconst 1, 15, 0, 0, 0), (15, .iand, 16, 0, 0, 0), (16, .ifCond .eq 17, 19, 33, 0, 0), (19, .aload_n 0, 20, 0, 0, 0), (20, .getfield 27, 23, 4, 5, 294), (23, .iload_n 1, 24, 1, 0, 0), (24, .iaload, 25, 0, 0, 0), (25, .aload_n 0, 26, 0, 0, 0), (26, .getfield 52, 29, 4, 7, 296), (29, .iand, 30, 0, 0, 0), (30, .goto 4, 33, 34, 0, 0), (33, .iconst 0, 34, 0, 0, 0), (34, .istore_n 2, 35, 2, 0, 0), (35, .iconst 0, 36, 0, 0, 0), (36, .istore_n 3, 37, 3, 0, 0), (37, .iload_n 2, 38, 2, 0, 0), (38, .ifCond .eq 75, 41, 113, 0, 0), (41, .iload_n 3, 42, 3, 0, 0), (42, .bipush 16, 44, 0, 0, 0), (44, .if_icmp .ge 69, 47, 113, 0, 0), (47, .iload_n 2, 48, 2, 0, 0), (48, .iload_n 3, 49, 3, 0, 0), (49, .ishr, 50, 0, 0, 0), (50, .iconst 1, 51, 0, 0, 0), (51, .iand, 52, 0, 0, 0), (52, .ifCond .eq 55, 55, 107, 0, 0), (55, .aload_n 0, 56, 0, 0, 0), (56, .getfield 15, 59, 4, 1, 290), (59, .iload_n 1, 60, 1, 0, 0), (60, .iaload, 61, 0, 0, 0), (61, .aload_n 0, 62, 0, 0, 0)]
def mc42_1 : List (Nat × Ins) := [(62, .getfield 15, 65, 4, 1, 290), (65, .iload_n 3, 66, 3, 0, 0), (66, .iaload, 67, 0, 0, 0), (67, .invokestatic 67, 70, 291, 992, 0), (70, .istore 4, 72, 4, 0, 0), (72, .aload_n 0, 73, 0, 0, 0), (73, .getfield 18, 76, 4, 2, 291), (76, .iload_n 1, 77, 1, 0, 0), (77, .bipush 16, 79, 0, 0, 0), (79, .imul, 80, 0, 0, 0), (80, .iload_n 3, 81, 3, 0, 0), (81, .iadd, 82, 0, 0, 0), (82, .iload 4, 84, 4, 0, 0), (84, .iastore, 85, 0, 0, 0), (85, .aload_n 0, 86, 0, 0, 0), (86, .getfield 15, 89, 4, 1, 290), (89, .iload_n 1, 90, 1, 0, 0), (90, .dup2, 91, 0, 0, 0), (91, .iaload, 92, 0, 0, 0), (92, .iload 4, 94, 4, 0, 0), (94, .isub, 95, 0, 0, 0), (95, .iastore, 96, 0, 0, 0), (96, .aload_n 0, 97, 0, 0, 0), (97, .getfield 15, 100, 4, 1, 290), (100, .iload_n 3, 101, 3, 0, 0), (101, .dup2, 102, 0, 0, 0), (102, .iaload, 103, 0, 0, 0), (103, .iload 4, 105, 4, 0, 0), (105, .isub, 106, 0, 0, 0), (106, .iastore, 107, 0, 0, 0), (107, .iinc 3 1, 110, 3, 0, 0), (110, .goto (-73), 113, 37, 0, 0), (113, .iinc 1 1, 116, 1, 0, 0), (116, .goto (-114), 119, 2, 0, 0), (119, .return_, 120, 0, 0, 0)]
def mc42 : List (Nat × Ins) := mc42_0 ++ mc42_1
-- 43: LikeYears$Cut.findOpenOwer()I
def mc43_0 : List (Nat × Ins) := [(0, .aload_n 0, 1, 0, 0, 0), (1, .invokevirtual 71, 4, 44, 997, 0), (4, .istore_n 1, 5, 1, 0, 0), (5, .iconst 0, 6, 0, 0, 0), (6, .istore_n 2, 7, 2, 0, 0), (7, .iload_n 2, 8, 2, 0, 0), (8, .iload_n 1, 9, 1, 0, 0), (9, .if_icmp .ge 115, 12, 124, 0, 0), (12, .iload_n 2, 13, 2, 0, 0), (13, .bipush 16, 15, 0, 0, 0), (15, .if_icmp .ge 109, 18, 124, 0, 0), (18, .aload_n 0, 19, 0, 0, 0), (19, .getfield 24, 22, 4, 4, 293), (22, .iload_n 2, 23, 2, 0, 0), (23, .iaload, 24, 0, 0, 0), (24, .istore_n 3, 25, 3, 0, 0), (25, .aload_n 0, 26, 0, 0, 0), (26, .getfield 27, 29, 4, 5, 294), (29, .iload_n 3, 30, 3, 0, 0), (30, .iaload, 31, 0, 0, 0), (31, .aload_n 0, 32, 0, 0, 0), (32, .getfield 52, 35, 4, 7, 296), (35, .iand, 36, 0, 0, 0), (36, .aload_n 0, 37, 0, 0, 0), (37, .getfield 49, 40, 4, 8, 297), (40, .iconst (-1), 41, 0, 0, 0), (41, .ixor, 42, 0, 0, 0), (42, .iand, 43, 0, 0, 0), (43, .istore 4, 45, 4, 0, 0), (45, .iconst 0, 46, 0, 0, 0), (46, .istore 5, 48, 5, 0, 0), (48, .iload 4, 50, 4, 0, 0), (50, .ifCond .eq 68, 53, 118, 0, 0), (53, .iload 5, 55, 5, 0, 0), (55, .bipush 16, 57, 0, 0, 0), (57, .if_icmp .ge 61, 60, 118, 0, 0), (60, .iload 4, 62, 4, 0, 0), (62, .iload 5, 64, 5, 0, 0), (64, .ishr, 65, 0, 0, 0), (65, .iconst 1, 66, 0, 0, 0)]
def mc43_1 : List (Nat × Ins) := [(66, .iand, 67, 0, 0, 0), (67, .ifCond .eq 45, 70, 112, 0, 0), (70, .aload_n 0, 71, 0, 0, 0), (71, .getfield 21, 74, 4, 3, 292), (74, .iload 5, 76, 5, 0, 0), (76, .iload_n 3, 77, 3, 0, 0), (77, .iastore, 78, 0, 0, 0), (78, .aload_n 0, 79, 0, 0, 0), (79, .dup, 80, 0, 0, 0), (80, .getfield 49, 83, 4, 8, 297), (83, .iconst 1, 84, 0, 0, 0), (84, .iload 5, 86, 5, 0, 0), (86, .ishl, 87, 0, 0, 0), (87, .ior, 88, 0, 0, 0), (88, .putfield 49, 91, 4, 8, 297), (91, .aload_n 0, 92, 0, 0, 0), (92, .getfield 15, 95, 4, 1, 290), (95, .iload 5, 97, 5, 0, 0), (97, .iaload, 98, 0, 0, 0), (98, .ifCond .le 6, 101, 104, 0, 0), (101, .iload 5, 103, 5, 0, 0), (103, .ireturn, 104, 0, 0, 0), (104, .aload_n 0, 105, 0, 0, 0), (105, .iload 5, 107, 5, 0, 0), (107, .iload_n 1, 108, 1, 0, 0), (108, .invokevirtual 74, 111, 45, 1001, 0), (111, .istore_n 1, 112, 1, 0, 0), (112, .iinc 5 1, 115, 5, 0, 0), (115, .goto (-67), 118, 48, 0, 0), (118, .iinc 2 1, 121, 2, 0, 0), (121, .goto (-114), 124, 7, 0, 0), (124, .iconst (-1), 125, 0, 0, 0), (125, .ireturn, 126, 0, 0, 0)]
def mc43 : List (Nat × Ins) := mc43_0 ++ mc43_1
-- 44: LikeYears$Cut.startQueue()I
def mc44_0 : List (Nat × Ins) := [(0, .iconst 0, 1, 0, 0, 0), (1, .istore_n 1, 2, 1, 0, 0), (2, .aload_n 0, 3, 0, 0, 0), (3, .iconst 0, 4, 0, 0, 0), (4, .putfield 49, 7, 4, 8, 297), (7, .iconst 0, 8, 0, 0, 0), (8, .istore_n 2, 9, 2, 0, 0), (9, .iload_n 2, 10, 2, 0, 0), (10, .bipush 16, 12, 0, 0, 0), (12, .if_icmp .ge 58, 15, 70, 0, 0), (15, .aload_n 0, 16, 0, 0, 0), (16, .getfield 34, 19, 4, 6, 295), (19, .iload_n 2, 20, 2, 0, 0), (20, .ishr, 21, 0, 0, 0), (21, .iconst 1, 22, 0, 0, 0), (22, .iand, 23, 0, 0, 0), (23, .ifCond .eq 41, 26, 64, 0, 0), (26, .aload_n 0, 27, 0, 0, 0), (27, .getfield 15, 30, 4, 1, 290), (30, .iload_n 2, 31, 2, 0, 0), (31, .iaload, 32, 0, 0, 0), (32, .ifCond .le 32, 35, 64, 0, 0), (35, .aload_n 0, 36, 0, 0, 0), (36, .getfield 24, 39, 4, 4, 293), (39, .iload_n 1, 40, 1, 0, 0), (40, .iload_n 2, 41, 2, 0, 0), (41, .iastore, 42, 0, 0, 0), (42, .iinc 1 1, 45, 1, 0, 0), (45, .aload_n 0, 46, 0, 0, 0), (46, .getfield 21, 49, 4, 3, 292), (49, .iload_n 2, 50, 2, 0, 0), (50, .iconst (-1), 51, 0, 0, 0), (51, .iastore, 52, 0, 0, 0), (52, .aload_n 0, 53, 0, 0, 0), (53, .dup, 54, 0, 0, 0), (54, .getfield 49, 57, 4, 8, 297), (57, .iconst 1, 58, 0, 0, 0), (58, .iload_n 2, 59, 2, 0, 0), (59, .ishl, 60, 0, 0, 0), (60, .ior, 61, 0, 0, 0)]
def mc44_1 : List (Nat × Ins) := [(61, .putfield 49, 64, 4, 8, 297), (64, .iinc 2 1, 67, 2, 0, 0), (67, .goto (-58), 70, 9, 0, 0), (70, .iload_n 1, 71, 1, 0, 0), (71, .ireturn, 72, 0, 0, 0)]
def mc44 : List (Nat × Ins) := mc44_0 ++ mc44_1
-- 45: LikeYears$Cut.queuePayersOf(II)I
def mc45_0 : List (Nat × Ins) := [(0, .iload_n 2, 1, 2, 0, 0), (1, .istore_n 3, 2, 3, 0, 0), (2, .iconst 0, 3, 0, 0, 0), (3, .istore 4, 5, 4, 0, 0), (5, .iload 4, 7, 4, 0, 0), (7, .bipush 16, 9, 0, 0, 0), (9, .if_icmp .ge 98, 12, 107, 0, 0), (12, .aload_n 0, 13, 0, 0, 0), (13, .getfield 34, 16, 4, 6, 295), (16, .iload 4, 18, 4, 0, 0), (18, .ishr, 19, 0, 0, 0), (19, .iconst 1, 20, 0, 0, 0), (20, .iand, 21, 0, 0, 0), (21, .ifCond .eq 19, 24, 40, 0, 0), (24, .aload_n 0, 25, 0, 0, 0), (25, .getfield 49, 28, 4, 8, 297), (28, .iload 4, 30, 4, 0, 0), (30, .ishr, 31, 0, 0, 0), (31, .iconst 1, 32, 0, 0, 0), (32, .iand, 33, 0, 0, 0), (33, .ifCond .ne 7, 36, 40, 0, 0), (36, .iconst 1, 37, 0, 0, 0), (37, .goto 4, 40, 41, 0, 0), (40, .iconst 0, 41, 0, 0, 0), (41, .istore 5, 43, 5, 0, 0), (43, .iload 5, 45, 5, 0, 0), (45, .ifCond .eq 56, 48, 101, 0, 0), (48, .aload_n 0, 49, 0, 0, 0), (49, .getfield 18, 52, 4, 2, 291), (52, .iload 4, 54, 4, 0, 0), (54, .bipush 16, 56, 0, 0, 0), (56, .imul, 57, 0, 0, 0), (57, .iload_n 1, 58, 1, 0, 0), (58, .iadd, 59, 0, 0, 0), (59, .iaload, 60, 0, 0, 0), (60, .ifCond .le 41, 63, 101, 0, 0), (63, .iload_n 3, 64, 3, 0, 0), (64, .bipush 16, 66, 0, 0, 0), (66, .if_icmp .ge 35, 69, 101, 0, 0), (69, .aload_n 0, 70, 0, 0, 0)]
def mc45_1 : List (Nat × Ins) := [(70, .getfield 24, 73, 4, 4, 293), (73, .iload_n 3, 74, 3, 0, 0), (74, .iload 4, 76, 4, 0, 0), (76, .iastore, 77, 0, 0, 0), (77, .iinc 3 1, 80, 3, 0, 0), (80, .aload_n 0, 81, 0, 0, 0), (81, .getfield 21, 84, 4, 3, 292), (84, .iload 4, 86, 4, 0, 0), (86, .iload_n 1, 87, 1, 0, 0), (87, .iastore, 88, 0, 0, 0), (88, .aload_n 0, 89, 0, 0, 0), (89, .dup, 90, 0, 0, 0), (90, .getfield 49, 93, 4, 8, 297), (93, .iconst 1, 94, 0, 0, 0), (94, .iload 4, 96, 4, 0, 0), (96, .ishl, 97, 0, 0, 0), (97, .ior, 98, 0, 0, 0), (98, .putfield 49, 101, 4, 8, 297), (101, .iinc 4 1, 104, 4, 0, 0), (104, .goto (-99), 107, 5, 0, 0), (107, .iload_n 3, 108, 3, 0, 0), (108, .ireturn, 109, 0, 0, 0)]
def mc45 : List (Nat × Ins) := mc45_0 ++ mc45_1
-- 46: LikeYears$Cut.payAround(I)V
def mc46_0 : List (Nat × Ins) := [(0, .aload_n 0, 1, 0, 0, 0), (1, .getfield 15, 4, 4, 1, 290), (4, .iload_n 1, 5, 1, 0, 0), (5, .iaload, 6, 0, 0, 0), (6, .istore_n 2, 7, 2, 0, 0), (7, .aload_n 0, 8, 0, 0, 0), (8, .getfield 21, 11, 4, 3, 292), (11, .iload_n 1, 12, 1, 0, 0), (12, .iaload, 13, 0, 0, 0), (13, .istore_n 3, 14, 3, 0, 0), (14, .iconst 0, 15, 0, 0, 0), (15, .istore 4, 17, 4, 0, 0), (17, .iload 4, 19, 4, 0, 0), (19, .bipush 16, 21, 0, 0, 0), (21, .if_icmp .ge 51, 24, 72, 0, 0), (24, .aload_n 0, 25, 0, 0, 0), (25, .getfield 21, 28, 4, 3, 292), (28, .iload_n 3, 29, 3, 0, 0), (29, .iaload, 30, 0, 0, 0), (30, .ifCond .lt 42, 33, 72, 0, 0), (33, .iload_n 2, 34, 2, 0, 0), (34, .aload_n 0, 35, 0, 0, 0), (35, .getfield 18, 38, 4, 2, 291), (38, .iload_n 3, 39, 3, 0, 0), (39, .bipush 16, 41, 0, 0, 0), (41, .imul, 42, 0, 0, 0), (42, .aload_n 0, 43, 0, 0, 0), (43, .getfield 21, 46, 4, 3, 292), (46, .iload_n 3, 47, 3, 0, 0), (47, .iaload, 48, 0, 0, 0), (48, .iadd, 49, 0, 0, 0), (49, .iaload, 50, 0, 0, 0), (50, .invokestatic 67, 53, 291, 992, 0), (53, .istore_n 2, 54, 2, 0, 0), (54, .aload_n 0, 55, 0, 0, 0), (55, .getfield 21, 58, 4, 3, 292), (58, .aload_n 0, 59, 0, 0, 0), (59, .getfield 21, 62, 4, 3, 292), (62, .iload_n 3, 63, 3, 0, 0), (63, .iaload, 64, 0, 0, 0)]
def mc46_1 : List (Nat × Ins) := [(64, .iaload, 65, 0, 0, 0), (65, .istore_n 3, 66, 3, 0, 0), (66, .iinc 4 1, 69, 4, 0, 0), (69, .goto (-52), 72, 17, 0, 0), (72, .iload_n 2, 73, 2, 0, 0), (73, .aload_n 0, 74, 0, 0, 0), (74, .getfield 15, 77, 4, 1, 290), (77, .iload_n 3, 78, 3, 0, 0), (78, .iaload, 79, 0, 0, 0), (79, .invokestatic 67, 82, 291, 992, 0), (82, .istore_n 2, 83, 2, 0, 0), (83, .aload_n 0, 84, 0, 0, 0), (84, .getfield 15, 87, 4, 1, 290), (87, .iload_n 3, 88, 3, 0, 0), (88, .dup2, 89, 0, 0, 0), (89, .iaload, 90, 0, 0, 0), (90, .iload_n 2, 91, 2, 0, 0), (91, .isub, 92, 0, 0, 0), (92, .iastore, 93, 0, 0, 0), (93, .aload_n 0, 94, 0, 0, 0), (94, .getfield 15, 97, 4, 1, 290), (97, .iload_n 1, 98, 1, 0, 0), (98, .dup2, 99, 0, 0, 0), (99, .iaload, 100, 0, 0, 0), (100, .iload_n 2, 101, 2, 0, 0), (101, .isub, 102, 0, 0, 0), (102, .iastore, 103, 0, 0, 0), (103, .iload_n 1, 104, 1, 0, 0), (104, .istore 4, 106, 4, 0, 0), (106, .iconst 0, 107, 0, 0, 0), (107, .istore 5, 109, 5, 0, 0), (109, .iload 5, 111, 5, 0, 0), (111, .bipush 16, 113, 0, 0, 0), (113, .if_icmp .ge 67, 116, 180, 0, 0), (116, .iload 4, 118, 4, 0, 0), (118, .ifCond .lt 62, 121, 180, 0, 0), (121, .aload_n 0, 122, 0, 0, 0), (122, .getfield 21, 125, 4, 3, 292), (125, .iload 4, 127, 4, 0, 0), (127, .iaload, 128, 0, 0, 0)]
def mc46_2 : List (Nat × Ins) := [(128, .istore_n 3, 129, 3, 0, 0), (129, .aload_n 0, 130, 0, 0, 0), (130, .getfield 18, 133, 4, 2, 291), (133, .iload_n 3, 134, 3, 0, 0), (134, .bipush 16, 136, 0, 0, 0), (136, .imul, 137, 0, 0, 0), (137, .iload 4, 139, 4, 0, 0), (139, .iadd, 140, 0, 0, 0), (140, .dup2, 141, 0, 0, 0), (141, .iaload, 142, 0, 0, 0), (142, .iload_n 2, 143, 2, 0, 0), (143, .iadd, 144, 0, 0, 0), (144, .iastore, 145, 0, 0, 0), (145, .aload_n 0, 146, 0, 0, 0), (146, .getfield 21, 149, 4, 3, 292), (149, .iload_n 3, 150, 3, 0, 0), (150, .iaload, 151, 0, 0, 0), (151, .istore 4, 153, 4, 0, 0), (153, .iload 4, 155, 4, 0, 0), (155, .ifCond .lt 19, 158, 174, 0, 0), (158, .aload_n 0, 159, 0, 0, 0), (159, .getfield 18, 162, 4, 2, 291), (162, .iload_n 3, 163, 3, 0, 0), (163, .bipush 16, 165, 0, 0, 0), (165, .imul, 166, 0, 0, 0), (166, .iload 4, 168, 4, 0, 0), (168, .iadd, 169, 0, 0, 0), (169, .dup2, 170, 0, 0, 0), (170, .iaload, 171, 0, 0, 0), (171, .iload_n 2, 172, 2, 0, 0), (172, .isub, 173, 0, 0, 0), (173, .iastore, 174, 0, 0, 0), (174, .iinc 5 1, 177, 5, 0, 0), (177, .goto (-68), 180, 109, 0, 0), (180, .return_, 181, 0, 0, 0)]
def mc46 : List (Nat × Ins) := mc46_0 ++ mc46_1 ++ mc46_2
-- 47: LikeYears$Fraction.set(JJ)V
def mc47 : List (Nat × Ins) := [(0, .lload_n 1, 1, 1, 0, 0), (1, .invokestatic 13, 4, 289, 966, 0), (4, .lload_n 3, 5, 3, 0, 0), (5, .invokestatic 19, 8, 50, 969, 0), (8, .lstore 5, 10, 5, 0, 0), (10, .lload 5, 12, 5, 0, 0), (12, .lconst 0, 13, 0, 0, 0), (13, .lcmp, 14, 0, 0, 0), (14, .ifCond .le 19, 17, 33, 0, 0), (17, .aload_n 0, 18, 0, 0, 0), (18, .lload_n 1, 19, 1, 0, 0), (19, .lload 5, 21, 5, 0, 0), (21, .ldiv, 22, 0, 0, 0), (22, .putfield 23, 25, 5, 0, 329), (25, .aload_n 0, 26, 0, 0, 0), (26, .lload_n 3, 27, 3, 0, 0), (27, .lload 5, 29, 5, 0, 0), (29, .ldiv, 30, 0, 0, 0), (30, .putfield 7, 33, 5, 1, 333), (33, .return_, 34, 0, 0, 0)]
-- 48: LikeYears$Fraction.add(JJ)V
def mc48 : List (Nat × Ins) := [(0, .aload_n 0, 1, 0, 0, 0), (1, .getfield 7, 4, 5, 1, 333), (4, .lload_n 3, 5, 3, 0, 0), (5, .invokestatic 19, 8, 50, 969, 0), (8, .lstore 5, 10, 5, 0, 0), (10, .lload 5, 12, 5, 0, 0), (12, .lconst 0, 13, 0, 0, 0), (13, .lcmp, 14, 0, 0, 0), (14, .ifCond .le 35, 17, 49, 0, 0), (17, .aload_n 0, 18, 0, 0, 0), (18, .aload_n 0, 19, 0, 0, 0), (19, .getfield 23, 22, 5, 0, 329), (22, .lload_n 3, 23, 3, 0, 0), (23, .lload 5, 25, 5, 0, 0), (25, .ldiv, 26, 0, 0, 0), (26, .lmul, 27, 0, 0, 0), (27, .lload_n 1, 28, 1, 0, 0), (28, .aload_n 0, 29, 0, 0, 0), (29, .getfield 7, 32, 5, 1, 333), (32, .lload 5, 34, 5, 0, 0), (34, .ldiv, 35, 0, 0, 0), (35, .lmul, 36, 0, 0, 0), (36, .ladd, 37, 0, 0, 0), (37, .aload_n 0, 38, 0, 0, 0), (38, .getfield 7, 41, 5, 1, 333), (41, .lload 5, 43, 5, 0, 0), (43, .ldiv, 44, 0, 0, 0), (44, .lload_n 3, 45, 3, 0, 0), (45, .lmul, 46, 0, 0, 0), (46, .invokevirtual 26, 49, 47, 1018, 0), (49, .return_, 50, 0, 0, 0)]
-- 49: LikeYears$Fraction.part(I)J
def mc49 : List (Nat × Ins) := [(0, .iload_n 1, 1, 1, 0, 0), (1, .ifCond .ne 10, 4, 11, 0, 0), (4, .aload_n 0, 5, 0, 0, 0), (5, .getfield 23, 8, 5, 0, 329), (8, .goto 7, 11, 15, 0, 0), (11, .aload_n 0, 12, 0, 0, 0), (12, .getfield 7, 15, 5, 1, 333), (15, .lreturn, 16, 0, 0, 0)]
-- 50: LikeYears$Fraction.common(JJ)J
def mc50 : List (Nat × Ins) := [(0, .lload_n 0, 1, 0, 0, 0), (1, .lstore 4, 3, 4, 0, 0), (3, .lload_n 2, 4, 2, 0, 0), (4, .lstore 6, 6, 6, 0, 0), (6, .iconst 0, 7, 0, 0, 0), (7, .istore 8, 9, 8, 0, 0), (9, .iload 8, 11, 8, 0, 0), (11, .bipush 100, 13, 0, 0, 0), (13, .if_icmp .ge 31, 16, 44, 0, 0), (16, .lload 6, 18, 6, 0, 0), (18, .lconst 0, 19, 0, 0, 0), (19, .lcmp, 20, 0, 0, 0), (20, .ifCond .eq 24, 23, 44, 0, 0), (23, .lload 4, 25, 4, 0, 0), (25, .lload 6, 27, 6, 0, 0), (27, .lrem, 28, 0, 0, 0), (28, .lstore 9, 30, 9, 0, 0), (30, .lload 6, 32, 6, 0, 0), (32, .lstore 4, 34, 4, 0, 0), (34, .lload 9, 36, 9, 0, 0), (36, .lstore 6, 38, 6, 0, 0), (38, .iinc 8 1, 41, 8, 0, 0), (41, .goto (-32), 44, 9, 0, 0), (44, .lload 4, 46, 4, 0, 0), (46, .lreturn, 47, 0, 0, 0)]
-- 51: LikeYears$Fraction.compare(JJJJ)I
def mc51 : List (Nat × Ins) := [(0, .lload_n 2, 1, 2, 0, 0), (1, .lconst 0, 2, 0, 0, 0), (2, .lcmp, 3, 0, 0, 0), (3, .ifCond .le 10, 6, 13, 0, 0), (6, .lload 6, 8, 6, 0, 0), (8, .lconst 0, 9, 0, 0, 0), (9, .lcmp, 10, 0, 0, 0), (10, .ifCond .gt 5, 13, 15, 0, 0), (13, .iconst 0, 14, 0, 0, 0), (14, .ireturn, 15, 0, 0, 0), (15, .lload_n 0, 16, 0, 0, 0), (16, .lload_n 2, 17, 2, 0, 0), (17, .ldiv, 18, 0, 0, 0), (18, .lstore 8, 20, 8, 0, 0), (20, .lload 4, 22, 4, 0, 0), (22, .lload 6, 24, 6, 0, 0), (24, .ldiv, 25, 0, 0, 0), (25, .lstore 10, 27, 10, 0, 0), (27, .lload 8, 29, 8, 0, 0), (29, .lload 10, 31, 10, 0, 0), (31, .lcmp, 32, 0, 0, 0), (32, .ifCond .eq 11, 35, 43, 0, 0), (35, .lload 8, 37, 8, 0, 0), (37, .lload 10, 39, 10, 0, 0), (39, .invokestatic 30, 42, 287, 1123, 0), (42, .ireturn, 43, 0, 0, 0), (43, .lload_n 0, 44, 0, 0, 0), (44, .lload_n 2, 45, 2, 0, 0), (45, .lrem, 46, 0, 0, 0), (46, .lload 6, 48, 6, 0, 0), (48, .lmul, 49, 0, 0, 0), (49, .lload 4, 51, 4, 0, 0), (51, .lload 6, 53, 6, 0, 0), (53, .lrem, 54, 0, 0, 0), (54, .lload_n 2, 55, 2, 0, 0), (55, .lmul, 56, 0, 0, 0), (56, .invokestatic 30, 59, 287, 1123, 0), (59, .ireturn, 60, 0, 0, 0)]
-- 52: LikeYears$Laws.read(LLikeYears$Book;)Z
def mc52 : List (Nat × Ins) := [(0, .aload_n 0, 1, 0, 0, 0), (1, .aload_n 1, 2, 1, 0, 0), (2, .putfield 34, 5, 6, 1, 215), (5, .aload_n 0, 6, 0, 0, 0), (6, .iconst 0, 7, 0, 0, 0), (7, .putfield 38, 10, 6, 2, 216), (10, .aload_n 0, 11, 0, 0, 0), (11, .iconst 0, 12, 0, 0, 0), (12, .putfield 42, 15, 6, 8, 225), (15, .aload_n 0, 16, 0, 0, 0), (16, .iconst 0, 17, 0, 0, 0), (17, .putfield 45, 20, 6, 9, 226), (20, .aload_n 0, 21, 0, 0, 0), (21, .getfield 30, 24, 6, 0, 214), (24, .iconst 1, 25, 0, 0, 0), (25, .invokevirtual 48, 28, 101, 817, 0), (28, .iconst 0, 29, 0, 0, 0), (29, .istore_n 2, 30, 2, 0, 0), (30, .iload_n 2, 31, 2, 0, 0), (31, .sipush 500, 34, 0, 0, 0), (34, .if_icmp .gt 28, 37, 62, 0, 0), (37, .aload_n 0, 38, 0, 0, 0), (38, .getfield 30, 41, 6, 0, 214), (41, .getfield 54, 44, 10, 3, 47), (44, .ifCond .eq 18, 47, 62, 0, 0), (47, .aload_n 0, 48, 0, 0, 0), (48, .invokevirtual 57, 51, 53, 818, 0), (51, .ifCond .ne 5, 54, 56, 0, 0), (54, .iconst 0, 55, 0, 0, 0), (55, .ireturn, 56, 0, 0, 0), (56, .iinc 2 1, 59, 2, 0, 0), (59, .goto (-29), 62, 30, 0, 0), (62, .iconst 1, 63, 0, 0, 0), (63, .ireturn, 64, 0, 0, 0)]
-- 53: LikeYears$Laws.readLine()Z
def mc53_0 : List (Nat × Ins) := [(0, .aload_n 0, 1, 0, 0, 0), (1, .getfield 38, 4, 6, 2, 216), (4, .bipush 8, 6, 0, 0, 0), (6, .if_icmp .lt 12, 9, 18, 0, 0), (9, .aload_n 0, 10, 0, 0, 0), (10, .getfield 30, 13, 6, 0, 214), (13, .iconst 2, 14, 0, 0, 0), (14, .invokevirtual 61, 17, 109, 822, 0), (17, .ireturn, 18, 0, 0, 0), (18, .aload_n 0, 19, 0, 0, 0), (19, .getfield 30, 22, 6, 0, 214), (22, .ldc2_w 65, 25, 0, 823, 2003330414), (25, .invokevirtual 67, 28, 113, 824, 0), (28, .ifCond .eq 12, 31, 40, 0, 0), (31, .aload_n 0, 32, 0, 0, 0), (32, .iconst 0, 33, 0, 0, 0), (33, .iconst 0, 34, 0, 0, 0), (34, .invokevirtual 71, 37, 54, 825, 0), (37, .ifCond .ne 5, 40, 42, 0, 0), (40, .iconst 0, 41, 0, 0, 0), (41, .ireturn, 42, 0, 0, 0), (42, .aload_n 0, 43, 0, 0, 0), (43, .getfield 30, 46, 6, 0, 214), (46, .ldc2_w 75, 49, 0, 866, 465557353332), (49, .iconst 0, 50, 0, 0, 0), (50, .sipush 240, 53, 0, 0, 0), (53, .invokevirtual 77, 56, 116, 867, 0), (56, .istore_n 1, 57, 1, 0, 0), (57, .iload_n 1, 58, 1, 0, 0), (58, .ifCond .ge 5, 61, 63, 0, 0), (61, .iconst 0, 62, 0, 0, 0), (62, .ireturn, 63, 0, 0, 0), (63, .aload_n 0, 64, 0, 0, 0), (64, .getfield 30, 67, 6, 0, 214), (67, .ldc2_w 81, 70, 0, 868, 1836020596), (70, .iload_n 1, 71, 1, 0, 0), (71, .sipush 240, 74, 0, 0, 0), (74, .invokevirtual 77, 77, 116, 867, 0), (77, .istore_n 2, 78, 2, 0, 0), (78, .iload_n 2, 79, 2, 0, 0)]
def mc53_1 : List (Nat × Ins) := [(79, .ifCond .lt 15, 82, 94, 0, 0), (82, .aload_n 0, 83, 0, 0, 0), (83, .getfield 30, 86, 6, 0, 214), (86, .bipush 59, 88, 0, 0, 0), (88, .invokevirtual 83, 91, 114, 835, 0), (91, .ifCond .ne 5, 94, 96, 0, 0), (94, .iconst 0, 95, 0, 0, 0), (95, .ireturn, 96, 0, 0, 0), (96, .aload_n 0, 97, 0, 0, 0), (97, .getfield 9, 100, 6, 3, 218), (100, .aload_n 0, 101, 0, 0, 0), (101, .getfield 38, 104, 6, 2, 216), (104, .iload_n 1, 105, 1, 0, 0), (105, .iastore, 106, 0, 0, 0), (106, .aload_n 0, 107, 0, 0, 0), (107, .getfield 15, 110, 6, 4, 220), (110, .aload_n 0, 111, 0, 0, 0), (111, .getfield 38, 114, 6, 2, 216), (114, .iload_n 2, 115, 2, 0, 0), (115, .iastore, 116, 0, 0, 0), (116, .aload_n 0, 117, 0, 0, 0), (117, .getfield 18, 120, 6, 5, 222), (120, .aload_n 0, 121, 0, 0, 0), (121, .getfield 38, 124, 6, 2, 216), (124, .aload_n 0, 125, 0, 0, 0), (125, .getfield 42, 128, 6, 8, 225), (128, .iastore, 129, 0, 0, 0), (129, .aload_n 0, 130, 0, 0, 0), (130, .dup, 131, 0, 0, 0), (131, .getfield 38, 134, 6, 2, 216), (134, .iconst 1, 135, 0, 0, 0), (135, .iadd, 136, 0, 0, 0), (136, .putfield 38, 139, 6, 2, 216), (139, .iconst 1, 140, 0, 0, 0), (140, .ireturn, 141, 0, 0, 0)]
def mc53 : List (Nat × Ins) := mc53_0 ++ mc53_1
-- 54: LikeYears$Laws.readLevel(II)Z
def mc54_0 : List (Nat × Ins) := [(0, .iload_n 1, 1, 1, 0, 0), (1, .iconst 5, 2, 0, 0, 0), (2, .if_icmp .ne 9, 5, 11, 0, 0), (5, .aload_n 0, 6, 0, 0, 0), (6, .iload_n 2, 7, 2, 0, 0), (7, .invokevirtual 87, 10, 57, 829, 0), (10, .ireturn, 11, 0, 0, 0), (11, .iload_n 1, 12, 1, 0, 0), (12, .iconst 2, 13, 0, 0, 0), (13, .if_icmp .ne 65, 16, 78, 0, 0), (16, .aload_n 0, 17, 0, 0, 0), (17, .getfield 30, 20, 6, 0, 214), (20, .ldc2_w 90, 23, 0, 855, 7237492), (23, .invokevirtual 92, 26, 110, 851, 0), (26, .ifCond .eq 52, 29, 78, 0, 0), (29, .iload_n 2, 30, 2, 0, 0), (30, .bipush 6, 32, 0, 0, 0), (32, .if_icmp .le 12, 35, 44, 0, 0), (35, .aload_n 0, 36, 0, 0, 0), (36, .getfield 30, 39, 6, 0, 214), (39, .iconst 2, 40, 0, 0, 0), (40, .invokevirtual 61, 43, 109, 822, 0), (43, .ireturn, 44, 0, 0, 0), (44, .aload_n 0, 45, 0, 0, 0), (45, .getfield 30, 48, 6, 0, 214), (48, .invokevirtual 95, 51, 102, 834, 0), (51, .aload_n 0, 52, 0, 0, 0), (52, .iconst 2, 53, 0, 0, 0), (53, .iload_n 2, 54, 2, 0, 0), (54, .iconst 1, 55, 0, 0, 0), (55, .iadd, 56, 0, 0, 0), (56, .invokevirtual 71, 59, 54, 825, 0), (59, .ifCond .eq 17, 62, 76, 0, 0), (62, .aload_n 0, 63, 0, 0, 0), (63, .bipush 6, 65, 0, 0, 0), (65, .iconst 0, 66, 0, 0, 0), (66, .invokevirtual 98, 69, 60, 840, 0), (69, .ifCond .eq 7, 72, 76, 0, 0), (72, .iconst 1, 73, 0, 0, 0), (73, .goto 4, 76, 77, 0, 0)]
def mc54_1 : List (Nat × Ins) := [(76, .iconst 0, 77, 0, 0, 0), (77, .ireturn, 78, 0, 0, 0), (78, .aload_n 0, 79, 0, 0, 0), (79, .iload_n 1, 80, 1, 0, 0), (80, .iconst 1, 81, 0, 0, 0), (81, .iadd, 82, 0, 0, 0), (82, .iload_n 2, 83, 2, 0, 0), (83, .invokevirtual 71, 86, 54, 825, 0), (86, .istore_n 3, 87, 3, 0, 0), (87, .iload_n 1, 88, 1, 0, 0), (88, .iconst 2, 89, 0, 0, 0), (89, .if_icmp .ne 7, 92, 96, 0, 0), (92, .iconst 1, 93, 0, 0, 0), (93, .goto 5, 96, 98, 0, 0), (96, .bipush 50, 98, 0, 0, 0), (98, .istore 4, 100, 4, 0, 0), (100, .iconst 0, 101, 0, 0, 0), (101, .istore 5, 103, 5, 0, 0), (103, .iload 5, 105, 5, 0, 0), (105, .iload 4, 107, 4, 0, 0), (107, .if_icmp .ge 62, 110, 169, 0, 0), (110, .iload_n 3, 111, 3, 0, 0), (111, .ifCond .eq 58, 114, 169, 0, 0), (114, .aload_n 0, 115, 0, 0, 0), (115, .iload_n 1, 116, 1, 0, 0), (116, .invokevirtual 101, 119, 55, 856, 0), (119, .ifCond .lt 50, 122, 169, 0, 0), (122, .aload_n 0, 123, 0, 0, 0), (123, .iload_n 1, 124, 1, 0, 0), (124, .invokevirtual 101, 127, 55, 856, 0), (127, .istore 6, 129, 6, 0, 0), (129, .aload_n 0, 130, 0, 0, 0), (130, .getfield 30, 133, 6, 0, 214), (133, .invokevirtual 95, 136, 102, 834, 0), (136, .aload_n 0, 137, 0, 0, 0), (137, .iload_n 1, 138, 1, 0, 0), (138, .iconst 1, 139, 0, 0, 0), (139, .iadd, 140, 0, 0, 0), (140, .iload_n 2, 141, 2, 0, 0), (141, .invokevirtual 71, 144, 54, 825, 0)]
def mc54_2 : List (Nat × Ins) := [(144, .ifCond .eq 17, 147, 161, 0, 0), (147, .aload_n 0, 148, 0, 0, 0), (148, .iload 6, 150, 6, 0, 0), (150, .iconst 0, 151, 0, 0, 0), (151, .invokevirtual 98, 154, 60, 840, 0), (154, .ifCond .eq 7, 157, 161, 0, 0), (157, .iconst 1, 158, 0, 0, 0), (158, .goto 4, 161, 162, 0, 0), (161, .iconst 0, 162, 0, 0, 0), (162, .istore_n 3, 163, 3, 0, 0), (163, .iinc 5 1, 166, 5, 0, 0), (166, .goto (-63), 169, 103, 0, 0), (169, .iload_n 3, 170, 3, 0, 0), (170, .ireturn, 171, 0, 0, 0)]
def mc54 : List (Nat × Ins) := mc54_0 ++ mc54_1 ++ mc54_2
-- 55: LikeYears$Laws.signHere(I)I
def mc55_0 : List (Nat × Ins) := [(0, .iload_n 1, 1, 1, 0, 0), (1, .tableswitch 135 0 4 #[35, 55, 75, 80, 116], 36, 0, 0, 0), (36, .aload_n 0, 37, 0, 0, 0), (37, .getfield 30, 40, 6, 0, 214), (40, .ldc2_w 105, 43, 0, 860, 28530), (43, .invokevirtual 92, 46, 110, 851, 0), (46, .ifCond .eq 8, 49, 54, 0, 0), (49, .bipush 7, 51, 0, 0, 0), (51, .goto 4, 54, 55, 0, 0), (54, .iconst (-1), 55, 0, 0, 0), (55, .ireturn, 56, 0, 0, 0), (56, .aload_n 0, 57, 0, 0, 0), (57, .getfield 30, 60, 6, 0, 214), (60, .ldc2_w 107, 63, 0, 861, 6385252), (63, .invokevirtual 92, 66, 110, 851, 0), (66, .ifCond .eq 8, 69, 74, 0, 0), (69, .bipush 8, 71, 0, 0, 0), (71, .goto 4, 74, 75, 0, 0), (74, .iconst (-1), 75, 0, 0, 0), (75, .ireturn, 76, 0, 0, 0), (76, .aload_n 0, 77, 0, 0, 0), (77, .invokevirtual 109, 80, 56, 862, 0), (80, .ireturn, 81, 0, 0, 0), (81, .aload_n 0, 82, 0, 0, 0), (82, .getfield 30, 85, 6, 0, 214), (85, .bipush 43, 87, 0, 0, 0), (87, .invokevirtual 113, 90, 111, 833, 0), (90, .ifCond .eq 8, 93, 98, 0, 0), (93, .bipush 12, 95, 0, 0, 0), (95, .goto 21, 98, 116, 0, 0), (98, .aload_n 0, 99, 0, 0, 0), (99, .getfield 30, 102, 6, 0, 214), (102, .bipush 45, 104, 0, 0, 0), (104, .invokevirtual 113, 107, 111, 833, 0), (107, .ifCond .eq 8, 110, 115, 0, 0), (110, .bipush 13, 112, 0, 0, 0), (112, .goto 4, 115, 116, 0, 0), (115, .iconst (-1), 116, 0, 0, 0), (116, .ireturn, 117, 0, 0, 0), (117, .aload_n 0, 118, 0, 0, 0)]
def mc55_1 : List (Nat × Ins) := [(118, .getfield 30, 121, 6, 0, 214), (121, .bipush 42, 123, 0, 0, 0), (123, .invokevirtual 113, 126, 111, 833, 0), (126, .ifCond .eq 8, 129, 134, 0, 0), (129, .bipush 14, 131, 0, 0, 0), (131, .goto 4, 134, 135, 0, 0), (134, .iconst (-1), 135, 0, 0, 0), (135, .ireturn, 136, 0, 0, 0), (136, .iconst (-1), 137, 0, 0, 0), (137, .ireturn, 138, 0, 0, 0)]
def mc55 : List (Nat × Ins) := mc55_0 ++ mc55_1
-- 56: LikeYears$Laws.relationHere()I
def mc56 : List (Nat × Ins) := [(0, .aload_n 0, 1, 0, 0, 0), (1, .getfield 30, 4, 6, 0, 214), (4, .bipush 60, 6, 0, 0, 0), (6, .invokevirtual 113, 9, 111, 833, 0), (9, .ifCond .eq 6, 12, 15, 0, 0), (12, .bipush 9, 14, 0, 0, 0), (14, .ireturn, 15, 0, 0, 0), (15, .aload_n 0, 16, 0, 0, 0), (16, .getfield 30, 19, 6, 0, 214), (19, .bipush 62, 21, 0, 0, 0), (21, .invokevirtual 113, 24, 111, 833, 0), (24, .ifCond .eq 6, 27, 30, 0, 0), (27, .bipush 10, 29, 0, 0, 0), (29, .ireturn, 30, 0, 0, 0), (30, .aload_n 0, 31, 0, 0, 0), (31, .getfield 30, 34, 6, 0, 214), (34, .bipush 61, 36, 0, 0, 0), (36, .invokevirtual 113, 39, 111, 833, 0), (39, .ifCond .eq 8, 42, 47, 0, 0), (42, .bipush 11, 44, 0, 0, 0), (44, .goto 4, 47, 48, 0, 0), (47, .iconst (-1), 48, 0, 0, 0), (48, .ireturn, 49, 0, 0, 0)]
-- 57: LikeYears$Laws.readUnit(I)Z
def mc57_0 : List (Nat × Ins) := [(0, .aload_n 0, 1, 0, 0, 0), (1, .getfield 45, 4, 6, 9, 226), (4, .bipush 50, 6, 0, 0, 0), (6, .if_icmp .lt 12, 9, 18, 0, 0), (9, .aload_n 0, 10, 0, 0, 0), (10, .getfield 30, 13, 6, 0, 214), (13, .iconst 2, 14, 0, 0, 0), (14, .invokevirtual 61, 17, 109, 822, 0), (17, .ireturn, 18, 0, 0, 0), (18, .aload_n 0, 19, 0, 0, 0), (19, .dup, 20, 0, 0, 0), (20, .getfield 45, 23, 6, 9, 226), (23, .iconst 1, 24, 0, 0, 0), (24, .iadd, 25, 0, 0, 0), (25, .putfield 45, 28, 6, 9, 226), (28, .aload_n 0, 29, 0, 0, 0), (29, .getfield 30, 32, 6, 0, 214), (32, .bipush 40, 34, 0, 0, 0), (34, .invokevirtual 113, 37, 111, 833, 0), (37, .ifCond .eq 54, 40, 91, 0, 0), (40, .iload_n 1, 41, 1, 0, 0), (41, .bipush 6, 43, 0, 0, 0), (43, .if_icmp .le 12, 46, 55, 0, 0), (46, .aload_n 0, 47, 0, 0, 0), (47, .getfield 30, 50, 6, 0, 214), (50, .iconst 2, 51, 0, 0, 0), (51, .invokevirtual 61, 54, 109, 822, 0), (54, .ireturn, 55, 0, 0, 0), (55, .aload_n 0, 56, 0, 0, 0), (56, .getfield 30, 59, 6, 0, 214), (59, .invokevirtual 95, 62, 102, 834, 0), (62, .aload_n 0, 63, 0, 0, 0), (63, .iconst 0, 64, 0, 0, 0), (64, .iload_n 1, 65, 1, 0, 0), (65, .iconst 1, 66, 0, 0, 0), (66, .iadd, 67, 0, 0, 0), (67, .invokevirtual 71, 70, 54, 825, 0), (70, .ifCond .eq 19, 73, 89, 0, 0), (73, .aload_n 0, 74, 0, 0, 0), (74, .getfield 30, 77, 6, 0, 214)]
def mc57_1 : List (Nat × Ins) := [(77, .bipush 41, 79, 0, 0, 0), (79, .invokevirtual 83, 82, 114, 835, 0), (82, .ifCond .eq 7, 85, 89, 0, 0), (85, .iconst 1, 86, 0, 0, 0), (86, .goto 4, 89, 90, 0, 0), (89, .iconst 0, 90, 0, 0, 0), (90, .ireturn, 91, 0, 0, 0), (91, .aload_n 0, 92, 0, 0, 0), (92, .invokevirtual 116, 95, 58, 836, 0), (95, .ireturn, 96, 0, 0, 0)]
def mc57 : List (Nat × Ins) := mc57_0 ++ mc57_1
-- 58: LikeYears$Laws.readPlainUnit()Z
def mc58_0 : List (Nat × Ins) := [(0, .aload_n 0, 1, 0, 0, 0), (1, .getfield 30, 4, 6, 0, 214), (4, .getfield 54, 7, 10, 3, 47), (7, .iconst 2, 8, 0, 0, 0), (8, .if_icmp .ne 20, 11, 28, 0, 0), (11, .aload_n 0, 12, 0, 0, 0), (12, .iconst 0, 13, 0, 0, 0), (13, .aload_n 0, 14, 0, 0, 0), (14, .getfield 30, 17, 6, 0, 214), (17, .getfield 119, 20, 10, 5, 52), (20, .l2i, 21, 0, 0, 0), (21, .invokevirtual 98, 24, 60, 840, 0), (24, .pop, 25, 0, 0, 0), (25, .goto 76, 28, 101, 0, 0), (28, .aload_n 0, 29, 0, 0, 0), (29, .getfield 30, 32, 6, 0, 214), (32, .invokevirtual 123, 35, 112, 844, 0), (35, .ifCond .eq 41, 38, 76, 0, 0), (38, .aload_n 0, 39, 0, 0, 0), (39, .getfield 34, 42, 6, 1, 215), (42, .aload_n 0, 43, 0, 0, 0), (43, .getfield 30, 46, 6, 0, 214), (46, .getfield 119, 49, 10, 5, 52), (49, .invokevirtual 126, 52, 10, 845, 0), (52, .istore_n 1, 53, 1, 0, 0), (53, .iload_n 1, 54, 1, 0, 0), (54, .ifCond .ge 12, 57, 66, 0, 0), (57, .aload_n 0, 58, 0, 0, 0), (58, .getfield 30, 61, 6, 0, 214), (61, .iconst 5, 62, 0, 0, 0), (62, .invokevirtual 61, 65, 109, 822, 0), (65, .ireturn, 66, 0, 0, 0), (66, .aload_n 0, 67, 0, 0, 0), (67, .iconst 1, 68, 0, 0, 0), (68, .iload_n 1, 69, 1, 0, 0), (69, .invokevirtual 98, 72, 60, 840, 0), (72, .pop, 73, 0, 0, 0), (73, .goto 28, 76, 101, 0, 0), (76, .aload_n 0, 77, 0, 0, 0), (77, .invokevirtual 132, 80, 59, 846, 0)]
def mc58_1 : List (Nat × Ins) := [(80, .istore_n 1, 81, 1, 0, 0), (81, .iload_n 1, 82, 1, 0, 0), (82, .ifCond .ge 12, 85, 94, 0, 0), (85, .aload_n 0, 86, 0, 0, 0), (86, .getfield 30, 89, 6, 0, 214), (89, .iconst 2, 90, 0, 0, 0), (90, .invokevirtual 61, 93, 109, 822, 0), (93, .ireturn, 94, 0, 0, 0), (94, .aload_n 0, 95, 0, 0, 0), (95, .iload_n 1, 96, 1, 0, 0), (96, .iconst 0, 97, 0, 0, 0), (97, .invokevirtual 98, 100, 60, 840, 0), (100, .pop, 101, 0, 0, 0), (101, .aload_n 0, 102, 0, 0, 0), (102, .getfield 30, 105, 6, 0, 214), (105, .invokevirtual 95, 108, 102, 834, 0), (108, .iconst 1, 109, 0, 0, 0), (109, .ireturn, 110, 0, 0, 0)]
def mc58 : List (Nat × Ins) := mc58_0 ++ mc58_1
-- 59: LikeYears$Laws.factHere()I
def mc59 : List (Nat × Ins) := [(0, .aload_n 0, 1, 0, 0, 0), (1, .getfield 30, 4, 6, 0, 214), (4, .ldc2_w 135, 7, 0, 850, 457236047717), (7, .invokevirtual 92, 10, 110, 851, 0), (10, .ifCond .eq 5, 13, 15, 0, 0), (13, .iconst 2, 14, 0, 0, 0), (14, .ireturn, 15, 0, 0, 0), (15, .aload_n 0, 16, 0, 0, 0), (16, .getfield 30, 19, 6, 0, 214), (19, .ldc2_w 137, 22, 0, 852, 26990), (22, .invokevirtual 92, 25, 110, 851, 0), (25, .ifCond .eq 5, 28, 30, 0, 0), (28, .iconst 3, 29, 0, 0, 0), (29, .ireturn, 30, 0, 0, 0), (30, .aload_n 0, 31, 0, 0, 0), (31, .getfield 30, 34, 6, 0, 214), (34, .ldc2_w 139, 37, 0, 853, 444150998382), (37, .invokevirtual 92, 40, 110, 851, 0), (40, .ifCond .eq 5, 43, 45, 0, 0), (43, .iconst 4, 44, 0, 0, 0), (44, .ireturn, 45, 0, 0, 0), (45, .aload_n 0, 46, 0, 0, 0), (46, .getfield 30, 49, 6, 0, 214), (49, .ldc2_w 141, 52, 0, 854, 131277443786868), (52, .invokevirtual 92, 55, 110, 851, 0), (55, .ifCond .eq 7, 58, 62, 0, 0), (58, .iconst 5, 59, 0, 0, 0), (59, .goto 4, 62, 63, 0, 0), (62, .iconst (-1), 63, 0, 0, 0), (63, .ireturn, 64, 0, 0, 0)]
-- 60: LikeYears$Laws.write(II)Z
def mc60 : List (Nat × Ins) := [(0, .aload_n 0, 1, 0, 0, 0), (1, .getfield 42, 4, 6, 8, 225), (4, .sipush 500, 7, 0, 0, 0), (7, .if_icmp .ge 33, 10, 40, 0, 0), (10, .aload_n 0, 11, 0, 0, 0), (11, .getfield 21, 14, 6, 6, 223), (14, .aload_n 0, 15, 0, 0, 0), (15, .getfield 42, 18, 6, 8, 225), (18, .iload_n 1, 19, 1, 0, 0), (19, .iastore, 20, 0, 0, 0), (20, .aload_n 0, 21, 0, 0, 0), (21, .getfield 24, 24, 6, 7, 224), (24, .aload_n 0, 25, 0, 0, 0), (25, .getfield 42, 28, 6, 8, 225), (28, .iload_n 2, 29, 2, 0, 0), (29, .iastore, 30, 0, 0, 0), (30, .aload_n 0, 31, 0, 0, 0), (31, .dup, 32, 0, 0, 0), (32, .getfield 42, 35, 6, 8, 225), (35, .iconst 1, 36, 0, 0, 0), (36, .iadd, 37, 0, 0, 0), (37, .putfield 42, 40, 6, 8, 225), (40, .iconst 1, 41, 0, 0, 0), (41, .ireturn, 42, 0, 0, 0)]
-- 61: LikeYears$Laws.lineFor(LLikeYears$Book;I)I
def mc61 : List (Nat × Ins) := [(0, .iconst 0, 1, 0, 0, 0), (1, .istore_n 3, 2, 3, 0, 0), (2, .iconst 0, 3, 0, 0, 0), (3, .istore 4, 5, 4, 0, 0), (5, .iload 4, 7, 4, 0, 0), (7, .aload_n 0, 8, 0, 0, 0), (8, .getfield 38, 11, 6, 2, 216), (11, .if_icmp .ge 37, 14, 48, 0, 0), (14, .aload_n 0, 15, 0, 0, 0), (15, .aload_n 1, 16, 1, 0, 0), (16, .iload_n 2, 17, 2, 0, 0), (17, .iload_n 3, 18, 3, 0, 0), (18, .aload_n 0, 19, 0, 0, 0), (19, .getfield 18, 22, 6, 5, 222), (22, .iload 4, 24, 4, 0, 0), (24, .iaload, 25, 0, 0, 0), (25, .invokevirtual 143, 28, 62, 1231, 0), (28, .ifCond .eq 6, 31, 34, 0, 0), (31, .iload 4, 33, 4, 0, 0), (33, .ireturn, 34, 0, 0, 0), (34, .aload_n 0, 35, 0, 0, 0), (35, .getfield 18, 38, 6, 5, 222), (38, .iload 4, 40, 4, 0, 0), (40, .iaload, 41, 0, 0, 0), (41, .istore_n 3, 42, 3, 0, 0), (42, .iinc 4 1, 45, 4, 0, 0), (45, .goto (-40), 48, 5, 0, 0), (48, .iconst (-1), 49, 0, 0, 0), (49, .ireturn, 50, 0, 0, 0)]
-- 62: LikeYears$Laws.worth(LLikeYears$Book;III)I
def mc62_0 : List (Nat × Ins) := [(0, .aload_n 0, 1, 0, 0, 0), (1, .iconst 0, 2, 0, 0, 0), (2, .putfield 147, 5, 6, 11, 228), (5, .iload_n 3, 6, 3, 0, 0), (6, .istore 5, 8, 5, 0, 0), (8, .iload 5, 10, 5, 0, 0), (10, .iload 4, 12, 4, 0, 0), (12, .if_icmp .ge 104, 15, 116, 0, 0), (15, .aload_n 0, 16, 0, 0, 0), (16, .getfield 21, 19, 6, 6, 223), (19, .iload 5, 21, 5, 0, 0), (21, .iaload, 22, 0, 0, 0), (22, .bipush 6, 24, 0, 0, 0), (24, .if_icmp .ge 29, 27, 53, 0, 0), (27, .aload_n 0, 28, 0, 0, 0), (28, .aload_n 1, 29, 1, 0, 0), (29, .iload_n 2, 30, 2, 0, 0), (30, .aload_n 0, 31, 0, 0, 0), (31, .getfield 21, 34, 6, 6, 223), (34, .iload 5, 36, 5, 0, 0), (36, .iaload, 37, 0, 0, 0), (37, .aload_n 0, 38, 0, 0, 0), (38, .getfield 24, 41, 6, 7, 224), (41, .iload 5, 43, 5, 0, 0), (43, .iaload, 44, 0, 0, 0), (44, .invokestatic 150, 47, 65, 1235, 0), (47, .invokevirtual 153, 50, 63, 1239, 0), (50, .goto 60, 53, 110, 0, 0), (53, .aload_n 0, 54, 0, 0, 0), (54, .getfield 21, 57, 6, 6, 223), (57, .iload 5, 59, 5, 0, 0), (59, .iaload, 60, 0, 0, 0), (60, .bipush 6, 62, 0, 0, 0), (62, .if_icmp .ne 22, 65, 84, 0, 0), (65, .aload_n 0, 66, 0, 0, 0), (66, .aload_n 0, 67, 0, 0, 0), (67, .invokevirtual 157, 70, 64, 1243, 0), (70, .ifCond .ne 7, 73, 77, 0, 0), (73, .iconst 1, 74, 0, 0, 0), (74, .goto 4, 77, 78, 0, 0)]
def mc62_1 : List (Nat × Ins) := [(77, .iconst 0, 78, 0, 0, 0), (78, .invokevirtual 153, 81, 63, 1239, 0), (81, .goto 29, 84, 110, 0, 0), (84, .aload_n 0, 85, 0, 0, 0), (85, .invokevirtual 157, 88, 64, 1243, 0), (88, .istore 6, 90, 6, 0, 0), (90, .aload_n 0, 91, 0, 0, 0), (91, .aload_n 0, 92, 0, 0, 0), (92, .getfield 21, 95, 6, 6, 223), (95, .iload 5, 97, 5, 0, 0), (97, .iaload, 98, 0, 0, 0), (98, .aload_n 0, 99, 0, 0, 0), (99, .invokevirtual 157, 102, 64, 1243, 0), (102, .iload 6, 104, 6, 0, 0), (104, .invokestatic 160, 107, 66, 1247, 0), (107, .invokevirtual 153, 110, 63, 1239, 0), (110, .iinc 5 1, 113, 5, 0, 0), (113, .goto (-105), 116, 8, 0, 0), (116, .aload_n 0, 117, 0, 0, 0), (117, .invokevirtual 157, 120, 64, 1243, 0), (120, .ireturn, 121, 0, 0, 0)]
def mc62 : List (Nat × Ins) := mc62_0 ++ mc62_1
-- 63: LikeYears$Laws.push(I)V
def mc63 : List (Nat × Ins) := [(0, .aload_n 0, 1, 0, 0, 0), (1, .getfield 147, 4, 6, 11, 228), (4, .bipush 50, 6, 0, 0, 0), (6, .if_icmp .ge 23, 9, 29, 0, 0), (9, .aload_n 0, 10, 0, 0, 0), (10, .getfield 27, 13, 6, 10, 227), (13, .aload_n 0, 14, 0, 0, 0), (14, .getfield 147, 17, 6, 11, 228), (17, .iload_n 1, 18, 1, 0, 0), (18, .iastore, 19, 0, 0, 0), (19, .aload_n 0, 20, 0, 0, 0), (20, .dup, 21, 0, 0, 0), (21, .getfield 147, 24, 6, 11, 228), (24, .iconst 1, 25, 0, 0, 0), (25, .iadd, 26, 0, 0, 0), (26, .putfield 147, 29, 6, 11, 228), (29, .return_, 30, 0, 0, 0)]
-- 64: LikeYears$Laws.pop()I
def mc64 : List (Nat × Ins) := [(0, .aload_n 0, 1, 0, 0, 0), (1, .getfield 147, 4, 6, 11, 228), (4, .ifCond .ne 5, 7, 9, 0, 0), (7, .iconst 0, 8, 0, 0, 0), (8, .ireturn, 9, 0, 0, 0), (9, .aload_n 0, 10, 0, 0, 0), (10, .dup, 11, 0, 0, 0), (11, .getfield 147, 14, 6, 11, 228), (14, .iconst 1, 15, 0, 0, 0), (15, .isub, 16, 0, 0, 0), (16, .putfield 147, 19, 6, 11, 228), (19, .aload_n 0, 20, 0, 0, 0), (20, .getfield 27, 23, 6, 10, 227), (23, .aload_n 0, 24, 0, 0, 0), (24, .getfield 147, 27, 6, 11, 228), (27, .iaload, 28, 0, 0, 0), (28, .ireturn, 29, 0, 0, 0)]
-- 65: LikeYears$Laws.fact(LLikeYears$Book;III)I
def mc65 : List (Nat × Ins) := [(0, .iload_n 2, 1, 2, 0, 0), (1, .tableswitch 70 1 5 #[35, 42, 49, 56, 63], 36, 0, 0, 0), (36, .aload_n 0, 37, 0, 0, 0), (37, .iload_n 1, 38, 1, 0, 0), (38, .iload_n 3, 39, 3, 0, 0), (39, .invokevirtual 164, 42, 15, 1238, 0), (42, .ireturn, 43, 0, 0, 0), (43, .aload_n 0, 44, 0, 0, 0), (44, .getfield 168, 47, 1, 5, 154), (47, .iload_n 1, 48, 1, 0, 0), (48, .iaload, 49, 0, 0, 0), (49, .ireturn, 50, 0, 0, 0), (50, .aload_n 0, 51, 0, 0, 0), (51, .getfield 171, 54, 1, 6, 158), (54, .iload_n 1, 55, 1, 0, 0), (55, .iaload, 56, 0, 0, 0), (56, .ireturn, 57, 0, 0, 0), (57, .aload_n 0, 58, 0, 0, 0), (58, .getfield 174, 61, 1, 7, 165), (61, .iload_n 1, 62, 1, 0, 0), (62, .iaload, 63, 0, 0, 0), (63, .ireturn, 64, 0, 0, 0), (64, .aload_n 0, 65, 0, 0, 0), (65, .getfield 177, 68, 1, 8, 170), (68, .iload_n 1, 69, 1, 0, 0), (69, .iaload, 70, 0, 0, 0), (70, .ireturn, 71, 0, 0, 0), (71, .iload_n 3, 72, 3, 0, 0), (72, .ireturn, 73, 0, 0, 0)]
-- 66: LikeYears$Laws.join(III)I
def mc66 : List (Nat × Ins) := [(0, .iload_n 0, 1, 0, 0, 0), (1, .tableswitch 39 12 14 #[27, 31, 35], 28, 0, 0, 0), (28, .iload_n 1, 29, 1, 0, 0), (29, .iload_n 2, 30, 2, 0, 0), (30, .iadd, 31, 0, 0, 0), (31, .ireturn, 32, 0, 0, 0), (32, .iload_n 1, 33, 1, 0, 0), (33, .iload_n 2, 34, 2, 0, 0), (34, .isub, 35, 0, 0, 0), (35, .ireturn, 36, 0, 0, 0), (36, .iload_n 1, 37, 1, 0, 0), (37, .iload_n 2, 38, 2, 0, 0), (38, .imul, 39, 0, 0, 0), (39, .ireturn, 40, 0, 0, 0), (40, .iload_n 0, 41, 0, 0, 0), (41, .iload_n 1, 42, 1, 0, 0), (42, .iload_n 2, 43, 2, 0, 0), (43, .invokestatic 180, 46, 67, 1250, 0), (46, .ifCond .eq 7, 49, 53, 0, 0), (49, .iconst 1, 50, 0, 0, 0), (50, .goto 4, 53, 54, 0, 0), (53, .iconst 0, 54, 0, 0, 0), (54, .ireturn, 55, 0, 0, 0)]
-- 67: LikeYears$Laws.holds(III)Z
def mc67 : List (Nat × Ins) := [(0, .iload_n 0, 1, 0, 0, 0), (1, .tableswitch 78 8 11 #[64, 31, 42, 53], 32, 0, 0, 0), (32, .iload_n 1, 33, 1, 0, 0), (33, .iload_n 2, 34, 2, 0, 0), (34, .if_icmp .ge 7, 37, 41, 0, 0), (37, .iconst 1, 38, 0, 0, 0), (38, .goto 4, 41, 42, 0, 0), (41, .iconst 0, 42, 0, 0, 0), (42, .ireturn, 43, 0, 0, 0), (43, .iload_n 1, 44, 1, 0, 0), (44, .iload_n 2, 45, 2, 0, 0), (45, .if_icmp .le 7, 48, 52, 0, 0), (48, .iconst 1, 49, 0, 0, 0), (49, .goto 4, 52, 53, 0, 0), (52, .iconst 0, 53, 0, 0, 0), (53, .ireturn, 54, 0, 0, 0), (54, .iload_n 1, 55, 1, 0, 0), (55, .iload_n 2, 56, 2, 0, 0), (56, .if_icmp .ne 7, 59, 63, 0, 0), (59, .iconst 1, 60, 0, 0, 0), (60, .goto 4, 63, 64, 0, 0), (63, .iconst 0, 64, 0, 0, 0), (64, .ireturn, 65, 0, 0, 0), (65, .iload_n 1, 66, 1, 0, 0), (66, .ifCond .eq 11, 69, 77, 0, 0), (69, .iload_n 2, 70, 2, 0, 0), (70, .ifCond .eq 7, 73, 77, 0, 0), (73, .iconst 1, 74, 0, 0, 0), (74, .goto 4, 77, 78, 0, 0), (77, .iconst 0, 78, 0, 0, 0), (78, .ireturn, 79, 0, 0, 0), (79, .iload_n 1, 80, 1, 0, 0), (80, .ifCond .ne 7, 83, 87, 0, 0), (83, .iload_n 2, 84, 2, 0, 0), (84, .ifCond .eq 7, 87, 91, 0, 0), (87, .iconst 1, 88, 0, 0, 0), (88, .goto 4, 91, 92, 0, 0), (91, .iconst 0, 92, 0, 0, 0), (92, .ireturn, 93, 0, 0, 0)]
-- 68: LikeYears$Nearest.fitSquares(LLikeYears$Book;[II)V
def mc68_0 : List (Nat × Ins) := [(0, .aload_n 0, 1, 0, 0, 0), (1, .getfield 25, 4, 7, 4, 349), (4, .lconst 0, 5, 0, 0, 0), (5, .lconst 1, 6, 0, 0, 0), (6, .invokevirtual 45, 9, 47, 962, 0), (9, .aload_n 0, 10, 0, 0, 0), (10, .getfield 35, 13, 7, 8, 357), (13, .iconst 0, 14, 0, 0, 0), (14, .iload_n 3, 15, 3, 0, 0), (15, .iastore, 16, 0, 0, 0), (16, .iload_n 3, 17, 3, 0, 0), (17, .ifCond .ne 7, 20, 24, 0, 0), (20, .iconst 0, 21, 0, 0, 0), (21, .goto 4, 24, 25, 0, 0), (24, .iconst 1, 25, 0, 0, 0), (25, .istore 4, 27, 4, 0, 0), (27, .iconst 0, 28, 0, 0, 0), (28, .istore 5, 30, 5, 0, 0), (30, .iload 5, 32, 5, 0, 0), (32, .bipush 32, 34, 0, 0, 0), (34, .if_icmp .ge 81, 37, 115, 0, 0), (37, .iload 4, 39, 4, 0, 0), (39, .ifCond .le 76, 42, 115, 0, 0), (42, .aload_n 0, 43, 0, 0, 0), (43, .getfield 35, 46, 7, 8, 357), (46, .iload 4, 48, 4, 0, 0), (48, .iconst 1, 49, 0, 0, 0), (49, .isub, 50, 0, 0, 0), (50, .iaload, 51, 0, 0, 0), (51, .istore 6, 53, 6, 0, 0), (53, .aload_n 0, 54, 0, 0, 0), (54, .aload_n 1, 55, 1, 0, 0), (55, .aload_n 2, 56, 2, 0, 0), (56, .iload 6, 58, 6, 0, 0), (58, .invokevirtual 49, 61, 69, 972, 0), (61, .istore 7, 63, 7, 0, 0), (63, .iload 7, 65, 7, 0, 0), (65, .ifCond .ne 16, 68, 81, 0, 0), (68, .aload_n 0, 69, 0, 0, 0), (69, .aload_n 1, 70, 1, 0, 0)]
def mc68_1 : List (Nat × Ins) := [(70, .iload 6, 72, 6, 0, 0), (72, .invokevirtual 53, 75, 70, 1010, 0), (75, .iinc 4 (-1), 78, 4, 0, 0), (78, .goto 31, 81, 109, 0, 0), (81, .aload_n 0, 82, 0, 0, 0), (82, .getfield 35, 85, 7, 8, 357), (85, .iload 4, 87, 4, 0, 0), (87, .iconst 1, 88, 0, 0, 0), (88, .isub, 89, 0, 0, 0), (89, .iload 6, 91, 6, 0, 0), (91, .iload 7, 93, 7, 0, 0), (93, .iconst (-1), 94, 0, 0, 0), (94, .ixor, 95, 0, 0, 0), (95, .iand, 96, 0, 0, 0), (96, .iastore, 97, 0, 0, 0), (97, .aload_n 0, 98, 0, 0, 0), (98, .getfield 35, 101, 7, 8, 357), (101, .iload 4, 103, 4, 0, 0), (103, .iload 7, 105, 7, 0, 0), (105, .iastore, 106, 0, 0, 0), (106, .iinc 4 1, 109, 4, 0, 0), (109, .iinc 5 1, 112, 5, 0, 0), (112, .goto (-82), 115, 30, 0, 0), (115, .return_, 116, 0, 0, 0)]
def mc68 : List (Nat × Ins) := mc68_0 ++ mc68_1
-- 69: LikeYears$Nearest.upperPart(LLikeYears$Book;[II)I
def mc69_0 : List (Nat × Ins) := [(0, .iconst 0, 1, 0, 0, 0), (1, .istore 4, 3, 4, 0, 0), (3, .iconst 0, 4, 0, 0, 0), (4, .istore 5, 6, 5, 0, 0), (6, .iconst 0, 7, 0, 0, 0), (7, .istore 6, 9, 6, 0, 0), (9, .iload 6, 11, 6, 0, 0), (11, .aload_n 1, 12, 1, 0, 0), (12, .getfield 57, 15, 1, 4, 149), (15, .if_icmp .ge 50, 18, 65, 0, 0), (18, .iload_n 3, 19, 3, 0, 0), (19, .iload 6, 21, 6, 0, 0), (21, .ishr, 22, 0, 0, 0), (22, .iconst 1, 23, 0, 0, 0), (23, .iand, 24, 0, 0, 0), (24, .ifCond .eq 35, 27, 59, 0, 0), (27, .iload 4, 29, 4, 0, 0), (29, .aload_n 1, 30, 1, 0, 0), (30, .getfield 63, 33, 1, 8, 169), (33, .iload 6, 35, 6, 0, 0), (35, .iaload, 36, 0, 0, 0), (36, .iadd, 37, 0, 0, 0), (37, .istore 4, 39, 4, 0, 0), (39, .iload 5, 41, 5, 0, 0), (41, .aload_n 1, 42, 1, 0, 0), (42, .getfield 63, 45, 1, 8, 169), (45, .iload 6, 47, 6, 0, 0), (47, .iaload, 48, 0, 0, 0), (48, .aload_n 1, 49, 1, 0, 0), (49, .getfield 66, 52, 1, 7, 162), (52, .iload 6, 54, 6, 0, 0), (54, .iaload, 55, 0, 0, 0), (55, .imul, 56, 0, 0, 0), (56, .iadd, 57, 0, 0, 0), (57, .istore 5, 59, 5, 0, 0), (59, .iinc 6 1, 62, 6, 0, 0), (62, .goto (-53), 65, 9, 0, 0), (65, .iconst 0, 66, 0, 0, 0), (66, .istore 6, 68, 6, 0, 0), (68, .iload 6, 70, 6, 0, 0)]
def mc69_1 : List (Nat × Ins) := [(70, .aload_n 1, 71, 1, 0, 0), (71, .getfield 57, 74, 1, 4, 149), (74, .if_icmp .ge 40, 77, 114, 0, 0), (77, .aload_n 0, 78, 0, 0, 0), (78, .getfield 41, 81, 7, 0, 342), (81, .getfield 69, 84, 4, 0, 289), (84, .iload 6, 86, 6, 0, 0), (86, .aload_n 1, 87, 1, 0, 0), (87, .getfield 63, 90, 1, 8, 169), (90, .iload 6, 92, 6, 0, 0), (92, .iaload, 93, 0, 0, 0), (93, .aload_n 1, 94, 1, 0, 0), (94, .getfield 66, 97, 1, 7, 162), (97, .iload 6, 99, 6, 0, 0), (99, .iaload, 100, 0, 0, 0), (100, .iload 4, 102, 4, 0, 0), (102, .imul, 103, 0, 0, 0), (103, .iload 5, 105, 5, 0, 0), (105, .isub, 106, 0, 0, 0), (106, .imul, 107, 0, 0, 0), (107, .iastore, 108, 0, 0, 0), (108, .iinc 6 1, 111, 6, 0, 0), (111, .goto (-43), 114, 68, 0, 0), (114, .aload_n 0, 115, 0, 0, 0), (115, .getfield 41, 118, 7, 0, 342), (118, .iload_n 3, 119, 3, 0, 0), (119, .aload_n 2, 120, 2, 0, 0), (120, .invokevirtual 74, 123, 40, 976, 0), (123, .ireturn, 124, 0, 0, 0)]
def mc69 : List (Nat × Ins) := mc69_0 ++ mc69_1
-- 70: LikeYears$Nearest.seal(LLikeYears$Book;I)V
def mc70_0 : List (Nat × Ins) := [(0, .lconst 0, 1, 0, 0, 0), (1, .lstore_n 3, 2, 3, 0, 0), (2, .lconst 0, 3, 0, 0, 0), (3, .lstore 5, 5, 5, 0, 0), (5, .lconst 0, 6, 0, 0, 0), (6, .lstore 7, 8, 7, 0, 0), (8, .iconst 0, 9, 0, 0, 0), (9, .istore 9, 11, 9, 0, 0), (11, .iload 9, 13, 9, 0, 0), (13, .aload_n 1, 14, 1, 0, 0), (14, .getfield 57, 17, 1, 4, 149), (17, .if_icmp .ge 79, 20, 96, 0, 0), (20, .iload_n 2, 21, 2, 0, 0), (21, .iload 9, 23, 9, 0, 0), (23, .ishr, 24, 0, 0, 0), (24, .iconst 1, 25, 0, 0, 0), (25, .iand, 26, 0, 0, 0), (26, .ifCond .eq 64, 29, 90, 0, 0), (29, .lload_n 3, 30, 3, 0, 0), (30, .aload_n 1, 31, 1, 0, 0), (31, .getfield 63, 34, 1, 8, 169), (34, .iload 9, 36, 9, 0, 0), (36, .iaload, 37, 0, 0, 0), (37, .i2l, 38, 0, 0, 0), (38, .ladd, 39, 0, 0, 0), (39, .lstore_n 3, 40, 3, 0, 0), (40, .lload 5, 42, 5, 0, 0), (42, .aload_n 1, 43, 1, 0, 0), (43, .getfield 63, 46, 1, 8, 169), (46, .iload 9, 48, 9, 0, 0), (48, .iaload, 49, 0, 0, 0), (49, .aload_n 1, 50, 1, 0, 0), (50, .getfield 66, 53, 1, 7, 162), (53, .iload 9, 55, 9, 0, 0), (55, .iaload, 56, 0, 0, 0), (56, .imul, 57, 0, 0, 0), (57, .i2l, 58, 0, 0, 0), (58, .ladd, 59, 0, 0, 0), (59, .lstore 5, 61, 5, 0, 0), (61, .lload 7, 63, 7, 0, 0)]
def mc70_1 : List (Nat × Ins) := [(63, .aload_n 1, 64, 1, 0, 0), (64, .getfield 63, 67, 1, 8, 169), (67, .iload 9, 69, 9, 0, 0), (69, .iaload, 70, 0, 0, 0), (70, .aload_n 1, 71, 1, 0, 0), (71, .getfield 66, 74, 1, 7, 162), (74, .iload 9, 76, 9, 0, 0), (76, .iaload, 77, 0, 0, 0), (77, .imul, 78, 0, 0, 0), (78, .aload_n 1, 79, 1, 0, 0), (79, .getfield 66, 82, 1, 7, 162), (82, .iload 9, 84, 9, 0, 0), (84, .iaload, 85, 0, 0, 0), (85, .imul, 86, 0, 0, 0), (86, .i2l, 87, 0, 0, 0), (87, .ladd, 88, 0, 0, 0), (88, .lstore 7, 90, 7, 0, 0), (90, .iinc 9 1, 93, 9, 0, 0), (93, .goto (-82), 96, 11, 0, 0), (96, .aload_n 0, 97, 0, 0, 0), (97, .getfield 38, 100, 7, 9, 358), (100, .lload 5, 102, 5, 0, 0), (102, .lload_n 3, 103, 3, 0, 0), (103, .invokevirtual 45, 106, 47, 962, 0), (106, .iconst 0, 107, 0, 0, 0), (107, .istore 9, 109, 9, 0, 0), (109, .iload 9, 111, 9, 0, 0), (111, .aload_n 1, 112, 1, 0, 0), (112, .getfield 57, 115, 1, 4, 149), (115, .if_icmp .ge 54, 118, 169, 0, 0), (118, .iload_n 2, 119, 2, 0, 0), (119, .iload 9, 121, 9, 0, 0), (121, .ishr, 122, 0, 0, 0), (122, .iconst 1, 123, 0, 0, 0), (123, .iand, 124, 0, 0, 0), (124, .ifCond .eq 39, 127, 163, 0, 0), (127, .aload_n 0, 128, 0, 0, 0), (128, .getfield 9, 131, 7, 1, 343), (131, .iload 9, 133, 9, 0, 0), (133, .iload_n 2, 134, 2, 0, 0)]
def mc70_2 : List (Nat × Ins) := [(134, .iastore, 135, 0, 0, 0), (135, .aload_n 0, 136, 0, 0, 0), (136, .getfield 15, 139, 7, 2, 345), (139, .iload 9, 141, 9, 0, 0), (141, .aload_n 0, 142, 0, 0, 0), (142, .getfield 38, 145, 7, 9, 358), (145, .getfield 78, 148, 5, 0, 330), (148, .lastore, 149, 0, 0, 0), (149, .aload_n 0, 150, 0, 0, 0), (150, .getfield 19, 153, 7, 3, 347), (153, .iload 9, 155, 9, 0, 0), (155, .aload_n 0, 156, 0, 0, 0), (156, .getfield 38, 159, 7, 9, 358), (159, .getfield 81, 162, 5, 1, 334), (162, .lastore, 163, 0, 0, 0), (163, .iinc 9 1, 166, 9, 0, 0), (166, .goto (-57), 169, 109, 0, 0), (169, .aload_n 0, 170, 0, 0, 0), (170, .getfield 25, 173, 7, 4, 349), (173, .lload 7, 175, 7, 0, 0), (175, .lload_n 3, 176, 3, 0, 0), (176, .lmul, 177, 0, 0, 0), (177, .lload 5, 179, 5, 0, 0), (179, .lload 5, 181, 5, 0, 0), (181, .lmul, 182, 0, 0, 0), (182, .lsub, 183, 0, 0, 0), (183, .lload_n 3, 184, 3, 0, 0), (184, .invokevirtual 83, 187, 48, 1014, 0), (187, .return_, 188, 0, 0, 0)]
def mc70 : List (Nat × Ins) := mc70_0 ++ mc70_1 ++ mc70_2
-- 71: LikeYears$Nearest.partOf(II)J
def mc71 : List (Nat × Ins) := [(0, .iload_n 2, 1, 2, 0, 0), (1, .ifCond .ne 12, 4, 13, 0, 0), (4, .aload_n 0, 5, 0, 0, 0), (5, .getfield 15, 8, 7, 2, 345), (8, .iload_n 1, 9, 1, 0, 0), (9, .laload, 10, 0, 0, 0), (10, .goto 9, 13, 19, 0, 0), (13, .aload_n 0, 14, 0, 0, 0), (14, .getfield 19, 17, 7, 3, 347), (17, .iload_n 1, 18, 1, 0, 0), (18, .laload, 19, 0, 0, 0), (19, .lreturn, 20, 0, 0, 0)]
-- 72: LikeYears$Nearest.isFarther(IIZ)Z
def mc72 : List (Nat × Ins) := [(0, .aload_n 0, 1, 0, 0, 0), (1, .getfield 15, 4, 7, 2, 345), (4, .iload_n 1, 5, 1, 0, 0), (5, .laload, 6, 0, 0, 0), (6, .aload_n 0, 7, 0, 0, 0), (7, .getfield 19, 10, 7, 3, 347), (10, .iload_n 2, 11, 2, 0, 0), (11, .laload, 12, 0, 0, 0), (12, .lmul, 13, 0, 0, 0), (13, .aload_n 0, 14, 0, 0, 0), (14, .getfield 15, 17, 7, 2, 345), (17, .iload_n 2, 18, 2, 0, 0), (18, .laload, 19, 0, 0, 0), (19, .aload_n 0, 20, 0, 0, 0), (20, .getfield 19, 23, 7, 3, 347), (23, .iload_n 1, 24, 1, 0, 0), (24, .laload, 25, 0, 0, 0), (25, .lmul, 26, 0, 0, 0), (26, .lsub, 27, 0, 0, 0), (27, .lstore 4, 29, 4, 0, 0), (29, .iload_n 3, 30, 3, 0, 0), (30, .ifCond .eq 18, 33, 48, 0, 0), (33, .lload 4, 35, 4, 0, 0), (35, .lconst 0, 36, 0, 0, 0), (36, .lcmp, 37, 0, 0, 0), (37, .ifCond .ge 7, 40, 44, 0, 0), (40, .iconst 1, 41, 0, 0, 0), (41, .goto 19, 44, 60, 0, 0), (44, .iconst 0, 45, 0, 0, 0), (45, .goto 15, 48, 60, 0, 0), (48, .lload 4, 50, 4, 0, 0), (50, .lconst 0, 51, 0, 0, 0), (51, .lcmp, 52, 0, 0, 0), (52, .ifCond .le 7, 55, 59, 0, 0), (55, .iconst 1, 56, 0, 0, 0), (56, .goto 4, 59, 60, 0, 0), (59, .iconst 0, 60, 0, 0, 0), (60, .ireturn, 61, 0, 0, 0)]
-- 73: LikeYears$Nearest.fitGaps(LLikeYears$Book;[I)V
def mc73_0 : List (Nat × Ins) := [(0, .aload_n 1, 1, 1, 0, 0), (1, .invokevirtual 86, 4, 17, 1031, 0), (4, .istore_n 3, 5, 3, 0, 0), (5, .iconst (-1), 6, 0, 0, 0), (6, .istore 4, 8, 4, 0, 0), (8, .iconst 0, 9, 0, 0, 0), (9, .istore 5, 11, 5, 0, 0), (11, .iload 5, 13, 5, 0, 0), (13, .bipush 16, 15, 0, 0, 0), (15, .if_icmp .ge 135, 18, 150, 0, 0), (18, .iload_n 3, 19, 3, 0, 0), (19, .ifCond .eq 131, 22, 150, 0, 0), (22, .aload_n 1, 23, 1, 0, 0), (23, .iload_n 3, 24, 3, 0, 0), (24, .iload 4, 26, 4, 0, 0), (26, .invokestatic 90, 29, 74, 1032, 0), (29, .istore 4, 31, 4, 0, 0), (31, .iconst 0, 32, 0, 0, 0), (32, .istore 6, 34, 6, 0, 0), (34, .iload 6, 36, 6, 0, 0), (36, .aload_n 1, 37, 1, 0, 0), (37, .getfield 57, 40, 1, 4, 149), (40, .if_icmp .ge 49, 43, 89, 0, 0), (43, .aload_n 0, 44, 0, 0, 0), (44, .getfield 41, 47, 7, 0, 342), (47, .getfield 69, 50, 4, 0, 289), (50, .iload 6, 52, 6, 0, 0), (52, .aload_n 1, 53, 1, 0, 0), (53, .getfield 66, 56, 1, 7, 162), (56, .iload 6, 58, 6, 0, 0), (58, .iaload, 59, 0, 0, 0), (59, .iload 4, 61, 4, 0, 0), (61, .if_icmp .le 13, 64, 74, 0, 0), (64, .aload_n 1, 65, 1, 0, 0), (65, .getfield 63, 68, 1, 8, 169), (68, .iload 6, 70, 6, 0, 0), (70, .iaload, 71, 0, 0, 0), (71, .goto 11, 74, 82, 0, 0), (74, .aload_n 1, 75, 1, 0, 0), (75, .getfield 63, 78, 1, 8, 169)]
def mc73_1 : List (Nat × Ins) := [(78, .iload 6, 80, 6, 0, 0), (80, .iaload, 81, 0, 0, 0), (81, .ineg, 82, 0, 0, 0), (82, .iastore, 83, 0, 0, 0), (83, .iinc 6 1, 86, 6, 0, 0), (86, .goto (-52), 89, 34, 0, 0), (89, .aload_n 0, 90, 0, 0, 0), (90, .getfield 41, 93, 7, 0, 342), (93, .iload_n 3, 94, 3, 0, 0), (94, .aload_n 2, 95, 2, 0, 0), (95, .invokevirtual 74, 98, 40, 976, 0), (98, .istore 6, 100, 6, 0, 0), (100, .iconst 0, 101, 0, 0, 0), (101, .istore 7, 103, 7, 0, 0), (103, .iload 7, 105, 7, 0, 0), (105, .aload_n 1, 106, 1, 0, 0), (106, .getfield 57, 109, 1, 4, 149), (109, .if_icmp .ge 32, 112, 141, 0, 0), (112, .iload_n 3, 113, 3, 0, 0), (113, .iload 6, 115, 6, 0, 0), (115, .iconst (-1), 116, 0, 0, 0), (116, .ixor, 117, 0, 0, 0), (117, .iand, 118, 0, 0, 0), (118, .iload 7, 120, 7, 0, 0), (120, .ishr, 121, 0, 0, 0), (121, .iconst 1, 122, 0, 0, 0), (122, .iand, 123, 0, 0, 0), (123, .ifCond .eq 12, 126, 135, 0, 0), (126, .aload_n 0, 127, 0, 0, 0), (127, .getfield 29, 130, 7, 5, 351), (130, .iload 7, 132, 7, 0, 0), (132, .iload 4, 134, 4, 0, 0), (134, .iastore, 135, 0, 0, 0), (135, .iinc 7 1, 138, 7, 0, 0), (138, .goto (-35), 141, 103, 0, 0), (141, .iload 6, 143, 6, 0, 0), (143, .istore_n 3, 144, 3, 0, 0), (144, .iinc 5 1, 147, 5, 0, 0), (147, .goto (-136), 150, 11, 0, 0), (150, .aload_n 0, 151, 0, 0, 0)]
def mc73_2 : List (Nat × Ins) := [(151, .aload_n 1, 152, 1, 0, 0), (152, .invokevirtual 94, 155, 75, 1036, 0), (155, .return_, 156, 0, 0, 0)]
def mc73 : List (Nat × Ins) := mc73_0 ++ mc73_1 ++ mc73_2
-- 74: LikeYears$Nearest.nextLevel(LLikeYears$Book;II)I
def mc74 : List (Nat × Ins) := [(0, .sipush 240, 3, 0, 0, 0), (3, .istore_n 3, 4, 3, 0, 0), (4, .iconst 0, 5, 0, 0, 0), (5, .istore 4, 7, 4, 0, 0), (7, .iload 4, 9, 4, 0, 0), (9, .aload_n 0, 10, 0, 0, 0), (10, .getfield 57, 13, 1, 4, 149), (13, .if_icmp .ge 41, 16, 54, 0, 0), (16, .iload_n 1, 17, 1, 0, 0), (17, .iload 4, 19, 4, 0, 0), (19, .ishr, 20, 0, 0, 0), (20, .iconst 1, 21, 0, 0, 0), (21, .iand, 22, 0, 0, 0), (22, .ifCond .eq 26, 25, 48, 0, 0), (25, .aload_n 0, 26, 0, 0, 0), (26, .getfield 66, 29, 1, 7, 162), (29, .iload 4, 31, 4, 0, 0), (31, .iaload, 32, 0, 0, 0), (32, .iload_n 2, 33, 2, 0, 0), (33, .if_icmp .le 15, 36, 48, 0, 0), (36, .iload_n 3, 37, 3, 0, 0), (37, .aload_n 0, 38, 0, 0, 0), (38, .getfield 66, 41, 1, 7, 162), (41, .iload 4, 43, 4, 0, 0), (43, .iaload, 44, 0, 0, 0), (44, .invokestatic 98, 47, 291, 1035, 0), (47, .istore_n 3, 48, 3, 0, 0), (48, .iinc 4 1, 51, 4, 0, 0), (51, .goto (-44), 54, 7, 0, 0), (54, .iload_n 3, 55, 3, 0, 0), (55, .ireturn, 56, 0, 0, 0)]
-- 75: LikeYears$Nearest.shareOut(LLikeYears$Book;)V
def mc75 : List (Nat × Ins) := [(0, .aload_n 0, 1, 0, 0, 0), (1, .iconst 0, 2, 0, 0, 0), (2, .putfield 104, 5, 7, 7, 355), (5, .iconst 0, 6, 0, 0, 0), (6, .istore_n 2, 7, 2, 0, 0), (7, .iload_n 2, 8, 2, 0, 0), (8, .aload_n 1, 9, 1, 0, 0), (9, .getfield 57, 12, 1, 4, 149), (12, .if_icmp .ge 53, 15, 65, 0, 0), (15, .aload_n 0, 16, 0, 0, 0), (16, .getfield 32, 19, 7, 6, 353), (19, .iload_n 2, 20, 2, 0, 0), (20, .aload_n 1, 21, 1, 0, 0), (21, .getfield 63, 24, 1, 8, 169), (24, .iload_n 2, 25, 2, 0, 0), (25, .iaload, 26, 0, 0, 0), (26, .aload_n 1, 27, 1, 0, 0), (27, .getfield 66, 30, 1, 7, 162), (30, .iload_n 2, 31, 2, 0, 0), (31, .iaload, 32, 0, 0, 0), (32, .aload_n 0, 33, 0, 0, 0), (33, .getfield 29, 36, 7, 5, 351), (36, .iload_n 2, 37, 2, 0, 0), (37, .iaload, 38, 0, 0, 0), (38, .isub, 39, 0, 0, 0), (39, .invokestatic 107, 42, 288, 1040, 0), (42, .imul, 43, 0, 0, 0), (43, .iastore, 44, 0, 0, 0), (44, .aload_n 0, 45, 0, 0, 0), (45, .dup, 46, 0, 0, 0), (46, .getfield 104, 49, 7, 7, 355), (49, .aload_n 0, 50, 0, 0, 0), (50, .getfield 32, 53, 7, 6, 353), (53, .iload_n 2, 54, 2, 0, 0), (54, .iaload, 55, 0, 0, 0), (55, .iadd, 56, 0, 0, 0), (56, .putfield 104, 59, 7, 7, 355), (59, .iinc 2 1, 62, 2, 0, 0), (62, .goto (-55), 65, 7, 0, 0), (65, .return_, 66, 0, 0, 0)]
-- 76: LikeYears$Order.fill(LLikeYears$Book;I)V
def mc76_0 : List (Nat × Ins) := [(0, .aload_n 0, 1, 0, 0, 0), (1, .getfield 9, 4, 8, 0, 94), (4, .iconst 0, 5, 0, 0, 0), (5, .invokestatic 18, 8, 292, 781, 0), (8, .aload_n 0, 9, 0, 0, 0), (9, .getfield 15, 12, 8, 1, 95), (12, .iconst 0, 13, 0, 0, 0), (13, .invokestatic 18, 16, 292, 781, 0), (16, .iconst 0, 17, 0, 0, 0), (17, .istore_n 3, 18, 3, 0, 0), (18, .iload_n 3, 19, 3, 0, 0), (19, .aload_n 1, 20, 1, 0, 0), (20, .getfield 24, 23, 1, 4, 147), (23, .if_icmp .ge 64, 26, 87, 0, 0), (26, .iconst 0, 27, 0, 0, 0), (27, .istore 4, 29, 4, 0, 0), (29, .iload 4, 31, 4, 0, 0), (31, .aload_n 1, 32, 1, 0, 0), (32, .getfield 24, 35, 1, 4, 147), (35, .if_icmp .ge 46, 38, 81, 0, 0), (38, .aload_n 1, 39, 1, 0, 0), (39, .iload_n 3, 40, 3, 0, 0), (40, .iload 4, 42, 4, 0, 0), (42, .iload_n 2, 43, 2, 0, 0), (43, .invokevirtual 30, 46, 18, 782, 0), (46, .ifCond .eq 29, 49, 75, 0, 0), (49, .aload_n 0, 50, 0, 0, 0), (50, .getfield 9, 53, 8, 0, 94), (53, .iload_n 3, 54, 3, 0, 0), (54, .dup2, 55, 0, 0, 0), (55, .iaload, 56, 0, 0, 0), (56, .iconst 1, 57, 0, 0, 0), (57, .iload 4, 59, 4, 0, 0), (59, .ishl, 60, 0, 0, 0), (60, .ior, 61, 0, 0, 0), (61, .iastore, 62, 0, 0, 0), (62, .aload_n 0, 63, 0, 0, 0), (63, .getfield 15, 66, 8, 1, 95), (66, .iload 4, 68, 4, 0, 0), (68, .dup2, 69, 0, 0, 0)]
def mc76_1 : List (Nat × Ins) := [(69, .iaload, 70, 0, 0, 0), (70, .iconst 1, 71, 0, 0, 0), (71, .iload_n 3, 72, 3, 0, 0), (72, .ishl, 73, 0, 0, 0), (73, .ior, 74, 0, 0, 0), (74, .iastore, 75, 0, 0, 0), (75, .iinc 4 1, 78, 4, 0, 0), (78, .goto (-49), 81, 29, 0, 0), (81, .iinc 3 1, 84, 3, 0, 0), (84, .goto (-66), 87, 18, 0, 0), (87, .return_, 88, 0, 0, 0)]
def mc76 : List (Nat × Ins) := mc76_0 ++ mc76_1
-- 77: LikeYears$Order.tellAll(LLikeYears$Book;)I
def mc77_0 : List (Nat × Ins) := [(0, .iconst (-1), 1, 0, 0, 0), (1, .istore_n 2, 2, 2, 0, 0), (2, .iconst 0, 3, 0, 0, 0), (3, .istore_n 3, 4, 3, 0, 0), (4, .iload_n 3, 5, 3, 0, 0), (5, .aload_n 1, 6, 1, 0, 0), (6, .getfield 34, 9, 1, 10, 174), (9, .if_icmp .ge 60, 12, 69, 0, 0), (12, .aload_n 1, 13, 1, 0, 0), (13, .getfield 37, 16, 1, 11, 178), (16, .iload_n 3, 17, 3, 0, 0), (17, .iaload, 18, 0, 0, 0), (18, .istore 4, 20, 4, 0, 0), (20, .aload_n 1, 21, 1, 0, 0), (21, .getfield 40, 24, 1, 12, 180), (24, .iload_n 3, 25, 3, 0, 0), (25, .iaload, 26, 0, 0, 0), (26, .istore 5, 28, 5, 0, 0), (28, .iload_n 2, 29, 2, 0, 0), (29, .ifCond .ge 16, 32, 45, 0, 0), (32, .aload_n 0, 33, 0, 0, 0), (33, .iload 5, 35, 5, 0, 0), (35, .iload 4, 37, 4, 0, 0), (37, .invokevirtual 43, 40, 79, 794, 0), (40, .ifCond .eq 5, 43, 45, 0, 0), (43, .iload_n 3, 44, 3, 0, 0), (44, .istore_n 2, 45, 2, 0, 0), (45, .aload_n 0, 46, 0, 0, 0), (46, .aload_n 0, 47, 0, 0, 0), (47, .getfield 15, 50, 8, 1, 95), (50, .iload 4, 52, 4, 0, 0), (52, .iaload, 53, 0, 0, 0), (53, .aload_n 0, 54, 0, 0, 0), (54, .getfield 9, 57, 8, 0, 94), (57, .iload 5, 59, 5, 0, 0), (59, .iaload, 60, 0, 0, 0), (60, .invokevirtual 47, 63, 78, 798, 0), (63, .iinc 3 1, 66, 3, 0, 0), (66, .goto (-62), 69, 4, 0, 0), (69, .iload_n 2, 70, 2, 0, 0)]
def mc77_1 : List (Nat × Ins) := [(70, .ireturn, 71, 0, 0, 0)]
def mc77 : List (Nat × Ins) := mc77_0 ++ mc77_1
-- 78: LikeYears$Order.tell(II)V
def mc78 : List (Nat × Ins) := [(0, .iconst 0, 1, 0, 0, 0), (1, .istore_n 3, 2, 3, 0, 0), (2, .iload_n 3, 3, 3, 0, 0), (3, .bipush 16, 5, 0, 0, 0), (5, .if_icmp .ge 45, 8, 50, 0, 0), (8, .iload_n 1, 9, 1, 0, 0), (9, .iload_n 3, 10, 3, 0, 0), (10, .ishr, 11, 0, 0, 0), (11, .iconst 1, 12, 0, 0, 0), (12, .iand, 13, 0, 0, 0), (13, .ifCond .eq 13, 16, 26, 0, 0), (16, .aload_n 0, 17, 0, 0, 0), (17, .getfield 9, 20, 8, 0, 94), (20, .iload_n 3, 21, 3, 0, 0), (21, .dup2, 22, 0, 0, 0), (22, .iaload, 23, 0, 0, 0), (23, .iload_n 2, 24, 2, 0, 0), (24, .ior, 25, 0, 0, 0), (25, .iastore, 26, 0, 0, 0), (26, .iload_n 2, 27, 2, 0, 0), (27, .iload_n 3, 28, 3, 0, 0), (28, .ishr, 29, 0, 0, 0), (29, .iconst 1, 30, 0, 0, 0), (30, .iand, 31, 0, 0, 0), (31, .ifCond .eq 13, 34, 44, 0, 0), (34, .aload_n 0, 35, 0, 0, 0), (35, .getfield 15, 38, 8, 1, 95), (38, .iload_n 3, 39, 3, 0, 0), (39, .dup2, 40, 0, 0, 0), (40, .iaload, 41, 0, 0, 0), (41, .iload_n 1, 42, 1, 0, 0), (42, .ior, 43, 0, 0, 0), (43, .iastore, 44, 0, 0, 0), (44, .iinc 3 1, 47, 3, 0, 0), (47, .goto (-45), 50, 2, 0, 0), (50, .return_, 51, 0, 0, 0)]
-- 79: LikeYears$Order.isOver(II)Z
def mc79 : List (Nat × Ins) := [(0, .aload_n 0, 1, 0, 0, 0), (1, .getfield 9, 4, 8, 0, 94), (4, .iload_n 1, 5, 1, 0, 0), (5, .iaload, 6, 0, 0, 0), (6, .iload_n 2, 7, 2, 0, 0), (7, .ishr, 8, 0, 0, 0), (8, .iconst 1, 9, 0, 0, 0), (9, .iand, 10, 0, 0, 0), (10, .ifCond .eq 7, 13, 17, 0, 0), (13, .iconst 1, 14, 0, 0, 0), (14, .goto 4, 17, 18, 0, 0), (17, .iconst 0, 18, 0, 0, 0), (18, .ireturn, 19, 0, 0, 0)]
-- 80: LikeYears$Order.gap(LLikeYears$Book;II)I
def mc80 : List (Nat × Ins) := [(0, .aload_n 1, 1, 1, 0, 0), (1, .getfield 51, 4, 1, 7, 163), (4, .iload_n 2, 5, 2, 0, 0), (5, .iaload, 6, 0, 0, 0), (6, .aload_n 1, 7, 1, 0, 0), (7, .getfield 51, 10, 1, 7, 163), (10, .iload_n 3, 11, 3, 0, 0), (11, .iaload, 12, 0, 0, 0), (12, .isub, 13, 0, 0, 0), (13, .istore 4, 15, 4, 0, 0), (15, .iload 4, 17, 4, 0, 0), (17, .ifCond .ge 20, 20, 37, 0, 0), (20, .aload_n 0, 21, 0, 0, 0), (21, .iload_n 2, 22, 2, 0, 0), (22, .iload_n 3, 23, 3, 0, 0), (23, .invokevirtual 43, 26, 79, 794, 0), (26, .ifCond .eq 9, 29, 35, 0, 0), (29, .iload 4, 31, 4, 0, 0), (31, .ineg, 32, 0, 0, 0), (32, .goto 4, 35, 36, 0, 0), (35, .iconst 0, 36, 0, 0, 0), (36, .ireturn, 37, 0, 0, 0), (37, .aload_n 0, 38, 0, 0, 0), (38, .iload_n 3, 39, 3, 0, 0), (39, .iload_n 2, 40, 2, 0, 0), (40, .invokevirtual 43, 43, 79, 794, 0), (43, .ifCond .eq 8, 46, 51, 0, 0), (46, .iload 4, 48, 4, 0, 0), (48, .goto 4, 51, 52, 0, 0), (51, .iconst 0, 52, 0, 0, 0), (52, .ireturn, 53, 0, 0, 0)]
-- 81: LikeYears$Order.foes(LLikeYears$Book;I)I
def mc81 : List (Nat × Ins) := [(0, .iconst 0, 1, 0, 0, 0), (1, .istore_n 3, 2, 3, 0, 0), (2, .iconst 0, 3, 0, 0, 0), (3, .istore 4, 5, 4, 0, 0), (5, .iload 4, 7, 4, 0, 0), (7, .aload_n 1, 8, 1, 0, 0), (8, .getfield 24, 11, 1, 4, 147), (11, .if_icmp .ge 27, 14, 38, 0, 0), (14, .aload_n 0, 15, 0, 0, 0), (15, .aload_n 1, 16, 1, 0, 0), (16, .iload_n 2, 17, 2, 0, 0), (17, .iload 4, 19, 4, 0, 0), (19, .invokevirtual 54, 22, 80, 896, 0), (22, .ifCond .le 10, 25, 32, 0, 0), (25, .iload_n 3, 26, 3, 0, 0), (26, .iconst 1, 27, 0, 0, 0), (27, .iload 4, 29, 4, 0, 0), (29, .ishl, 30, 0, 0, 0), (30, .ior, 31, 0, 0, 0), (31, .istore_n 3, 32, 3, 0, 0), (32, .iinc 4 1, 35, 4, 0, 0), (35, .goto (-30), 38, 5, 0, 0), (38, .iload_n 3, 39, 3, 0, 0), (39, .ireturn, 40, 0, 0, 0)]
-- 82: LikeYears$Order.gapsOf(LLikeYears$Book;I)I
def mc82 : List (Nat × Ins) := [(0, .iconst 0, 1, 0, 0, 0), (1, .istore_n 3, 2, 3, 0, 0), (2, .iconst 0, 3, 0, 0, 0), (3, .istore 4, 5, 4, 0, 0), (5, .iload 4, 7, 4, 0, 0), (7, .aload_n 1, 8, 1, 0, 0), (8, .getfield 24, 11, 1, 4, 147), (11, .if_icmp .ge 20, 14, 31, 0, 0), (14, .iload_n 3, 15, 3, 0, 0), (15, .aload_n 0, 16, 0, 0, 0), (16, .aload_n 1, 17, 1, 0, 0), (17, .iload_n 2, 18, 2, 0, 0), (18, .iload 4, 20, 4, 0, 0), (20, .invokevirtual 54, 23, 80, 896, 0), (23, .iadd, 24, 0, 0, 0), (24, .istore_n 3, 25, 3, 0, 0), (25, .iinc 4 1, 28, 4, 0, 0), (28, .goto (-23), 31, 5, 0, 0), (31, .iload_n 3, 32, 3, 0, 0), (32, .ireturn, 33, 0, 0, 0)]
-- 83: LikeYears$Order.pairs(LLikeYears$Book;Z)I
def mc83_0 : List (Nat × Ins) := [(0, .iconst 0, 1, 0, 0, 0), (1, .istore_n 3, 2, 3, 0, 0), (2, .iconst 0, 3, 0, 0, 0), (3, .istore 4, 5, 4, 0, 0), (5, .iload 4, 7, 4, 0, 0), (7, .aload_n 1, 8, 1, 0, 0), (8, .getfield 24, 11, 1, 4, 147), (11, .if_icmp .ge 78, 14, 89, 0, 0), (14, .iconst 0, 15, 0, 0, 0), (15, .istore 5, 17, 5, 0, 0), (17, .iload 5, 19, 5, 0, 0), (19, .iload 4, 21, 4, 0, 0), (21, .if_icmp .ge 62, 24, 83, 0, 0), (24, .iload_n 2, 25, 2, 0, 0), (25, .ifCond .eq 20, 28, 45, 0, 0), (28, .aload_n 1, 29, 1, 0, 0), (29, .getfield 58, 32, 1, 6, 157), (32, .iload 4, 34, 4, 0, 0), (34, .iaload, 35, 0, 0, 0), (35, .aload_n 1, 36, 1, 0, 0), (36, .getfield 58, 39, 1, 6, 157), (39, .iload 5, 41, 5, 0, 0), (41, .iaload, 42, 0, 0, 0), (42, .if_icmp .ne 7, 45, 49, 0, 0), (45, .iconst 1, 46, 0, 0, 0), (46, .goto 4, 49, 50, 0, 0), (49, .iconst 0, 50, 0, 0, 0), (50, .istore 6, 52, 6, 0, 0), (52, .iload_n 3, 53, 3, 0, 0), (53, .iload 6, 55, 6, 0, 0), (55, .ifCond .eq 19, 58, 74, 0, 0), (58, .aload_n 0, 59, 0, 0, 0), (59, .aload_n 1, 60, 1, 0, 0), (60, .iload 4, 62, 4, 0, 0), (62, .iload 5, 64, 5, 0, 0), (64, .invokevirtual 54, 67, 80, 896, 0), (67, .ifCond .le 7, 70, 74, 0, 0), (70, .iconst 1, 71, 0, 0, 0), (71, .goto 4, 74, 75, 0, 0), (74, .iconst 0, 75, 0, 0, 0)]
def mc83_1 : List (Nat × Ins) := [(75, .iadd, 76, 0, 0, 0), (76, .istore_n 3, 77, 3, 0, 0), (77, .iinc 5 1, 80, 5, 0, 0), (80, .goto (-63), 83, 17, 0, 0), (83, .iinc 4 1, 86, 4, 0, 0), (86, .goto (-81), 89, 5, 0, 0), (89, .iload_n 3, 90, 3, 0, 0), (90, .ireturn, 91, 0, 0, 0)]
def mc83 : List (Nat × Ins) := mc83_0 ++ mc83_1
-- 84: LikeYears$Order.gapsTogether(LLikeYears$Book;)I
def mc84 : List (Nat × Ins) := [(0, .iconst 0, 1, 0, 0, 0), (1, .istore_n 2, 2, 2, 0, 0), (2, .iconst 0, 3, 0, 0, 0), (3, .istore_n 3, 4, 3, 0, 0), (4, .iload_n 3, 5, 3, 0, 0), (5, .aload_n 1, 6, 1, 0, 0), (6, .getfield 24, 9, 1, 4, 147), (9, .if_icmp .ge 18, 12, 27, 0, 0), (12, .iload_n 2, 13, 2, 0, 0), (13, .aload_n 0, 14, 0, 0, 0), (14, .aload_n 1, 15, 1, 0, 0), (15, .iload_n 3, 16, 3, 0, 0), (16, .invokevirtual 61, 19, 82, 904, 0), (19, .iadd, 20, 0, 0, 0), (20, .istore_n 2, 21, 2, 0, 0), (21, .iinc 3 1, 24, 3, 0, 0), (24, .goto (-20), 27, 4, 0, 0), (27, .iload_n 2, 28, 2, 0, 0), (28, .iconst 2, 29, 0, 0, 0), (29, .idiv, 30, 0, 0, 0), (30, .ireturn, 31, 0, 0, 0)]
-- 85: LikeYears$Order.greatestGap(LLikeYears$Book;)I
def mc85 : List (Nat × Ins) := [(0, .iconst 0, 1, 0, 0, 0), (1, .istore_n 2, 2, 2, 0, 0), (2, .iconst 0, 3, 0, 0, 0), (3, .istore_n 3, 4, 3, 0, 0), (4, .iload_n 3, 5, 3, 0, 0), (5, .aload_n 1, 6, 1, 0, 0), (6, .getfield 24, 9, 1, 4, 147), (9, .if_icmp .ge 37, 12, 46, 0, 0), (12, .iconst 0, 13, 0, 0, 0), (13, .istore 4, 15, 4, 0, 0), (15, .iload 4, 17, 4, 0, 0), (17, .iload_n 3, 18, 3, 0, 0), (18, .if_icmp .ge 22, 21, 40, 0, 0), (21, .iload_n 2, 22, 2, 0, 0), (22, .aload_n 0, 23, 0, 0, 0), (23, .aload_n 1, 24, 1, 0, 0), (24, .iload_n 3, 25, 3, 0, 0), (25, .iload 4, 27, 4, 0, 0), (27, .invokevirtual 54, 30, 80, 896, 0), (30, .invokestatic 65, 33, 290, 912, 0), (33, .istore_n 2, 34, 2, 0, 0), (34, .iinc 4 1, 37, 4, 0, 0), (37, .goto (-22), 40, 15, 0, 0), (40, .iinc 3 1, 43, 3, 0, 0), (43, .goto (-39), 46, 4, 0, 0), (46, .iload_n 2, 47, 2, 0, 0), (47, .ireturn, 48, 0, 0, 0)]
-- 86: LikeYears$Order.oddestOf(LLikeYears$Book;)I
def mc86_0 : List (Nat × Ins) := [(0, .iconst (-1), 1, 0, 0, 0), (1, .istore_n 2, 2, 2, 0, 0), (2, .iconst 0, 3, 0, 0, 0), (3, .istore_n 3, 4, 3, 0, 0), (4, .iconst 0, 5, 0, 0, 0), (5, .istore 4, 7, 4, 0, 0), (7, .iconst 0, 8, 0, 0, 0), (8, .istore 5, 10, 5, 0, 0), (10, .iload 5, 12, 5, 0, 0), (12, .aload_n 1, 13, 1, 0, 0), (13, .getfield 24, 16, 1, 4, 147), (16, .if_icmp .ge 59, 19, 75, 0, 0), (19, .aload_n 0, 20, 0, 0, 0), (20, .aload_n 1, 21, 1, 0, 0), (21, .iload 5, 23, 5, 0, 0), (23, .invokevirtual 71, 26, 81, 921, 0), (26, .invokestatic 74, 29, 286, 925, 0), (29, .istore 6, 31, 6, 0, 0), (31, .aload_n 0, 32, 0, 0, 0), (32, .aload_n 1, 33, 1, 0, 0), (33, .iload 5, 35, 5, 0, 0), (35, .invokevirtual 61, 38, 82, 904, 0), (38, .istore 7, 40, 7, 0, 0), (40, .iload 6, 42, 6, 0, 0), (42, .iload_n 3, 43, 3, 0, 0), (43, .if_icmp .gt 16, 46, 59, 0, 0), (46, .iload 6, 48, 6, 0, 0), (48, .iload_n 3, 49, 3, 0, 0), (49, .if_icmp .ne 20, 52, 69, 0, 0), (52, .iload 7, 54, 7, 0, 0), (54, .iload 4, 56, 4, 0, 0), (56, .if_icmp .le 13, 59, 69, 0, 0), (59, .iload 5, 61, 5, 0, 0), (61, .istore_n 2, 62, 2, 0, 0), (62, .iload 6, 64, 6, 0, 0), (64, .istore_n 3, 65, 3, 0, 0), (65, .iload 7, 67, 7, 0, 0), (67, .istore 4, 69, 4, 0, 0), (69, .iinc 5 1, 72, 5, 0, 0), (72, .goto (-62), 75, 10, 0, 0)]
def mc86_1 : List (Nat × Ins) := [(75, .iload_n 2, 76, 2, 0, 0), (76, .ireturn, 77, 0, 0, 0)]
def mc86 : List (Nat × Ins) := mc86_0 ++ mc86_1
-- 87: LikeYears$Order.besideOf(LLikeYears$Book;I)I
def mc87 : List (Nat × Ins) := [(0, .iconst (-1), 1, 0, 0, 0), (1, .istore_n 3, 2, 3, 0, 0), (2, .iconst 0, 3, 0, 0, 0), (3, .istore 4, 5, 4, 0, 0), (5, .iconst 0, 6, 0, 0, 0), (6, .istore 5, 8, 5, 0, 0), (8, .iload 5, 10, 5, 0, 0), (10, .aload_n 1, 11, 1, 0, 0), (11, .getfield 24, 14, 1, 4, 147), (14, .if_icmp .ge 35, 17, 49, 0, 0), (17, .aload_n 0, 18, 0, 0, 0), (18, .aload_n 1, 19, 1, 0, 0), (19, .iload_n 2, 20, 2, 0, 0), (20, .iload 5, 22, 5, 0, 0), (22, .invokevirtual 54, 25, 80, 896, 0), (25, .iload 4, 27, 4, 0, 0), (27, .if_icmp .le 16, 30, 43, 0, 0), (30, .aload_n 0, 31, 0, 0, 0), (31, .aload_n 1, 32, 1, 0, 0), (32, .iload_n 2, 33, 2, 0, 0), (33, .iload 5, 35, 5, 0, 0), (35, .invokevirtual 54, 38, 80, 896, 0), (38, .istore 4, 40, 4, 0, 0), (40, .iload 5, 42, 5, 0, 0), (42, .istore_n 3, 43, 3, 0, 0), (43, .iinc 5 1, 46, 5, 0, 0), (46, .goto (-38), 49, 8, 0, 0), (49, .iload_n 3, 50, 3, 0, 0), (50, .ireturn, 51, 0, 0, 0)]
-- 88: LikeYears$Order.twiceMiddle(LLikeYears$Book;I)I
def mc88_0 : List (Nat × Ins) := [(0, .aload_n 1, 1, 1, 0, 0), (1, .getfield 51, 4, 1, 7, 163), (4, .iload_n 2, 5, 2, 0, 0), (5, .iaload, 6, 0, 0, 0), (6, .istore_n 3, 7, 3, 0, 0), (7, .aload_n 1, 8, 1, 0, 0), (8, .getfield 51, 11, 1, 7, 163), (11, .iload_n 2, 12, 2, 0, 0), (12, .iaload, 13, 0, 0, 0), (13, .istore 4, 15, 4, 0, 0), (15, .iconst 0, 16, 0, 0, 0), (16, .istore 5, 18, 5, 0, 0), (18, .iload 5, 20, 5, 0, 0), (20, .aload_n 1, 21, 1, 0, 0), (21, .getfield 24, 24, 1, 4, 147), (24, .if_icmp .ge 55, 27, 79, 0, 0), (27, .aload_n 0, 28, 0, 0, 0), (28, .iload_n 2, 29, 2, 0, 0), (29, .iload 5, 31, 5, 0, 0), (31, .invokevirtual 43, 34, 79, 794, 0), (34, .ifCond .eq 15, 37, 49, 0, 0), (37, .iload_n 3, 38, 3, 0, 0), (38, .aload_n 1, 39, 1, 0, 0), (39, .getfield 51, 42, 1, 7, 163), (42, .iload 5, 44, 5, 0, 0), (44, .iaload, 45, 0, 0, 0), (45, .invokestatic 65, 48, 290, 912, 0), (48, .istore_n 3, 49, 3, 0, 0), (49, .aload_n 0, 50, 0, 0, 0), (50, .iload 5, 52, 5, 0, 0), (52, .iload_n 2, 53, 2, 0, 0), (53, .invokevirtual 43, 56, 79, 794, 0), (56, .ifCond .eq 17, 59, 73, 0, 0), (59, .iload 4, 61, 4, 0, 0), (61, .aload_n 1, 62, 1, 0, 0), (62, .getfield 51, 65, 1, 7, 163), (65, .iload 5, 67, 5, 0, 0), (67, .iaload, 68, 0, 0, 0), (68, .invokestatic 80, 71, 291, 1046, 0), (71, .istore 4, 73, 4, 0, 0)]
def mc88_1 : List (Nat × Ins) := [(73, .iinc 5 1, 76, 5, 0, 0), (76, .goto (-58), 79, 18, 0, 0), (79, .iload_n 3, 80, 3, 0, 0), (80, .iload 4, 82, 4, 0, 0), (82, .iadd, 83, 0, 0, 0), (83, .ireturn, 84, 0, 0, 0)]
def mc88 : List (Nat × Ins) := mc88_0 ++ mc88_1
-- 89: LikeYears$Order.twiceGreatest(LLikeYears$Book;)I
def mc89 : List (Nat × Ins) := [(0, .iconst 0, 1, 0, 0, 0), (1, .istore_n 2, 2, 2, 0, 0), (2, .iconst 0, 3, 0, 0, 0), (3, .istore_n 3, 4, 3, 0, 0), (4, .iload_n 3, 5, 3, 0, 0), (5, .aload_n 1, 6, 1, 0, 0), (6, .getfield 24, 9, 1, 4, 147), (9, .if_icmp .ge 32, 12, 41, 0, 0), (12, .iload_n 2, 13, 2, 0, 0), (13, .aload_n 0, 14, 0, 0, 0), (14, .aload_n 1, 15, 1, 0, 0), (15, .iload_n 3, 16, 3, 0, 0), (16, .invokevirtual 83, 19, 88, 1060, 0), (19, .iconst 2, 20, 0, 0, 0), (20, .aload_n 1, 21, 1, 0, 0), (21, .getfield 51, 24, 1, 7, 163), (24, .iload_n 3, 25, 3, 0, 0), (25, .iaload, 26, 0, 0, 0), (26, .imul, 27, 0, 0, 0), (27, .isub, 28, 0, 0, 0), (28, .invokestatic 86, 31, 288, 1061, 0), (31, .invokestatic 65, 34, 290, 912, 0), (34, .istore_n 2, 35, 2, 0, 0), (35, .iinc 3 1, 38, 3, 0, 0), (38, .goto (-34), 41, 4, 0, 0), (41, .iload_n 2, 42, 2, 0, 0), (42, .ireturn, 43, 0, 0, 0)]
-- 90: LikeYears$Order.underNew(LLikeYears$Book;)I
def mc90 : List (Nat × Ins) := [(0, .iconst 0, 1, 0, 0, 0), (1, .istore_n 2, 2, 2, 0, 0), (2, .iconst 0, 3, 0, 0, 0), (3, .istore_n 3, 4, 3, 0, 0), (4, .iload_n 3, 5, 3, 0, 0), (5, .aload_n 1, 6, 1, 0, 0), (6, .getfield 24, 9, 1, 4, 147), (9, .if_icmp .ge 32, 12, 41, 0, 0), (12, .aload_n 1, 13, 1, 0, 0), (13, .bipush 16, 15, 0, 0, 0), (15, .iload_n 3, 16, 3, 0, 0), (16, .aload_n 1, 17, 1, 0, 0), (17, .getfield 89, 20, 1, 3, 143), (20, .invokevirtual 30, 23, 18, 782, 0), (23, .ifCond .eq 12, 26, 35, 0, 0), (26, .iload_n 2, 27, 2, 0, 0), (27, .aload_n 0, 28, 0, 0, 0), (28, .getfield 9, 31, 8, 0, 94), (31, .iload_n 3, 32, 3, 0, 0), (32, .iaload, 33, 0, 0, 0), (33, .ior, 34, 0, 0, 0), (34, .istore_n 2, 35, 2, 0, 0), (35, .iinc 3 1, 38, 3, 0, 0), (38, .goto (-34), 41, 4, 0, 0), (41, .iload_n 2, 42, 2, 0, 0), (42, .ireturn, 43, 0, 0, 0)]
-- 91: LikeYears$Order.overNew(LLikeYears$Book;)I
def mc91 : List (Nat × Ins) := [(0, .iconst 0, 1, 0, 0, 0), (1, .istore_n 2, 2, 2, 0, 0), (2, .iconst 0, 3, 0, 0, 0), (3, .istore_n 3, 4, 3, 0, 0), (4, .iload_n 3, 5, 3, 0, 0), (5, .aload_n 1, 6, 1, 0, 0), (6, .getfield 24, 9, 1, 4, 147), (9, .if_icmp .ge 32, 12, 41, 0, 0), (12, .aload_n 1, 13, 1, 0, 0), (13, .iload_n 3, 14, 3, 0, 0), (14, .bipush 16, 16, 0, 0, 0), (16, .aload_n 1, 17, 1, 0, 0), (17, .getfield 89, 20, 1, 3, 143), (20, .invokevirtual 30, 23, 18, 782, 0), (23, .ifCond .eq 12, 26, 35, 0, 0), (26, .iload_n 2, 27, 2, 0, 0), (27, .aload_n 0, 28, 0, 0, 0), (28, .getfield 15, 31, 8, 1, 95), (31, .iload_n 3, 32, 3, 0, 0), (32, .iaload, 33, 0, 0, 0), (33, .ior, 34, 0, 0, 0), (34, .istore_n 2, 35, 2, 0, 0), (35, .iinc 3 1, 38, 3, 0, 0), (38, .goto (-34), 41, 4, 0, 0), (41, .iload_n 2, 42, 2, 0, 0), (42, .ireturn, 43, 0, 0, 0)]
-- 92: LikeYears$Parting.reckon(LLikeYears$Book;II)V
def mc92_0 : List (Nat × Ins) := [(0, .aload_n 0, 1, 0, 0, 0), (1, .aload_n 1, 2, 1, 0, 0), (2, .iload_n 2, 3, 2, 0, 0), (3, .invokevirtual 41, 6, 94, 1138, 0), (6, .iload_n 3, 7, 3, 0, 0), (7, .aload_n 0, 8, 0, 0, 0), (8, .getfield 45, 11, 9, 2, 423), (11, .invokestatic 49, 14, 291, 1147, 0), (14, .istore 4, 16, 4, 0, 0), (16, .aload_n 0, 17, 0, 0, 0), (17, .getfield 12, 20, 9, 0, 419), (20, .aload_n 1, 21, 1, 0, 0), (21, .invokestatic 55, 24, 93, 1148, 0), (24, .lconst 1, 25, 0, 0, 0), (25, .invokevirtual 59, 28, 47, 1151, 0), (28, .aload_n 0, 29, 0, 0, 0), (29, .iconst 0, 30, 0, 0, 0), (30, .putfield 63, 33, 9, 1, 421), (33, .iload 4, 35, 4, 0, 0), (35, .ifCond .ne 4, 38, 39, 0, 0), (38, .return_, 39, 0, 0, 0), (39, .aload_n 0, 40, 0, 0, 0), (40, .invokevirtual 66, 43, 96, 1152, 0), (43, .iconst 2, 44, 0, 0, 0), (44, .istore 5, 46, 5, 0, 0), (46, .iload 5, 48, 5, 0, 0), (48, .iload 4, 50, 4, 0, 0), (50, .if_icmp .gt 36, 53, 86, 0, 0), (53, .iload 5, 55, 5, 0, 0), (55, .istore 6, 57, 6, 0, 0), (57, .iload 6, 59, 6, 0, 0), (59, .aload_n 0, 60, 0, 0, 0), (60, .getfield 45, 63, 9, 2, 423), (63, .if_icmp .gt 17, 66, 80, 0, 0), (66, .aload_n 0, 67, 0, 0, 0), (67, .iload 5, 69, 5, 0, 0), (69, .iload 6, 71, 6, 0, 0), (71, .invokevirtual 69, 74, 97, 1165, 0), (74, .iinc 6 1, 77, 6, 0, 0), (77, .goto (-20), 80, 57, 0, 0)]
def mc92_1 : List (Nat × Ins) := [(80, .iinc 5 1, 83, 5, 0, 0), (83, .goto (-37), 86, 46, 0, 0), (86, .iload 4, 88, 4, 0, 0), (88, .bipush 13, 90, 0, 0, 0), (90, .imul, 91, 0, 0, 0), (91, .aload_n 0, 92, 0, 0, 0), (92, .getfield 45, 95, 9, 2, 423), (95, .iadd, 96, 0, 0, 0), (96, .istore 5, 98, 5, 0, 0), (98, .aload_n 0, 99, 0, 0, 0), (99, .getfield 12, 102, 9, 0, 419), (102, .aload_n 0, 103, 0, 0, 0), (103, .getfield 28, 106, 9, 6, 427), (106, .iload 5, 108, 5, 0, 0), (108, .laload, 109, 0, 0, 0), (109, .lneg, 110, 0, 0, 0), (110, .aload_n 0, 111, 0, 0, 0), (111, .getfield 32, 114, 9, 7, 428), (114, .iload 5, 116, 5, 0, 0), (116, .laload, 117, 0, 0, 0), (117, .invokevirtual 73, 120, 48, 1160, 0), (120, .aload_n 0, 121, 0, 0, 0), (121, .aload_n 0, 122, 0, 0, 0), (122, .getfield 35, 125, 9, 8, 429), (125, .iload 5, 127, 5, 0, 0), (127, .iaload, 128, 0, 0, 0), (128, .putfield 63, 131, 9, 1, 421), (131, .return_, 132, 0, 0, 0)]
def mc92 : List (Nat × Ins) := mc92_0 ++ mc92_1
-- 93: LikeYears$Parting.squares(LLikeYears$Book;)J
def mc93 : List (Nat × Ins) := [(0, .lconst 0, 1, 0, 0, 0), (1, .lstore_n 1, 2, 1, 0, 0), (2, .iconst 0, 3, 0, 0, 0), (3, .istore_n 3, 4, 3, 0, 0), (4, .iload_n 3, 5, 3, 0, 0), (5, .aload_n 0, 6, 0, 0, 0), (6, .getfield 76, 9, 1, 4, 148), (9, .if_icmp .ge 33, 12, 42, 0, 0), (12, .lload_n 1, 13, 1, 0, 0), (13, .aload_n 0, 14, 0, 0, 0), (14, .getfield 81, 17, 1, 8, 168), (17, .iload_n 3, 18, 3, 0, 0), (18, .iaload, 19, 0, 0, 0), (19, .aload_n 0, 20, 0, 0, 0), (20, .getfield 84, 23, 1, 7, 161), (23, .iload_n 3, 24, 3, 0, 0), (24, .iaload, 25, 0, 0, 0), (25, .imul, 26, 0, 0, 0), (26, .aload_n 0, 27, 0, 0, 0), (27, .getfield 84, 30, 1, 7, 161), (30, .iload_n 3, 31, 3, 0, 0), (31, .iaload, 32, 0, 0, 0), (32, .imul, 33, 0, 0, 0), (33, .i2l, 34, 0, 0, 0), (34, .ladd, 35, 0, 0, 0), (35, .lstore_n 1, 36, 1, 0, 0), (36, .iinc 3 1, 39, 3, 0, 0), (39, .goto (-35), 42, 4, 0, 0), (42, .lload_n 1, 43, 1, 0, 0), (43, .lreturn, 44, 0, 0, 0)]
-- 94: LikeYears$Parting.pool(LLikeYears$Book;I)V
def mc94_0 : List (Nat × Ins) := [(0, .aload_n 0, 1, 0, 0, 0), (1, .iconst 0, 2, 0, 0, 0), (2, .putfield 45, 5, 9, 2, 423), (5, .iconst 0, 6, 0, 0, 0), (6, .istore_n 3, 7, 3, 0, 0), (7, .iconst 0, 8, 0, 0, 0), (8, .istore 4, 10, 4, 0, 0), (10, .iload 4, 12, 4, 0, 0), (12, .bipush 11, 14, 0, 0, 0), (14, .if_icmp .gt 135, 17, 149, 0, 0), (17, .iconst 0, 18, 0, 0, 0), (18, .istore 5, 20, 5, 0, 0), (20, .iconst 0, 21, 0, 0, 0), (21, .istore 6, 23, 6, 0, 0), (23, .iconst 0, 24, 0, 0, 0), (24, .istore 7, 26, 7, 0, 0), (26, .iload 7, 28, 7, 0, 0), (28, .aload_n 1, 29, 1, 0, 0), (29, .getfield 76, 32, 1, 4, 148), (32, .if_icmp .ge 53, 35, 85, 0, 0), (35, .aload_n 1, 36, 1, 0, 0), (36, .iload 7, 38, 7, 0, 0), (38, .iload_n 2, 39, 2, 0, 0), (39, .invokevirtual 87, 42, 15, 1142, 0), (42, .iload 4, 44, 4, 0, 0), (44, .if_icmp .ne 35, 47, 79, 0, 0), (47, .iload 5, 49, 5, 0, 0), (49, .aload_n 1, 50, 1, 0, 0), (50, .getfield 81, 53, 1, 8, 168), (53, .iload 7, 55, 7, 0, 0), (55, .iaload, 56, 0, 0, 0), (56, .iadd, 57, 0, 0, 0), (57, .istore 5, 59, 5, 0, 0), (59, .iload 6, 61, 6, 0, 0), (61, .aload_n 1, 62, 1, 0, 0), (62, .getfield 81, 65, 1, 8, 168), (65, .iload 7, 67, 7, 0, 0), (67, .iaload, 68, 0, 0, 0), (68, .aload_n 1, 69, 1, 0, 0), (69, .getfield 84, 72, 1, 7, 161)]
def mc94_1 : List (Nat × Ins) := [(72, .iload 7, 74, 7, 0, 0), (74, .iaload, 75, 0, 0, 0), (75, .imul, 76, 0, 0, 0), (76, .iadd, 77, 0, 0, 0), (77, .istore 6, 79, 6, 0, 0), (79, .iinc 7 1, 82, 7, 0, 0), (82, .goto (-56), 85, 26, 0, 0), (85, .iload 5, 87, 5, 0, 0), (87, .ifCond .le 56, 90, 143, 0, 0), (90, .aload_n 0, 91, 0, 0, 0), (91, .getfield 18, 94, 9, 3, 424), (94, .aload_n 0, 95, 0, 0, 0), (95, .getfield 45, 98, 9, 2, 423), (98, .iload 5, 100, 5, 0, 0), (100, .iastore, 101, 0, 0, 0), (101, .aload_n 0, 102, 0, 0, 0), (102, .getfield 22, 105, 9, 4, 425), (105, .aload_n 0, 106, 0, 0, 0), (106, .getfield 45, 109, 9, 2, 423), (109, .iload 6, 111, 6, 0, 0), (111, .iastore, 112, 0, 0, 0), (112, .aload_n 0, 113, 0, 0, 0), (113, .getfield 25, 116, 9, 5, 426), (116, .aload_n 0, 117, 0, 0, 0), (117, .getfield 45, 120, 9, 2, 423), (120, .iload_n 3, 121, 3, 0, 0), (121, .iastore, 122, 0, 0, 0), (122, .aload_n 0, 123, 0, 0, 0), (123, .dup, 124, 0, 0, 0), (124, .getfield 45, 127, 9, 2, 423), (127, .iconst 1, 128, 0, 0, 0), (128, .iadd, 129, 0, 0, 0), (129, .putfield 45, 132, 9, 2, 423), (132, .aload_n 0, 133, 0, 0, 0), (133, .invokevirtual 90, 136, 95, 1143, 0), (136, .iconst 1, 137, 0, 0, 0), (137, .iload 4, 139, 4, 0, 0), (139, .iconst 1, 140, 0, 0, 0), (140, .iadd, 141, 0, 0, 0), (141, .ishl, 142, 0, 0, 0)]
def mc94_2 : List (Nat × Ins) := [(142, .istore_n 3, 143, 3, 0, 0), (143, .iinc 4 1, 146, 4, 0, 0), (146, .goto (-136), 149, 10, 0, 0), (149, .return_, 150, 0, 0, 0)]
def mc94 : List (Nat × Ins) := mc94_0 ++ mc94_1 ++ mc94_2
-- 95: LikeYears$Parting.joinFalling()V
def mc95_0 : List (Nat × Ins) := [(0, .iconst 0, 1, 0, 0, 0), (1, .istore_n 1, 2, 1, 0, 0), (2, .iload_n 1, 3, 1, 0, 0), (3, .bipush 12, 5, 0, 0, 0), (5, .if_icmp .ge 102, 8, 107, 0, 0), (8, .aload_n 0, 9, 0, 0, 0), (9, .getfield 45, 12, 9, 2, 423), (12, .iconst 1, 13, 0, 0, 0), (13, .if_icmp .le 94, 16, 107, 0, 0), (16, .aload_n 0, 17, 0, 0, 0), (17, .getfield 45, 20, 9, 2, 423), (20, .iconst 1, 21, 0, 0, 0), (21, .isub, 22, 0, 0, 0), (22, .istore_n 2, 23, 2, 0, 0), (23, .aload_n 0, 24, 0, 0, 0), (24, .getfield 22, 27, 9, 4, 425), (27, .iload_n 2, 28, 2, 0, 0), (28, .iconst 1, 29, 0, 0, 0), (29, .isub, 30, 0, 0, 0), (30, .iaload, 31, 0, 0, 0), (31, .aload_n 0, 32, 0, 0, 0), (32, .getfield 18, 35, 9, 3, 424), (35, .iload_n 2, 36, 2, 0, 0), (36, .iaload, 37, 0, 0, 0), (37, .imul, 38, 0, 0, 0), (38, .aload_n 0, 39, 0, 0, 0), (39, .getfield 22, 42, 9, 4, 425), (42, .iload_n 2, 43, 2, 0, 0), (43, .iaload, 44, 0, 0, 0), (44, .aload_n 0, 45, 0, 0, 0), (45, .getfield 18, 48, 9, 3, 424), (48, .iload_n 2, 49, 2, 0, 0), (49, .iconst 1, 50, 0, 0, 0), (50, .isub, 51, 0, 0, 0), (51, .iaload, 52, 0, 0, 0), (52, .imul, 53, 0, 0, 0), (53, .if_icmp .ge 4, 56, 57, 0, 0), (56, .return_, 57, 0, 0, 0), (57, .aload_n 0, 58, 0, 0, 0), (58, .getfield 22, 61, 9, 4, 425)]
def mc95_1 : List (Nat × Ins) := [(61, .iload_n 2, 62, 2, 0, 0), (62, .iconst 1, 63, 0, 0, 0), (63, .isub, 64, 0, 0, 0), (64, .dup2, 65, 0, 0, 0), (65, .iaload, 66, 0, 0, 0), (66, .aload_n 0, 67, 0, 0, 0), (67, .getfield 22, 70, 9, 4, 425), (70, .iload_n 2, 71, 2, 0, 0), (71, .iaload, 72, 0, 0, 0), (72, .iadd, 73, 0, 0, 0), (73, .iastore, 74, 0, 0, 0), (74, .aload_n 0, 75, 0, 0, 0), (75, .getfield 18, 78, 9, 3, 424), (78, .iload_n 2, 79, 2, 0, 0), (79, .iconst 1, 80, 0, 0, 0), (80, .isub, 81, 0, 0, 0), (81, .dup2, 82, 0, 0, 0), (82, .iaload, 83, 0, 0, 0), (83, .aload_n 0, 84, 0, 0, 0), (84, .getfield 18, 87, 9, 3, 424), (87, .iload_n 2, 88, 2, 0, 0), (88, .iaload, 89, 0, 0, 0), (89, .iadd, 90, 0, 0, 0), (90, .iastore, 91, 0, 0, 0), (91, .aload_n 0, 92, 0, 0, 0), (92, .dup, 93, 0, 0, 0), (93, .getfield 45, 96, 9, 2, 423), (96, .iconst 1, 97, 0, 0, 0), (97, .isub, 98, 0, 0, 0), (98, .putfield 45, 101, 9, 2, 423), (101, .iinc 1 1, 104, 1, 0, 0), (104, .goto (-102), 107, 2, 0, 0), (107, .return_, 108, 0, 0, 0)]
def mc95 : List (Nat × Ins) := mc95_0 ++ mc95_1
-- 96: LikeYears$Parting.oneRun()V
def mc96 : List (Nat × Ins) := [(0, .iconst 1, 1, 0, 0, 0), (1, .istore_n 1, 2, 1, 0, 0), (2, .iload_n 1, 3, 1, 0, 0), (3, .aload_n 0, 4, 0, 0, 0), (4, .getfield 45, 7, 9, 2, 423), (7, .if_icmp .gt 33, 10, 40, 0, 0), (10, .aload_n 0, 11, 0, 0, 0), (11, .getfield 38, 14, 9, 9, 430), (14, .lconst 0, 15, 0, 0, 0), (15, .lconst 1, 16, 0, 0, 0), (16, .invokevirtual 59, 19, 47, 1151, 0), (19, .aload_n 0, 20, 0, 0, 0), (20, .iconst 0, 21, 0, 0, 0), (21, .iload_n 1, 22, 1, 0, 0), (22, .invokevirtual 93, 25, 99, 1156, 0), (25, .aload_n 0, 26, 0, 0, 0), (26, .bipush 13, 28, 0, 0, 0), (28, .iload_n 1, 29, 1, 0, 0), (29, .iadd, 30, 0, 0, 0), (30, .iconst 0, 31, 0, 0, 0), (31, .invokevirtual 96, 34, 98, 1161, 0), (34, .iinc 1 1, 37, 1, 0, 0), (37, .goto (-35), 40, 2, 0, 0), (40, .return_, 41, 0, 0, 0)]
-- 97: LikeYears$Parting.lastRun(II)V
def mc97_0 : List (Nat × Ins) := [(0, .iload_n 1, 1, 1, 0, 0), (1, .bipush 13, 3, 0, 0, 0), (3, .imul, 4, 0, 0, 0), (4, .iload_n 2, 5, 2, 0, 0), (5, .iadd, 6, 0, 0, 0), (6, .istore_n 3, 7, 3, 0, 0), (7, .iload_n 1, 8, 1, 0, 0), (8, .iconst 1, 9, 0, 0, 0), (9, .isub, 10, 0, 0, 0), (10, .istore 4, 12, 4, 0, 0), (12, .iload 4, 14, 4, 0, 0), (14, .iload_n 2, 15, 2, 0, 0), (15, .if_icmp .ge 143, 18, 158, 0, 0), (18, .iload_n 1, 19, 1, 0, 0), (19, .iconst 1, 20, 0, 0, 0), (20, .isub, 21, 0, 0, 0), (21, .bipush 13, 23, 0, 0, 0), (23, .imul, 24, 0, 0, 0), (24, .iload 4, 26, 4, 0, 0), (26, .iadd, 27, 0, 0, 0), (27, .istore 5, 29, 5, 0, 0), (29, .aload_n 0, 30, 0, 0, 0), (30, .getfield 38, 33, 9, 9, 430), (33, .aload_n 0, 34, 0, 0, 0), (34, .getfield 28, 37, 9, 6, 427), (37, .iload 5, 39, 5, 0, 0), (39, .laload, 40, 0, 0, 0), (40, .putfield 99, 43, 5, 0, 331), (43, .aload_n 0, 44, 0, 0, 0), (44, .getfield 38, 47, 9, 9, 430), (47, .aload_n 0, 48, 0, 0, 0), (48, .getfield 32, 51, 9, 7, 428), (51, .iload 5, 53, 5, 0, 0), (53, .laload, 54, 0, 0, 0), (54, .putfield 103, 57, 5, 1, 335), (57, .aload_n 0, 58, 0, 0, 0), (58, .iload 4, 60, 4, 0, 0), (60, .iload_n 2, 61, 2, 0, 0), (61, .invokevirtual 93, 64, 99, 1156, 0), (64, .aload_n 0, 65, 0, 0, 0)]
def mc97_1 : List (Nat × Ins) := [(65, .getfield 35, 68, 9, 8, 429), (68, .iload 5, 70, 5, 0, 0), (70, .iaload, 71, 0, 0, 0), (71, .aload_n 0, 72, 0, 0, 0), (72, .getfield 25, 75, 9, 5, 426), (75, .iload 4, 77, 4, 0, 0), (77, .iaload, 78, 0, 0, 0), (78, .ior, 79, 0, 0, 0), (79, .istore 6, 81, 6, 0, 0), (81, .iload 4, 83, 4, 0, 0), (83, .iload_n 1, 84, 1, 0, 0), (84, .iconst 1, 85, 0, 0, 0), (85, .isub, 86, 0, 0, 0), (86, .if_icmp .ne 7, 89, 93, 0, 0), (89, .iconst 1, 90, 0, 0, 0), (90, .goto 32, 93, 122, 0, 0), (93, .aload_n 0, 94, 0, 0, 0), (94, .getfield 38, 97, 9, 9, 430), (97, .getfield 99, 100, 5, 0, 331), (100, .aload_n 0, 101, 0, 0, 0), (101, .getfield 38, 104, 9, 9, 430), (104, .getfield 103, 107, 5, 1, 335), (107, .aload_n 0, 108, 0, 0, 0), (108, .getfield 28, 111, 9, 6, 427), (111, .iload_n 3, 112, 3, 0, 0), (112, .laload, 113, 0, 0, 0), (113, .aload_n 0, 114, 0, 0, 0), (114, .getfield 32, 117, 9, 7, 428), (117, .iload_n 3, 118, 3, 0, 0), (118, .laload, 119, 0, 0, 0), (119, .invokestatic 106, 122, 51, 1169, 0), (122, .istore 7, 124, 7, 0, 0), (124, .iload 7, 126, 7, 0, 0), (126, .ifCond .gt 19, 129, 145, 0, 0), (129, .iload 7, 131, 7, 0, 0), (131, .ifCond .ne 21, 134, 152, 0, 0), (134, .iload 6, 136, 6, 0, 0), (136, .aload_n 0, 137, 0, 0, 0), (137, .getfield 35, 140, 9, 8, 429), (140, .iload_n 3, 141, 3, 0, 0)]
def mc97_2 : List (Nat × Ins) := [(141, .iaload, 142, 0, 0, 0), (142, .if_icmp .ge 10, 145, 152, 0, 0), (145, .aload_n 0, 146, 0, 0, 0), (146, .iload_n 3, 147, 3, 0, 0), (147, .iload 6, 149, 6, 0, 0), (149, .invokevirtual 96, 152, 98, 1161, 0), (152, .iinc 4 1, 155, 4, 0, 0), (155, .goto (-143), 158, 12, 0, 0), (158, .return_, 159, 0, 0, 0)]
def mc97 : List (Nat × Ins) := mc97_0 ++ mc97_1 ++ mc97_2
-- 98: LikeYears$Parting.store(II)V
def mc98 : List (Nat × Ins) := [(0, .aload_n 0, 1, 0, 0, 0), (1, .getfield 28, 4, 9, 6, 427), (4, .iload_n 1, 5, 1, 0, 0), (5, .aload_n 0, 6, 0, 0, 0), (6, .getfield 38, 9, 9, 9, 430), (9, .getfield 99, 12, 5, 0, 331), (12, .lastore, 13, 0, 0, 0), (13, .aload_n 0, 14, 0, 0, 0), (14, .getfield 32, 17, 9, 7, 428), (17, .iload_n 1, 18, 1, 0, 0), (18, .aload_n 0, 19, 0, 0, 0), (19, .getfield 38, 22, 9, 9, 430), (22, .getfield 103, 25, 5, 1, 335), (25, .lastore, 26, 0, 0, 0), (26, .aload_n 0, 27, 0, 0, 0), (27, .getfield 35, 30, 9, 8, 429), (30, .iload_n 1, 31, 1, 0, 0), (31, .iload_n 2, 32, 2, 0, 0), (32, .iastore, 33, 0, 0, 0), (33, .return_, 34, 0, 0, 0)]
-- 99: LikeYears$Parting.addRun(II)V
def mc99 : List (Nat × Ins) := [(0, .lconst 0, 1, 0, 0, 0), (1, .lstore_n 3, 2, 3, 0, 0), (2, .lconst 0, 3, 0, 0, 0), (3, .lstore 5, 5, 5, 0, 0), (5, .iload_n 1, 6, 1, 0, 0), (6, .istore 7, 8, 7, 0, 0), (8, .iload 7, 10, 7, 0, 0), (10, .iload_n 2, 11, 2, 0, 0), (11, .if_icmp .ge 33, 14, 44, 0, 0), (14, .lload_n 3, 15, 3, 0, 0), (15, .aload_n 0, 16, 0, 0, 0), (16, .getfield 22, 19, 9, 4, 425), (19, .iload 7, 21, 7, 0, 0), (21, .iaload, 22, 0, 0, 0), (22, .i2l, 23, 0, 0, 0), (23, .ladd, 24, 0, 0, 0), (24, .lstore_n 3, 25, 3, 0, 0), (25, .lload 5, 27, 5, 0, 0), (27, .aload_n 0, 28, 0, 0, 0), (28, .getfield 18, 31, 9, 3, 424), (31, .iload 7, 33, 7, 0, 0), (33, .iaload, 34, 0, 0, 0), (34, .i2l, 35, 0, 0, 0), (35, .ladd, 36, 0, 0, 0), (36, .lstore 5, 38, 5, 0, 0), (38, .iinc 7 1, 41, 7, 0, 0), (41, .goto (-33), 44, 8, 0, 0), (44, .aload_n 0, 45, 0, 0, 0), (45, .getfield 38, 48, 9, 9, 430), (48, .lload_n 3, 49, 3, 0, 0), (49, .lload_n 3, 50, 3, 0, 0), (50, .lmul, 51, 0, 0, 0), (51, .lload 5, 53, 5, 0, 0), (53, .invokevirtual 73, 56, 48, 1160, 0), (56, .return_, 57, 0, 0, 0)]
-- 100: LikeYears$Tape.put(I)V
def mc100 : List (Nat × Ins) := [(0, .bipush 24, 2, 0, 0, 0), (2, .istore_n 2, 3, 2, 0, 0), (3, .iload_n 2, 4, 2, 0, 0), (4, .ifCond .lt 42, 7, 46, 0, 0), (7, .aload_n 0, 8, 0, 0, 0), (8, .getfield 30, 11, 10, 0, 39), (11, .sipush 1300, 14, 0, 0, 0), (14, .if_icmp .ge 32, 17, 46, 0, 0), (17, .aload_n 0, 18, 0, 0, 0), (18, .getfield 15, 21, 10, 6, 54), (21, .aload_n 0, 22, 0, 0, 0), (22, .getfield 30, 25, 10, 0, 39), (25, .iload_n 1, 26, 1, 0, 0), (26, .iload_n 2, 27, 2, 0, 0), (27, .ishr, 28, 0, 0, 0), (28, .i2b, 29, 0, 0, 0), (29, .bastore, 30, 0, 0, 0), (30, .aload_n 0, 31, 0, 0, 0), (31, .dup, 32, 0, 0, 0), (32, .getfield 30, 35, 10, 0, 39), (35, .iconst 1, 36, 0, 0, 0), (36, .iadd, 37, 0, 0, 0), (37, .putfield 30, 40, 10, 0, 39), (40, .iinc 2 (-8), 43, 2, 0, 0), (43, .goto (-40), 46, 3, 0, 0), (46, .return_, 47, 0, 0, 0)]
-- 101: LikeYears$Tape.open(Z)V
def mc101_0 : List (Nat × Ins) := [(0, .aload_n 0, 1, 0, 0, 0), (1, .iconst 0, 2, 0, 0, 0), (2, .putfield 33, 5, 10, 1, 40), (5, .aload_n 0, 6, 0, 0, 0), (6, .iconst (-1), 7, 0, 0, 0), (7, .putfield 9, 10, 10, 2, 43), (10, .aload_n 0, 11, 0, 0, 0), (11, .iconst 0, 12, 0, 0, 0), (12, .putfield 36, 15, 10, 10, 58), (15, .iconst 0, 16, 0, 0, 0), (16, .istore_n 2, 17, 2, 0, 0), (17, .iconst 0, 18, 0, 0, 0), (18, .istore_n 3, 19, 3, 0, 0), (19, .iload_n 3, 20, 3, 0, 0), (20, .sipush 1300, 23, 0, 0, 0), (23, .if_icmp .ge 64, 26, 87, 0, 0), (26, .iload_n 2, 27, 2, 0, 0), (27, .aload_n 0, 28, 0, 0, 0), (28, .getfield 30, 31, 10, 0, 39), (31, .if_icmp .ge 56, 34, 87, 0, 0), (34, .aload_n 0, 35, 0, 0, 0), (35, .getfield 15, 38, 10, 6, 54), (38, .iload_n 2, 39, 2, 0, 0), (39, .baload, 40, 0, 0, 0), (40, .bipush 32, 42, 0, 0, 0), (42, .if_icmp .eq 14, 45, 56, 0, 0), (45, .aload_n 0, 46, 0, 0, 0), (46, .getfield 15, 49, 10, 6, 54), (49, .iload_n 2, 50, 2, 0, 0), (50, .baload, 51, 0, 0, 0), (51, .bipush 10, 53, 0, 0, 0), (53, .if_icmp .ne 7, 56, 60, 0, 0), (56, .iconst 1, 57, 0, 0, 0), (57, .goto 4, 60, 61, 0, 0), (60, .iconst 0, 61, 0, 0, 0), (61, .istore 4, 63, 4, 0, 0), (63, .iload 4, 65, 4, 0, 0), (65, .ifCond .eq 9, 68, 74, 0, 0), (68, .iload_n 2, 69, 2, 0, 0), (69, .iconst 1, 70, 0, 0, 0)]
def mc101_1 : List (Nat × Ins) := [(70, .iadd, 71, 0, 0, 0), (71, .goto 9, 74, 80, 0, 0), (74, .aload_n 0, 75, 0, 0, 0), (75, .iload_n 2, 76, 2, 0, 0), (76, .iload_n 1, 77, 1, 0, 0), (77, .invokevirtual 39, 80, 104, 540, 0), (80, .istore_n 2, 81, 2, 0, 0), (81, .iinc 3 1, 84, 3, 0, 0), (84, .goto (-65), 87, 19, 0, 0), (87, .aload_n 0, 88, 0, 0, 0), (88, .iconst 0, 89, 0, 0, 0), (89, .aload_n 0, 90, 0, 0, 0), (90, .getfield 30, 93, 10, 0, 39), (93, .lconst 0, 94, 0, 0, 0), (94, .invokevirtual 43, 97, 103, 551, 0), (97, .aload_n 0, 98, 0, 0, 0), (98, .iconst (-1), 99, 0, 0, 0), (99, .putfield 47, 102, 10, 11, 59), (102, .aload_n 0, 103, 0, 0, 0), (103, .invokevirtual 50, 106, 102, 651, 0), (106, .return_, 107, 0, 0, 0)]
def mc101 : List (Nat × Ins) := mc101_0 ++ mc101_1
-- 102: LikeYears$Tape.next()V
def mc102 : List (Nat × Ins) := [(0, .aload_n 0, 1, 0, 0, 0), (1, .getfield 47, 4, 10, 11, 59), (4, .aload_n 0, 5, 0, 0, 0), (5, .getfield 36, 8, 10, 10, 58), (8, .iconst 1, 9, 0, 0, 0), (9, .isub, 10, 0, 0, 0), (10, .if_icmp .ge 13, 13, 23, 0, 0), (13, .aload_n 0, 14, 0, 0, 0), (14, .dup, 15, 0, 0, 0), (15, .getfield 47, 18, 10, 11, 59), (18, .iconst 1, 19, 0, 0, 0), (19, .iadd, 20, 0, 0, 0), (20, .putfield 47, 23, 10, 11, 59), (23, .aload_n 0, 24, 0, 0, 0), (24, .aload_n 0, 25, 0, 0, 0), (25, .getfield 19, 28, 10, 7, 55), (28, .aload_n 0, 29, 0, 0, 0), (29, .getfield 47, 32, 10, 11, 59), (32, .iaload, 33, 0, 0, 0), (33, .putfield 53, 36, 10, 3, 48), (36, .aload_n 0, 37, 0, 0, 0), (37, .aload_n 0, 38, 0, 0, 0), (38, .getfield 23, 41, 10, 8, 56), (41, .aload_n 0, 42, 0, 0, 0), (42, .getfield 47, 45, 10, 11, 59), (45, .iaload, 46, 0, 0, 0), (46, .putfield 56, 49, 10, 4, 49), (49, .aload_n 0, 50, 0, 0, 0), (50, .aload_n 0, 51, 0, 0, 0), (51, .getfield 26, 54, 10, 9, 57), (54, .aload_n 0, 55, 0, 0, 0), (55, .getfield 47, 58, 10, 11, 59), (58, .laload, 59, 0, 0, 0), (59, .putfield 59, 62, 10, 5, 51), (62, .return_, 63, 0, 0, 0)]
-- 103: LikeYears$Tape.note(IIJ)V
def mc103 : List (Nat × Ins) := [(0, .aload_n 0, 1, 0, 0, 0), (1, .getfield 36, 4, 10, 10, 58), (4, .sipush 1300, 7, 0, 0, 0), (7, .if_icmp .gt 43, 10, 50, 0, 0), (10, .aload_n 0, 11, 0, 0, 0), (11, .getfield 19, 14, 10, 7, 55), (14, .aload_n 0, 15, 0, 0, 0), (15, .getfield 36, 18, 10, 10, 58), (18, .iload_n 1, 19, 1, 0, 0), (19, .iastore, 20, 0, 0, 0), (20, .aload_n 0, 21, 0, 0, 0), (21, .getfield 23, 24, 10, 8, 56), (24, .aload_n 0, 25, 0, 0, 0), (25, .getfield 36, 28, 10, 10, 58), (28, .iload_n 2, 29, 2, 0, 0), (29, .iastore, 30, 0, 0, 0), (30, .aload_n 0, 31, 0, 0, 0), (31, .getfield 26, 34, 10, 9, 57), (34, .aload_n 0, 35, 0, 0, 0), (35, .getfield 36, 38, 10, 10, 58), (38, .lload_n 3, 39, 3, 0, 0), (39, .lastore, 40, 0, 0, 0), (40, .aload_n 0, 41, 0, 0, 0), (41, .dup, 42, 0, 0, 0), (42, .getfield 36, 45, 10, 10, 58), (45, .iconst 1, 46, 0, 0, 0), (46, .iadd, 47, 0, 0, 0), (47, .putfield 36, 50, 10, 10, 58), (50, .return_, 51, 0, 0, 0)]
-- 104: LikeYears$Tape.scanToken(IZ)I
def mc104_0 : List (Nat × Ins) := [(0, .aload_n 0, 1, 0, 0, 0), (1, .getfield 15, 4, 10, 6, 54), (4, .iload_n 1, 5, 1, 0, 0), (5, .baload, 6, 0, 0, 0), (6, .invokestatic 63, 9, 105, 544, 0), (9, .ifCond .eq 9, 12, 18, 0, 0), (12, .aload_n 0, 13, 0, 0, 0), (13, .iload_n 1, 14, 1, 0, 0), (14, .invokevirtual 67, 17, 107, 547, 0), (17, .ireturn, 18, 0, 0, 0), (18, .aload_n 0, 19, 0, 0, 0), (19, .getfield 15, 22, 10, 6, 54), (22, .iload_n 1, 23, 1, 0, 0), (23, .baload, 24, 0, 0, 0), (24, .invokestatic 71, 27, 106, 555, 0), (27, .ifCond .eq 9, 30, 36, 0, 0), (30, .aload_n 0, 31, 0, 0, 0), (31, .iload_n 1, 32, 1, 0, 0), (32, .invokevirtual 74, 35, 108, 558, 0), (35, .ireturn, 36, 0, 0, 0), (36, .aload_n 0, 37, 0, 0, 0), (37, .getfield 15, 40, 10, 6, 54), (40, .iload_n 1, 41, 1, 0, 0), (41, .baload, 42, 0, 0, 0), (42, .sipush 255, 45, 0, 0, 0), (45, .iand, 46, 0, 0, 0), (46, .i2c, 47, 0, 0, 0), (47, .istore_n 3, 48, 3, 0, 0), (48, .iload_n 3, 49, 3, 0, 0), (49, .bipush 59, 51, 0, 0, 0), (51, .if_icmp .eq 16, 54, 67, 0, 0), (54, .iload_n 2, 55, 2, 0, 0), (55, .ifCond .eq 16, 58, 71, 0, 0), (58, .ldc 77, 60, 1002, 564, 0), (60, .iload_n 3, 61, 3, 0, 0), (61, .invokevirtual 79, 64, 9001, 565, 0), (64, .ifCond .lt 7, 67, 71, 0, 0), (67, .iconst 1, 68, 0, 0, 0), (68, .goto 4, 71, 72, 0, 0), (71, .iconst 0, 72, 0, 0, 0)]
def mc104_1 : List (Nat × Ins) := [(72, .istore 4, 74, 4, 0, 0), (74, .aload_n 0, 75, 0, 0, 0), (75, .iload 4, 77, 4, 0, 0), (77, .ifCond .eq 7, 80, 84, 0, 0), (80, .iconst 3, 81, 0, 0, 0), (81, .goto 4, 84, 85, 0, 0), (84, .iconst 4, 85, 0, 0, 0), (85, .iload_n 1, 86, 1, 0, 0), (86, .iload_n 3, 87, 3, 0, 0), (87, .i2l, 88, 0, 0, 0), (88, .invokevirtual 43, 91, 103, 551, 0), (91, .iload_n 1, 92, 1, 0, 0), (92, .iconst 1, 93, 0, 0, 0), (93, .iadd, 94, 0, 0, 0), (94, .ireturn, 95, 0, 0, 0)]
def mc104 : List (Nat × Ins) := mc104_0 ++ mc104_1
-- 105: LikeYears$Tape.isLetter(I)Z
def mc105 : List (Nat × Ins) := [(0, .iload_n 0, 1, 0, 0, 0), (1, .bipush 97, 3, 0, 0, 0), (3, .if_icmp .lt 13, 6, 16, 0, 0), (6, .iload_n 0, 7, 0, 0, 0), (7, .bipush 122, 9, 0, 0, 0), (9, .if_icmp .gt 7, 12, 16, 0, 0), (12, .iconst 1, 13, 0, 0, 0), (13, .goto 4, 16, 17, 0, 0), (16, .iconst 0, 17, 0, 0, 0), (17, .ireturn, 18, 0, 0, 0)]
-- 106: LikeYears$Tape.isDigit(I)Z
def mc106 : List (Nat × Ins) := [(0, .iload_n 0, 1, 0, 0, 0), (1, .bipush 48, 3, 0, 0, 0), (3, .if_icmp .lt 13, 6, 16, 0, 0), (6, .iload_n 0, 7, 0, 0, 0), (7, .bipush 57, 9, 0, 0, 0), (9, .if_icmp .gt 7, 12, 16, 0, 0), (12, .iconst 1, 13, 0, 0, 0), (13, .goto 4, 16, 17, 0, 0), (16, .iconst 0, 17, 0, 0, 0), (17, .ireturn, 18, 0, 0, 0)]
-- 107: LikeYears$Tape.scanWord(I)I
def mc107 : List (Nat × Ins) := [(0, .lconst 0, 1, 0, 0, 0), (1, .lstore_n 2, 2, 2, 0, 0), (2, .iload_n 1, 3, 1, 0, 0), (3, .istore 4, 5, 4, 0, 0), (5, .iload 4, 7, 4, 0, 0), (7, .aload_n 0, 8, 0, 0, 0), (8, .getfield 30, 11, 10, 0, 39), (11, .if_icmp .ge 36, 14, 47, 0, 0), (14, .aload_n 0, 15, 0, 0, 0), (15, .getfield 15, 18, 10, 6, 54), (18, .iload 4, 20, 4, 0, 0), (20, .baload, 21, 0, 0, 0), (21, .invokestatic 63, 24, 105, 544, 0), (24, .ifCond .eq 23, 27, 47, 0, 0), (27, .lload_n 2, 28, 2, 0, 0), (28, .bipush 8, 30, 0, 0, 0), (30, .lshl, 31, 0, 0, 0), (31, .aload_n 0, 32, 0, 0, 0), (32, .getfield 15, 35, 10, 6, 54), (35, .iload 4, 37, 4, 0, 0), (37, .baload, 38, 0, 0, 0), (38, .i2l, 39, 0, 0, 0), (39, .lor, 40, 0, 0, 0), (40, .lstore_n 2, 41, 2, 0, 0), (41, .iinc 4 1, 44, 4, 0, 0), (44, .goto (-39), 47, 5, 0, 0), (47, .aload_n 0, 48, 0, 0, 0), (48, .iload 4, 50, 4, 0, 0), (50, .iload_n 1, 51, 1, 0, 0), (51, .isub, 52, 0, 0, 0), (52, .bipush 8, 54, 0, 0, 0), (54, .if_icmp .le 7, 57, 61, 0, 0), (57, .iconst 4, 58, 0, 0, 0), (58, .goto 4, 61, 62, 0, 0), (61, .iconst 1, 62, 0, 0, 0), (62, .iload_n 1, 63, 1, 0, 0), (63, .lload_n 2, 64, 2, 0, 0), (64, .invokevirtual 43, 67, 103, 551, 0), (67, .iload 4, 69, 4, 0, 0), (69, .ireturn, 70, 0, 0, 0)]
-- 108: LikeYears$Tape.scanNumber(I)I
def mc108_0 : List (Nat × Ins) := [(0, .lconst 0, 1, 0, 0, 0), (1, .lstore_n 2, 2, 2, 0, 0), (2, .iload_n 1, 3, 1, 0, 0), (3, .istore 4, 5, 4, 0, 0), (5, .iload 4, 7, 4, 0, 0), (7, .aload_n 0, 8, 0, 0, 0), (8, .getfield 30, 11, 10, 0, 39), (11, .if_icmp .ge 41, 14, 52, 0, 0), (14, .aload_n 0, 15, 0, 0, 0), (15, .getfield 15, 18, 10, 6, 54), (18, .iload 4, 20, 4, 0, 0), (20, .baload, 21, 0, 0, 0), (21, .invokestatic 71, 24, 106, 555, 0), (24, .ifCond .eq 28, 27, 52, 0, 0), (27, .lload_n 2, 28, 2, 0, 0), (28, .ldc2_w 84, 31, 0, 562, 10), (31, .lmul, 32, 0, 0, 0), (32, .aload_n 0, 33, 0, 0, 0), (33, .getfield 15, 36, 10, 6, 54), (36, .iload 4, 38, 4, 0, 0), (38, .baload, 39, 0, 0, 0), (39, .i2l, 40, 0, 0, 0), (40, .ladd, 41, 0, 0, 0), (41, .ldc2_w 86, 44, 0, 563, 48), (44, .lsub, 45, 0, 0, 0), (45, .lstore_n 2, 46, 2, 0, 0), (46, .iinc 4 1, 49, 4, 0, 0), (49, .goto (-44), 52, 5, 0, 0), (52, .iload 4, 54, 4, 0, 0), (54, .aload_n 0, 55, 0, 0, 0), (55, .getfield 30, 58, 10, 0, 39), (58, .if_icmp .ge 20, 61, 78, 0, 0), (61, .aload_n 0, 62, 0, 0, 0), (62, .getfield 15, 65, 10, 6, 54), (65, .iload 4, 67, 4, 0, 0), (67, .baload, 68, 0, 0, 0), (68, .invokestatic 63, 71, 105, 544, 0), (71, .ifCond .eq 7, 74, 78, 0, 0), (74, .iconst 1, 75, 0, 0, 0), (75, .goto 4, 78, 79, 0, 0)]
def mc108_1 : List (Nat × Ins) := [(78, .iconst 0, 79, 0, 0, 0), (79, .istore 5, 81, 5, 0, 0), (81, .aload_n 0, 82, 0, 0, 0), (82, .iload 4, 84, 4, 0, 0), (84, .iload_n 1, 85, 1, 0, 0), (85, .isub, 86, 0, 0, 0), (86, .iconst 4, 87, 0, 0, 0), (87, .if_icmp .gt 8, 90, 95, 0, 0), (90, .iload 5, 92, 5, 0, 0), (92, .ifCond .eq 7, 95, 99, 0, 0), (95, .iconst 4, 96, 0, 0, 0), (96, .goto 4, 99, 100, 0, 0), (99, .iconst 2, 100, 0, 0, 0), (100, .iload_n 1, 101, 1, 0, 0), (101, .lload_n 2, 102, 2, 0, 0), (102, .invokevirtual 43, 105, 103, 551, 0), (105, .iload 4, 107, 4, 0, 0), (107, .ireturn, 108, 0, 0, 0)]
def mc108 : List (Nat × Ins) := mc108_0 ++ mc108_1
-- 109: LikeYears$Tape.refuse(I)Z
def mc109 : List (Nat × Ins) := [(0, .aload_n 0, 1, 0, 0, 0), (1, .aload_n 0, 2, 0, 0, 0), (2, .getfield 53, 5, 10, 3, 48), (5, .iconst 4, 6, 0, 0, 0), (6, .if_icmp .ne 7, 9, 13, 0, 0), (9, .iconst 1, 10, 0, 0, 0), (10, .goto 4, 13, 14, 0, 0), (13, .iload_n 1, 14, 1, 0, 0), (14, .putfield 33, 17, 10, 1, 40), (17, .aload_n 0, 18, 0, 0, 0), (18, .aload_n 0, 19, 0, 0, 0), (19, .getfield 56, 22, 10, 4, 49), (22, .putfield 9, 25, 10, 2, 43), (25, .iconst 0, 26, 0, 0, 0), (26, .ireturn, 27, 0, 0, 0)]
-- 110: LikeYears$Tape.isWord(J)Z
def mc110 : List (Nat × Ins) := [(0, .aload_n 0, 1, 0, 0, 0), (1, .getfield 53, 4, 10, 3, 48), (4, .iconst 1, 5, 0, 0, 0), (5, .if_icmp .ne 16, 8, 21, 0, 0), (8, .aload_n 0, 9, 0, 0, 0), (9, .getfield 59, 12, 10, 5, 51), (12, .lload_n 1, 13, 1, 0, 0), (13, .lcmp, 14, 0, 0, 0), (14, .ifCond .ne 7, 17, 21, 0, 0), (17, .iconst 1, 18, 0, 0, 0), (18, .goto 4, 21, 22, 0, 0), (21, .iconst 0, 22, 0, 0, 0), (22, .ireturn, 23, 0, 0, 0)]
-- 111: LikeYears$Tape.isSign(C)Z
def mc111 : List (Nat × Ins) := [(0, .aload_n 0, 1, 0, 0, 0), (1, .getfield 53, 4, 10, 3, 48), (4, .iconst 3, 5, 0, 0, 0), (5, .if_icmp .ne 17, 8, 22, 0, 0), (8, .aload_n 0, 9, 0, 0, 0), (9, .getfield 59, 12, 10, 5, 51), (12, .iload_n 1, 13, 1, 0, 0), (13, .i2l, 14, 0, 0, 0), (14, .lcmp, 15, 0, 0, 0), (15, .ifCond .ne 7, 18, 22, 0, 0), (18, .iconst 1, 19, 0, 0, 0), (19, .goto 4, 22, 23, 0, 0), (22, .iconst 0, 23, 0, 0, 0), (23, .ireturn, 24, 0, 0, 0)]
-- 112: LikeYears$Tape.isName()Z
def mc112 : List (Nat × Ins) := [(0, .aload_n 0, 1, 0, 0, 0), (1, .getfield 53, 4, 10, 3, 48), (4, .iconst 1, 5, 0, 0, 0), (5, .if_icmp .ne 7, 8, 12, 0, 0), (8, .iconst 1, 9, 0, 0, 0), (9, .goto 4, 12, 13, 0, 0), (12, .iconst 0, 13, 0, 0, 0), (13, .istore_n 1, 14, 1, 0, 0), (14, .iconst 0, 15, 0, 0, 0), (15, .istore_n 2, 16, 2, 0, 0), (16, .iload_n 2, 17, 2, 0, 0), (17, .getstatic 88, 20, 1001, 681, 0), (20, .arraylength, 21, 0, 0, 0), (21, .if_icmp .ge 32, 24, 53, 0, 0), (24, .iload_n 1, 25, 1, 0, 0), (25, .ifCond .eq 28, 28, 53, 0, 0), (28, .aload_n 0, 29, 0, 0, 0), (29, .getfield 59, 32, 10, 5, 51), (32, .getstatic 88, 35, 1001, 681, 0), (35, .iload_n 2, 36, 2, 0, 0), (36, .laload, 37, 0, 0, 0), (37, .lcmp, 38, 0, 0, 0), (38, .ifCond .eq 7, 41, 45, 0, 0), (41, .iconst 1, 42, 0, 0, 0), (42, .goto 4, 45, 46, 0, 0), (45, .iconst 0, 46, 0, 0, 0), (46, .istore_n 1, 47, 1, 0, 0), (47, .iinc 2 1, 50, 2, 0, 0), (50, .goto (-34), 53, 16, 0, 0), (53, .iload_n 1, 54, 1, 0, 0), (54, .ireturn, 55, 0, 0, 0)]
-- 113: LikeYears$Tape.passWord(J)Z
def mc113 : List (Nat × Ins) := [(0, .aload_n 0, 1, 0, 0, 0), (1, .lload_n 1, 2, 1, 0, 0), (2, .invokevirtual 91, 5, 110, 700, 0), (5, .ifCond .ne 9, 8, 14, 0, 0), (8, .aload_n 0, 9, 0, 0, 0), (9, .iconst 2, 10, 0, 0, 0), (10, .invokevirtual 95, 13, 109, 701, 0), (13, .ireturn, 14, 0, 0, 0), (14, .aload_n 0, 15, 0, 0, 0), (15, .invokevirtual 50, 18, 102, 651, 0), (18, .iconst 1, 19, 0, 0, 0), (19, .ireturn, 20, 0, 0, 0)]
-- 114: LikeYears$Tape.passSign(C)Z
def mc114 : List (Nat × Ins) := [(0, .aload_n 0, 1, 0, 0, 0), (1, .iload_n 1, 2, 1, 0, 0), (2, .invokevirtual 98, 5, 111, 710, 0), (5, .ifCond .ne 9, 8, 14, 0, 0), (8, .aload_n 0, 9, 0, 0, 0), (9, .iconst 2, 10, 0, 0, 0), (10, .invokevirtual 95, 13, 109, 701, 0), (13, .ireturn, 14, 0, 0, 0), (14, .aload_n 0, 15, 0, 0, 0), (15, .invokevirtual 50, 18, 102, 651, 0), (18, .iconst 1, 19, 0, 0, 0), (19, .ireturn, 20, 0, 0, 0)]
-- 115: LikeYears$Tape.passNumber(II)I
def mc115 : List (Nat × Ins) := [(0, .aload_n 0, 1, 0, 0, 0), (1, .getfield 53, 4, 10, 3, 48), (4, .iconst 2, 5, 0, 0, 0), (5, .if_icmp .eq 11, 8, 16, 0, 0), (8, .aload_n 0, 9, 0, 0, 0), (9, .iconst 2, 10, 0, 0, 0), (10, .invokevirtual 95, 13, 109, 701, 0), (13, .pop, 14, 0, 0, 0), (14, .iconst (-1), 15, 0, 0, 0), (15, .ireturn, 16, 0, 0, 0), (16, .aload_n 0, 17, 0, 0, 0), (17, .getfield 59, 20, 10, 5, 51), (20, .l2i, 21, 0, 0, 0), (21, .istore_n 3, 22, 3, 0, 0), (22, .iload_n 3, 23, 3, 0, 0), (23, .iload_n 1, 24, 1, 0, 0), (24, .if_icmp .lt 8, 27, 32, 0, 0), (27, .iload_n 3, 28, 3, 0, 0), (28, .iload_n 2, 29, 2, 0, 0), (29, .if_icmp .le 11, 32, 40, 0, 0), (32, .aload_n 0, 33, 0, 0, 0), (33, .iconst 4, 34, 0, 0, 0), (34, .invokevirtual 95, 37, 109, 701, 0), (37, .pop, 38, 0, 0, 0), (38, .iconst (-1), 39, 0, 0, 0), (39, .ireturn, 40, 0, 0, 0), (40, .aload_n 0, 41, 0, 0, 0), (41, .invokevirtual 50, 44, 102, 651, 0), (44, .iload_n 3, 45, 3, 0, 0), (45, .ireturn, 46, 0, 0, 0)]
-- 116: LikeYears$Tape.passNumberOf(JII)I
def mc116 : List (Nat × Ins) := [(0, .aload_n 0, 1, 0, 0, 0), (1, .lload_n 1, 2, 1, 0, 0), (2, .invokevirtual 102, 5, 113, 696, 0), (5, .ifCond .eq 13, 8, 18, 0, 0), (8, .aload_n 0, 9, 0, 0, 0), (9, .iload_n 3, 10, 3, 0, 0), (10, .iload 4, 12, 4, 0, 0), (12, .invokevirtual 105, 15, 115, 702, 0), (15, .goto 4, 18, 19, 0, 0), (18, .iconst (-1), 19, 0, 0, 0), (19, .ireturn, 20, 0, 0, 0)]
-- 117: LikeYears.feed(IIIII)I
def mc117 : List (Nat × Ins) := [(0, .aload_n 0, 1, 0, 0, 0), (1, .getfield 12, 4, 11, 0, 454), (4, .getfield 108, 7, 10, 0, 38), (7, .bipush 20, 9, 0, 0, 0), (9, .iadd, 10, 0, 0, 0), (10, .sipush 1300, 13, 0, 0, 0), (13, .if_icmp .le 5, 16, 18, 0, 0), (16, .iconst (-1), 17, 0, 0, 0), (17, .ireturn, 18, 0, 0, 0), (18, .aload_n 0, 19, 0, 0, 0), (19, .getfield 12, 22, 11, 0, 454), (22, .iload_n 1, 23, 1, 0, 0), (23, .invokevirtual 112, 26, 100, 513, 0), (26, .aload_n 0, 27, 0, 0, 0), (27, .getfield 12, 30, 11, 0, 454), (30, .iload_n 2, 31, 2, 0, 0), (31, .invokevirtual 112, 34, 100, 513, 0), (34, .aload_n 0, 35, 0, 0, 0), (35, .getfield 12, 38, 11, 0, 454), (38, .iload_n 3, 39, 3, 0, 0), (39, .invokevirtual 112, 42, 100, 513, 0), (42, .aload_n 0, 43, 0, 0, 0), (43, .getfield 12, 46, 11, 0, 454), (46, .iload 4, 48, 4, 0, 0), (48, .invokevirtual 112, 51, 100, 513, 0), (51, .aload_n 0, 52, 0, 0, 0), (52, .getfield 12, 55, 11, 0, 454), (55, .iload 5, 57, 5, 0, 0), (57, .invokevirtual 112, 60, 100, 513, 0), (60, .aload_n 0, 61, 0, 0, 0), (61, .getfield 12, 64, 11, 0, 454), (64, .getfield 108, 67, 10, 0, 38), (67, .ireturn, 68, 0, 0, 0)]
-- 118: LikeYears.end(I)I
def mc118 : List (Nat × Ins) := [(0, .iload_n 1, 1, 1, 0, 0), (1, .ifCond .lt 14, 4, 15, 0, 0), (4, .iload_n 1, 5, 1, 0, 0), (5, .aload_n 0, 6, 0, 0, 0), (6, .getfield 12, 9, 11, 0, 454), (9, .getfield 108, 12, 10, 0, 38), (12, .if_icmp .le 5, 15, 17, 0, 0), (15, .iconst (-1), 16, 0, 0, 0), (16, .ireturn, 17, 0, 0, 0), (17, .aload_n 0, 18, 0, 0, 0), (18, .getfield 12, 21, 11, 0, 454), (21, .iload_n 1, 22, 1, 0, 0), (22, .putfield 108, 25, 10, 0, 38), (25, .iload_n 1, 26, 1, 0, 0), (26, .ireturn, 27, 0, 0, 0)]
-- 119: LikeYears.book()I
def mc119_0 : List (Nat × Ins) := [(0, .aload_n 0, 1, 0, 0, 0), (1, .getfield 28, 4, 11, 1, 455), (4, .aload_n 0, 5, 0, 0, 0), (5, .getfield 39, 8, 11, 3, 457), (8, .invokevirtual 116, 11, 20, 525, 0), (11, .istore_n 1, 12, 1, 0, 0), (12, .aload_n 0, 13, 0, 0, 0), (13, .getfield 12, 16, 11, 0, 454), (16, .iconst 0, 17, 0, 0, 0), (17, .putfield 108, 20, 10, 0, 38), (20, .iload_n 1, 21, 1, 0, 0), (21, .ifCond .ne 5, 24, 26, 0, 0), (24, .iconst (-1), 25, 0, 0, 0), (25, .ireturn, 26, 0, 0, 0), (26, .aload_n 0, 27, 0, 0, 0), (27, .getfield 35, 30, 11, 2, 456), (30, .astore_n 2, 31, 2, 0, 0), (31, .aload_n 0, 32, 0, 0, 0), (32, .aload_n 0, 33, 0, 0, 0), (33, .getfield 39, 36, 11, 3, 457), (36, .putfield 35, 39, 11, 2, 456), (39, .aload_n 0, 40, 0, 0, 0), (40, .aload_n 2, 41, 2, 0, 0), (41, .putfield 39, 44, 11, 3, 457), (44, .aload_n 0, 45, 0, 0, 0), (45, .getfield 47, 48, 11, 4, 458), (48, .iconst 0, 49, 0, 0, 0), (49, .putfield 120, 52, 6, 2, 217), (52, .aload_n 0, 53, 0, 0, 0), (53, .getfield 65, 56, 11, 8, 462), (56, .invokevirtual 123, 59, 0, 802, 0), (59, .aload_n 0, 60, 0, 0, 0), (60, .getfield 58, 63, 11, 7, 461), (63, .iconst 0, 64, 0, 0, 0), (64, .invokestatic 126, 67, 293, 806, 0), (67, .aload_n 0, 68, 0, 0, 0), (68, .iconst 0, 69, 0, 0, 0), (69, .putfield 132, 72, 11, 17, 471), (72, .aload_n 0, 73, 0, 0, 0), (73, .getfield 28, 76, 11, 1, 455)]
def mc119_1 : List (Nat × Ins) := [(76, .getfield 135, 79, 2, 5, 114), (79, .ireturn, 80, 0, 0, 0)]
def mc119 : List (Nat × Ins) := mc119_0 ++ mc119_1
-- 120: LikeYears.laws()I
def mc120 : List (Nat × Ins) := [(0, .aload_n 0, 1, 0, 0, 0), (1, .getfield 12, 4, 11, 0, 454), (4, .getfield 108, 7, 10, 0, 38), (7, .sipush 500, 10, 0, 0, 0), (10, .if_icmp .le 6, 13, 16, 0, 0), (13, .bipush (-2), 15, 0, 0, 0), (15, .ireturn, 16, 0, 0, 0), (16, .aload_n 0, 17, 0, 0, 0), (17, .getfield 51, 20, 11, 5, 459), (20, .aload_n 0, 21, 0, 0, 0), (21, .getfield 35, 24, 11, 2, 456), (24, .invokevirtual 136, 27, 52, 813, 0), (27, .istore_n 1, 28, 1, 0, 0), (28, .aload_n 0, 29, 0, 0, 0), (29, .getfield 12, 32, 11, 0, 454), (32, .iconst 0, 33, 0, 0, 0), (33, .putfield 108, 36, 10, 0, 38), (36, .iload_n 1, 37, 1, 0, 0), (37, .ifCond .ne 5, 40, 42, 0, 0), (40, .iconst (-1), 41, 0, 0, 0), (41, .ireturn, 42, 0, 0, 0), (42, .aload_n 0, 43, 0, 0, 0), (43, .getfield 47, 46, 11, 4, 458), (46, .astore_n 2, 47, 2, 0, 0), (47, .aload_n 0, 48, 0, 0, 0), (48, .aload_n 0, 49, 0, 0, 0), (49, .getfield 51, 52, 11, 5, 459), (52, .putfield 47, 55, 11, 4, 458), (55, .aload_n 0, 56, 0, 0, 0), (56, .aload_n 2, 57, 2, 0, 0), (57, .putfield 51, 60, 11, 5, 459), (60, .aload_n 0, 61, 0, 0, 0), (61, .getfield 47, 64, 11, 4, 458), (64, .getfield 120, 67, 6, 2, 217), (67, .ireturn, 68, 0, 0, 0)]
-- 121: LikeYears.fault(I)I
def mc121 : List (Nat × Ins) := [(0, .iload_n 1, 1, 1, 0, 0), (1, .ifCond .ne 11, 4, 12, 0, 0), (4, .aload_n 0, 5, 0, 0, 0), (5, .getfield 12, 8, 11, 0, 454), (8, .getfield 137, 11, 10, 1, 41), (11, .ireturn, 12, 0, 0, 0), (12, .iload_n 1, 13, 1, 0, 0), (13, .iconst 1, 14, 0, 0, 0), (14, .if_icmp .ne 13, 17, 27, 0, 0), (17, .aload_n 0, 18, 0, 0, 0), (18, .getfield 12, 21, 11, 0, 454), (21, .getfield 140, 24, 10, 2, 44), (24, .goto 4, 27, 28, 0, 0), (27, .iconst (-1), 28, 0, 0, 0), (28, .ireturn, 29, 0, 0, 0)]
-- 122: LikeYears.worse(II)I
def mc122 : List (Nat × Ins) := [(0, .aload_n 0, 1, 0, 0, 0), (1, .getfield 35, 4, 11, 2, 456), (4, .iload_n 1, 5, 1, 0, 0), (5, .invokevirtual 143, 8, 12, 877, 0), (8, .ifCond .eq 14, 11, 22, 0, 0), (11, .aload_n 0, 12, 0, 0, 0), (12, .getfield 35, 15, 11, 2, 456), (15, .iload_n 2, 16, 2, 0, 0), (16, .invokevirtual 143, 19, 12, 877, 0), (19, .ifCond .ne 5, 22, 24, 0, 0), (22, .iconst (-1), 23, 0, 0, 0), (23, .ireturn, 24, 0, 0, 0), (24, .aload_n 0, 25, 0, 0, 0), (25, .invokevirtual 147, 28, 160, 881, 0), (28, .astore_n 3, 29, 3, 0, 0), (29, .aload_n 3, 30, 3, 0, 0), (30, .iload_n 1, 31, 1, 0, 0), (31, .iload_n 2, 32, 2, 0, 0), (32, .invokevirtual 151, 35, 79, 887, 0), (35, .ifCond .ne 5, 38, 40, 0, 0), (38, .iconst 0, 39, 0, 0, 0), (39, .ireturn, 40, 0, 0, 0), (40, .aload_n 3, 41, 3, 0, 0), (41, .iload_n 2, 42, 2, 0, 0), (42, .iload_n 1, 43, 1, 0, 0), (43, .invokevirtual 151, 46, 79, 887, 0), (46, .ifCond .eq 7, 49, 53, 0, 0), (49, .iconst 2, 50, 0, 0, 0), (50, .goto 4, 53, 54, 0, 0), (53, .iconst 1, 54, 0, 0, 0), (54, .ireturn, 55, 0, 0, 0)]
-- 123: LikeYears.clash(I)I
def mc123 : List (Nat × Ins) := [(0, .aload_n 0, 1, 0, 0, 0), (1, .invokevirtual 147, 4, 160, 881, 0), (4, .astore_n 2, 5, 2, 0, 0), (5, .iload_n 1, 6, 1, 0, 0), (6, .tableswitch 54 0 2 #[26, 36, 45], 32, 0, 0, 0), (32, .aload_n 2, 33, 2, 0, 0), (33, .aload_n 0, 34, 0, 0, 0), (34, .getfield 35, 37, 11, 2, 456), (37, .iconst 0, 38, 0, 0, 0), (38, .invokevirtual 155, 41, 83, 892, 0), (41, .ireturn, 42, 0, 0, 0), (42, .aload_n 2, 43, 2, 0, 0), (43, .aload_n 0, 44, 0, 0, 0), (44, .getfield 35, 47, 11, 2, 456), (47, .invokevirtual 159, 50, 84, 900, 0), (50, .ireturn, 51, 0, 0, 0), (51, .aload_n 2, 52, 2, 0, 0), (52, .aload_n 0, 53, 0, 0, 0), (53, .getfield 35, 56, 11, 2, 456), (56, .invokevirtual 163, 59, 85, 908, 0), (59, .ireturn, 60, 0, 0, 0), (60, .iconst (-1), 61, 0, 0, 0), (61, .ireturn, 62, 0, 0, 0)]
-- 124: LikeYears.oddest(I)I
def mc124 : List (Nat × Ins) := [(0, .iload_n 1, 1, 1, 0, 0), (1, .ifCond .lt 8, 4, 9, 0, 0), (4, .iload_n 1, 5, 1, 0, 0), (5, .iconst 2, 6, 0, 0, 0), (6, .if_icmp .le 5, 9, 11, 0, 0), (9, .iconst (-1), 10, 0, 0, 0), (10, .ireturn, 11, 0, 0, 0), (11, .aload_n 0, 12, 0, 0, 0), (12, .invokevirtual 147, 15, 160, 881, 0), (15, .astore_n 2, 16, 2, 0, 0), (16, .aload_n 2, 17, 2, 0, 0), (17, .aload_n 0, 18, 0, 0, 0), (18, .getfield 35, 21, 11, 2, 456), (21, .invokevirtual 166, 24, 86, 917, 0), (24, .istore_n 3, 25, 3, 0, 0), (25, .iload_n 3, 26, 3, 0, 0), (26, .ifCond .lt 7, 29, 33, 0, 0), (29, .iload_n 1, 30, 1, 0, 0), (30, .ifCond .ne 5, 33, 35, 0, 0), (33, .iload_n 3, 34, 3, 0, 0), (34, .ireturn, 35, 0, 0, 0), (35, .iload_n 1, 36, 1, 0, 0), (36, .iconst 1, 37, 0, 0, 0), (37, .if_icmp .ne 18, 40, 55, 0, 0), (40, .aload_n 2, 41, 2, 0, 0), (41, .aload_n 0, 42, 0, 0, 0), (42, .getfield 35, 45, 11, 2, 456), (45, .iload_n 3, 46, 3, 0, 0), (46, .invokevirtual 169, 49, 81, 931, 0), (49, .invokestatic 173, 52, 286, 932, 0), (52, .goto 12, 55, 64, 0, 0), (55, .aload_n 2, 56, 2, 0, 0), (56, .aload_n 0, 57, 0, 0, 0), (57, .getfield 35, 60, 11, 2, 456), (60, .iload_n 3, 61, 3, 0, 0), (61, .invokevirtual 179, 64, 82, 933, 0), (64, .ireturn, 65, 0, 0, 0)]
-- 125: LikeYears.beside(I)I
def mc125 : List (Nat × Ins) := [(0, .aload_n 0, 1, 0, 0, 0), (1, .getfield 35, 4, 11, 2, 456), (4, .iload_n 1, 5, 1, 0, 0), (5, .invokevirtual 143, 8, 12, 877, 0), (8, .ifCond .eq 18, 11, 26, 0, 0), (11, .aload_n 0, 12, 0, 0, 0), (12, .invokevirtual 147, 15, 160, 881, 0), (15, .aload_n 0, 16, 0, 0, 0), (16, .getfield 35, 19, 11, 2, 456), (19, .iload_n 1, 20, 1, 0, 0), (20, .invokevirtual 182, 23, 87, 938, 0), (23, .goto 4, 26, 27, 0, 0), (26, .iconst (-1), 27, 0, 0, 0), (27, .ireturn, 28, 0, 0, 0)]
-- 126: LikeYears.kept(III)J
def mc126_0 : List (Nat × Ins) := [(0, .aload_n 0, 1, 0, 0, 0), (1, .getfield 35, 4, 11, 2, 456), (4, .iload_n 2, 5, 2, 0, 0), (5, .invokevirtual 143, 8, 12, 877, 0), (8, .ifCond .eq 10, 11, 18, 0, 0), (11, .iload_n 3, 12, 3, 0, 0), (12, .invokestatic 185, 15, 155, 946, 0), (15, .ifCond .ne 7, 18, 22, 0, 0), (18, .ldc2_w 188, 21, 0, 949, -1), (21, .lreturn, 22, 0, 0, 0), (22, .iload_n 1, 23, 1, 0, 0), (23, .tableswitch 82 0 2 #[25, 35, 56], 48, 0, 0, 0), (48, .aload_n 0, 49, 0, 0, 0), (49, .invokevirtual 190, 52, 161, 950, 0), (52, .iload_n 2, 53, 2, 0, 0), (53, .iload_n 3, 54, 3, 0, 0), (54, .invokevirtual 194, 57, 71, 1019, 0), (57, .lreturn, 58, 0, 0, 0), (58, .aload_n 0, 59, 0, 0, 0), (59, .getfield 104, 62, 11, 15, 469), (62, .aload_n 0, 63, 0, 0, 0), (63, .invokevirtual 198, 66, 162, 1023, 0), (66, .getfield 201, 69, 7, 5, 352), (69, .iload_n 2, 70, 2, 0, 0), (70, .iaload, 71, 0, 0, 0), (71, .i2l, 72, 0, 0, 0), (72, .lconst 1, 73, 0, 0, 0), (73, .invokevirtual 205, 76, 47, 1041, 0), (76, .goto 33, 79, 109, 0, 0), (79, .aload_n 0, 80, 0, 0, 0), (80, .getfield 104, 83, 11, 15, 469), (83, .aload_n 0, 84, 0, 0, 0), (84, .invokevirtual 147, 87, 160, 881, 0), (87, .aload_n 0, 88, 0, 0, 0), (88, .getfield 35, 91, 11, 2, 456), (91, .iload_n 2, 92, 2, 0, 0), (92, .invokevirtual 209, 95, 88, 1042, 0), (95, .i2l, 96, 0, 0, 0), (96, .ldc2_w 212, 99, 0, 1047, 2), (99, .invokevirtual 205, 102, 47, 1041, 0)]
def mc126_1 : List (Nat × Ins) := [(102, .goto 7, 105, 109, 0, 0), (105, .ldc2_w 188, 108, 0, 949, -1), (108, .lreturn, 109, 0, 0, 0), (109, .aload_n 0, 110, 0, 0, 0), (110, .getfield 104, 113, 11, 15, 469), (113, .iload_n 3, 114, 3, 0, 0), (114, .invokevirtual 214, 117, 49, 1048, 0), (117, .lreturn, 118, 0, 0, 0)]
def mc126 : List (Nat × Ins) := mc126_0 ++ mc126_1
-- 127: LikeYears.cost(II)J
def mc127 : List (Nat × Ins) := [(0, .iload_n 2, 1, 2, 0, 0), (1, .invokestatic 185, 4, 155, 946, 0), (4, .ifCond .ne 7, 7, 11, 0, 0), (7, .ldc2_w 188, 10, 0, 949, -1), (10, .lreturn, 11, 0, 0, 0), (11, .iload_n 1, 12, 1, 0, 0), (12, .tableswitch 84 0 2 #[28, 40, 59], 40, 0, 0, 0), (40, .aload_n 0, 41, 0, 0, 0), (41, .invokevirtual 190, 44, 161, 950, 0), (44, .getfield 218, 47, 7, 4, 350), (47, .iload_n 2, 48, 2, 0, 0), (48, .invokevirtual 214, 51, 49, 1048, 0), (51, .lreturn, 52, 0, 0, 0), (52, .aload_n 0, 53, 0, 0, 0), (53, .getfield 104, 56, 11, 15, 469), (56, .aload_n 0, 57, 0, 0, 0), (57, .invokevirtual 198, 60, 162, 1023, 0), (60, .getfield 221, 63, 7, 7, 356), (63, .i2l, 64, 0, 0, 0), (64, .lconst 1, 65, 0, 0, 0), (65, .invokevirtual 205, 68, 47, 1041, 0), (68, .goto 32, 71, 100, 0, 0), (71, .aload_n 0, 72, 0, 0, 0), (72, .getfield 104, 75, 11, 15, 469), (75, .aload_n 0, 76, 0, 0, 0), (76, .invokevirtual 147, 79, 160, 881, 0), (79, .aload_n 0, 80, 0, 0, 0), (80, .getfield 35, 83, 11, 2, 456), (83, .invokevirtual 224, 86, 89, 1056, 0), (86, .i2l, 87, 0, 0, 0), (87, .ldc2_w 212, 90, 0, 1047, 2), (90, .invokevirtual 205, 93, 47, 1041, 0), (93, .goto 7, 96, 100, 0, 0), (96, .ldc2_w 188, 99, 0, 949, -1), (99, .lreturn, 100, 0, 0, 0), (100, .aload_n 0, 101, 0, 0, 0), (101, .getfield 104, 104, 11, 15, 469), (104, .iload_n 2, 105, 2, 0, 0), (105, .invokevirtual 214, 108, 49, 1048, 0), (108, .lreturn, 109, 0, 0, 0)]
-- 128: LikeYears.block(I)I
def mc128 : List (Nat × Ins) := [(0, .aload_n 0, 1, 0, 0, 0), (1, .getfield 35, 4, 11, 2, 456), (4, .iload_n 1, 5, 1, 0, 0), (5, .invokevirtual 143, 8, 12, 877, 0), (8, .ifCond .eq 15, 11, 23, 0, 0), (11, .aload_n 0, 12, 0, 0, 0), (12, .invokevirtual 190, 15, 161, 950, 0), (15, .getfield 227, 18, 7, 1, 344), (18, .iload_n 1, 19, 1, 0, 0), (19, .iaload, 20, 0, 0, 0), (20, .goto 4, 23, 24, 0, 0), (23, .iconst (-1), 24, 0, 0, 0), (24, .ireturn, 25, 0, 0, 0)]
-- 129: LikeYears.again(I)I
def mc129_0 : List (Nat × Ins) := [(0, .iload_n 1, 1, 1, 0, 0), (1, .ifCond .lt 8, 4, 9, 0, 0), (4, .iload_n 1, 5, 1, 0, 0), (5, .iconst 2, 6, 0, 0, 0), (6, .if_icmp .le 5, 9, 11, 0, 0), (9, .iconst (-1), 10, 0, 0, 0), (10, .ireturn, 11, 0, 0, 0), (11, .aload_n 0, 12, 0, 0, 0), (12, .getfield 132, 15, 11, 17, 471), (15, .bipush 8, 17, 0, 0, 0), (17, .iand, 18, 0, 0, 0), (18, .ifCond .ne 29, 21, 47, 0, 0), (21, .aload_n 0, 22, 0, 0, 0), (22, .getfield 90, 25, 11, 13, 467), (25, .aload_n 0, 26, 0, 0, 0), (26, .getfield 35, 29, 11, 2, 456), (29, .aload_n 0, 30, 0, 0, 0), (30, .invokevirtual 147, 33, 160, 881, 0), (33, .invokevirtual 230, 36, 33, 1070, 0), (36, .aload_n 0, 37, 0, 0, 0), (37, .dup, 38, 0, 0, 0), (38, .getfield 132, 41, 11, 17, 471), (41, .bipush 8, 43, 0, 0, 0), (43, .ior, 44, 0, 0, 0), (44, .putfield 132, 47, 11, 17, 471), (47, .iload_n 1, 48, 1, 0, 0), (48, .ifCond .ne 11, 51, 59, 0, 0), (51, .aload_n 0, 52, 0, 0, 0), (52, .getfield 90, 55, 11, 13, 467), (55, .getfield 234, 58, 3, 0, 387), (58, .ireturn, 59, 0, 0, 0), (59, .iload_n 1, 60, 1, 0, 0), (60, .iconst 1, 61, 0, 0, 0), (61, .if_icmp .ne 13, 64, 74, 0, 0), (64, .aload_n 0, 65, 0, 0, 0), (65, .getfield 90, 68, 11, 13, 467), (68, .getfield 237, 71, 3, 1, 389), (71, .goto 10, 74, 81, 0, 0), (74, .aload_n 0, 75, 0, 0, 0), (75, .getfield 90, 78, 11, 13, 467)]
def mc129_1 : List (Nat × Ins) := [(78, .getfield 240, 81, 3, 2, 391), (81, .ireturn, 82, 0, 0, 0)]
def mc129 : List (Nat × Ins) := mc129_0 ++ mc129_1
-- 130: LikeYears.grid(III)J
def mc130 : List (Nat × Ins) := [(0, .aload_n 0, 1, 0, 0, 0), (1, .iload_n 1, 2, 1, 0, 0), (2, .iload_n 2, 3, 2, 0, 0), (3, .invokevirtual 243, 6, 158, 1094, 0), (6, .ifCond .eq 10, 9, 16, 0, 0), (9, .iload_n 3, 10, 3, 0, 0), (10, .invokestatic 185, 13, 155, 946, 0), (13, .ifCond .ne 7, 16, 20, 0, 0), (16, .ldc2_w 188, 19, 0, 949, -1), (19, .lreturn, 20, 0, 0, 0), (20, .aload_n 0, 21, 0, 0, 0), (21, .iload_n 1, 22, 1, 0, 0), (22, .iload_n 2, 23, 2, 0, 0), (23, .invokevirtual 246, 26, 163, 1102, 0), (26, .iload_n 3, 27, 3, 0, 0), (27, .invokevirtual 214, 30, 49, 1048, 0), (30, .lreturn, 31, 0, 0, 0)]
-- 131: LikeYears.loses(III)J
def mc131 : List (Nat × Ins) := [(0, .aload_n 0, 1, 0, 0, 0), (1, .iload_n 1, 2, 1, 0, 0), (2, .iload_n 2, 3, 2, 0, 0), (3, .invokevirtual 243, 6, 158, 1094, 0), (6, .ifCond .eq 10, 9, 16, 0, 0), (9, .iload_n 3, 10, 3, 0, 0), (10, .invokestatic 185, 13, 155, 946, 0), (13, .ifCond .ne 7, 16, 20, 0, 0), (16, .ldc2_w 250, 19, 0, 1110, -1000000000000), (19, .lreturn, 20, 0, 0, 0), (20, .aload_n 0, 21, 0, 0, 0), (21, .invokevirtual 190, 24, 161, 950, 0), (24, .getfield 218, 27, 7, 4, 350), (27, .astore 4, 29, 4, 0, 0), (29, .aload_n 0, 30, 0, 0, 0), (30, .iload_n 1, 31, 1, 0, 0), (31, .iload_n 2, 32, 2, 0, 0), (32, .invokevirtual 246, 35, 163, 1102, 0), (35, .astore 5, 37, 5, 0, 0), (37, .aload_n 0, 38, 0, 0, 0), (38, .getfield 104, 41, 11, 15, 469), (41, .aload 5, 43, 5, 0, 0), (43, .getfield 252, 46, 5, 0, 332), (46, .aload 5, 48, 5, 0, 0), (48, .getfield 256, 51, 5, 1, 336), (51, .invokevirtual 205, 54, 47, 1041, 0), (54, .aload_n 0, 55, 0, 0, 0), (55, .getfield 104, 58, 11, 15, 469), (58, .aload 4, 60, 4, 0, 0), (60, .getfield 252, 63, 5, 0, 332), (63, .lneg, 64, 0, 0, 0), (64, .aload 4, 66, 4, 0, 0), (66, .getfield 256, 69, 5, 1, 336), (69, .invokevirtual 259, 72, 48, 1111, 0), (72, .aload_n 0, 73, 0, 0, 0), (73, .getfield 104, 76, 11, 15, 469), (76, .iload_n 3, 77, 3, 0, 0), (77, .invokevirtual 214, 80, 49, 1048, 0), (80, .lreturn, 81, 0, 0, 0)]
-- 132: LikeYears.best()I
def mc132 : List (Nat × Ins) := [(0, .aload_n 0, 1, 0, 0, 0), (1, .getfield 35, 4, 11, 2, 456), (4, .getfield 262, 7, 1, 0, 136), (7, .iconst 2, 8, 0, 0, 0), (8, .if_icmp .ge 5, 11, 13, 0, 0), (11, .iconst (-1), 12, 0, 0, 0), (12, .ireturn, 13, 0, 0, 0), (13, .aload_n 0, 14, 0, 0, 0), (14, .getfield 132, 17, 11, 17, 471), (17, .bipush 16, 19, 0, 0, 0), (19, .iand, 20, 0, 0, 0), (20, .ifCond .ne 22, 23, 42, 0, 0), (23, .aload_n 0, 24, 0, 0, 0), (24, .aload_n 0, 25, 0, 0, 0), (25, .invokevirtual 265, 28, 164, 1116, 0), (28, .putfield 269, 31, 11, 16, 470), (31, .aload_n 0, 32, 0, 0, 0), (32, .dup, 33, 0, 0, 0), (33, .getfield 132, 36, 11, 17, 471), (36, .bipush 16, 38, 0, 0, 0), (38, .ior, 39, 0, 0, 0), (39, .putfield 132, 42, 11, 17, 471), (42, .aload_n 0, 43, 0, 0, 0), (43, .getfield 269, 46, 11, 16, 470), (46, .ireturn, 47, 0, 0, 0)]
-- 133: LikeYears.runs(III)J
def mc133 : List (Nat × Ins) := [(0, .aload_n 0, 1, 0, 0, 0), (1, .iload_n 1, 2, 1, 0, 0), (2, .iload_n 2, 3, 2, 0, 0), (3, .invokevirtual 272, 6, 159, 1130, 0), (6, .ifCond .eq 10, 9, 16, 0, 0), (9, .iload_n 3, 10, 3, 0, 0), (10, .invokestatic 185, 13, 155, 946, 0), (13, .ifCond .ne 7, 16, 20, 0, 0), (16, .ldc2_w 188, 19, 0, 949, -1), (19, .lreturn, 20, 0, 0, 0), (20, .aload_n 0, 21, 0, 0, 0), (21, .getfield 97, 24, 11, 14, 468), (24, .aload_n 0, 25, 0, 0, 0), (25, .getfield 35, 28, 11, 2, 456), (28, .iload_n 1, 29, 1, 0, 0), (29, .iload_n 2, 30, 2, 0, 0), (30, .invokevirtual 275, 33, 92, 1134, 0), (33, .aload_n 0, 34, 0, 0, 0), (34, .getfield 97, 37, 11, 14, 468), (37, .getfield 279, 40, 9, 0, 420), (40, .iload_n 3, 41, 3, 0, 0), (41, .invokevirtual 214, 44, 49, 1048, 0), (44, .lreturn, 45, 0, 0, 0)]
-- 134: LikeYears.begins(II)I
def mc134 : List (Nat × Ins) := [(0, .aload_n 0, 1, 0, 0, 0), (1, .iload_n 1, 2, 1, 0, 0), (2, .iload_n 2, 3, 2, 0, 0), (3, .invokevirtual 272, 6, 159, 1130, 0), (6, .ifCond .ne 5, 9, 11, 0, 0), (9, .iconst (-1), 10, 0, 0, 0), (10, .ireturn, 11, 0, 0, 0), (11, .aload_n 0, 12, 0, 0, 0), (12, .getfield 97, 15, 11, 14, 468), (15, .aload_n 0, 16, 0, 0, 0), (16, .getfield 35, 19, 11, 2, 456), (19, .iload_n 1, 20, 1, 0, 0), (20, .iload_n 2, 21, 2, 0, 0), (21, .invokevirtual 275, 24, 92, 1134, 0), (24, .aload_n 0, 25, 0, 0, 0), (25, .getfield 97, 28, 11, 14, 468), (28, .getfield 280, 31, 9, 1, 422), (31, .ireturn, 32, 0, 0, 0)]
-- 135: LikeYears.off(I)I
def mc135 : List (Nat × Ins) := [(0, .iload_n 1, 1, 1, 0, 0), (1, .ifCond .lt 9, 4, 10, 0, 0), (4, .iload_n 1, 5, 1, 0, 0), (5, .bipush 9, 7, 0, 0, 0), (7, .if_icmp .le 5, 10, 12, 0, 0), (10, .iconst (-1), 11, 0, 0, 0), (11, .ireturn, 12, 0, 0, 0), (12, .aload_n 0, 13, 0, 0, 0), (13, .invokevirtual 198, 16, 162, 1023, 0), (16, .astore_n 2, 17, 2, 0, 0), (17, .iconst 0, 18, 0, 0, 0), (18, .istore_n 3, 19, 3, 0, 0), (19, .iconst 0, 20, 0, 0, 0), (20, .istore 4, 22, 4, 0, 0), (22, .iload 4, 24, 4, 0, 0), (24, .aload_n 0, 25, 0, 0, 0), (25, .getfield 35, 28, 11, 2, 456), (28, .getfield 283, 31, 1, 4, 152), (31, .if_icmp .ge 33, 34, 64, 0, 0), (34, .aload_n 0, 35, 0, 0, 0), (35, .getfield 35, 38, 11, 2, 456), (38, .getfield 286, 41, 1, 5, 155), (41, .iload 4, 43, 4, 0, 0), (43, .iaload, 44, 0, 0, 0), (44, .iload_n 1, 45, 1, 0, 0), (45, .if_icmp .ne 13, 48, 58, 0, 0), (48, .iload_n 3, 49, 3, 0, 0), (49, .aload_n 2, 50, 2, 0, 0), (50, .getfield 289, 53, 7, 6, 354), (53, .iload 4, 55, 4, 0, 0), (55, .iaload, 56, 0, 0, 0), (56, .iadd, 57, 0, 0, 0), (57, .istore_n 3, 58, 3, 0, 0), (58, .iinc 4 1, 61, 4, 0, 0), (61, .goto (-39), 64, 22, 0, 0), (64, .iload_n 3, 65, 3, 0, 0), (65, .ireturn, 66, 0, 0, 0)]
-- 136: LikeYears.luck(II)J
def mc136_0 : List (Nat × Ins) := [(0, .iload_n 1, 1, 1, 0, 0), (1, .ifCond .lt 16, 4, 17, 0, 0), (4, .iload_n 1, 5, 1, 0, 0), (5, .bipush 9, 7, 0, 0, 0), (7, .if_icmp .gt 10, 10, 17, 0, 0), (10, .iload_n 2, 11, 2, 0, 0), (11, .invokestatic 185, 14, 155, 946, 0), (14, .ifCond .ne 7, 17, 21, 0, 0), (17, .ldc2_w 188, 20, 0, 949, -1), (20, .lreturn, 21, 0, 0, 0), (21, .iconst 0, 22, 0, 0, 0), (22, .istore_n 3, 23, 3, 0, 0), (23, .iconst 0, 24, 0, 0, 0), (24, .istore 4, 26, 4, 0, 0), (26, .iload 4, 28, 4, 0, 0), (28, .aload_n 0, 29, 0, 0, 0), (29, .getfield 35, 32, 11, 2, 456), (32, .getfield 283, 35, 1, 4, 152), (35, .if_icmp .ge 26, 38, 61, 0, 0), (38, .aload_n 0, 39, 0, 0, 0), (39, .getfield 35, 42, 11, 2, 456), (42, .getfield 286, 45, 1, 5, 155), (45, .iload 4, 47, 4, 0, 0), (47, .iaload, 48, 0, 0, 0), (48, .iload_n 1, 49, 1, 0, 0), (49, .if_icmp .ne 6, 52, 55, 0, 0), (52, .iinc 3 1, 55, 3, 0, 0), (55, .iinc 4 1, 58, 4, 0, 0), (58, .goto (-32), 61, 26, 0, 0), (61, .iload_n 3, 62, 3, 0, 0), (62, .ifCond .ne 7, 65, 69, 0, 0), (65, .ldc2_w 188, 68, 0, 949, -1), (68, .lreturn, 69, 0, 0, 0), (69, .aload_n 0, 70, 0, 0, 0), (70, .iload_n 1, 71, 1, 0, 0), (71, .invokevirtual 292, 74, 135, 1182, 0), (74, .istore 4, 76, 4, 0, 0), (76, .aload_n 0, 77, 0, 0, 0), (77, .getfield 90, 80, 11, 13, 467), (80, .aload_n 0, 81, 0, 0, 0)]
def mc136_1 : List (Nat × Ins) := [(81, .getfield 80, 84, 11, 11, 465), (84, .getfield 289, 87, 7, 6, 354), (87, .aload_n 0, 88, 0, 0, 0), (88, .getfield 35, 91, 11, 2, 456), (91, .getfield 283, 94, 1, 4, 152), (94, .iload_n 3, 95, 3, 0, 0), (95, .iload 4, 97, 4, 0, 0), (97, .invokevirtual 295, 100, 37, 1183, 0), (100, .istore 5, 102, 5, 0, 0), (102, .aload_n 0, 103, 0, 0, 0), (103, .getfield 104, 106, 11, 15, 469), (106, .iload 5, 108, 5, 0, 0), (108, .i2l, 109, 0, 0, 0), (109, .aload_n 0, 110, 0, 0, 0), (110, .getfield 35, 113, 11, 2, 456), (113, .getfield 283, 116, 1, 4, 152), (116, .iload_n 3, 117, 3, 0, 0), (117, .invokestatic 299, 120, 39, 1194, 0), (120, .i2l, 121, 0, 0, 0), (121, .invokevirtual 205, 124, 47, 1041, 0), (124, .aload_n 0, 125, 0, 0, 0), (125, .getfield 104, 128, 11, 15, 469), (128, .iload_n 2, 129, 2, 0, 0), (129, .invokevirtual 214, 132, 49, 1048, 0), (132, .lreturn, 133, 0, 0, 0)]
def mc136 : List (Nat × Ins) := mc136_0 ++ mc136_1
-- 137: LikeYears.upto(II)J
def mc137_0 : List (Nat × Ins) := [(0, .iload_n 1, 1, 1, 0, 0), (1, .invokestatic 303, 4, 156, 1199, 0), (4, .ifCond .eq 10, 7, 14, 0, 0), (7, .iload_n 2, 8, 2, 0, 0), (8, .invokestatic 185, 11, 155, 946, 0), (11, .ifCond .ne 7, 14, 18, 0, 0), (14, .ldc2_w 188, 17, 0, 949, -1), (17, .lreturn, 18, 0, 0, 0), (18, .iconst 0, 19, 0, 0, 0), (19, .istore_n 3, 20, 3, 0, 0), (20, .iconst 0, 21, 0, 0, 0), (21, .istore 4, 23, 4, 0, 0), (23, .iload 4, 25, 4, 0, 0), (25, .aload_n 0, 26, 0, 0, 0), (26, .getfield 35, 29, 11, 2, 456), (29, .getfield 283, 32, 1, 4, 152), (32, .if_icmp .ge 30, 35, 62, 0, 0), (35, .aload_n 0, 36, 0, 0, 0), (36, .getfield 35, 39, 11, 2, 456), (39, .getfield 306, 42, 1, 6, 159), (42, .iload 4, 44, 4, 0, 0), (44, .iaload, 45, 0, 0, 0), (45, .iload_n 1, 46, 1, 0, 0), (46, .if_icmp .gt 10, 49, 56, 0, 0), (49, .iload_n 3, 50, 3, 0, 0), (50, .iconst 1, 51, 0, 0, 0), (51, .iload 4, 53, 4, 0, 0), (53, .ishl, 54, 0, 0, 0), (54, .ior, 55, 0, 0, 0), (55, .istore_n 3, 56, 3, 0, 0), (56, .iinc 4 1, 59, 4, 0, 0), (59, .goto (-36), 62, 23, 0, 0), (62, .aload_n 0, 63, 0, 0, 0), (63, .getfield 84, 66, 11, 12, 466), (66, .aload_n 0, 67, 0, 0, 0), (67, .getfield 35, 70, 11, 2, 456), (70, .aload_n 0, 71, 0, 0, 0), (71, .invokevirtual 147, 74, 160, 881, 0), (74, .getfield 309, 77, 8, 1, 96), (77, .iload_n 3, 78, 3, 0, 0)]
def mc137_1 : List (Nat × Ins) := [(78, .invokevirtual 312, 81, 68, 958, 0), (81, .aload_n 0, 82, 0, 0, 0), (82, .getfield 84, 85, 11, 12, 466), (85, .getfield 218, 88, 7, 4, 350), (88, .iload_n 2, 89, 2, 0, 0), (89, .invokevirtual 214, 92, 49, 1048, 0), (92, .lreturn, 93, 0, 0, 0)]
def mc137 : List (Nat × Ins) := mc137_0 ++ mc137_1
-- 138: LikeYears.drift(II)J
def mc138_0 : List (Nat × Ins) := [(0, .iload_n 1, 1, 1, 0, 0), (1, .invokestatic 303, 4, 156, 1199, 0), (4, .ifCond .eq 10, 7, 14, 0, 0), (7, .iload_n 2, 8, 2, 0, 0), (8, .invokestatic 185, 11, 155, 946, 0), (11, .ifCond .ne 7, 14, 18, 0, 0), (14, .ldc2_w 250, 17, 0, 1110, -1000000000000), (17, .lreturn, 18, 0, 0, 0), (18, .aload_n 0, 19, 0, 0, 0), (19, .invokevirtual 190, 22, 161, 950, 0), (22, .astore_n 3, 23, 3, 0, 0), (23, .aload_n 0, 24, 0, 0, 0), (24, .getfield 104, 27, 11, 15, 469), (27, .lconst 0, 28, 0, 0, 0), (28, .lconst 1, 29, 0, 0, 0), (29, .invokevirtual 205, 32, 47, 1041, 0), (32, .iconst 0, 33, 0, 0, 0), (33, .istore 4, 35, 4, 0, 0), (35, .iload 4, 37, 4, 0, 0), (37, .aload_n 0, 38, 0, 0, 0), (38, .getfield 35, 41, 11, 2, 456), (41, .getfield 283, 44, 1, 4, 152), (44, .if_icmp .ge 76, 47, 120, 0, 0), (47, .aload_n 0, 48, 0, 0, 0), (48, .getfield 35, 51, 11, 2, 456), (51, .getfield 306, 54, 1, 6, 159), (54, .iload 4, 56, 4, 0, 0), (56, .iaload, 57, 0, 0, 0), (57, .iload_n 1, 58, 1, 0, 0), (58, .if_icmp .ne 56, 61, 114, 0, 0), (61, .aload_n 0, 62, 0, 0, 0), (62, .getfield 104, 65, 11, 15, 469), (65, .aload_n 0, 66, 0, 0, 0), (66, .getfield 35, 69, 11, 2, 456), (69, .getfield 316, 72, 1, 8, 171), (72, .iload 4, 74, 4, 0, 0), (74, .iaload, 75, 0, 0, 0), (75, .i2l, 76, 0, 0, 0), (76, .aload_n 0, 77, 0, 0, 0), (77, .getfield 35, 80, 11, 2, 456)]
def mc138_1 : List (Nat × Ins) := [(80, .getfield 319, 83, 1, 7, 166), (83, .iload 4, 85, 4, 0, 0), (85, .iaload, 86, 0, 0, 0), (86, .i2l, 87, 0, 0, 0), (87, .aload_n 3, 88, 3, 0, 0), (88, .getfield 322, 91, 7, 3, 348), (91, .iload 4, 93, 4, 0, 0), (93, .laload, 94, 0, 0, 0), (94, .lmul, 95, 0, 0, 0), (95, .aload_n 3, 96, 3, 0, 0), (96, .getfield 325, 99, 7, 2, 346), (99, .iload 4, 101, 4, 0, 0), (101, .laload, 102, 0, 0, 0), (102, .lsub, 103, 0, 0, 0), (103, .lmul, 104, 0, 0, 0), (104, .aload_n 3, 105, 3, 0, 0), (105, .getfield 322, 108, 7, 3, 348), (108, .iload 4, 110, 4, 0, 0), (110, .laload, 111, 0, 0, 0), (111, .invokevirtual 259, 114, 48, 1111, 0), (114, .iinc 4 1, 117, 4, 0, 0), (117, .goto (-82), 120, 35, 0, 0), (120, .aload_n 0, 121, 0, 0, 0), (121, .getfield 104, 124, 11, 15, 469), (124, .iload_n 2, 125, 2, 0, 0), (125, .invokevirtual 214, 128, 49, 1048, 0), (128, .lreturn, 129, 0, 0, 0)]
def mc138 : List (Nat × Ins) := mc138_0 ++ mc138_1
-- 139: LikeYears.within()I
def mc139 : List (Nat × Ins) := [(0, .aload_n 0, 1, 0, 0, 0), (1, .invokevirtual 147, 4, 160, 881, 0), (4, .aload_n 0, 5, 0, 0, 0), (5, .getfield 35, 8, 11, 2, 456), (8, .iconst 1, 9, 0, 0, 0), (9, .invokevirtual 155, 12, 83, 892, 0), (12, .ireturn, 13, 0, 0, 0)]
-- 140: LikeYears.law(IIIII)I
def mc140_0 : List (Nat × Ins) := [(0, .aload_n 0, 1, 0, 0, 0), (1, .getfield 35, 4, 11, 2, 456), (4, .iload_n 1, 5, 1, 0, 0), (5, .iload_n 2, 6, 2, 0, 0), (6, .invokevirtual 327, 9, 13, 1214, 0), (9, .ifCond .eq 21, 12, 30, 0, 0), (12, .iload_n 3, 13, 3, 0, 0), (13, .ifCond .lt 17, 16, 30, 0, 0), (16, .iload 4, 18, 4, 0, 0), (18, .sipush 240, 21, 0, 0, 0), (21, .if_icmp .gt 9, 24, 30, 0, 0), (24, .iload 4, 26, 4, 0, 0), (26, .iload_n 3, 27, 3, 0, 0), (27, .if_icmp .ge 5, 30, 32, 0, 0), (30, .iconst (-1), 31, 0, 0, 0), (31, .ireturn, 32, 0, 0, 0), (32, .iconst 0, 33, 0, 0, 0), (33, .istore 6, 35, 6, 0, 0), (35, .iconst 0, 36, 0, 0, 0), (36, .istore 7, 38, 7, 0, 0), (38, .iconst 0, 39, 0, 0, 0), (39, .istore 8, 41, 8, 0, 0), (41, .iload 8, 43, 8, 0, 0), (43, .aload_n 0, 44, 0, 0, 0), (44, .getfield 35, 47, 11, 2, 456), (47, .getfield 283, 50, 1, 4, 152), (50, .if_icmp .ge 63, 53, 113, 0, 0), (53, .aload_n 0, 54, 0, 0, 0), (54, .getfield 35, 57, 11, 2, 456), (57, .iload 8, 59, 8, 0, 0), (59, .iload_n 1, 60, 1, 0, 0), (60, .invokevirtual 330, 63, 15, 1219, 0), (63, .iload_n 2, 64, 2, 0, 0), (64, .if_icmp .lt 43, 67, 107, 0, 0), (67, .aload_n 0, 68, 0, 0, 0), (68, .getfield 35, 71, 11, 2, 456), (71, .getfield 319, 74, 1, 7, 166), (74, .iload 8, 76, 8, 0, 0), (76, .iaload, 77, 0, 0, 0), (77, .iload_n 3, 78, 3, 0, 0)]
def mc140_1 : List (Nat × Ins) := [(78, .iload 4, 80, 4, 0, 0), (80, .invokestatic 333, 83, 165, 1220, 0), (83, .istore 9, 85, 9, 0, 0), (85, .iload 7, 87, 7, 0, 0), (87, .iload 9, 89, 9, 0, 0), (89, .iadd, 90, 0, 0, 0), (90, .istore 7, 92, 7, 0, 0), (92, .iload 6, 94, 6, 0, 0), (94, .iload 9, 96, 9, 0, 0), (96, .ifCond .le 7, 99, 103, 0, 0), (99, .iconst 1, 100, 0, 0, 0), (100, .goto 4, 103, 104, 0, 0), (103, .iconst 0, 104, 0, 0, 0), (104, .iadd, 105, 0, 0, 0), (105, .istore 6, 107, 6, 0, 0), (107, .iinc 8 1, 110, 8, 0, 0), (110, .goto (-69), 113, 41, 0, 0), (113, .iload 5, 115, 5, 0, 0), (115, .ifCond .ne 6, 118, 121, 0, 0), (118, .iload 6, 120, 6, 0, 0), (120, .ireturn, 121, 0, 0, 0), (121, .iload 5, 123, 5, 0, 0), (123, .iconst 1, 124, 0, 0, 0), (124, .if_icmp .ne 8, 127, 132, 0, 0), (127, .iload 7, 129, 7, 0, 0), (129, .goto 4, 132, 133, 0, 0), (132, .iconst (-1), 133, 0, 0, 0), (133, .ireturn, 134, 0, 0, 0)]
def mc140 : List (Nat × Ins) := mc140_0 ++ mc140_1
-- 141: LikeYears.lawOf(I)I
def mc141 : List (Nat × Ins) := [(0, .aload_n 0, 1, 0, 0, 0), (1, .getfield 35, 4, 11, 2, 456), (4, .iload_n 1, 5, 1, 0, 0), (5, .invokevirtual 143, 8, 12, 877, 0), (8, .ifCond .eq 18, 11, 26, 0, 0), (11, .aload_n 0, 12, 0, 0, 0), (12, .getfield 47, 15, 11, 4, 458), (15, .aload_n 0, 16, 0, 0, 0), (16, .getfield 35, 19, 11, 2, 456), (19, .iload_n 1, 20, 1, 0, 0), (20, .invokevirtual 337, 23, 61, 1227, 0), (23, .goto 4, 26, 27, 0, 0), (26, .iconst (-1), 27, 0, 0, 0), (27, .ireturn, 28, 0, 0, 0)]
-- 142: LikeYears.moved(I)I
def mc142_0 : List (Nat × Ins) := [(0, .iconst 0, 1, 0, 0, 0), (1, .istore_n 2, 2, 2, 0, 0), (2, .iconst 0, 3, 0, 0, 0), (3, .istore_n 3, 4, 3, 0, 0), (4, .iconst 0, 5, 0, 0, 0), (5, .istore 4, 7, 4, 0, 0), (7, .iconst (-1), 8, 0, 0, 0), (8, .istore 5, 10, 5, 0, 0), (10, .iconst 0, 11, 0, 0, 0), (11, .istore 6, 13, 6, 0, 0), (13, .iload 6, 15, 6, 0, 0), (15, .aload_n 0, 16, 0, 0, 0), (16, .getfield 35, 19, 11, 2, 456), (19, .getfield 283, 22, 1, 4, 152), (22, .if_icmp .ge 50, 25, 72, 0, 0), (25, .aload_n 0, 26, 0, 0, 0), (26, .iload 6, 28, 6, 0, 0), (28, .invokevirtual 340, 31, 166, 1257, 0), (31, .istore 7, 33, 7, 0, 0), (33, .iload_n 3, 34, 3, 0, 0), (34, .iload 7, 36, 7, 0, 0), (36, .iadd, 37, 0, 0, 0), (37, .istore_n 3, 38, 3, 0, 0), (38, .iload_n 2, 39, 2, 0, 0), (39, .iload 7, 41, 7, 0, 0), (41, .ifCond .le 7, 44, 48, 0, 0), (44, .iconst 1, 45, 0, 0, 0), (45, .goto 4, 48, 49, 0, 0), (48, .iconst 0, 49, 0, 0, 0), (49, .iadd, 50, 0, 0, 0), (50, .istore_n 2, 51, 2, 0, 0), (51, .iload 7, 53, 7, 0, 0), (53, .iload 4, 55, 4, 0, 0), (55, .if_icmp .le 11, 58, 66, 0, 0), (58, .iload 7, 60, 7, 0, 0), (60, .istore 4, 62, 4, 0, 0), (62, .iload 6, 64, 6, 0, 0), (64, .istore 5, 66, 5, 0, 0), (66, .iinc 6 1, 69, 6, 0, 0), (69, .goto (-56), 72, 13, 0, 0)]
def mc142_1 : List (Nat × Ins) := [(72, .iload_n 1, 73, 1, 0, 0), (73, .tableswitch 34 0 2 #[27, 29, 31], 100, 0, 0, 0), (100, .iload_n 2, 101, 2, 0, 0), (101, .ireturn, 102, 0, 0, 0), (102, .iload_n 3, 103, 3, 0, 0), (103, .ireturn, 104, 0, 0, 0), (104, .iload 5, 106, 5, 0, 0), (106, .ireturn, 107, 0, 0, 0), (107, .iconst (-1), 108, 0, 0, 0), (108, .ireturn, 109, 0, 0, 0)]
def mc142 : List (Nat × Ins) := mc142_0 ++ mc142_1
-- 143: LikeYears.mercy(I)I
def mc143_0 : List (Nat × Ins) := [(0, .iconst (-1), 1, 0, 0, 0), (1, .istore_n 2, 2, 2, 0, 0), (2, .iconst (-1), 3, 0, 0, 0), (3, .istore_n 3, 4, 3, 0, 0), (4, .iconst 0, 5, 0, 0, 0), (5, .istore 4, 7, 4, 0, 0), (7, .iload 4, 9, 4, 0, 0), (9, .aload_n 0, 10, 0, 0, 0), (10, .getfield 35, 13, 11, 2, 456), (13, .getfield 262, 16, 1, 0, 136), (16, .if_icmp .ge 86, 19, 102, 0, 0), (19, .aload_n 0, 20, 0, 0, 0), (20, .getfield 35, 23, 11, 2, 456), (23, .iload 4, 25, 4, 0, 0), (25, .invokevirtual 343, 28, 14, 1265, 0), (28, .ifCond .ne 68, 31, 96, 0, 0), (31, .aload_n 0, 32, 0, 0, 0), (32, .getfield 19, 35, 11, 10, 464), (35, .aload_n 0, 36, 0, 0, 0), (36, .getfield 35, 39, 11, 2, 456), (39, .aload_n 0, 40, 0, 0, 0), (40, .getfield 35, 43, 11, 2, 456), (43, .getfield 346, 46, 1, 3, 144), (46, .iconst 1, 47, 0, 0, 0), (47, .iload 4, 49, 4, 0, 0), (49, .ishl, 50, 0, 0, 0), (50, .ior, 51, 0, 0, 0), (51, .invokevirtual 349, 54, 76, 885, 0), (54, .aload_n 0, 55, 0, 0, 0), (55, .getfield 19, 58, 11, 10, 464), (58, .aload_n 0, 59, 0, 0, 0), (59, .getfield 35, 62, 11, 2, 456), (62, .invokevirtual 352, 65, 77, 886, 0), (65, .pop, 66, 0, 0, 0), (66, .aload_n 0, 67, 0, 0, 0), (67, .getfield 19, 70, 11, 10, 464), (70, .aload_n 0, 71, 0, 0, 0), (71, .getfield 35, 74, 11, 2, 456), (74, .iconst 0, 75, 0, 0, 0), (75, .invokevirtual 155, 78, 83, 892, 0)]
def mc143_1 : List (Nat × Ins) := [(78, .istore 5, 80, 5, 0, 0), (80, .iload_n 2, 81, 2, 0, 0), (81, .ifCond .lt 9, 84, 90, 0, 0), (84, .iload 5, 86, 5, 0, 0), (86, .iload_n 3, 87, 3, 0, 0), (87, .if_icmp .ge 9, 90, 96, 0, 0), (90, .iload 4, 92, 4, 0, 0), (92, .istore_n 2, 93, 2, 0, 0), (93, .iload 5, 95, 5, 0, 0), (95, .istore_n 3, 96, 3, 0, 0), (96, .iinc 4 1, 99, 4, 0, 0), (99, .goto (-92), 102, 7, 0, 0), (102, .iload_n 1, 103, 1, 0, 0), (103, .ifCond .ne 5, 106, 108, 0, 0), (106, .iload_n 2, 107, 2, 0, 0), (107, .ireturn, 108, 0, 0, 0), (108, .iload_n 1, 109, 1, 0, 0), (109, .iconst 1, 110, 0, 0, 0), (110, .if_icmp .ne 7, 113, 117, 0, 0), (113, .iload_n 3, 114, 3, 0, 0), (114, .goto 4, 117, 118, 0, 0), (117, .iconst (-1), 118, 0, 0, 0), (118, .ireturn, 119, 0, 0, 0)]
def mc143 : List (Nat × Ins) := mc143_0 ++ mc143_1
-- 144: LikeYears.step(II)Z
def mc144 : List (Nat × Ins) := [(0, .aload_n 0, 1, 0, 0, 0), (1, .getfield 35, 4, 11, 2, 456), (4, .iload_n 1, 5, 1, 0, 0), (5, .iload_n 2, 6, 2, 0, 0), (6, .invokevirtual 327, 9, 13, 1214, 0), (9, .ifCond .ne 5, 12, 14, 0, 0), (12, .iconst 0, 13, 0, 0, 0), (13, .ireturn, 14, 0, 0, 0), (14, .aload_n 0, 15, 0, 0, 0), (15, .getfield 35, 18, 11, 2, 456), (18, .bipush 16, 20, 0, 0, 0), (20, .iload_n 1, 21, 1, 0, 0), (21, .iload_n 2, 22, 2, 0, 0), (22, .invokevirtual 355, 25, 16, 1270, 0), (25, .iconst 1, 26, 0, 0, 0), (26, .ireturn, 27, 0, 0, 0)]
-- 145: LikeYears.ends(ZI)J
def mc145_0 : List (Nat × Ins) := [(0, .iload_n 2, 1, 2, 0, 0), (1, .invokestatic 185, 4, 155, 946, 0), (4, .ifCond .ne 7, 7, 11, 0, 0), (7, .ldc2_w 188, 10, 0, 949, -1), (10, .lreturn, 11, 0, 0, 0), (11, .aload_n 0, 12, 0, 0, 0), (12, .invokevirtual 190, 15, 161, 950, 0), (15, .astore_n 3, 16, 3, 0, 0), (16, .iload_n 1, 17, 1, 0, 0), (17, .ifCond .eq 17, 20, 34, 0, 0), (20, .aload_n 0, 21, 0, 0, 0), (21, .invokevirtual 147, 24, 160, 881, 0), (24, .aload_n 0, 25, 0, 0, 0), (25, .getfield 35, 28, 11, 2, 456), (28, .invokevirtual 359, 31, 91, 1275, 0), (31, .goto 14, 34, 45, 0, 0), (34, .aload_n 0, 35, 0, 0, 0), (35, .invokevirtual 147, 38, 160, 881, 0), (38, .aload_n 0, 39, 0, 0, 0), (39, .getfield 35, 42, 11, 2, 456), (42, .invokevirtual 362, 45, 90, 1279, 0), (45, .istore 4, 47, 4, 0, 0), (47, .iconst (-1), 48, 0, 0, 0), (48, .istore 5, 50, 5, 0, 0), (50, .iconst 0, 51, 0, 0, 0), (51, .istore 6, 53, 6, 0, 0), (53, .iload 6, 55, 6, 0, 0), (55, .aload_n 0, 56, 0, 0, 0), (56, .getfield 35, 59, 11, 2, 456), (59, .getfield 283, 62, 1, 4, 152), (62, .if_icmp .ge 40, 65, 102, 0, 0), (65, .iload 4, 67, 4, 0, 0), (67, .iload 6, 69, 6, 0, 0), (69, .ishr, 70, 0, 0, 0), (70, .iconst 1, 71, 0, 0, 0), (71, .iand, 72, 0, 0, 0), (72, .ifCond .eq 24, 75, 96, 0, 0), (75, .iload 5, 77, 5, 0, 0), (77, .ifCond .lt 15, 80, 92, 0, 0), (80, .aload_n 3, 81, 3, 0, 0)]
def mc145_1 : List (Nat × Ins) := [(81, .iload 6, 83, 6, 0, 0), (83, .iload 5, 85, 5, 0, 0), (85, .iload_n 1, 86, 1, 0, 0), (86, .invokevirtual 365, 89, 72, 1283, 0), (89, .ifCond .eq 7, 92, 96, 0, 0), (92, .iload 6, 94, 6, 0, 0), (94, .istore 5, 96, 5, 0, 0), (96, .iinc 6 1, 99, 6, 0, 0), (99, .goto (-46), 102, 53, 0, 0), (102, .iload 5, 104, 5, 0, 0), (104, .ifCond .ge 7, 107, 111, 0, 0), (107, .ldc2_w 188, 110, 0, 949, -1), (110, .lreturn, 111, 0, 0, 0), (111, .aload_n 3, 112, 3, 0, 0), (112, .iload 5, 114, 5, 0, 0), (114, .iload_n 2, 115, 2, 0, 0), (115, .invokevirtual 194, 118, 71, 1019, 0), (118, .lreturn, 119, 0, 0, 0)]
def mc145 : List (Nat × Ins) := mc145_0 ++ mc145_1
-- 146: LikeYears.first(I)I
def mc146_0 : List (Nat × Ins) := [(0, .iload_n 1, 1, 1, 0, 0), (1, .invokestatic 369, 4, 157, 1291, 0), (4, .ifCond .ne 5, 7, 9, 0, 0), (7, .iconst (-1), 8, 0, 0, 0), (8, .ireturn, 9, 0, 0, 0), (9, .aload_n 0, 10, 0, 0, 0), (10, .invokevirtual 147, 13, 160, 881, 0), (13, .aload_n 0, 14, 0, 0, 0), (14, .getfield 35, 17, 11, 2, 456), (17, .invokevirtual 359, 20, 91, 1275, 0), (20, .istore_n 2, 21, 2, 0, 0), (21, .aload_n 0, 22, 0, 0, 0), (22, .invokevirtual 147, 25, 160, 881, 0), (25, .aload_n 0, 26, 0, 0, 0), (26, .getfield 35, 29, 11, 2, 456), (29, .invokevirtual 362, 32, 90, 1279, 0), (32, .istore_n 3, 33, 3, 0, 0), (33, .iconst 0, 34, 0, 0, 0), (34, .istore 4, 36, 4, 0, 0), (36, .iload 4, 38, 4, 0, 0), (38, .aload_n 0, 39, 0, 0, 0), (39, .getfield 35, 42, 11, 2, 456), (42, .getfield 283, 45, 1, 4, 152), (45, .if_icmp .ge 82, 48, 127, 0, 0), (48, .iload_n 3, 49, 3, 0, 0), (49, .iload 4, 51, 4, 0, 0), (51, .ishr, 52, 0, 0, 0), (52, .iconst 1, 53, 0, 0, 0), (53, .iand, 54, 0, 0, 0), (54, .ifCond .eq 21, 57, 75, 0, 0), (57, .iload_n 1, 58, 1, 0, 0), (58, .aload_n 0, 59, 0, 0, 0), (59, .getfield 35, 62, 11, 2, 456), (62, .getfield 319, 65, 1, 7, 166), (65, .iload 4, 67, 4, 0, 0), (67, .iaload, 68, 0, 0, 0), (68, .if_icmp .ge 7, 71, 75, 0, 0), (71, .iconst 1, 72, 0, 0, 0), (72, .goto 4, 75, 76, 0, 0), (75, .iconst 0, 76, 0, 0, 0)]
def mc146_1 : List (Nat × Ins) := [(76, .istore 5, 78, 5, 0, 0), (78, .iload_n 2, 79, 2, 0, 0), (79, .iload 4, 81, 4, 0, 0), (81, .ishr, 82, 0, 0, 0), (82, .iconst 1, 83, 0, 0, 0), (83, .iand, 84, 0, 0, 0), (84, .ifCond .eq 21, 87, 105, 0, 0), (87, .iload_n 1, 88, 1, 0, 0), (88, .aload_n 0, 89, 0, 0, 0), (89, .getfield 35, 92, 11, 2, 456), (92, .getfield 319, 95, 1, 7, 166), (95, .iload 4, 97, 4, 0, 0), (97, .iaload, 98, 0, 0, 0), (98, .if_icmp .le 7, 101, 105, 0, 0), (101, .iconst 1, 102, 0, 0, 0), (102, .goto 4, 105, 106, 0, 0), (105, .iconst 0, 106, 0, 0, 0), (106, .istore 6, 108, 6, 0, 0), (108, .iload 5, 110, 5, 0, 0), (110, .ifCond .ne 8, 113, 118, 0, 0), (113, .iload 6, 115, 6, 0, 0), (115, .ifCond .eq 6, 118, 121, 0, 0), (118, .iload 4, 120, 4, 0, 0), (120, .ireturn, 121, 0, 0, 0), (121, .iinc 4 1, 124, 4, 0, 0), (124, .goto (-88), 127, 36, 0, 0), (127, .iconst (-1), 128, 0, 0, 0), (128, .ireturn, 129, 0, 0, 0)]
def mc146 : List (Nat × Ins) := mc146_0 ++ mc146_1
-- 147: LikeYears.come(IIII)I
def mc147_0 : List (Nat × Ins) := [(0, .iload_n 1, 1, 1, 0, 0), (1, .ifCond .lt 39, 4, 40, 0, 0), (4, .iload_n 1, 5, 1, 0, 0), (5, .bipush 9, 7, 0, 0, 0), (7, .if_icmp .gt 33, 10, 40, 0, 0), (10, .iload_n 2, 11, 2, 0, 0), (11, .invokestatic 303, 14, 156, 1199, 0), (14, .ifCond .eq 26, 17, 40, 0, 0), (17, .iload_n 3, 18, 3, 0, 0), (18, .invokestatic 369, 21, 157, 1291, 0), (21, .ifCond .eq 19, 24, 40, 0, 0), (24, .iload 4, 26, 4, 0, 0), (26, .iconst 1, 27, 0, 0, 0), (27, .if_icmp .lt 13, 30, 40, 0, 0), (30, .iload 4, 32, 4, 0, 0), (32, .iconst 4, 33, 0, 0, 0), (33, .if_icmp .gt 7, 36, 40, 0, 0), (36, .iconst 1, 37, 0, 0, 0), (37, .goto 4, 40, 41, 0, 0), (40, .iconst 0, 41, 0, 0, 0), (41, .istore 5, 43, 5, 0, 0), (43, .iload 5, 45, 5, 0, 0), (45, .ifCond .eq 15, 48, 60, 0, 0), (48, .aload_n 0, 49, 0, 0, 0), (49, .getfield 35, 52, 11, 2, 456), (52, .getfield 283, 55, 1, 4, 152), (55, .bipush 16, 57, 0, 0, 0), (57, .if_icmp .lt 5, 60, 62, 0, 0), (60, .iconst (-1), 61, 0, 0, 0), (61, .ireturn, 62, 0, 0, 0), (62, .aload_n 0, 63, 0, 0, 0), (63, .getfield 35, 66, 11, 2, 456), (66, .getfield 283, 69, 1, 4, 152), (69, .istore 6, 71, 6, 0, 0), (71, .aload_n 0, 72, 0, 0, 0), (72, .getfield 35, 75, 11, 2, 456), (75, .iload 6, 77, 6, 0, 0), (77, .iload_n 1, 78, 1, 0, 0), (78, .iload_n 2, 79, 2, 0, 0), (79, .iload_n 3, 80, 3, 0, 0)]
def mc147_1 : List (Nat × Ins) := [(80, .iload 4, 82, 4, 0, 0), (82, .invokevirtual 372, 85, 9, 1298, 0), (85, .iconst 0, 86, 0, 0, 0), (86, .istore 7, 88, 7, 0, 0), (88, .iload 7, 90, 7, 0, 0), (90, .aload_n 0, 91, 0, 0, 0), (91, .getfield 35, 94, 11, 2, 456), (94, .getfield 262, 97, 1, 0, 136), (97, .if_icmp .ge 31, 100, 128, 0, 0), (100, .aload_n 0, 101, 0, 0, 0), (101, .getfield 35, 104, 11, 2, 456), (104, .iload 6, 106, 6, 0, 0), (106, .iload 7, 108, 7, 0, 0), (108, .aload_n 0, 109, 0, 0, 0), (109, .getfield 35, 112, 11, 2, 456), (112, .bipush 16, 114, 0, 0, 0), (114, .iload 7, 116, 7, 0, 0), (116, .invokevirtual 330, 119, 15, 1219, 0), (119, .invokevirtual 355, 122, 16, 1270, 0), (122, .iinc 7 1, 125, 7, 0, 0), (125, .goto (-37), 128, 88, 0, 0), (128, .aload_n 0, 129, 0, 0, 0), (129, .iconst 0, 130, 0, 0, 0), (130, .iload 6, 132, 6, 0, 0), (132, .iconst 0, 133, 0, 0, 0), (133, .iconst 0, 134, 0, 0, 0), (134, .invokevirtual 376, 137, 167, 1299, 0), (137, .iload 6, 139, 6, 0, 0), (139, .ireturn, 140, 0, 0, 0)]
def mc147 : List (Nat × Ins) := mc147_0 ++ mc147_1
-- 148: LikeYears.count(IZ)Z
def mc148_0 : List (Nat × Ins) := [(0, .aload_n 0, 1, 0, 0, 0), (1, .getfield 35, 4, 11, 2, 456), (4, .iload_n 1, 5, 1, 0, 0), (5, .invokevirtual 380, 8, 11, 1098, 0), (8, .ifCond .eq 15, 11, 23, 0, 0), (11, .aload_n 0, 12, 0, 0, 0), (12, .getfield 35, 15, 11, 2, 456), (15, .iload_n 1, 16, 1, 0, 0), (16, .invokevirtual 343, 19, 14, 1265, 0), (19, .iload_n 2, 20, 2, 0, 0), (20, .if_icmp .ne 5, 23, 25, 0, 0), (23, .iconst 0, 24, 0, 0, 0), (24, .ireturn, 25, 0, 0, 0), (25, .aload_n 0, 26, 0, 0, 0), (26, .getfield 19, 29, 11, 10, 464), (29, .aload_n 0, 30, 0, 0, 0), (30, .getfield 35, 33, 11, 2, 456), (33, .aload_n 0, 34, 0, 0, 0), (34, .getfield 35, 37, 11, 2, 456), (37, .getfield 346, 40, 1, 3, 144), (40, .iconst 1, 41, 0, 0, 0), (41, .iload_n 1, 42, 1, 0, 0), (42, .ishl, 43, 0, 0, 0), (43, .ixor, 44, 0, 0, 0), (44, .invokevirtual 349, 47, 76, 885, 0), (47, .aload_n 0, 48, 0, 0, 0), (48, .getfield 19, 51, 11, 10, 464), (51, .aload_n 0, 52, 0, 0, 0), (52, .getfield 35, 55, 11, 2, 456), (55, .invokevirtual 352, 58, 77, 886, 0), (58, .ifCond .lt 5, 61, 63, 0, 0), (61, .iconst 0, 62, 0, 0, 0), (62, .ireturn, 63, 0, 0, 0), (63, .aload_n 0, 64, 0, 0, 0), (64, .iconst 1, 65, 0, 0, 0), (65, .iload_n 1, 66, 1, 0, 0), (66, .iload_n 2, 67, 2, 0, 0), (67, .ifCond .eq 7, 70, 74, 0, 0), (70, .iconst 0, 71, 0, 0, 0), (71, .goto 4, 74, 75, 0, 0)]
def mc148_1 : List (Nat × Ins) := [(74, .iconst 1, 75, 0, 0, 0), (75, .iload_n 2, 76, 2, 0, 0), (76, .ifCond .eq 7, 79, 83, 0, 0), (79, .iconst 1, 80, 0, 0, 0), (80, .goto 4, 83, 84, 0, 0), (83, .iconst 0, 84, 0, 0, 0), (84, .invokevirtual 376, 87, 167, 1299, 0), (87, .iconst 1, 88, 0, 0, 0), (88, .ireturn, 89, 0, 0, 0)]
def mc148 : List (Nat × Ins) := mc148_0 ++ mc148_1
-- 149: LikeYears.give(II)Z
def mc149 : List (Nat × Ins) := [(0, .aload_n 0, 1, 0, 0, 0), (1, .getfield 35, 4, 11, 2, 456), (4, .iload_n 1, 5, 1, 0, 0), (5, .invokevirtual 143, 8, 12, 877, 0), (8, .ifCond .eq 23, 11, 31, 0, 0), (11, .iload_n 2, 12, 2, 0, 0), (12, .invokestatic 369, 15, 157, 1291, 0), (15, .ifCond .eq 16, 18, 31, 0, 0), (18, .aload_n 0, 19, 0, 0, 0), (19, .getfield 35, 22, 11, 2, 456), (22, .getfield 319, 25, 1, 7, 166), (25, .iload_n 1, 26, 1, 0, 0), (26, .iaload, 27, 0, 0, 0), (27, .iload_n 2, 28, 2, 0, 0), (28, .if_icmp .ne 5, 31, 33, 0, 0), (31, .iconst 0, 32, 0, 0, 0), (32, .ireturn, 33, 0, 0, 0), (33, .aload_n 0, 34, 0, 0, 0), (34, .iconst 2, 35, 0, 0, 0), (35, .iload_n 1, 36, 1, 0, 0), (36, .aload_n 0, 37, 0, 0, 0), (37, .getfield 35, 40, 11, 2, 456), (40, .getfield 319, 43, 1, 7, 166), (43, .iload_n 1, 44, 1, 0, 0), (44, .iaload, 45, 0, 0, 0), (45, .iload_n 2, 46, 2, 0, 0), (46, .invokevirtual 376, 49, 167, 1299, 0), (49, .iconst 1, 50, 0, 0, 0), (50, .ireturn, 51, 0, 0, 0)]
-- 150: LikeYears.undo()Z
def mc150 : List (Nat × Ins) := [(0, .aload_n 0, 1, 0, 0, 0), (1, .getfield 65, 4, 11, 8, 462), (4, .aload_n 0, 5, 0, 0, 0), (5, .getfield 35, 8, 11, 2, 456), (8, .invokevirtual 383, 11, 3, 1328, 0), (11, .istore_n 1, 12, 1, 0, 0), (12, .aload_n 0, 13, 0, 0, 0), (13, .iload_n 1, 14, 1, 0, 0), (14, .ifCond .eq 7, 17, 21, 0, 0), (17, .iconst 0, 18, 0, 0, 0), (18, .goto 7, 21, 25, 0, 0), (21, .aload_n 0, 22, 0, 0, 0), (22, .getfield 132, 25, 11, 17, 471), (25, .putfield 132, 28, 11, 17, 471), (28, .iload_n 1, 29, 1, 0, 0), (29, .ireturn, 30, 0, 0, 0)]
-- 151: LikeYears.redo()Z
def mc151 : List (Nat × Ins) := [(0, .aload_n 0, 1, 0, 0, 0), (1, .getfield 65, 4, 11, 8, 462), (4, .aload_n 0, 5, 0, 0, 0), (5, .getfield 35, 8, 11, 2, 456), (8, .invokevirtual 386, 11, 4, 1337, 0), (11, .istore_n 1, 12, 1, 0, 0), (12, .aload_n 0, 13, 0, 0, 0), (13, .iload_n 1, 14, 1, 0, 0), (14, .ifCond .eq 7, 17, 21, 0, 0), (17, .iconst 0, 18, 0, 0, 0), (18, .goto 7, 21, 25, 0, 0), (21, .aload_n 0, 22, 0, 0, 0), (22, .getfield 132, 25, 11, 17, 471), (25, .putfield 132, 28, 11, 17, 471), (28, .iload_n 1, 29, 1, 0, 0), (29, .ireturn, 30, 0, 0, 0)]
-- 152: LikeYears.keep(I)I
def mc152 : List (Nat × Ins) := [(0, .iload_n 1, 1, 1, 0, 0), (1, .ifCond .lt 8, 4, 9, 0, 0), (4, .iload_n 1, 5, 1, 0, 0), (5, .iconst 3, 6, 0, 0, 0), (6, .if_icmp .lt 5, 9, 11, 0, 0), (9, .iconst (-1), 10, 0, 0, 0), (10, .ireturn, 11, 0, 0, 0), (11, .aload_n 0, 12, 0, 0, 0), (12, .getfield 54, 15, 11, 6, 460), (15, .iload_n 1, 16, 1, 0, 0), (16, .aaload, 17, 0, 0, 0), (17, .aload_n 0, 18, 0, 0, 0), (18, .getfield 35, 21, 11, 2, 456), (21, .invokevirtual 389, 24, 19, 1345, 0), (24, .aload_n 0, 25, 0, 0, 0), (25, .getfield 58, 28, 11, 7, 461), (28, .iload_n 1, 29, 1, 0, 0), (29, .iconst 1, 30, 0, 0, 0), (30, .bastore, 31, 0, 0, 0), (31, .aload_n 0, 32, 0, 0, 0), (32, .getfield 35, 35, 11, 2, 456), (35, .getfield 283, 38, 1, 4, 152), (38, .ireturn, 39, 0, 0, 0)]
-- 153: LikeYears.back(I)I
def mc153 : List (Nat × Ins) := [(0, .iload_n 1, 1, 1, 0, 0), (1, .ifCond .lt 17, 4, 18, 0, 0), (4, .iload_n 1, 5, 1, 0, 0), (5, .iconst 3, 6, 0, 0, 0), (6, .if_icmp .ge 12, 9, 18, 0, 0), (9, .aload_n 0, 10, 0, 0, 0), (10, .getfield 58, 13, 11, 7, 461), (13, .iload_n 1, 14, 1, 0, 0), (14, .baload, 15, 0, 0, 0), (15, .ifCond .ne 5, 18, 20, 0, 0), (18, .iconst (-1), 19, 0, 0, 0), (19, .ireturn, 20, 0, 0, 0), (20, .aload_n 0, 21, 0, 0, 0), (21, .getfield 35, 24, 11, 2, 456), (24, .aload_n 0, 25, 0, 0, 0), (25, .getfield 54, 28, 11, 6, 460), (28, .iload_n 1, 29, 1, 0, 0), (29, .aaload, 30, 0, 0, 0), (30, .invokevirtual 389, 33, 19, 1345, 0), (33, .aload_n 0, 34, 0, 0, 0), (34, .getfield 65, 37, 11, 8, 462), (37, .invokevirtual 123, 40, 0, 802, 0), (40, .aload_n 0, 41, 0, 0, 0), (41, .iconst 0, 42, 0, 0, 0), (42, .putfield 132, 45, 11, 17, 471), (45, .aload_n 0, 46, 0, 0, 0), (46, .getfield 35, 49, 11, 2, 456), (49, .getfield 283, 52, 1, 4, 152), (52, .ireturn, 53, 0, 0, 0)]
-- 154: LikeYears.about(I)I
def mc154_0 : List (Nat × Ins) := [(0, .iload_n 1, 1, 1, 0, 0), (1, .tableswitch 87 0 5 #[39, 47, 55, 63, 71, 79], 40, 0, 0, 0), (40, .aload_n 0, 41, 0, 0, 0), (41, .getfield 35, 44, 11, 2, 456), (44, .getfield 262, 47, 1, 0, 136), (47, .ireturn, 48, 0, 0, 0), (48, .aload_n 0, 49, 0, 0, 0), (49, .getfield 35, 52, 11, 2, 456), (52, .getfield 283, 55, 1, 4, 152), (55, .ireturn, 56, 0, 0, 0), (56, .aload_n 0, 57, 0, 0, 0), (57, .getfield 35, 60, 11, 2, 456), (60, .getfield 393, 63, 1, 10, 176), (63, .ireturn, 64, 0, 0, 0), (64, .aload_n 0, 65, 0, 0, 0), (65, .getfield 65, 68, 11, 8, 462), (68, .getfield 396, 71, 0, 0, 262), (71, .ireturn, 72, 0, 0, 0), (72, .aload_n 0, 73, 0, 0, 0), (73, .getfield 12, 76, 11, 0, 454), (76, .getfield 108, 79, 10, 0, 38), (79, .ireturn, 80, 0, 0, 0), (80, .aload_n 0, 81, 0, 0, 0), (81, .getfield 47, 84, 11, 4, 458), (84, .getfield 120, 87, 6, 2, 217), (87, .ireturn, 88, 0, 0, 0), (88, .iload_n 1, 89, 1, 0, 0), (89, .bipush 10, 91, 0, 0, 0), (91, .if_icmp .lt 32, 94, 123, 0, 0), (94, .iload_n 1, 95, 1, 0, 0), (95, .bipush 10, 97, 0, 0, 0), (97, .isub, 98, 0, 0, 0), (98, .aload_n 0, 99, 0, 0, 0), (99, .getfield 35, 102, 11, 2, 456), (102, .getfield 283, 105, 1, 4, 152), (105, .if_icmp .ge 18, 108, 123, 0, 0), (108, .aload_n 0, 109, 0, 0, 0), (109, .getfield 35, 112, 11, 2, 456), (112, .getfield 319, 115, 1, 7, 166), (115, .iload_n 1, 116, 1, 0, 0)]
def mc154_1 : List (Nat × Ins) := [(116, .bipush 10, 118, 0, 0, 0), (118, .isub, 119, 0, 0, 0), (119, .iaload, 120, 0, 0, 0), (120, .goto 4, 123, 124, 0, 0), (123, .iconst (-1), 124, 0, 0, 0), (124, .ireturn, 125, 0, 0, 0)]
def mc154 : List (Nat × Ins) := mc154_0 ++ mc154_1
-- 155: LikeYears.isPart(I)Z
def mc155 : List (Nat × Ins) := [(0, .iload_n 0, 1, 0, 0, 0), (1, .ifCond .eq 8, 4, 9, 0, 0), (4, .iload_n 0, 5, 0, 0, 0), (5, .iconst 1, 6, 0, 0, 0), (6, .if_icmp .ne 7, 9, 13, 0, 0), (9, .iconst 1, 10, 0, 0, 0), (10, .goto 4, 13, 14, 0, 0), (13, .iconst 0, 14, 0, 0, 0), (14, .ireturn, 15, 0, 0, 0)]
-- 156: LikeYears.isYear(I)Z
def mc156 : List (Nat × Ins) := [(0, .iload_n 0, 1, 0, 0, 0), (1, .ifCond .lt 13, 4, 14, 0, 0), (4, .iload_n 0, 5, 0, 0, 0), (5, .bipush 99, 7, 0, 0, 0), (7, .if_icmp .gt 7, 10, 14, 0, 0), (10, .iconst 1, 11, 0, 0, 0), (11, .goto 4, 14, 15, 0, 0), (14, .iconst 0, 15, 0, 0, 0), (15, .ireturn, 16, 0, 0, 0)]
-- 157: LikeYears.isGiven(I)Z
def mc157 : List (Nat × Ins) := [(0, .iload_n 0, 1, 0, 0, 0), (1, .ifCond .lt 14, 4, 15, 0, 0), (4, .iload_n 0, 5, 0, 0, 0), (5, .sipush 240, 8, 0, 0, 0), (8, .if_icmp .gt 7, 11, 15, 0, 0), (11, .iconst 1, 12, 0, 0, 0), (12, .goto 4, 15, 16, 0, 0), (15, .iconst 0, 16, 0, 0, 0), (16, .ireturn, 17, 0, 0, 0)]
-- 158: LikeYears.isGrid(II)Z
def mc158 : List (Nat × Ins) := [(0, .aload_n 0, 1, 0, 0, 0), (1, .getfield 35, 4, 11, 2, 456), (4, .iload_n 1, 5, 1, 0, 0), (5, .invokevirtual 380, 8, 11, 1098, 0), (8, .ifCond .eq 23, 11, 31, 0, 0), (11, .aload_n 0, 12, 0, 0, 0), (12, .getfield 35, 15, 11, 2, 456), (15, .iload_n 2, 16, 2, 0, 0), (16, .invokevirtual 380, 19, 11, 1098, 0), (19, .ifCond .eq 12, 22, 31, 0, 0), (22, .iload_n 1, 23, 1, 0, 0), (23, .iload_n 2, 24, 2, 0, 0), (24, .if_icmp .ge 7, 27, 31, 0, 0), (27, .iconst 1, 28, 0, 0, 0), (28, .goto 4, 31, 32, 0, 0), (31, .iconst 0, 32, 0, 0, 0), (32, .ireturn, 33, 0, 0, 0)]
-- 159: LikeYears.isRuns(II)Z
def mc159 : List (Nat × Ins) := [(0, .aload_n 0, 1, 0, 0, 0), (1, .getfield 35, 4, 11, 2, 456), (4, .iload_n 1, 5, 1, 0, 0), (5, .invokevirtual 380, 8, 11, 1098, 0), (8, .ifCond .eq 18, 11, 26, 0, 0), (11, .iload_n 2, 12, 2, 0, 0), (12, .iconst 1, 13, 0, 0, 0), (13, .if_icmp .lt 13, 16, 26, 0, 0), (16, .iload_n 2, 17, 2, 0, 0), (17, .bipush 12, 19, 0, 0, 0), (19, .if_icmp .gt 7, 22, 26, 0, 0), (22, .iconst 1, 23, 0, 0, 0), (23, .goto 4, 26, 27, 0, 0), (26, .iconst 0, 27, 0, 0, 0), (27, .ireturn, 28, 0, 0, 0)]
-- 160: LikeYears.knownOrder()LLikeYears$Order;
def mc160 : List (Nat × Ins) := [(0, .aload_n 0, 1, 0, 0, 0), (1, .getfield 132, 4, 11, 17, 471), (4, .iconst 1, 5, 0, 0, 0), (5, .iand, 6, 0, 0, 0), (6, .ifCond .ne 43, 9, 49, 0, 0), (9, .aload_n 0, 10, 0, 0, 0), (10, .getfield 69, 13, 11, 9, 463), (13, .aload_n 0, 14, 0, 0, 0), (14, .getfield 35, 17, 11, 2, 456), (17, .aload_n 0, 18, 0, 0, 0), (18, .getfield 35, 21, 11, 2, 456), (21, .getfield 346, 24, 1, 3, 144), (24, .invokevirtual 349, 27, 76, 885, 0), (27, .aload_n 0, 28, 0, 0, 0), (28, .getfield 69, 31, 11, 9, 463), (31, .aload_n 0, 32, 0, 0, 0), (32, .getfield 35, 35, 11, 2, 456), (35, .invokevirtual 352, 38, 77, 886, 0), (38, .pop, 39, 0, 0, 0), (39, .aload_n 0, 40, 0, 0, 0), (40, .dup, 41, 0, 0, 0), (41, .getfield 132, 44, 11, 17, 471), (44, .iconst 1, 45, 0, 0, 0), (45, .ior, 46, 0, 0, 0), (46, .putfield 132, 49, 11, 17, 471), (49, .aload_n 0, 50, 0, 0, 0), (50, .getfield 69, 53, 11, 9, 463), (53, .areturn, 54, 0, 0, 0)]
-- 161: LikeYears.knownSquares()LLikeYears$Nearest;
def mc161 : List (Nat × Ins) := [(0, .aload_n 0, 1, 0, 0, 0), (1, .getfield 132, 4, 11, 17, 471), (4, .iconst 2, 5, 0, 0, 0), (5, .iand, 6, 0, 0, 0), (6, .ifCond .ne 38, 9, 44, 0, 0), (9, .aload_n 0, 10, 0, 0, 0), (10, .getfield 80, 13, 11, 11, 465), (13, .aload_n 0, 14, 0, 0, 0), (14, .getfield 35, 17, 11, 2, 456), (17, .aload_n 0, 18, 0, 0, 0), (18, .invokevirtual 147, 21, 160, 881, 0), (21, .getfield 309, 24, 8, 1, 96), (24, .aload_n 0, 25, 0, 0, 0), (25, .getfield 35, 28, 11, 2, 456), (28, .invokevirtual 399, 31, 17, 954, 0), (31, .invokevirtual 312, 34, 68, 958, 0), (34, .aload_n 0, 35, 0, 0, 0), (35, .dup, 36, 0, 0, 0), (36, .getfield 132, 39, 11, 17, 471), (39, .iconst 2, 40, 0, 0, 0), (40, .ior, 41, 0, 0, 0), (41, .putfield 132, 44, 11, 17, 471), (44, .aload_n 0, 45, 0, 0, 0), (45, .getfield 80, 48, 11, 11, 465), (48, .areturn, 49, 0, 0, 0)]
-- 162: LikeYears.knownGaps()LLikeYears$Nearest;
def mc162 : List (Nat × Ins) := [(0, .aload_n 0, 1, 0, 0, 0), (1, .getfield 132, 4, 11, 17, 471), (4, .iconst 4, 5, 0, 0, 0), (5, .iand, 6, 0, 0, 0), (6, .ifCond .ne 31, 9, 37, 0, 0), (9, .aload_n 0, 10, 0, 0, 0), (10, .getfield 80, 13, 11, 11, 465), (13, .aload_n 0, 14, 0, 0, 0), (14, .getfield 35, 17, 11, 2, 456), (17, .aload_n 0, 18, 0, 0, 0), (18, .invokevirtual 147, 21, 160, 881, 0), (21, .getfield 309, 24, 8, 1, 96), (24, .invokevirtual 402, 27, 73, 1027, 0), (27, .aload_n 0, 28, 0, 0, 0), (28, .dup, 29, 0, 0, 0), (29, .getfield 132, 32, 11, 17, 471), (32, .iconst 4, 33, 0, 0, 0), (33, .ior, 34, 0, 0, 0), (34, .putfield 132, 37, 11, 17, 471), (37, .aload_n 0, 38, 0, 0, 0), (38, .getfield 80, 41, 11, 11, 465), (41, .areturn, 42, 0, 0, 0)]
-- 163: LikeYears.gridCost(II)LLikeYears$Fraction;
def mc163 : List (Nat × Ins) := [(0, .aload_n 0, 1, 0, 0, 0), (1, .getfield 19, 4, 11, 10, 464), (4, .aload_n 0, 5, 0, 0, 0), (5, .getfield 35, 8, 11, 2, 456), (8, .iconst 1, 9, 0, 0, 0), (9, .iload_n 1, 10, 1, 0, 0), (10, .ishl, 11, 0, 0, 0), (11, .iconst 1, 12, 0, 0, 0), (12, .iload_n 2, 13, 2, 0, 0), (13, .ishl, 14, 0, 0, 0), (14, .ior, 15, 0, 0, 0), (15, .invokevirtual 349, 18, 76, 885, 0), (18, .aload_n 0, 19, 0, 0, 0), (19, .getfield 84, 22, 11, 12, 466), (22, .aload_n 0, 23, 0, 0, 0), (23, .getfield 35, 26, 11, 2, 456), (26, .aload_n 0, 27, 0, 0, 0), (27, .getfield 19, 30, 11, 10, 464), (30, .getfield 309, 33, 8, 1, 96), (33, .aload_n 0, 34, 0, 0, 0), (34, .getfield 35, 37, 11, 2, 456), (37, .invokevirtual 399, 40, 17, 954, 0), (40, .invokevirtual 312, 43, 68, 958, 0), (43, .aload_n 0, 44, 0, 0, 0), (44, .getfield 84, 47, 11, 12, 466), (47, .getfield 218, 50, 7, 4, 350), (50, .areturn, 51, 0, 0, 0)]
-- 164: LikeYears.findBest()I
def mc164_0 : List (Nat × Ins) := [(0, .iconst (-1), 1, 0, 0, 0), (1, .istore_n 1, 2, 1, 0, 0), (2, .iconst 0, 3, 0, 0, 0), (3, .istore_n 2, 4, 2, 0, 0), (4, .iload_n 2, 5, 2, 0, 0), (5, .aload_n 0, 6, 0, 0, 0), (6, .getfield 35, 9, 11, 2, 456), (9, .getfield 262, 12, 1, 0, 136), (12, .if_icmp .ge 96, 15, 108, 0, 0), (15, .iload_n 2, 16, 2, 0, 0), (16, .iconst 1, 17, 0, 0, 0), (17, .iadd, 18, 0, 0, 0), (18, .istore_n 3, 19, 3, 0, 0), (19, .iload_n 3, 20, 3, 0, 0), (20, .aload_n 0, 21, 0, 0, 0), (21, .getfield 35, 24, 11, 2, 456), (24, .getfield 262, 27, 1, 0, 136), (27, .if_icmp .ge 75, 30, 102, 0, 0), (30, .aload_n 0, 31, 0, 0, 0), (31, .iload_n 2, 32, 2, 0, 0), (32, .iload_n 3, 33, 3, 0, 0), (33, .invokevirtual 246, 36, 163, 1102, 0), (36, .astore 4, 38, 4, 0, 0), (38, .iload_n 1, 39, 1, 0, 0), (39, .ifCond .lt 33, 42, 72, 0, 0), (42, .aload 4, 44, 4, 0, 0), (44, .getfield 252, 47, 5, 0, 332), (47, .aload 4, 49, 4, 0, 0), (49, .getfield 256, 52, 5, 1, 336), (52, .aload_n 0, 53, 0, 0, 0), (53, .getfield 104, 56, 11, 15, 469), (56, .getfield 252, 59, 5, 0, 332), (59, .aload_n 0, 60, 0, 0, 0), (60, .getfield 104, 63, 11, 15, 469), (63, .getfield 256, 66, 5, 1, 336), (66, .invokestatic 406, 69, 51, 1120, 0), (69, .ifCond .ge 27, 72, 96, 0, 0), (72, .aload_n 0, 73, 0, 0, 0), (73, .getfield 104, 76, 11, 15, 469), (76, .aload 4, 78, 4, 0, 0)]
def mc164_1 : List (Nat × Ins) := [(78, .getfield 252, 81, 5, 0, 332), (81, .aload 4, 83, 4, 0, 0), (83, .getfield 256, 86, 5, 1, 336), (86, .invokevirtual 205, 89, 47, 1041, 0), (89, .bipush 10, 91, 0, 0, 0), (91, .iload_n 2, 92, 2, 0, 0), (92, .imul, 93, 0, 0, 0), (93, .iload_n 3, 94, 3, 0, 0), (94, .iadd, 95, 0, 0, 0), (95, .istore_n 1, 96, 1, 0, 0), (96, .iinc 3 1, 99, 3, 0, 0), (99, .goto (-80), 102, 19, 0, 0), (102, .iinc 2 1, 105, 2, 0, 0), (105, .goto (-101), 108, 4, 0, 0), (108, .iload_n 1, 109, 1, 0, 0), (109, .ireturn, 110, 0, 0, 0)]
def mc164 : List (Nat × Ins) := mc164_0 ++ mc164_1
-- 165: LikeYears.outside(III)I
def mc165 : List (Nat × Ins) := [(0, .iload_n 0, 1, 0, 0, 0), (1, .iload_n 1, 2, 1, 0, 0), (2, .if_icmp .ge 7, 5, 9, 0, 0), (5, .iload_n 1, 6, 1, 0, 0), (6, .iload_n 0, 7, 0, 0, 0), (7, .isub, 8, 0, 0, 0), (8, .ireturn, 9, 0, 0, 0), (9, .iload_n 0, 10, 0, 0, 0), (10, .iload_n 2, 11, 2, 0, 0), (11, .if_icmp .le 9, 14, 20, 0, 0), (14, .iload_n 0, 15, 0, 0, 0), (15, .iload_n 2, 16, 2, 0, 0), (16, .isub, 17, 0, 0, 0), (17, .goto 4, 20, 21, 0, 0), (20, .iconst 0, 21, 0, 0, 0), (21, .ireturn, 22, 0, 0, 0)]
-- 166: LikeYears.moveOf(I)I
def mc166 : List (Nat × Ins) := [(0, .aload_n 0, 1, 0, 0, 0), (1, .getfield 47, 4, 11, 4, 458), (4, .aload_n 0, 5, 0, 0, 0), (5, .getfield 35, 8, 11, 2, 456), (8, .iload_n 1, 9, 1, 0, 0), (9, .invokevirtual 337, 12, 61, 1227, 0), (12, .istore_n 2, 13, 2, 0, 0), (13, .iload_n 2, 14, 2, 0, 0), (14, .ifCond .ge 7, 17, 21, 0, 0), (17, .iconst 0, 18, 0, 0, 0), (18, .goto 33, 21, 51, 0, 0), (21, .aload_n 0, 22, 0, 0, 0), (22, .getfield 35, 25, 11, 2, 456), (25, .getfield 319, 28, 1, 7, 166), (28, .iload_n 1, 29, 1, 0, 0), (29, .iaload, 30, 0, 0, 0), (30, .aload_n 0, 31, 0, 0, 0), (31, .getfield 47, 34, 11, 4, 458), (34, .getfield 410, 37, 6, 3, 219), (37, .iload_n 2, 38, 2, 0, 0), (38, .iaload, 39, 0, 0, 0), (39, .aload_n 0, 40, 0, 0, 0), (40, .getfield 47, 43, 11, 4, 458), (43, .getfield 413, 46, 6, 4, 221), (46, .iload_n 2, 47, 2, 0, 0), (47, .iaload, 48, 0, 0, 0), (48, .invokestatic 333, 51, 165, 1220, 0), (51, .ireturn, 52, 0, 0, 0)]
-- 167: LikeYears.act(IIII)V
def mc167 : List (Nat × Ins) := [(0, .aload_n 0, 1, 0, 0, 0), (1, .getfield 65, 4, 11, 8, 462), (4, .iload_n 1, 5, 1, 0, 0), (5, .iload_n 2, 6, 2, 0, 0), (6, .iload_n 3, 7, 3, 0, 0), (7, .iload 4, 9, 4, 0, 0), (9, .invokevirtual 416, 12, 1, 1303, 0), (12, .aload_n 0, 13, 0, 0, 0), (13, .getfield 35, 16, 11, 2, 456), (16, .iload_n 1, 17, 1, 0, 0), (17, .iload_n 2, 18, 2, 0, 0), (18, .iload 4, 20, 4, 0, 0), (20, .invokestatic 418, 23, 5, 1313, 0), (23, .aload_n 0, 24, 0, 0, 0), (24, .iconst 0, 25, 0, 0, 0), (25, .putfield 132, 28, 11, 17, 471), (28, .return_, 29, 0, 0, 0)]
-- 168: LikeYearsModel.feed(IIIII)I
def mc168 : List (Nat × Ins) := [(0, .aload_n 0, 1, 0, 0, 0), (1, .getfield 197, 4, 12, 1, 1366), (4, .bipush 20, 6, 0, 0, 0), (6, .iadd, 7, 0, 0, 0), (7, .sipush 1300, 10, 0, 0, 0), (10, .if_icmp .le 5, 13, 15, 0, 0), (13, .iconst (-1), 14, 0, 0, 0), (14, .ireturn, 15, 0, 0, 0), (15, .aload_n 0, 16, 0, 0, 0), (16, .iload_n 1, 17, 1, 0, 0), (17, .invokevirtual 200, 20, 169, 1634, 0), (20, .aload_n 0, 21, 0, 0, 0), (21, .iload_n 2, 22, 2, 0, 0), (22, .invokevirtual 200, 25, 169, 1634, 0), (25, .aload_n 0, 26, 0, 0, 0), (26, .iload_n 3, 27, 3, 0, 0), (27, .invokevirtual 200, 30, 169, 1634, 0), (30, .aload_n 0, 31, 0, 0, 0), (31, .iload 4, 33, 4, 0, 0), (33, .invokevirtual 200, 36, 169, 1634, 0), (36, .aload_n 0, 37, 0, 0, 0), (37, .iload 5, 39, 5, 0, 0), (39, .invokevirtual 200, 42, 169, 1634, 0), (42, .aload_n 0, 43, 0, 0, 0), (43, .getfield 197, 46, 12, 1, 1366), (46, .ireturn, 47, 0, 0, 0)]
-- 169: LikeYearsModel.four(I)V
def mc169 : List (Nat × Ins) := [(0, .bipush 24, 2, 0, 0, 0), (2, .istore_n 2, 3, 2, 0, 0), (3, .iload_n 2, 4, 2, 0, 0), (4, .ifCond .lt 35, 7, 39, 0, 0), (7, .aload_n 0, 8, 0, 0, 0), (8, .getfield 7, 11, 12, 0, 1365), (11, .aload_n 0, 12, 0, 0, 0), (12, .getfield 197, 15, 12, 1, 1366), (15, .iload_n 1, 16, 1, 0, 0), (16, .iload_n 2, 17, 2, 0, 0), (17, .ishr, 18, 0, 0, 0), (18, .sipush 255, 21, 0, 0, 0), (21, .iand, 22, 0, 0, 0), (22, .iastore, 23, 0, 0, 0), (23, .aload_n 0, 24, 0, 0, 0), (24, .dup, 25, 0, 0, 0), (25, .getfield 197, 28, 12, 1, 1366), (28, .iconst 1, 29, 0, 0, 0), (29, .iadd, 30, 0, 0, 0), (30, .putfield 197, 33, 12, 1, 1366), (33, .iinc 2 (-8), 36, 2, 0, 0), (36, .goto (-33), 39, 3, 0, 0), (39, .return_, 40, 0, 0, 0)]
-- 170: LikeYearsModel.end(I)I
def mc170 : List (Nat × Ins) := [(0, .iload_n 1, 1, 1, 0, 0), (1, .ifCond .lt 11, 4, 12, 0, 0), (4, .iload_n 1, 5, 1, 0, 0), (5, .aload_n 0, 6, 0, 0, 0), (6, .getfield 197, 9, 12, 1, 1366), (9, .if_icmp .le 5, 12, 14, 0, 0), (12, .iconst (-1), 13, 0, 0, 0), (13, .ireturn, 14, 0, 0, 0), (14, .aload_n 0, 15, 0, 0, 0), (15, .iload_n 1, 16, 1, 0, 0), (16, .putfield 197, 19, 12, 1, 1366), (19, .iload_n 1, 20, 1, 0, 0), (20, .ireturn, 21, 0, 0, 0)]
-- 171: LikeYearsModel.here(I)I
def mc171 : List (Nat × Ins) := [(0, .aload_n 0, 1, 0, 0, 0), (1, .getfield 204, 4, 12, 4, 1369), (4, .iload_n 1, 5, 1, 0, 0), (5, .iadd, 6, 0, 0, 0), (6, .aload_n 0, 7, 0, 0, 0), (7, .getfield 207, 10, 12, 5, 1370), (10, .if_icmp .ge 17, 13, 27, 0, 0), (13, .aload_n 0, 14, 0, 0, 0), (14, .getfield 7, 17, 12, 0, 1365), (17, .aload_n 0, 18, 0, 0, 0), (18, .getfield 204, 21, 12, 4, 1369), (21, .iload_n 1, 22, 1, 0, 0), (22, .iadd, 23, 0, 0, 0), (23, .iaload, 24, 0, 0, 0), (24, .goto 4, 27, 28, 0, 0), (27, .iconst (-1), 28, 0, 0, 0), (28, .ireturn, 29, 0, 0, 0)]
-- 172: LikeYearsModel.isLetter(I)Z
def mc172 : List (Nat × Ins) := [(0, .iload_n 0, 1, 0, 0, 0), (1, .bipush 97, 3, 0, 0, 0), (3, .if_icmp .lt 13, 6, 16, 0, 0), (6, .iload_n 0, 7, 0, 0, 0), (7, .bipush 122, 9, 0, 0, 0), (9, .if_icmp .gt 7, 12, 16, 0, 0), (12, .iconst 1, 13, 0, 0, 0), (13, .goto 4, 16, 17, 0, 0), (16, .iconst 0, 17, 0, 0, 0), (17, .ireturn, 18, 0, 0, 0)]
-- 173: LikeYearsModel.isDigit(I)Z
def mc173 : List (Nat × Ins) := [(0, .iload_n 0, 1, 0, 0, 0), (1, .bipush 48, 3, 0, 0, 0), (3, .if_icmp .lt 13, 6, 16, 0, 0), (6, .iload_n 0, 7, 0, 0, 0), (7, .bipush 57, 9, 0, 0, 0), (9, .if_icmp .gt 7, 12, 16, 0, 0), (12, .iconst 1, 13, 0, 0, 0), (13, .goto 4, 16, 17, 0, 0), (16, .iconst 0, 17, 0, 0, 0), (17, .ireturn, 18, 0, 0, 0)]
-- 174: LikeYearsModel.isLawSign(I)Z
def mc174 : List (Nat × Ins) := [(0, .iload_n 0, 1, 0, 0, 0), (1, .bipush 40, 3, 0, 0, 0), (3, .if_icmp .eq 45, 6, 48, 0, 0), (6, .iload_n 0, 7, 0, 0, 0), (7, .bipush 41, 9, 0, 0, 0), (9, .if_icmp .eq 39, 12, 48, 0, 0), (12, .iload_n 0, 13, 0, 0, 0), (13, .bipush 60, 15, 0, 0, 0), (15, .if_icmp .eq 33, 18, 48, 0, 0), (18, .iload_n 0, 19, 0, 0, 0), (19, .bipush 62, 21, 0, 0, 0), (21, .if_icmp .eq 27, 24, 48, 0, 0), (24, .iload_n 0, 25, 0, 0, 0), (25, .bipush 61, 27, 0, 0, 0), (27, .if_icmp .eq 21, 30, 48, 0, 0), (30, .iload_n 0, 31, 0, 0, 0), (31, .bipush 43, 33, 0, 0, 0), (33, .if_icmp .eq 15, 36, 48, 0, 0), (36, .iload_n 0, 37, 0, 0, 0), (37, .bipush 45, 39, 0, 0, 0), (39, .if_icmp .eq 9, 42, 48, 0, 0), (42, .iload_n 0, 43, 0, 0, 0), (43, .bipush 42, 45, 0, 0, 0), (45, .if_icmp .ne 7, 48, 52, 0, 0), (48, .iconst 1, 49, 0, 0, 0), (49, .goto 4, 52, 53, 0, 0), (52, .iconst 0, 53, 0, 0, 0), (53, .ireturn, 54, 0, 0, 0)]
-- 175: LikeYearsModel.token()V
def mc175_0 : List (Nat × Ins) := [(0, .aload_n 0, 1, 0, 0, 0), (1, .iconst 0, 2, 0, 0, 0), (2, .invokevirtual 210, 5, 171, 1650, 0), (5, .bipush 32, 7, 0, 0, 0), (7, .if_icmp .eq 13, 10, 20, 0, 0), (10, .aload_n 0, 11, 0, 0, 0), (11, .iconst 0, 12, 0, 0, 0), (12, .invokevirtual 210, 15, 171, 1650, 0), (15, .bipush 10, 17, 0, 0, 0), (17, .if_icmp .ne 16, 20, 33, 0, 0), (20, .aload_n 0, 21, 0, 0, 0), (21, .dup, 22, 0, 0, 0), (22, .getfield 204, 25, 12, 4, 1369), (25, .iconst 1, 26, 0, 0, 0), (26, .iadd, 27, 0, 0, 0), (27, .putfield 204, 30, 12, 4, 1369), (30, .goto (-30), 33, 0, 0, 0), (33, .aload_n 0, 34, 0, 0, 0), (34, .aload_n 0, 35, 0, 0, 0), (35, .getfield 204, 38, 12, 4, 1369), (38, .putfield 214, 41, 12, 7, 1372), (41, .aload_n 0, 42, 0, 0, 0), (42, .iconst 0, 43, 0, 0, 0), (43, .invokevirtual 210, 46, 171, 1650, 0), (46, .istore_n 1, 47, 1, 0, 0), (47, .iconst 0, 48, 0, 0, 0), (48, .istore_n 2, 49, 2, 0, 0), (49, .aload_n 0, 50, 0, 0, 0), (50, .lconst 0, 51, 0, 0, 0), (51, .putfield 217, 54, 12, 9, 1374), (54, .aload_n 0, 55, 0, 0, 0), (55, .iconst 0, 56, 0, 0, 0), (56, .putfield 221, 59, 12, 8, 1373), (59, .iload_n 1, 60, 1, 0, 0), (60, .ifCond .ge 11, 63, 71, 0, 0), (63, .aload_n 0, 64, 0, 0, 0), (64, .iconst 0, 65, 0, 0, 0), (65, .putfield 224, 68, 12, 6, 1371), (68, .goto 177, 71, 245, 0, 0), (71, .iload_n 1, 72, 1, 0, 0)]
def mc175_1 : List (Nat × Ins) := [(72, .invokestatic 227, 75, 172, 1654, 0), (75, .ifCond .eq 62, 78, 137, 0, 0), (78, .aload_n 0, 79, 0, 0, 0), (79, .iload_n 2, 80, 2, 0, 0), (80, .invokevirtual 210, 83, 171, 1650, 0), (83, .invokestatic 227, 86, 172, 1654, 0), (86, .ifCond .eq 33, 89, 119, 0, 0), (89, .iload_n 2, 90, 2, 0, 0), (90, .bipush 8, 92, 0, 0, 0), (92, .if_icmp .ge 21, 95, 113, 0, 0), (95, .aload_n 0, 96, 0, 0, 0), (96, .aload_n 0, 97, 0, 0, 0), (97, .getfield 217, 100, 12, 9, 1374), (100, .bipush 8, 102, 0, 0, 0), (102, .lshl, 103, 0, 0, 0), (103, .aload_n 0, 104, 0, 0, 0), (104, .iload_n 2, 105, 2, 0, 0), (105, .invokevirtual 210, 108, 171, 1650, 0), (108, .i2l, 109, 0, 0, 0), (109, .lor, 110, 0, 0, 0), (110, .putfield 217, 113, 12, 9, 1374), (113, .iinc 2 1, 116, 2, 0, 0), (116, .goto (-38), 119, 78, 0, 0), (119, .aload_n 0, 120, 0, 0, 0), (120, .iload_n 2, 121, 2, 0, 0), (121, .bipush 8, 123, 0, 0, 0), (123, .if_icmp .le 7, 126, 130, 0, 0), (126, .iconst 3, 127, 0, 0, 0), (127, .goto 4, 130, 131, 0, 0), (130, .iconst 1, 131, 0, 0, 0), (131, .putfield 224, 134, 12, 6, 1371), (134, .goto 111, 137, 245, 0, 0), (137, .iload_n 1, 138, 1, 0, 0), (138, .invokestatic 231, 141, 173, 1657, 0), (141, .ifCond .eq 73, 144, 214, 0, 0), (144, .aload_n 0, 145, 0, 0, 0), (145, .iload_n 2, 146, 2, 0, 0), (146, .invokevirtual 210, 149, 171, 1650, 0), (149, .invokestatic 231, 152, 173, 1657, 0), (152, .ifCond .eq 34, 155, 186, 0, 0)]
def mc175_2 : List (Nat × Ins) := [(155, .iload_n 2, 156, 2, 0, 0), (156, .iconst 4, 157, 0, 0, 0), (157, .if_icmp .ge 23, 160, 180, 0, 0), (160, .aload_n 0, 161, 0, 0, 0), (161, .bipush 10, 163, 0, 0, 0), (163, .aload_n 0, 164, 0, 0, 0), (164, .getfield 221, 167, 12, 8, 1373), (167, .imul, 168, 0, 0, 0), (168, .aload_n 0, 169, 0, 0, 0), (169, .iload_n 2, 170, 2, 0, 0), (170, .invokevirtual 210, 173, 171, 1650, 0), (173, .iadd, 174, 0, 0, 0), (174, .bipush 48, 176, 0, 0, 0), (176, .isub, 177, 0, 0, 0), (177, .putfield 221, 180, 12, 8, 1373), (180, .iinc 2 1, 183, 2, 0, 0), (183, .goto (-39), 186, 144, 0, 0), (186, .aload_n 0, 187, 0, 0, 0), (187, .iload_n 2, 188, 2, 0, 0), (188, .iconst 4, 189, 0, 0, 0), (189, .if_icmp .gt 14, 192, 203, 0, 0), (192, .aload_n 0, 193, 0, 0, 0), (193, .iload_n 2, 194, 2, 0, 0), (194, .invokevirtual 210, 197, 171, 1650, 0), (197, .invokestatic 227, 200, 172, 1654, 0), (200, .ifCond .eq 7, 203, 207, 0, 0), (203, .iconst 3, 204, 0, 0, 0), (204, .goto 4, 207, 208, 0, 0), (207, .iconst 2, 208, 0, 0, 0), (208, .putfield 224, 211, 12, 6, 1371), (211, .goto 34, 214, 245, 0, 0), (214, .iconst 1, 215, 0, 0, 0), (215, .istore_n 2, 216, 2, 0, 0), (216, .aload_n 0, 217, 0, 0, 0), (217, .iload_n 1, 218, 1, 0, 0), (218, .bipush 59, 220, 0, 0, 0), (220, .if_icmp .eq 17, 223, 237, 0, 0), (223, .aload_n 0, 224, 0, 0, 0), (224, .getfield 234, 227, 12, 10, 1375), (227, .ifCond .eq 14, 230, 241, 0, 0)]
def mc175_3 : List (Nat × Ins) := [(230, .iload_n 1, 231, 1, 0, 0), (231, .invokestatic 238, 234, 174, 1660, 0), (234, .ifCond .eq 7, 237, 241, 0, 0), (237, .iload_n 1, 238, 1, 0, 0), (238, .goto 4, 241, 242, 0, 0), (241, .iconst 3, 242, 0, 0, 0), (242, .putfield 224, 245, 12, 6, 1371), (245, .aload_n 0, 246, 0, 0, 0), (246, .getfield 224, 249, 12, 6, 1371), (249, .iconst 3, 250, 0, 0, 0), (250, .if_icmp .eq 13, 253, 263, 0, 0), (253, .aload_n 0, 254, 0, 0, 0), (254, .dup, 255, 0, 0, 0), (255, .getfield 204, 258, 12, 4, 1369), (258, .iload_n 2, 259, 2, 0, 0), (259, .iadd, 260, 0, 0, 0), (260, .putfield 204, 263, 12, 4, 1369), (263, .return_, 264, 0, 0, 0)]
def mc175 : List (Nat × Ins) := mc175_0 ++ mc175_1 ++ mc175_2 ++ mc175_3
-- 176: LikeYearsModel.wrong(I)V
def mc176 : List (Nat × Ins) := [(0, .aload_n 0, 1, 0, 0, 0), (1, .getfield 241, 4, 12, 2, 1367), (4, .ifCond .le 4, 7, 8, 0, 0), (7, .return_, 8, 0, 0, 0), (8, .aload_n 0, 9, 0, 0, 0), (9, .aload_n 0, 10, 0, 0, 0), (10, .getfield 224, 13, 12, 6, 1371), (13, .iconst 3, 14, 0, 0, 0), (14, .if_icmp .ne 7, 17, 21, 0, 0), (17, .iconst 1, 18, 0, 0, 0), (18, .goto 4, 21, 22, 0, 0), (21, .iload_n 1, 22, 1, 0, 0), (22, .putfield 241, 25, 12, 2, 1367), (25, .aload_n 0, 26, 0, 0, 0), (26, .aload_n 0, 27, 0, 0, 0), (27, .getfield 214, 30, 12, 7, 1372), (30, .putfield 13, 33, 12, 3, 1368), (33, .return_, 34, 0, 0, 0)]
-- 177: LikeYearsModel.isWord(J)Z
def mc177 : List (Nat × Ins) := [(0, .aload_n 0, 1, 0, 0, 0), (1, .getfield 224, 4, 12, 6, 1371), (4, .iconst 1, 5, 0, 0, 0), (5, .if_icmp .ne 16, 8, 21, 0, 0), (8, .aload_n 0, 9, 0, 0, 0), (9, .getfield 217, 12, 12, 9, 1374), (12, .lload_n 1, 13, 1, 0, 0), (13, .lcmp, 14, 0, 0, 0), (14, .ifCond .ne 7, 17, 21, 0, 0), (17, .iconst 1, 18, 0, 0, 0), (18, .goto 4, 21, 22, 0, 0), (21, .iconst 0, 22, 0, 0, 0), (22, .ireturn, 23, 0, 0, 0)]
-- 178: LikeYearsModel.isName()Z
def mc178_0 : List (Nat × Ins) := [(0, .aload_n 0, 1, 0, 0, 0), (1, .invokevirtual 244, 4, 179, 1684, 0), (4, .ifCond .eq 117, 7, 121, 0, 0), (7, .aload_n 0, 8, 0, 0, 0), (8, .getfield 217, 11, 12, 9, 1374), (11, .ldc2_w 248, 14, 0, 1667, 1835102827), (14, .lcmp, 15, 0, 0, 0), (15, .ifCond .eq 106, 18, 121, 0, 0), (18, .aload_n 0, 19, 0, 0, 0), (19, .getfield 217, 22, 12, 9, 1374), (22, .ldc2_w 250, 25, 0, 1694, 29807), (25, .lcmp, 26, 0, 0, 0), (26, .ifCond .eq 95, 29, 121, 0, 0), (29, .aload_n 0, 30, 0, 0, 0), (30, .getfield 217, 33, 12, 9, 1374), (33, .ldc2_w 252, 36, 0, 1695, 474148660594), (36, .lcmp, 37, 0, 0, 0), (37, .ifCond .eq 84, 40, 121, 0, 0), (40, .aload_n 0, 41, 0, 0, 0), (41, .getfield 217, 44, 12, 9, 1374), (44, .ldc2_w 254, 47, 0, 1696, 1667330917), (47, .lcmp, 48, 0, 0, 0), (48, .ifCond .eq 73, 51, 121, 0, 0), (51, .aload_n 0, 52, 0, 0, 0), (52, .getfield 217, 55, 12, 9, 1374), (55, .ldc2_w 256, 58, 0, 1697, 457236047717), (58, .lcmp, 59, 0, 0, 0), (59, .ifCond .eq 62, 62, 121, 0, 0), (62, .aload_n 0, 63, 0, 0, 0), (63, .getfield 217, 66, 12, 9, 1374), (66, .ldc2_w 258, 69, 0, 1698, 26990), (69, .lcmp, 70, 0, 0, 0), (70, .ifCond .eq 51, 73, 121, 0, 0), (73, .aload_n 0, 74, 0, 0, 0), (74, .getfield 217, 77, 12, 9, 1374), (77, .ldc2_w 260, 80, 0, 1699, 444150998382), (80, .lcmp, 81, 0, 0, 0), (81, .ifCond .eq 40, 84, 121, 0, 0), (84, .aload_n 0, 85, 0, 0, 0), (85, .getfield 217, 88, 12, 9, 1374)]
def mc178_1 : List (Nat × Ins) := [(88, .ldc2_w 262, 91, 0, 1700, 131277443786868), (91, .lcmp, 92, 0, 0, 0), (92, .ifCond .eq 29, 95, 121, 0, 0), (95, .aload_n 0, 96, 0, 0, 0), (96, .getfield 217, 99, 12, 9, 1374), (99, .ldc2_w 264, 102, 0, 1701, 1953459300), (102, .lcmp, 103, 0, 0, 0), (103, .ifCond .eq 18, 106, 121, 0, 0), (106, .aload_n 0, 107, 0, 0, 0), (107, .getfield 217, 110, 12, 9, 1374), (110, .ldc2_w 266, 113, 0, 1702, 1870030194), (113, .lcmp, 114, 0, 0, 0), (114, .ifCond .eq 7, 117, 121, 0, 0), (117, .iconst 1, 118, 0, 0, 0), (118, .goto 4, 121, 122, 0, 0), (121, .iconst 0, 122, 0, 0, 0), (122, .ireturn, 123, 0, 0, 0)]
def mc178 : List (Nat × Ins) := mc178_0 ++ mc178_1
-- 179: LikeYearsModel.isNoLawWord()Z
def mc179 : List (Nat × Ins) := [(0, .aload_n 0, 1, 0, 0, 0), (1, .getfield 224, 4, 12, 6, 1371), (4, .iconst 1, 5, 0, 0, 0), (5, .if_icmp .ne 73, 8, 78, 0, 0), (8, .aload_n 0, 9, 0, 0, 0), (9, .getfield 217, 12, 12, 9, 1374), (12, .ldc2_w 268, 15, 0, 1688, 2003330414), (15, .lcmp, 16, 0, 0, 0), (16, .ifCond .eq 62, 19, 78, 0, 0), (19, .aload_n 0, 20, 0, 0, 0), (20, .getfield 217, 23, 12, 9, 1374), (23, .ldc2_w 270, 26, 0, 1689, 465557353332), (26, .lcmp, 27, 0, 0, 0), (27, .ifCond .eq 51, 30, 78, 0, 0), (30, .aload_n 0, 31, 0, 0, 0), (31, .getfield 217, 34, 12, 9, 1374), (34, .ldc2_w 272, 37, 0, 1690, 1836020596), (37, .lcmp, 38, 0, 0, 0), (38, .ifCond .eq 40, 41, 78, 0, 0), (41, .aload_n 0, 42, 0, 0, 0), (42, .getfield 217, 45, 12, 9, 1374), (45, .ldc2_w 274, 48, 0, 1691, 28530), (48, .lcmp, 49, 0, 0, 0), (49, .ifCond .eq 29, 52, 78, 0, 0), (52, .aload_n 0, 53, 0, 0, 0), (53, .getfield 217, 56, 12, 9, 1374), (56, .ldc2_w 276, 59, 0, 1692, 6385252), (59, .lcmp, 60, 0, 0, 0), (60, .ifCond .eq 18, 63, 78, 0, 0), (63, .aload_n 0, 64, 0, 0, 0), (64, .getfield 217, 67, 12, 9, 1374), (67, .ldc2_w 278, 70, 0, 1693, 7237492), (70, .lcmp, 71, 0, 0, 0), (71, .ifCond .eq 7, 74, 78, 0, 0), (74, .iconst 1, 75, 0, 0, 0), (75, .goto 4, 78, 79, 0, 0), (78, .iconst 0, 79, 0, 0, 0), (79, .ireturn, 80, 0, 0, 0)]
-- 180: LikeYearsModel.want(J)V
def mc180 : List (Nat × Ins) := [(0, .aload_n 0, 1, 0, 0, 0), (1, .getfield 241, 4, 12, 2, 1367), (4, .ifCond .le 4, 7, 8, 0, 0), (7, .return_, 8, 0, 0, 0), (8, .aload_n 0, 9, 0, 0, 0), (9, .lload_n 1, 10, 1, 0, 0), (10, .invokevirtual 280, 13, 177, 1668, 0), (13, .ifCond .ne 11, 16, 24, 0, 0), (16, .aload_n 0, 17, 0, 0, 0), (17, .iconst 2, 18, 0, 0, 0), (18, .invokevirtual 284, 21, 176, 1703, 0), (21, .goto 7, 24, 28, 0, 0), (24, .aload_n 0, 25, 0, 0, 0), (25, .invokevirtual 287, 28, 175, 1646, 0), (28, .return_, 29, 0, 0, 0)]
-- 181: LikeYearsModel.told(II)I
def mc181 : List (Nat × Ins) := [(0, .aload_n 0, 1, 0, 0, 0), (1, .getfield 241, 4, 12, 2, 1367), (4, .ifCond .le 5, 7, 9, 0, 0), (7, .iconst 0, 8, 0, 0, 0), (8, .ireturn, 9, 0, 0, 0), (9, .aload_n 0, 10, 0, 0, 0), (10, .getfield 224, 13, 12, 6, 1371), (13, .iconst 2, 14, 0, 0, 0), (14, .if_icmp .eq 11, 17, 25, 0, 0), (17, .aload_n 0, 18, 0, 0, 0), (18, .iconst 2, 19, 0, 0, 0), (19, .invokevirtual 284, 22, 176, 1703, 0), (22, .goto 24, 25, 46, 0, 0), (25, .aload_n 0, 26, 0, 0, 0), (26, .getfield 221, 29, 12, 8, 1373), (29, .iload_n 1, 30, 1, 0, 0), (30, .if_icmp .lt 11, 33, 41, 0, 0), (33, .aload_n 0, 34, 0, 0, 0), (34, .getfield 221, 37, 12, 8, 1373), (37, .iload_n 2, 38, 2, 0, 0), (38, .if_icmp .le 8, 41, 46, 0, 0), (41, .aload_n 0, 42, 0, 0, 0), (42, .iconst 4, 43, 0, 0, 0), (43, .invokevirtual 284, 46, 176, 1703, 0), (46, .aload_n 0, 47, 0, 0, 0), (47, .getfield 221, 50, 12, 8, 1373), (50, .istore_n 3, 51, 3, 0, 0), (51, .aload_n 0, 52, 0, 0, 0), (52, .getfield 241, 55, 12, 2, 1367), (55, .ifCond .ne 7, 58, 62, 0, 0), (58, .aload_n 0, 59, 0, 0, 0), (59, .invokevirtual 287, 62, 175, 1646, 0), (62, .iload_n 3, 63, 3, 0, 0), (63, .ireturn, 64, 0, 0, 0)]
-- 182: LikeYearsModel.markOf(J)I
def mc182 : List (Nat × Ins) := [(0, .iconst (-1), 1, 0, 0, 0), (1, .istore_n 3, 2, 3, 0, 0), (2, .iconst 0, 3, 0, 0, 0), (3, .istore 4, 5, 4, 0, 0), (5, .iload 4, 7, 4, 0, 0), (7, .aload_n 0, 8, 0, 0, 0), (8, .getfield 290, 11, 12, 24, 1389), (11, .if_icmp .ge 28, 14, 39, 0, 0), (14, .aload_n 0, 15, 0, 0, 0), (15, .getfield 17, 18, 12, 11, 1376), (18, .iload 4, 20, 4, 0, 0), (20, .laload, 21, 0, 0, 0), (21, .lload_n 1, 22, 1, 0, 0), (22, .lcmp, 23, 0, 0, 0), (23, .ifCond .ne 8, 26, 31, 0, 0), (26, .iload 4, 28, 4, 0, 0), (28, .goto 4, 31, 32, 0, 0), (31, .iload_n 3, 32, 3, 0, 0), (32, .istore_n 3, 33, 3, 0, 0), (33, .iinc 4 1, 36, 4, 0, 0), (36, .goto (-31), 39, 5, 0, 0), (39, .iload_n 3, 40, 3, 0, 0), (40, .ireturn, 41, 0, 0, 0)]
-- 183: LikeYearsModel.caseOf(J)I
def mc183 : List (Nat × Ins) := [(0, .iconst (-1), 1, 0, 0, 0), (1, .istore_n 3, 2, 3, 0, 0), (2, .iconst 0, 3, 0, 0, 0), (3, .istore 4, 5, 4, 0, 0), (5, .iload 4, 7, 4, 0, 0), (7, .aload_n 0, 8, 0, 0, 0), (8, .getfield 293, 11, 12, 25, 1390), (11, .if_icmp .ge 28, 14, 39, 0, 0), (14, .aload_n 0, 15, 0, 0, 0), (15, .getfield 21, 18, 12, 12, 1377), (18, .iload 4, 20, 4, 0, 0), (20, .laload, 21, 0, 0, 0), (21, .lload_n 1, 22, 1, 0, 0), (22, .lcmp, 23, 0, 0, 0), (23, .ifCond .ne 8, 26, 31, 0, 0), (26, .iload 4, 28, 4, 0, 0), (28, .goto 4, 31, 32, 0, 0), (31, .iload_n 3, 32, 3, 0, 0), (32, .istore_n 3, 33, 3, 0, 0), (33, .iinc 4 1, 36, 4, 0, 0), (36, .goto (-31), 39, 5, 0, 0), (39, .iload_n 3, 40, 3, 0, 0), (40, .ireturn, 41, 0, 0, 0)]
-- 184: LikeYearsModel.newName()J
def mc184 : List (Nat × Ins) := [(0, .aload_n 0, 1, 0, 0, 0), (1, .getfield 241, 4, 12, 2, 1367), (4, .ifCond .le 5, 7, 9, 0, 0), (7, .lconst 0, 8, 0, 0, 0), (8, .lreturn, 9, 0, 0, 0), (9, .aload_n 0, 10, 0, 0, 0), (10, .invokevirtual 296, 13, 178, 1680, 0), (13, .ifCond .ne 11, 16, 24, 0, 0), (16, .aload_n 0, 17, 0, 0, 0), (17, .iconst 2, 18, 0, 0, 0), (18, .invokevirtual 284, 21, 176, 1703, 0), (21, .goto 30, 24, 51, 0, 0), (24, .aload_n 0, 25, 0, 0, 0), (25, .aload_n 0, 26, 0, 0, 0), (26, .getfield 217, 29, 12, 9, 1374), (29, .invokevirtual 299, 32, 182, 1707, 0), (32, .ifCond .ge 14, 35, 46, 0, 0), (35, .aload_n 0, 36, 0, 0, 0), (36, .aload_n 0, 37, 0, 0, 0), (37, .getfield 217, 40, 12, 9, 1374), (40, .invokevirtual 303, 43, 183, 1711, 0), (43, .ifCond .lt 8, 46, 51, 0, 0), (46, .aload_n 0, 47, 0, 0, 0), (47, .iconst 3, 48, 0, 0, 0), (48, .invokevirtual 284, 51, 176, 1703, 0), (51, .aload_n 0, 52, 0, 0, 0), (52, .getfield 217, 55, 12, 9, 1374), (55, .lstore_n 1, 56, 1, 0, 0), (56, .aload_n 0, 57, 0, 0, 0), (57, .getfield 241, 60, 12, 2, 1367), (60, .ifCond .ne 7, 63, 67, 0, 0), (63, .aload_n 0, 64, 0, 0, 0), (64, .invokevirtual 287, 67, 175, 1646, 0), (67, .lload_n 1, 68, 1, 0, 0), (68, .lreturn, 69, 0, 0, 0)]
-- 185: LikeYearsModel.oldName(Z)I
def mc185 : List (Nat × Ins) := [(0, .aload_n 0, 1, 0, 0, 0), (1, .getfield 241, 4, 12, 2, 1367), (4, .ifCond .le 5, 7, 9, 0, 0), (7, .iconst 0, 8, 0, 0, 0), (8, .ireturn, 9, 0, 0, 0), (9, .iload_n 1, 10, 1, 0, 0), (10, .ifCond .eq 14, 13, 24, 0, 0), (13, .aload_n 0, 14, 0, 0, 0), (14, .aload_n 0, 15, 0, 0, 0), (15, .getfield 217, 18, 12, 9, 1374), (18, .invokevirtual 299, 21, 182, 1707, 0), (21, .goto 11, 24, 32, 0, 0), (24, .aload_n 0, 25, 0, 0, 0), (25, .aload_n 0, 26, 0, 0, 0), (26, .getfield 217, 29, 12, 9, 1374), (29, .invokevirtual 303, 32, 183, 1711, 0), (32, .istore_n 2, 33, 2, 0, 0), (33, .aload_n 0, 34, 0, 0, 0), (34, .invokevirtual 296, 37, 178, 1680, 0), (37, .ifCond .ne 11, 40, 48, 0, 0), (40, .aload_n 0, 41, 0, 0, 0), (41, .iconst 2, 42, 0, 0, 0), (42, .invokevirtual 284, 45, 176, 1703, 0), (45, .goto 12, 48, 57, 0, 0), (48, .iload_n 2, 49, 2, 0, 0), (49, .ifCond .ge 8, 52, 57, 0, 0), (52, .aload_n 0, 53, 0, 0, 0), (53, .iconst 5, 54, 0, 0, 0), (54, .invokevirtual 284, 57, 176, 1703, 0), (57, .iload_n 2, 58, 2, 0, 0), (58, .ireturn, 59, 0, 0, 0)]
-- 186: LikeYearsModel.readMark()V
def mc186_0 : List (Nat × Ins) := [(0, .aload_n 0, 1, 0, 0, 0), (1, .invokevirtual 287, 4, 175, 1646, 0), (4, .aload_n 0, 5, 0, 0, 0), (5, .invokevirtual 306, 8, 184, 1676, 0), (8, .lstore_n 1, 9, 1, 0, 0), (9, .aload_n 0, 10, 0, 0, 0), (10, .ldc2_w 250, 13, 0, 1694, 29807), (13, .invokevirtual 310, 16, 180, 1715, 0), (16, .aload_n 0, 17, 0, 0, 0), (17, .iconst 1, 18, 0, 0, 0), (18, .bipush 11, 20, 0, 0, 0), (20, .invokevirtual 314, 23, 181, 1719, 0), (23, .istore_n 3, 24, 3, 0, 0), (24, .aload_n 0, 25, 0, 0, 0), (25, .getfield 241, 28, 12, 2, 1367), (28, .ifCond .le 4, 31, 32, 0, 0), (31, .return_, 32, 0, 0, 0), (32, .aload_n 0, 33, 0, 0, 0), (33, .getfield 17, 36, 12, 11, 1376), (36, .aload_n 0, 37, 0, 0, 0), (37, .getfield 290, 40, 12, 24, 1389), (40, .lload_n 1, 41, 1, 0, 0), (41, .lastore, 42, 0, 0, 0), (42, .aload_n 0, 43, 0, 0, 0), (43, .getfield 24, 46, 12, 13, 1378), (46, .aload_n 0, 47, 0, 0, 0), (47, .getfield 290, 50, 12, 24, 1389), (50, .iload_n 3, 51, 3, 0, 0), (51, .iastore, 52, 0, 0, 0), (52, .aload_n 0, 53, 0, 0, 0), (53, .getfield 51, 56, 12, 22, 1387), (56, .aload_n 0, 57, 0, 0, 0), (57, .getfield 290, 60, 12, 24, 1389), (60, .iconst 0, 61, 0, 0, 0), (61, .bastore, 62, 0, 0, 0), (62, .aload_n 0, 63, 0, 0, 0), (63, .dup, 64, 0, 0, 0), (64, .getfield 290, 67, 12, 24, 1389), (67, .iconst 1, 68, 0, 0, 0), (68, .iadd, 69, 0, 0, 0)]
def mc186_1 : List (Nat × Ins) := [(69, .putfield 290, 72, 12, 24, 1389), (72, .return_, 73, 0, 0, 0)]
def mc186 : List (Nat × Ins) := mc186_0 ++ mc186_1
-- 187: LikeYearsModel.readNever()V
def mc187 : List (Nat × Ins) := [(0, .aload_n 0, 1, 0, 0, 0), (1, .invokevirtual 287, 4, 175, 1646, 0), (4, .aload_n 0, 5, 0, 0, 0), (5, .iconst 1, 6, 0, 0, 0), (6, .invokevirtual 318, 9, 185, 1727, 0), (9, .istore_n 1, 10, 1, 0, 0), (10, .aload_n 0, 11, 0, 0, 0), (11, .getfield 241, 14, 12, 2, 1367), (14, .ifCond .ne 17, 17, 31, 0, 0), (17, .aload_n 0, 18, 0, 0, 0), (18, .getfield 51, 21, 12, 22, 1387), (21, .iload_n 1, 22, 1, 0, 0), (22, .baload, 23, 0, 0, 0), (23, .ifCond .eq 8, 26, 31, 0, 0), (26, .aload_n 0, 27, 0, 0, 0), (27, .iconst 3, 28, 0, 0, 0), (28, .invokevirtual 284, 31, 176, 1703, 0), (31, .aload_n 0, 32, 0, 0, 0), (32, .getfield 241, 35, 12, 2, 1367), (35, .ifCond .le 4, 38, 39, 0, 0), (38, .return_, 39, 0, 0, 0), (39, .aload_n 0, 40, 0, 0, 0), (40, .getfield 51, 43, 12, 22, 1387), (43, .iload_n 1, 44, 1, 0, 0), (44, .iconst 1, 45, 0, 0, 0), (45, .bastore, 46, 0, 0, 0), (46, .aload_n 0, 47, 0, 0, 0), (47, .invokevirtual 287, 50, 175, 1646, 0), (50, .return_, 51, 0, 0, 0)]
-- 188: LikeYearsModel.readCase()V
def mc188_0 : List (Nat × Ins) := [(0, .aload_n 0, 1, 0, 0, 0), (1, .invokevirtual 287, 4, 175, 1646, 0), (4, .aload_n 0, 5, 0, 0, 0), (5, .getfield 293, 8, 12, 25, 1390), (8, .istore_n 1, 9, 1, 0, 0), (9, .aload_n 0, 10, 0, 0, 0), (10, .invokevirtual 306, 13, 184, 1676, 0), (13, .lstore_n 2, 14, 2, 0, 0), (14, .aload_n 0, 15, 0, 0, 0), (15, .ldc2_w 256, 18, 0, 1697, 457236047717), (18, .invokevirtual 310, 21, 180, 1715, 0), (21, .aload_n 0, 22, 0, 0, 0), (22, .getfield 30, 25, 12, 15, 1380), (25, .iload_n 1, 26, 1, 0, 0), (26, .aload_n 0, 27, 0, 0, 0), (27, .iconst 0, 28, 0, 0, 0), (28, .bipush 9, 30, 0, 0, 0), (30, .invokevirtual 314, 33, 181, 1719, 0), (33, .iastore, 34, 0, 0, 0), (34, .aload_n 0, 35, 0, 0, 0), (35, .ldc2_w 258, 38, 0, 1698, 26990), (38, .invokevirtual 310, 41, 180, 1715, 0), (41, .aload_n 0, 42, 0, 0, 0), (42, .getfield 33, 45, 12, 16, 1381), (45, .iload_n 1, 46, 1, 0, 0), (46, .aload_n 0, 47, 0, 0, 0), (47, .iconst 0, 48, 0, 0, 0), (48, .bipush 99, 50, 0, 0, 0), (50, .invokevirtual 314, 53, 181, 1719, 0), (53, .iastore, 54, 0, 0, 0), (54, .aload_n 0, 55, 0, 0, 0), (55, .ldc2_w 260, 58, 0, 1699, 444150998382), (58, .invokevirtual 310, 61, 180, 1715, 0), (61, .aload_n 0, 62, 0, 0, 0), (62, .getfield 36, 65, 12, 17, 1382), (65, .iload_n 1, 66, 1, 0, 0), (66, .aload_n 0, 67, 0, 0, 0), (67, .iconst 0, 68, 0, 0, 0), (68, .sipush 240, 71, 0, 0, 0), (71, .invokevirtual 314, 74, 181, 1719, 0)]
def mc188_1 : List (Nat × Ins) := [(74, .iastore, 75, 0, 0, 0), (75, .aload_n 0, 76, 0, 0, 0), (76, .ldc2_w 262, 79, 0, 1700, 131277443786868), (79, .invokevirtual 310, 82, 180, 1715, 0), (82, .aload_n 0, 83, 0, 0, 0), (83, .getfield 39, 86, 12, 18, 1383), (86, .iload_n 1, 87, 1, 0, 0), (87, .aload_n 0, 88, 0, 0, 0), (88, .iconst 1, 89, 0, 0, 0), (89, .iconst 4, 90, 0, 0, 0), (90, .invokevirtual 314, 93, 181, 1719, 0), (93, .iastore, 94, 0, 0, 0), (94, .iconst 0, 95, 0, 0, 0), (95, .istore 4, 97, 4, 0, 0), (97, .iload 4, 99, 4, 0, 0), (99, .bipush 6, 101, 0, 0, 0), (101, .if_icmp .ge 30, 104, 131, 0, 0), (104, .aload_n 0, 105, 0, 0, 0), (105, .getfield 27, 108, 12, 14, 1379), (108, .bipush 6, 110, 0, 0, 0), (110, .iload_n 1, 111, 1, 0, 0), (111, .imul, 112, 0, 0, 0), (112, .iload 4, 114, 4, 0, 0), (114, .iadd, 115, 0, 0, 0), (115, .iconst 0, 116, 0, 0, 0), (116, .iastore, 117, 0, 0, 0), (117, .aload_n 0, 118, 0, 0, 0), (118, .getfield 55, 121, 12, 23, 1388), (121, .iload 4, 123, 4, 0, 0), (123, .iconst 0, 124, 0, 0, 0), (124, .bastore, 125, 0, 0, 0), (125, .iinc 4 1, 128, 4, 0, 0), (128, .goto (-31), 131, 97, 0, 0), (131, .aload_n 0, 132, 0, 0, 0), (132, .getfield 241, 135, 12, 2, 1367), (135, .ifCond .ne 88, 138, 223, 0, 0), (138, .aload_n 0, 139, 0, 0, 0), (139, .getfield 224, 142, 12, 6, 1371), (142, .bipush 59, 144, 0, 0, 0), (144, .if_icmp .eq 79, 147, 223, 0, 0)]
def mc188_2 : List (Nat × Ins) := [(147, .aload_n 0, 148, 0, 0, 0), (148, .iconst 1, 149, 0, 0, 0), (149, .invokevirtual 318, 152, 185, 1727, 0), (152, .istore 4, 154, 4, 0, 0), (154, .aload_n 0, 155, 0, 0, 0), (155, .getfield 241, 158, 12, 2, 1367), (158, .ifCond .ne 18, 161, 176, 0, 0), (161, .aload_n 0, 162, 0, 0, 0), (162, .getfield 55, 165, 12, 23, 1388), (165, .iload 4, 167, 4, 0, 0), (167, .baload, 168, 0, 0, 0), (168, .ifCond .eq 8, 171, 176, 0, 0), (171, .aload_n 0, 172, 0, 0, 0), (172, .iconst 3, 173, 0, 0, 0), (173, .invokevirtual 284, 176, 176, 1703, 0), (176, .aload_n 0, 177, 0, 0, 0), (177, .getfield 241, 180, 12, 2, 1367), (180, .ifCond .le 4, 183, 184, 0, 0), (183, .return_, 184, 0, 0, 0), (184, .aload_n 0, 185, 0, 0, 0), (185, .invokevirtual 287, 188, 175, 1646, 0), (188, .aload_n 0, 189, 0, 0, 0), (189, .getfield 55, 192, 12, 23, 1388), (192, .iload 4, 194, 4, 0, 0), (194, .iconst 1, 195, 0, 0, 0), (195, .bastore, 196, 0, 0, 0), (196, .aload_n 0, 197, 0, 0, 0), (197, .getfield 27, 200, 12, 14, 1379), (200, .bipush 6, 202, 0, 0, 0), (202, .iload_n 1, 203, 1, 0, 0), (203, .imul, 204, 0, 0, 0), (204, .iload 4, 206, 4, 0, 0), (206, .iadd, 207, 0, 0, 0), (207, .aload_n 0, 208, 0, 0, 0), (208, .iconst 0, 209, 0, 0, 0), (209, .aload_n 0, 210, 0, 0, 0), (210, .getfield 24, 213, 12, 13, 1378), (213, .iload 4, 215, 4, 0, 0), (215, .iaload, 216, 0, 0, 0), (216, .invokevirtual 314, 219, 181, 1719, 0)]
def mc188_3 : List (Nat × Ins) := [(219, .iastore, 220, 0, 0, 0), (220, .goto (-89), 223, 131, 0, 0), (223, .aload_n 0, 224, 0, 0, 0), (224, .getfield 241, 227, 12, 2, 1367), (227, .ifCond .le 4, 230, 231, 0, 0), (230, .return_, 231, 0, 0, 0), (231, .aload_n 0, 232, 0, 0, 0), (232, .getfield 21, 235, 12, 12, 1377), (235, .iload_n 1, 236, 1, 0, 0), (236, .lload_n 2, 237, 2, 0, 0), (237, .lastore, 238, 0, 0, 0), (238, .aload_n 0, 239, 0, 0, 0), (239, .dup, 240, 0, 0, 0), (240, .getfield 293, 243, 12, 25, 1390), (243, .iconst 1, 244, 0, 0, 0), (244, .iadd, 245, 0, 0, 0), (245, .putfield 293, 248, 12, 25, 1390), (248, .return_, 249, 0, 0, 0)]
def mc188 : List (Nat × Ins) := mc188_0 ++ mc188_1 ++ mc188_2 ++ mc188_3
-- 189: LikeYearsModel.readTold()V
def mc189_0 : List (Nat × Ins) := [(0, .aload_n 0, 1, 0, 0, 0), (1, .invokevirtual 287, 4, 175, 1646, 0), (4, .aload_n 0, 5, 0, 0, 0), (5, .getfield 42, 8, 12, 19, 1384), (8, .aload_n 0, 9, 0, 0, 0), (9, .getfield 322, 12, 12, 26, 1391), (12, .aload_n 0, 13, 0, 0, 0), (13, .iconst 0, 14, 0, 0, 0), (14, .invokevirtual 318, 17, 185, 1727, 0), (17, .iastore, 18, 0, 0, 0), (18, .aload_n 0, 19, 0, 0, 0), (19, .getfield 241, 22, 12, 2, 1367), (22, .ifCond .ne 7, 25, 29, 0, 0), (25, .aload_n 0, 26, 0, 0, 0), (26, .invokevirtual 287, 29, 175, 1646, 0), (29, .aload_n 0, 30, 0, 0, 0), (30, .ldc2_w 266, 33, 0, 1702, 1870030194), (33, .invokevirtual 310, 36, 180, 1715, 0), (36, .aload_n 0, 37, 0, 0, 0), (37, .getfield 45, 40, 12, 20, 1385), (40, .aload_n 0, 41, 0, 0, 0), (41, .getfield 322, 44, 12, 26, 1391), (44, .aload_n 0, 45, 0, 0, 0), (45, .iconst 0, 46, 0, 0, 0), (46, .invokevirtual 318, 49, 185, 1727, 0), (49, .iastore, 50, 0, 0, 0), (50, .aload_n 0, 51, 0, 0, 0), (51, .getfield 241, 54, 12, 2, 1367), (54, .ifCond .le 4, 57, 58, 0, 0), (57, .return_, 58, 0, 0, 0), (58, .aload_n 0, 59, 0, 0, 0), (59, .getfield 48, 62, 12, 21, 1386), (62, .aload_n 0, 63, 0, 0, 0), (63, .getfield 322, 66, 12, 26, 1391), (66, .aload_n 0, 67, 0, 0, 0), (67, .getfield 214, 70, 12, 7, 1372), (70, .iastore, 71, 0, 0, 0), (71, .aload_n 0, 72, 0, 0, 0), (72, .dup, 73, 0, 0, 0), (73, .getfield 322, 76, 12, 26, 1391)]
def mc189_1 : List (Nat × Ins) := [(76, .iconst 1, 77, 0, 0, 0), (77, .iadd, 78, 0, 0, 0), (78, .putfield 322, 81, 12, 26, 1391), (81, .aload_n 0, 82, 0, 0, 0), (82, .invokevirtual 287, 85, 175, 1646, 0), (85, .return_, 86, 0, 0, 0)]
def mc189 : List (Nat × Ins) := mc189_0 ++ mc189_1
-- 190: LikeYearsModel.readLine()V
def mc190_0 : List (Nat × Ins) := [(0, .aload_n 0, 1, 0, 0, 0), (1, .ldc2_w 248, 4, 0, 1667, 1835102827), (4, .invokevirtual 280, 7, 177, 1668, 0), (7, .ifCond .eq 19, 10, 26, 0, 0), (10, .aload_n 0, 11, 0, 0, 0), (11, .getfield 290, 14, 12, 24, 1389), (14, .bipush 6, 16, 0, 0, 0), (16, .if_icmp .ge 10, 19, 26, 0, 0), (19, .aload_n 0, 20, 0, 0, 0), (20, .invokevirtual 325, 23, 186, 1672, 0), (23, .goto 77, 26, 100, 0, 0), (26, .aload_n 0, 27, 0, 0, 0), (27, .ldc2_w 252, 30, 0, 1695, 474148660594), (30, .invokevirtual 280, 33, 177, 1668, 0), (33, .ifCond .eq 10, 36, 43, 0, 0), (36, .aload_n 0, 37, 0, 0, 0), (37, .invokevirtual 328, 40, 187, 1723, 0), (40, .goto 60, 43, 100, 0, 0), (43, .aload_n 0, 44, 0, 0, 0), (44, .ldc2_w 254, 47, 0, 1696, 1667330917), (47, .invokevirtual 280, 50, 177, 1668, 0), (50, .ifCond .eq 19, 53, 69, 0, 0), (53, .aload_n 0, 54, 0, 0, 0), (54, .getfield 293, 57, 12, 25, 1390), (57, .bipush 16, 59, 0, 0, 0), (59, .if_icmp .ge 10, 62, 69, 0, 0), (62, .aload_n 0, 63, 0, 0, 0), (63, .invokevirtual 331, 66, 188, 1731, 0), (66, .goto 34, 69, 100, 0, 0), (69, .aload_n 0, 70, 0, 0, 0), (70, .ldc2_w 264, 73, 0, 1701, 1953459300), (73, .invokevirtual 280, 76, 177, 1668, 0), (76, .ifCond .eq 19, 79, 95, 0, 0), (79, .aload_n 0, 80, 0, 0, 0), (80, .getfield 322, 83, 12, 26, 1391), (83, .bipush 20, 85, 0, 0, 0), (85, .if_icmp .ge 10, 88, 95, 0, 0), (88, .aload_n 0, 89, 0, 0, 0), (89, .invokevirtual 334, 92, 189, 1735, 0), (92, .goto 8, 95, 100, 0, 0)]
def mc190_1 : List (Nat × Ins) := [(95, .aload_n 0, 96, 0, 0, 0), (96, .iconst 2, 97, 0, 0, 0), (97, .invokevirtual 284, 100, 176, 1703, 0), (100, .aload_n 0, 101, 0, 0, 0), (101, .getfield 241, 104, 12, 2, 1367), (104, .ifCond .ne 17, 107, 121, 0, 0), (107, .aload_n 0, 108, 0, 0, 0), (108, .getfield 224, 111, 12, 6, 1371), (111, .bipush 59, 113, 0, 0, 0), (113, .if_icmp .eq 8, 116, 121, 0, 0), (116, .aload_n 0, 117, 0, 0, 0), (117, .iconst 2, 118, 0, 0, 0), (118, .invokevirtual 284, 121, 176, 1703, 0), (121, .aload_n 0, 122, 0, 0, 0), (122, .getfield 241, 125, 12, 2, 1367), (125, .ifCond .le 4, 128, 129, 0, 0), (128, .return_, 129, 0, 0, 0), (129, .aload_n 0, 130, 0, 0, 0), (130, .invokevirtual 287, 133, 175, 1646, 0), (133, .aload_n 0, 134, 0, 0, 0), (134, .dup, 135, 0, 0, 0), (135, .getfield 337, 138, 12, 27, 1392), (138, .iconst 1, 139, 0, 0, 0), (139, .iadd, 140, 0, 0, 0), (140, .putfield 337, 143, 12, 27, 1392), (143, .return_, 144, 0, 0, 0)]
def mc190 : List (Nat × Ins) := mc190_0 ++ mc190_1
-- 191: LikeYearsModel.book()I
def mc191_0 : List (Nat × Ins) := [(0, .aload_n 0, 1, 0, 0, 0), (1, .iconst 0, 2, 0, 0, 0), (2, .putfield 234, 5, 12, 10, 1375), (5, .aload_n 0, 6, 0, 0, 0), (6, .aload_n 0, 7, 0, 0, 0), (7, .getfield 197, 10, 12, 1, 1366), (10, .putfield 207, 13, 12, 5, 1370), (13, .aload_n 0, 14, 0, 0, 0), (14, .iconst 0, 15, 0, 0, 0), (15, .putfield 197, 18, 12, 1, 1366), (18, .aload_n 0, 19, 0, 0, 0), (19, .iconst 0, 20, 0, 0, 0), (20, .putfield 204, 23, 12, 4, 1369), (23, .aload_n 0, 24, 0, 0, 0), (24, .iconst 0, 25, 0, 0, 0), (25, .putfield 241, 28, 12, 2, 1367), (28, .aload_n 0, 29, 0, 0, 0), (29, .iconst (-1), 30, 0, 0, 0), (30, .putfield 13, 33, 12, 3, 1368), (33, .aload_n 0, 34, 0, 0, 0), (34, .iconst 0, 35, 0, 0, 0), (35, .putfield 290, 38, 12, 24, 1389), (38, .aload_n 0, 39, 0, 0, 0), (39, .iconst 0, 40, 0, 0, 0), (40, .putfield 293, 43, 12, 25, 1390), (43, .aload_n 0, 44, 0, 0, 0), (44, .iconst 0, 45, 0, 0, 0), (45, .putfield 322, 48, 12, 26, 1391), (48, .aload_n 0, 49, 0, 0, 0), (49, .iconst 0, 50, 0, 0, 0), (50, .putfield 337, 53, 12, 27, 1392), (53, .aload_n 0, 54, 0, 0, 0), (54, .invokevirtual 287, 57, 175, 1646, 0), (57, .aload_n 0, 58, 0, 0, 0), (58, .getfield 241, 61, 12, 2, 1367), (61, .ifCond .ne 17, 64, 78, 0, 0), (64, .aload_n 0, 65, 0, 0, 0), (65, .getfield 224, 68, 12, 6, 1371), (68, .ifCond .eq 10, 71, 78, 0, 0), (71, .aload_n 0, 72, 0, 0, 0)]
def mc191_1 : List (Nat × Ins) := [(72, .invokevirtual 340, 75, 190, 1663, 0), (75, .goto (-18), 78, 57, 0, 0), (78, .aload_n 0, 79, 0, 0, 0), (79, .getfield 241, 82, 12, 2, 1367), (82, .ifCond .le 5, 85, 87, 0, 0), (85, .iconst (-1), 86, 0, 0, 0), (86, .ireturn, 87, 0, 0, 0), (87, .aload_n 0, 88, 0, 0, 0), (88, .invokevirtual 343, 91, 194, 1739, 0), (91, .istore_n 1, 92, 1, 0, 0), (92, .iload_n 1, 93, 1, 0, 0), (93, .ifCond .lt 21, 96, 114, 0, 0), (96, .aload_n 0, 97, 0, 0, 0), (97, .bipush 6, 99, 0, 0, 0), (99, .putfield 241, 102, 12, 2, 1367), (102, .aload_n 0, 103, 0, 0, 0), (103, .aload_n 0, 104, 0, 0, 0), (104, .getfield 48, 107, 12, 21, 1386), (107, .iload_n 1, 108, 1, 0, 0), (108, .iaload, 109, 0, 0, 0), (109, .putfield 13, 112, 12, 3, 1368), (112, .iconst (-1), 113, 0, 0, 0), (113, .ireturn, 114, 0, 0, 0), (114, .iconst 0, 115, 0, 0, 0), (115, .istore_n 2, 116, 2, 0, 0), (116, .iload_n 2, 117, 2, 0, 0), (117, .bipush 6, 119, 0, 0, 0), (119, .if_icmp .ge 68, 122, 187, 0, 0), (122, .aload_n 0, 123, 0, 0, 0), (123, .getfield 58, 126, 12, 28, 1393), (126, .iload_n 2, 127, 2, 0, 0), (127, .aload_n 0, 128, 0, 0, 0), (128, .getfield 24, 131, 12, 13, 1378), (131, .iload_n 2, 132, 2, 0, 0), (132, .iaload, 133, 0, 0, 0), (133, .iastore, 134, 0, 0, 0), (134, .aload_n 0, 135, 0, 0, 0), (135, .getfield 82, 138, 12, 36, 1401), (138, .iload_n 2, 139, 2, 0, 0), (139, .iload_n 2, 140, 2, 0, 0)]
def mc191_2 : List (Nat × Ins) := [(140, .aload_n 0, 141, 0, 0, 0), (141, .getfield 290, 144, 12, 24, 1389), (144, .if_icmp .ge 16, 147, 160, 0, 0), (147, .aload_n 0, 148, 0, 0, 0), (148, .getfield 51, 151, 12, 22, 1387), (151, .iload_n 2, 152, 2, 0, 0), (152, .baload, 153, 0, 0, 0), (153, .ifCond .ne 7, 156, 160, 0, 0), (156, .iconst 1, 157, 0, 0, 0), (157, .goto 4, 160, 161, 0, 0), (160, .iconst 0, 161, 0, 0, 0), (161, .bastore, 162, 0, 0, 0), (162, .aload_n 0, 163, 0, 0, 0), (163, .getfield 161, 166, 12, 74, 1439), (166, .iload_n 2, 167, 2, 0, 0), (167, .iconst 0, 168, 0, 0, 0), (168, .iastore, 169, 0, 0, 0), (169, .aload_n 0, 170, 0, 0, 0), (170, .getfield 85, 173, 12, 41, 1406), (173, .iload_n 2, 174, 2, 0, 0), (174, .aload_n 0, 175, 0, 0, 0), (175, .getfield 17, 178, 12, 11, 1376), (178, .iload_n 2, 179, 2, 0, 0), (179, .laload, 180, 0, 0, 0), (180, .lastore, 181, 0, 0, 0), (181, .iinc 2 1, 184, 2, 0, 0), (184, .goto (-68), 187, 116, 0, 0), (187, .aload_n 0, 188, 0, 0, 0), (188, .iconst 0, 189, 0, 0, 0), (189, .putfield 347, 192, 12, 70, 1435), (192, .iconst 0, 193, 0, 0, 0), (193, .istore_n 2, 194, 2, 0, 0), (194, .iload_n 2, 195, 2, 0, 0), (195, .bipush 96, 197, 0, 0, 0), (197, .if_icmp .ge 21, 200, 218, 0, 0), (200, .aload_n 0, 201, 0, 0, 0), (201, .getfield 61, 204, 12, 29, 1394), (204, .iload_n 2, 205, 2, 0, 0), (205, .aload_n 0, 206, 0, 0, 0), (206, .getfield 27, 209, 12, 14, 1379)]
def mc191_3 : List (Nat × Ins) := [(209, .iload_n 2, 210, 2, 0, 0), (210, .iaload, 211, 0, 0, 0), (211, .iastore, 212, 0, 0, 0), (212, .iinc 2 1, 215, 2, 0, 0), (215, .goto (-21), 218, 194, 0, 0), (218, .iconst 0, 219, 0, 0, 0), (219, .istore_n 2, 220, 2, 0, 0), (220, .iload_n 2, 221, 2, 0, 0), (221, .bipush 16, 223, 0, 0, 0), (223, .if_icmp .ge 57, 226, 280, 0, 0), (226, .aload_n 0, 227, 0, 0, 0), (227, .getfield 64, 230, 12, 30, 1395), (230, .iload_n 2, 231, 2, 0, 0), (231, .aload_n 0, 232, 0, 0, 0), (232, .getfield 30, 235, 12, 15, 1380), (235, .iload_n 2, 236, 2, 0, 0), (236, .iaload, 237, 0, 0, 0), (237, .iastore, 238, 0, 0, 0), (238, .aload_n 0, 239, 0, 0, 0), (239, .getfield 67, 242, 12, 31, 1396), (242, .iload_n 2, 243, 2, 0, 0), (243, .aload_n 0, 244, 0, 0, 0), (244, .getfield 33, 247, 12, 16, 1381), (247, .iload_n 2, 248, 2, 0, 0), (248, .iaload, 249, 0, 0, 0), (249, .iastore, 250, 0, 0, 0), (250, .aload_n 0, 251, 0, 0, 0), (251, .getfield 70, 254, 12, 32, 1397), (254, .iload_n 2, 255, 2, 0, 0), (255, .aload_n 0, 256, 0, 0, 0), (256, .getfield 36, 259, 12, 17, 1382), (259, .iload_n 2, 260, 2, 0, 0), (260, .iaload, 261, 0, 0, 0), (261, .iastore, 262, 0, 0, 0), (262, .aload_n 0, 263, 0, 0, 0), (263, .getfield 73, 266, 12, 33, 1398), (266, .iload_n 2, 267, 2, 0, 0), (267, .aload_n 0, 268, 0, 0, 0), (268, .getfield 39, 271, 12, 18, 1383), (271, .iload_n 2, 272, 2, 0, 0)]
def mc191_4 : List (Nat × Ins) := [(272, .iaload, 273, 0, 0, 0), (273, .iastore, 274, 0, 0, 0), (274, .iinc 2 1, 277, 2, 0, 0), (277, .goto (-57), 280, 220, 0, 0), (280, .iconst 0, 281, 0, 0, 0), (281, .istore_n 2, 282, 2, 0, 0), (282, .iload_n 2, 283, 2, 0, 0), (283, .bipush 20, 285, 0, 0, 0), (285, .if_icmp .ge 33, 288, 318, 0, 0), (288, .aload_n 0, 289, 0, 0, 0), (289, .getfield 76, 292, 12, 34, 1399), (292, .iload_n 2, 293, 2, 0, 0), (293, .aload_n 0, 294, 0, 0, 0), (294, .getfield 42, 297, 12, 19, 1384), (297, .iload_n 2, 298, 2, 0, 0), (298, .iaload, 299, 0, 0, 0), (299, .iastore, 300, 0, 0, 0), (300, .aload_n 0, 301, 0, 0, 0), (301, .getfield 79, 304, 12, 35, 1400), (304, .iload_n 2, 305, 2, 0, 0), (305, .aload_n 0, 306, 0, 0, 0), (306, .getfield 45, 309, 12, 20, 1385), (309, .iload_n 2, 310, 2, 0, 0), (310, .iaload, 311, 0, 0, 0), (311, .iastore, 312, 0, 0, 0), (312, .iinc 2 1, 315, 2, 0, 0), (315, .goto (-33), 318, 282, 0, 0), (318, .aload_n 0, 319, 0, 0, 0), (319, .aload_n 0, 320, 0, 0, 0), (320, .getfield 290, 323, 12, 24, 1389), (323, .putfield 350, 326, 12, 37, 1402), (326, .aload_n 0, 327, 0, 0, 0), (327, .aload_n 0, 328, 0, 0, 0), (328, .getfield 293, 331, 12, 25, 1390), (331, .putfield 353, 334, 12, 38, 1403), (334, .aload_n 0, 335, 0, 0, 0), (335, .aload_n 0, 336, 0, 0, 0), (336, .getfield 322, 339, 12, 26, 1391), (339, .putfield 356, 342, 12, 39, 1404), (342, .aload_n 0, 343, 0, 0, 0)]
def mc191_5 : List (Nat × Ins) := [(343, .aload_n 0, 344, 0, 0, 0), (344, .getfield 337, 347, 12, 27, 1392), (347, .putfield 359, 350, 12, 40, 1405), (350, .aload_n 0, 351, 0, 0, 0), (351, .iconst 0, 352, 0, 0, 0), (352, .putfield 362, 355, 12, 78, 1443), (355, .aload_n 0, 356, 0, 0, 0), (356, .iconst 0, 357, 0, 0, 0), (357, .putfield 365, 360, 12, 79, 1444), (360, .iconst 0, 361, 0, 0, 0), (361, .istore_n 2, 362, 2, 0, 0), (362, .iload_n 2, 363, 2, 0, 0), (363, .iconst 3, 364, 0, 0, 0), (364, .if_icmp .ge 16, 367, 380, 0, 0), (367, .aload_n 0, 368, 0, 0, 0), (368, .getfield 173, 371, 12, 80, 1445), (371, .iload_n 2, 372, 2, 0, 0), (372, .iconst 0, 373, 0, 0, 0), (373, .bastore, 374, 0, 0, 0), (374, .iinc 2 1, 377, 2, 0, 0), (377, .goto (-15), 380, 362, 0, 0), (380, .aload_n 0, 381, 0, 0, 0), (381, .getfield 359, 384, 12, 40, 1405), (384, .ireturn, 385, 0, 0, 0)]
def mc191 : List (Nat × Ins) := mc191_0 ++ mc191_1 ++ mc191_2 ++ mc191_3 ++ mc191_4 ++ mc191_5
-- 192: LikeYearsModel.fault(I)I
def mc192 : List (Nat × Ins) := [(0, .iload_n 1, 1, 1, 0, 0), (1, .ifCond .ne 10, 4, 11, 0, 0), (4, .aload_n 0, 5, 0, 0, 0), (5, .getfield 241, 8, 12, 2, 1367), (8, .goto 16, 11, 24, 0, 0), (11, .iload_n 1, 12, 1, 0, 0), (12, .iconst 1, 13, 0, 0, 0), (13, .if_icmp .ne 10, 16, 23, 0, 0), (16, .aload_n 0, 17, 0, 0, 0), (17, .getfield 13, 20, 12, 3, 1368), (20, .goto 4, 23, 24, 0, 0), (23, .iconst (-1), 24, 0, 0, 0), (24, .ireturn, 25, 0, 0, 0)]
-- 193: LikeYearsModel.close([II)V
def mc193 : List (Nat × Ins) := [(0, .iconst 0, 1, 0, 0, 0), (1, .istore_n 2, 2, 2, 0, 0), (2, .iload_n 2, 3, 2, 0, 0), (3, .iload_n 1, 4, 1, 0, 0), (4, .if_icmp .ge 42, 7, 46, 0, 0), (7, .iconst 0, 8, 0, 0, 0), (8, .istore_n 3, 9, 3, 0, 0), (9, .iload_n 3, 10, 3, 0, 0), (10, .iload_n 1, 11, 1, 0, 0), (11, .if_icmp .ge 29, 14, 40, 0, 0), (14, .aload_n 0, 15, 0, 0, 0), (15, .iload_n 3, 16, 3, 0, 0), (16, .iaload, 17, 0, 0, 0), (17, .iload_n 2, 18, 2, 0, 0), (18, .ishr, 19, 0, 0, 0), (19, .iconst 1, 20, 0, 0, 0), (20, .iand, 21, 0, 0, 0), (21, .iconst 1, 22, 0, 0, 0), (22, .if_icmp .ne 12, 25, 34, 0, 0), (25, .aload_n 0, 26, 0, 0, 0), (26, .iload_n 3, 27, 3, 0, 0), (27, .dup2, 28, 0, 0, 0), (28, .iaload, 29, 0, 0, 0), (29, .aload_n 0, 30, 0, 0, 0), (30, .iload_n 2, 31, 2, 0, 0), (31, .iaload, 32, 0, 0, 0), (32, .ior, 33, 0, 0, 0), (33, .iastore, 34, 0, 0, 0), (34, .iinc 3 1, 37, 3, 0, 0), (37, .goto (-28), 40, 9, 0, 0), (40, .iinc 2 1, 43, 2, 0, 0), (43, .goto (-41), 46, 2, 0, 0), (46, .return_, 47, 0, 0, 0)]
-- 194: LikeYearsModel.firstRound()I
def mc194_0 : List (Nat × Ins) := [(0, .iconst 0, 1, 0, 0, 0), (1, .istore_n 1, 2, 1, 0, 0), (2, .iload_n 1, 3, 1, 0, 0), (3, .aload_n 0, 4, 0, 0, 0), (4, .getfield 293, 7, 12, 25, 1390), (7, .if_icmp .ge 119, 10, 126, 0, 0), (10, .aload_n 0, 11, 0, 0, 0), (11, .getfield 88, 14, 12, 42, 1407), (14, .iload_n 1, 15, 1, 0, 0), (15, .iconst 0, 16, 0, 0, 0), (16, .iastore, 17, 0, 0, 0), (17, .iconst 0, 18, 0, 0, 0), (18, .istore_n 2, 19, 2, 0, 0), (19, .iload_n 2, 20, 2, 0, 0), (20, .aload_n 0, 21, 0, 0, 0), (21, .getfield 293, 24, 12, 25, 1390), (24, .if_icmp .ge 96, 27, 120, 0, 0), (27, .iconst 1, 28, 0, 0, 0), (28, .istore_n 3, 29, 3, 0, 0), (29, .iconst 0, 30, 0, 0, 0), (30, .istore 4, 32, 4, 0, 0), (32, .iload 4, 34, 4, 0, 0), (34, .aload_n 0, 35, 0, 0, 0), (35, .getfield 290, 38, 12, 24, 1389), (38, .if_icmp .ge 56, 41, 94, 0, 0), (41, .iload_n 3, 42, 3, 0, 0), (42, .ifCond .eq 44, 45, 86, 0, 0), (45, .aload_n 0, 46, 0, 0, 0), (46, .getfield 51, 49, 12, 22, 1387), (49, .iload 4, 51, 4, 0, 0), (51, .baload, 52, 0, 0, 0), (52, .ifCond .ne 30, 55, 82, 0, 0), (55, .aload_n 0, 56, 0, 0, 0), (56, .getfield 27, 59, 12, 14, 1379), (59, .bipush 6, 61, 0, 0, 0), (61, .iload_n 1, 62, 1, 0, 0), (62, .imul, 63, 0, 0, 0), (63, .iload 4, 65, 4, 0, 0), (65, .iadd, 66, 0, 0, 0), (66, .iaload, 67, 0, 0, 0)]
def mc194_1 : List (Nat × Ins) := [(67, .aload_n 0, 68, 0, 0, 0), (68, .getfield 27, 71, 12, 14, 1379), (71, .bipush 6, 73, 0, 0, 0), (73, .iload_n 2, 74, 2, 0, 0), (74, .imul, 75, 0, 0, 0), (75, .iload 4, 77, 4, 0, 0), (77, .iadd, 78, 0, 0, 0), (78, .iaload, 79, 0, 0, 0), (79, .if_icmp .lt 7, 82, 86, 0, 0), (82, .iconst 1, 83, 0, 0, 0), (83, .goto 4, 86, 87, 0, 0), (86, .iconst 0, 87, 0, 0, 0), (87, .istore_n 3, 88, 3, 0, 0), (88, .iinc 4 1, 91, 4, 0, 0), (91, .goto (-59), 94, 32, 0, 0), (94, .aload_n 0, 95, 0, 0, 0), (95, .getfield 88, 98, 12, 42, 1407), (98, .iload_n 1, 99, 1, 0, 0), (99, .dup2, 100, 0, 0, 0), (100, .iaload, 101, 0, 0, 0), (101, .iload_n 3, 102, 3, 0, 0), (102, .ifCond .eq 9, 105, 111, 0, 0), (105, .iconst 1, 106, 0, 0, 0), (106, .iload_n 2, 107, 2, 0, 0), (107, .ishl, 108, 0, 0, 0), (108, .goto 4, 111, 112, 0, 0), (111, .iconst 0, 112, 0, 0, 0), (112, .ior, 113, 0, 0, 0), (113, .iastore, 114, 0, 0, 0), (114, .iinc 2 1, 117, 2, 0, 0), (117, .goto (-98), 120, 19, 0, 0), (120, .iinc 1 1, 123, 1, 0, 0), (123, .goto (-121), 126, 2, 0, 0), (126, .iconst 0, 127, 0, 0, 0), (127, .istore_n 1, 128, 1, 0, 0), (128, .iload_n 1, 129, 1, 0, 0), (129, .aload_n 0, 130, 0, 0, 0), (130, .getfield 322, 133, 12, 26, 1391), (133, .if_icmp .ge 68, 136, 201, 0, 0), (136, .aload_n 0, 137, 0, 0, 0)]
def mc194_2 : List (Nat × Ins) := [(137, .getfield 88, 140, 12, 42, 1407), (140, .aload_n 0, 141, 0, 0, 0), (141, .getfield 45, 144, 12, 20, 1385), (144, .iload_n 1, 145, 1, 0, 0), (145, .iaload, 146, 0, 0, 0), (146, .iaload, 147, 0, 0, 0), (147, .aload_n 0, 148, 0, 0, 0), (148, .getfield 42, 151, 12, 19, 1384), (151, .iload_n 1, 152, 1, 0, 0), (152, .iaload, 153, 0, 0, 0), (153, .ishr, 154, 0, 0, 0), (154, .iconst 1, 155, 0, 0, 0), (155, .iand, 156, 0, 0, 0), (156, .iconst 1, 157, 0, 0, 0), (157, .if_icmp .ne 5, 160, 162, 0, 0), (160, .iload_n 1, 161, 1, 0, 0), (161, .ireturn, 162, 0, 0, 0), (162, .aload_n 0, 163, 0, 0, 0), (163, .getfield 88, 166, 12, 42, 1407), (166, .aload_n 0, 167, 0, 0, 0), (167, .getfield 42, 170, 12, 19, 1384), (170, .iload_n 1, 171, 1, 0, 0), (171, .iaload, 172, 0, 0, 0), (172, .dup2, 173, 0, 0, 0), (173, .iaload, 174, 0, 0, 0), (174, .iconst 1, 175, 0, 0, 0), (175, .aload_n 0, 176, 0, 0, 0), (176, .getfield 45, 179, 12, 20, 1385), (179, .iload_n 1, 180, 1, 0, 0), (180, .iaload, 181, 0, 0, 0), (181, .ishl, 182, 0, 0, 0), (182, .ior, 183, 0, 0, 0), (183, .iastore, 184, 0, 0, 0), (184, .aload_n 0, 185, 0, 0, 0), (185, .getfield 88, 188, 12, 42, 1407), (188, .aload_n 0, 189, 0, 0, 0), (189, .getfield 293, 192, 12, 25, 1390), (192, .invokestatic 368, 195, 193, 1743, 0), (195, .iinc 1 1, 198, 1, 0, 0), (198, .goto (-70), 201, 128, 0, 0)]
def mc194_3 : List (Nat × Ins) := [(201, .iconst (-1), 202, 0, 0, 0), (202, .ireturn, 203, 0, 0, 0)]
def mc194 : List (Nat × Ins) := mc194_0 ++ mc194_1 ++ mc194_2 ++ mc194_3
-- 195: LikeYearsModel.isOverBy(III)Z
def mc195_0 : List (Nat × Ins) := [(0, .iconst 1, 1, 0, 0, 0), (1, .istore 4, 3, 4, 0, 0), (3, .iconst 0, 4, 0, 0, 0), (4, .istore 5, 6, 5, 0, 0), (6, .iload 5, 8, 5, 0, 0), (8, .aload_n 0, 9, 0, 0, 0), (9, .getfield 350, 12, 12, 37, 1402), (12, .if_icmp .ge 57, 15, 69, 0, 0), (15, .iload 4, 17, 4, 0, 0), (17, .ifCond .eq 43, 20, 60, 0, 0), (20, .iload_n 3, 21, 3, 0, 0), (21, .iload 5, 23, 5, 0, 0), (23, .ishr, 24, 0, 0, 0), (24, .iconst 1, 25, 0, 0, 0), (25, .iand, 26, 0, 0, 0), (26, .ifCond .eq 30, 29, 56, 0, 0), (29, .aload_n 0, 30, 0, 0, 0), (30, .getfield 61, 33, 12, 29, 1394), (33, .bipush 6, 35, 0, 0, 0), (35, .iload_n 1, 36, 1, 0, 0), (36, .imul, 37, 0, 0, 0), (37, .iload 5, 39, 5, 0, 0), (39, .iadd, 40, 0, 0, 0), (40, .iaload, 41, 0, 0, 0), (41, .aload_n 0, 42, 0, 0, 0), (42, .getfield 61, 45, 12, 29, 1394), (45, .bipush 6, 47, 0, 0, 0), (47, .iload_n 2, 48, 2, 0, 0), (48, .imul, 49, 0, 0, 0), (49, .iload 5, 51, 5, 0, 0), (51, .iadd, 52, 0, 0, 0), (52, .iaload, 53, 0, 0, 0), (53, .if_icmp .lt 7, 56, 60, 0, 0), (56, .iconst 1, 57, 0, 0, 0), (57, .goto 4, 60, 61, 0, 0), (60, .iconst 0, 61, 0, 0, 0), (61, .istore 4, 63, 4, 0, 0), (63, .iinc 5 1, 66, 5, 0, 0), (66, .goto (-60), 69, 6, 0, 0), (69, .iload 4, 71, 4, 0, 0)]
def mc195_1 : List (Nat × Ins) := [(71, .ireturn, 72, 0, 0, 0)]
def mc195 : List (Nat × Ins) := mc195_0 ++ mc195_1
-- 196: LikeYearsModel.counting()I
def mc196 : List (Nat × Ins) := [(0, .iconst 0, 1, 0, 0, 0), (1, .istore_n 1, 2, 1, 0, 0), (2, .iconst 0, 3, 0, 0, 0), (3, .istore_n 2, 4, 2, 0, 0), (4, .iload_n 2, 5, 2, 0, 0), (5, .aload_n 0, 6, 0, 0, 0), (6, .getfield 350, 9, 12, 37, 1402), (9, .if_icmp .ge 28, 12, 37, 0, 0), (12, .iload_n 1, 13, 1, 0, 0), (13, .aload_n 0, 14, 0, 0, 0), (14, .getfield 82, 17, 12, 36, 1401), (17, .iload_n 2, 18, 2, 0, 0), (18, .baload, 19, 0, 0, 0), (19, .ifCond .eq 9, 22, 28, 0, 0), (22, .iconst 1, 23, 0, 0, 0), (23, .iload_n 2, 24, 2, 0, 0), (24, .ishl, 25, 0, 0, 0), (25, .goto 4, 28, 29, 0, 0), (28, .iconst 0, 29, 0, 0, 0), (29, .ior, 30, 0, 0, 0), (30, .istore_n 1, 31, 1, 0, 0), (31, .iinc 2 1, 34, 2, 0, 0), (34, .goto (-30), 37, 4, 0, 0), (37, .iload_n 1, 38, 1, 0, 0), (38, .ireturn, 39, 0, 0, 0)]
-- 197: LikeYearsModel.order(IZ)V
def mc197_0 : List (Nat × Ins) := [(0, .iconst 0, 1, 0, 0, 0), (1, .istore_n 3, 2, 3, 0, 0), (2, .iload_n 3, 3, 3, 0, 0), (3, .aload_n 0, 4, 0, 0, 0), (4, .getfield 353, 7, 12, 38, 1403), (7, .if_icmp .ge 62, 10, 69, 0, 0), (10, .aload_n 0, 11, 0, 0, 0), (11, .getfield 88, 14, 12, 42, 1407), (14, .iload_n 3, 15, 3, 0, 0), (15, .iconst 0, 16, 0, 0, 0), (16, .iastore, 17, 0, 0, 0), (17, .iconst 0, 18, 0, 0, 0), (18, .istore 4, 20, 4, 0, 0), (20, .iload 4, 22, 4, 0, 0), (22, .aload_n 0, 23, 0, 0, 0), (23, .getfield 353, 26, 12, 38, 1403), (26, .if_icmp .ge 37, 29, 63, 0, 0), (29, .aload_n 0, 30, 0, 0, 0), (30, .getfield 88, 33, 12, 42, 1407), (33, .iload_n 3, 34, 3, 0, 0), (34, .dup2, 35, 0, 0, 0), (35, .iaload, 36, 0, 0, 0), (36, .aload_n 0, 37, 0, 0, 0), (37, .iload_n 3, 38, 3, 0, 0), (38, .iload 4, 40, 4, 0, 0), (40, .iload_n 1, 41, 1, 0, 0), (41, .invokevirtual 372, 44, 195, 1770, 0), (44, .ifCond .eq 10, 47, 54, 0, 0), (47, .iconst 1, 48, 0, 0, 0), (48, .iload 4, 50, 4, 0, 0), (50, .ishl, 51, 0, 0, 0), (51, .goto 4, 54, 55, 0, 0), (54, .iconst 0, 55, 0, 0, 0), (55, .ior, 56, 0, 0, 0), (56, .iastore, 57, 0, 0, 0), (57, .iinc 4 1, 60, 4, 0, 0), (60, .goto (-40), 63, 20, 0, 0), (63, .iinc 3 1, 66, 3, 0, 0), (66, .goto (-64), 69, 2, 0, 0), (69, .iconst 0, 70, 0, 0, 0)]
def mc197_1 : List (Nat × Ins) := [(70, .istore_n 3, 71, 3, 0, 0), (71, .iload_n 3, 72, 3, 0, 0), (72, .aload_n 0, 73, 0, 0, 0), (73, .getfield 356, 76, 12, 39, 1404), (76, .if_icmp .ge 35, 79, 111, 0, 0), (79, .iload_n 2, 80, 2, 0, 0), (80, .ifCond .eq 31, 83, 111, 0, 0), (83, .aload_n 0, 84, 0, 0, 0), (84, .getfield 88, 87, 12, 42, 1407), (87, .aload_n 0, 88, 0, 0, 0), (88, .getfield 76, 91, 12, 34, 1399), (91, .iload_n 3, 92, 3, 0, 0), (92, .iaload, 93, 0, 0, 0), (93, .dup2, 94, 0, 0, 0), (94, .iaload, 95, 0, 0, 0), (95, .iconst 1, 96, 0, 0, 0), (96, .aload_n 0, 97, 0, 0, 0), (97, .getfield 79, 100, 12, 35, 1400), (100, .iload_n 3, 101, 3, 0, 0), (101, .iaload, 102, 0, 0, 0), (102, .ishl, 103, 0, 0, 0), (103, .ior, 104, 0, 0, 0), (104, .iastore, 105, 0, 0, 0), (105, .iinc 3 1, 108, 3, 0, 0), (108, .goto (-37), 111, 71, 0, 0), (111, .aload_n 0, 112, 0, 0, 0), (112, .getfield 88, 115, 12, 42, 1407), (115, .aload_n 0, 116, 0, 0, 0), (116, .getfield 353, 119, 12, 38, 1403), (119, .invokestatic 368, 122, 193, 1743, 0), (122, .iconst 0, 123, 0, 0, 0), (123, .istore_n 3, 124, 3, 0, 0), (124, .iload_n 3, 125, 3, 0, 0), (125, .aload_n 0, 126, 0, 0, 0), (126, .getfield 353, 129, 12, 38, 1403), (129, .if_icmp .ge 66, 132, 195, 0, 0), (132, .aload_n 0, 133, 0, 0, 0), (133, .getfield 91, 136, 12, 43, 1408), (136, .iload_n 3, 137, 3, 0, 0), (137, .iconst 0, 138, 0, 0, 0)]
def mc197_2 : List (Nat × Ins) := [(138, .iastore, 139, 0, 0, 0), (139, .iconst 0, 140, 0, 0, 0), (140, .istore 4, 142, 4, 0, 0), (142, .iload 4, 144, 4, 0, 0), (144, .aload_n 0, 145, 0, 0, 0), (145, .getfield 353, 148, 12, 38, 1403), (148, .if_icmp .ge 41, 151, 189, 0, 0), (151, .aload_n 0, 152, 0, 0, 0), (152, .getfield 91, 155, 12, 43, 1408), (155, .iload_n 3, 156, 3, 0, 0), (156, .dup2, 157, 0, 0, 0), (157, .iaload, 158, 0, 0, 0), (158, .aload_n 0, 159, 0, 0, 0), (159, .getfield 88, 162, 12, 42, 1407), (162, .iload 4, 164, 4, 0, 0), (164, .iaload, 165, 0, 0, 0), (165, .iload_n 3, 166, 3, 0, 0), (166, .ishr, 167, 0, 0, 0), (167, .iconst 1, 168, 0, 0, 0), (168, .iand, 169, 0, 0, 0), (169, .iconst 1, 170, 0, 0, 0), (170, .if_icmp .ne 10, 173, 180, 0, 0), (173, .iconst 1, 174, 0, 0, 0), (174, .iload 4, 176, 4, 0, 0), (176, .ishl, 177, 0, 0, 0), (177, .goto 4, 180, 181, 0, 0), (180, .iconst 0, 181, 0, 0, 0), (181, .ior, 182, 0, 0, 0), (182, .iastore, 183, 0, 0, 0), (183, .iinc 4 1, 186, 4, 0, 0), (186, .goto (-44), 189, 142, 0, 0), (189, .iinc 3 1, 192, 3, 0, 0), (192, .goto (-68), 195, 124, 0, 0), (195, .return_, 196, 0, 0, 0)]
def mc197 : List (Nat × Ins) := mc197_0 ++ mc197_1 ++ mc197_2
-- 198: LikeYearsModel.orderNow()V
def mc198 : List (Nat × Ins) := [(0, .aload_n 0, 1, 0, 0, 0), (1, .aload_n 0, 2, 0, 0, 0), (2, .invokevirtual 376, 5, 196, 1762, 0), (5, .iconst 1, 6, 0, 0, 0), (6, .invokevirtual 379, 9, 197, 1766, 0), (9, .return_, 10, 0, 0, 0)]
-- 199: LikeYearsModel.goesRound(I)Z
def mc199_0 : List (Nat × Ins) := [(0, .iconst 0, 1, 0, 0, 0), (1, .istore_n 2, 2, 2, 0, 0), (2, .iload_n 2, 3, 2, 0, 0), (3, .aload_n 0, 4, 0, 0, 0), (4, .getfield 353, 7, 12, 38, 1403), (7, .if_icmp .ge 58, 10, 65, 0, 0), (10, .aload_n 0, 11, 0, 0, 0), (11, .getfield 88, 14, 12, 42, 1407), (14, .iload_n 2, 15, 2, 0, 0), (15, .iconst 0, 16, 0, 0, 0), (16, .iastore, 17, 0, 0, 0), (17, .iconst 0, 18, 0, 0, 0), (18, .istore_n 3, 19, 3, 0, 0), (19, .iload_n 3, 20, 3, 0, 0), (20, .aload_n 0, 21, 0, 0, 0), (21, .getfield 353, 24, 12, 38, 1403), (24, .if_icmp .ge 35, 27, 59, 0, 0), (27, .aload_n 0, 28, 0, 0, 0), (28, .getfield 88, 31, 12, 42, 1407), (31, .iload_n 2, 32, 2, 0, 0), (32, .dup2, 33, 0, 0, 0), (33, .iaload, 34, 0, 0, 0), (34, .aload_n 0, 35, 0, 0, 0), (35, .iload_n 2, 36, 2, 0, 0), (36, .iload_n 3, 37, 3, 0, 0), (37, .iload_n 1, 38, 1, 0, 0), (38, .invokevirtual 372, 41, 195, 1770, 0), (41, .ifCond .eq 9, 44, 50, 0, 0), (44, .iconst 1, 45, 0, 0, 0), (45, .iload_n 3, 46, 3, 0, 0), (46, .ishl, 47, 0, 0, 0), (47, .goto 4, 50, 51, 0, 0), (50, .iconst 0, 51, 0, 0, 0), (51, .ior, 52, 0, 0, 0), (52, .iastore, 53, 0, 0, 0), (53, .iinc 3 1, 56, 3, 0, 0), (56, .goto (-37), 59, 19, 0, 0), (59, .iinc 2 1, 62, 2, 0, 0), (62, .goto (-60), 65, 2, 0, 0), (65, .iconst 0, 66, 0, 0, 0)]
def mc199_1 : List (Nat × Ins) := [(66, .istore_n 2, 67, 2, 0, 0), (67, .iload_n 2, 68, 2, 0, 0), (68, .aload_n 0, 69, 0, 0, 0), (69, .getfield 356, 72, 12, 39, 1404), (72, .if_icmp .ge 68, 75, 140, 0, 0), (75, .aload_n 0, 76, 0, 0, 0), (76, .getfield 88, 79, 12, 42, 1407), (79, .aload_n 0, 80, 0, 0, 0), (80, .getfield 79, 83, 12, 35, 1400), (83, .iload_n 2, 84, 2, 0, 0), (84, .iaload, 85, 0, 0, 0), (85, .iaload, 86, 0, 0, 0), (86, .aload_n 0, 87, 0, 0, 0), (87, .getfield 76, 90, 12, 34, 1399), (90, .iload_n 2, 91, 2, 0, 0), (91, .iaload, 92, 0, 0, 0), (92, .ishr, 93, 0, 0, 0), (93, .iconst 1, 94, 0, 0, 0), (94, .iand, 95, 0, 0, 0), (95, .iconst 1, 96, 0, 0, 0), (96, .if_icmp .ne 5, 99, 101, 0, 0), (99, .iconst 1, 100, 0, 0, 0), (100, .ireturn, 101, 0, 0, 0), (101, .aload_n 0, 102, 0, 0, 0), (102, .getfield 88, 105, 12, 42, 1407), (105, .aload_n 0, 106, 0, 0, 0), (106, .getfield 76, 109, 12, 34, 1399), (109, .iload_n 2, 110, 2, 0, 0), (110, .iaload, 111, 0, 0, 0), (111, .dup2, 112, 0, 0, 0), (112, .iaload, 113, 0, 0, 0), (113, .iconst 1, 114, 0, 0, 0), (114, .aload_n 0, 115, 0, 0, 0), (115, .getfield 79, 118, 12, 35, 1400), (118, .iload_n 2, 119, 2, 0, 0), (119, .iaload, 120, 0, 0, 0), (120, .ishl, 121, 0, 0, 0), (121, .ior, 122, 0, 0, 0), (122, .iastore, 123, 0, 0, 0), (123, .aload_n 0, 124, 0, 0, 0)]
def mc199_2 : List (Nat × Ins) := [(124, .getfield 88, 127, 12, 42, 1407), (127, .aload_n 0, 128, 0, 0, 0), (128, .getfield 353, 131, 12, 38, 1403), (131, .invokestatic 368, 134, 193, 1743, 0), (134, .iinc 2 1, 137, 2, 0, 0), (137, .goto (-70), 140, 67, 0, 0), (140, .iconst 0, 141, 0, 0, 0), (141, .ireturn, 142, 0, 0, 0)]
def mc199 : List (Nat × Ins) := mc199_0 ++ mc199_1 ++ mc199_2
-- 200: LikeYearsModel.isCase(I)Z
def mc200 : List (Nat × Ins) := [(0, .iload_n 1, 1, 1, 0, 0), (1, .ifCond .lt 15, 4, 16, 0, 0), (4, .iload_n 1, 5, 1, 0, 0), (5, .aload_n 0, 6, 0, 0, 0), (6, .getfield 353, 9, 12, 38, 1403), (9, .if_icmp .ge 7, 12, 16, 0, 0), (12, .iconst 1, 13, 0, 0, 0), (13, .goto 4, 16, 17, 0, 0), (16, .iconst 0, 17, 0, 0, 0), (17, .ireturn, 18, 0, 0, 0)]
-- 201: LikeYearsModel.isMark(I)Z
def mc201 : List (Nat × Ins) := [(0, .iload_n 1, 1, 1, 0, 0), (1, .ifCond .lt 15, 4, 16, 0, 0), (4, .iload_n 1, 5, 1, 0, 0), (5, .aload_n 0, 6, 0, 0, 0), (6, .getfield 350, 9, 12, 37, 1402), (9, .if_icmp .ge 7, 12, 16, 0, 0), (12, .iconst 1, 13, 0, 0, 0), (13, .goto 4, 16, 17, 0, 0), (16, .iconst 0, 17, 0, 0, 0), (17, .ireturn, 18, 0, 0, 0)]
-- 202: LikeYearsModel.isOver(II)Z
def mc202 : List (Nat × Ins) := [(0, .aload_n 0, 1, 0, 0, 0), (1, .getfield 88, 4, 12, 42, 1407), (4, .iload_n 1, 5, 1, 0, 0), (5, .iaload, 6, 0, 0, 0), (6, .iload_n 2, 7, 2, 0, 0), (7, .ishr, 8, 0, 0, 0), (8, .iconst 1, 9, 0, 0, 0), (9, .iand, 10, 0, 0, 0), (10, .iconst 1, 11, 0, 0, 0), (11, .if_icmp .ne 7, 14, 18, 0, 0), (14, .iconst 1, 15, 0, 0, 0), (15, .goto 4, 18, 19, 0, 0), (18, .iconst 0, 19, 0, 0, 0), (19, .ireturn, 20, 0, 0, 0)]
-- 203: LikeYearsModel.worse(II)I
def mc203 : List (Nat × Ins) := [(0, .aload_n 0, 1, 0, 0, 0), (1, .iload_n 1, 2, 1, 0, 0), (2, .invokevirtual 383, 5, 200, 1754, 0), (5, .ifCond .eq 11, 8, 16, 0, 0), (8, .aload_n 0, 9, 0, 0, 0), (9, .iload_n 2, 10, 2, 0, 0), (10, .invokevirtual 383, 13, 200, 1754, 0), (13, .ifCond .ne 5, 16, 18, 0, 0), (16, .iconst (-1), 17, 0, 0, 0), (17, .ireturn, 18, 0, 0, 0), (18, .aload_n 0, 19, 0, 0, 0), (19, .invokevirtual 386, 22, 198, 1758, 0), (22, .aload_n 0, 23, 0, 0, 0), (23, .iload_n 1, 24, 1, 0, 0), (24, .iload_n 2, 25, 2, 0, 0), (25, .invokevirtual 389, 28, 202, 1774, 0), (28, .ifCond .ne 7, 31, 35, 0, 0), (31, .iconst 0, 32, 0, 0, 0), (32, .goto 17, 35, 49, 0, 0), (35, .aload_n 0, 36, 0, 0, 0), (36, .iload_n 2, 37, 2, 0, 0), (37, .iload_n 1, 38, 1, 0, 0), (38, .invokevirtual 389, 41, 202, 1774, 0), (41, .ifCond .eq 7, 44, 48, 0, 0), (44, .iconst 2, 45, 0, 0, 0), (45, .goto 4, 48, 49, 0, 0), (48, .iconst 1, 49, 0, 0, 0), (49, .ireturn, 50, 0, 0, 0)]
-- 204: LikeYearsModel.gapOf(II)I
def mc204 : List (Nat × Ins) := [(0, .aload_n 0, 1, 0, 0, 0), (1, .iload_n 1, 2, 1, 0, 0), (2, .iload_n 2, 3, 2, 0, 0), (3, .invokevirtual 389, 6, 202, 1774, 0), (6, .ifCond .eq 34, 9, 40, 0, 0), (9, .aload_n 0, 10, 0, 0, 0), (10, .getfield 70, 13, 12, 32, 1397), (13, .iload_n 1, 14, 1, 0, 0), (14, .iaload, 15, 0, 0, 0), (15, .aload_n 0, 16, 0, 0, 0), (16, .getfield 70, 19, 12, 32, 1397), (19, .iload_n 2, 20, 2, 0, 0), (20, .iaload, 21, 0, 0, 0), (21, .if_icmp .ge 19, 24, 40, 0, 0), (24, .aload_n 0, 25, 0, 0, 0), (25, .getfield 70, 28, 12, 32, 1397), (28, .iload_n 2, 29, 2, 0, 0), (29, .iaload, 30, 0, 0, 0), (30, .aload_n 0, 31, 0, 0, 0), (31, .getfield 70, 34, 12, 32, 1397), (34, .iload_n 1, 35, 1, 0, 0), (35, .iaload, 36, 0, 0, 0), (36, .isub, 37, 0, 0, 0), (37, .goto 4, 40, 41, 0, 0), (40, .iconst 0, 41, 0, 0, 0), (41, .ireturn, 42, 0, 0, 0)]
-- 205: LikeYearsModel.eitherGap(II)I
def mc205 : List (Nat × Ins) := [(0, .aload_n 0, 1, 0, 0, 0), (1, .iload_n 1, 2, 1, 0, 0), (2, .iload_n 2, 3, 2, 0, 0), (3, .invokevirtual 393, 6, 204, 1782, 0), (6, .aload_n 0, 7, 0, 0, 0), (7, .iload_n 2, 8, 2, 0, 0), (8, .iload_n 1, 9, 1, 0, 0), (9, .invokevirtual 393, 12, 204, 1782, 0), (12, .iadd, 13, 0, 0, 0), (13, .ireturn, 14, 0, 0, 0)]
-- 206: LikeYearsModel.clashes()I
def mc206 : List (Nat × Ins) := [(0, .iconst 0, 1, 0, 0, 0), (1, .istore_n 1, 2, 1, 0, 0), (2, .iconst 0, 3, 0, 0, 0), (3, .istore_n 2, 4, 2, 0, 0), (4, .iload_n 2, 5, 2, 0, 0), (5, .aload_n 0, 6, 0, 0, 0), (6, .getfield 353, 9, 12, 38, 1403), (9, .if_icmp .ge 42, 12, 51, 0, 0), (12, .iconst 0, 13, 0, 0, 0), (13, .istore_n 3, 14, 3, 0, 0), (14, .iload_n 3, 15, 3, 0, 0), (15, .aload_n 0, 16, 0, 0, 0), (16, .getfield 353, 19, 12, 38, 1403), (19, .if_icmp .ge 26, 22, 45, 0, 0), (22, .iload_n 1, 23, 1, 0, 0), (23, .aload_n 0, 24, 0, 0, 0), (24, .iload_n 2, 25, 2, 0, 0), (25, .iload_n 3, 26, 3, 0, 0), (26, .invokevirtual 393, 29, 204, 1782, 0), (29, .ifCond .le 7, 32, 36, 0, 0), (32, .iconst 1, 33, 0, 0, 0), (33, .goto 4, 36, 37, 0, 0), (36, .iconst 0, 37, 0, 0, 0), (37, .iadd, 38, 0, 0, 0), (38, .istore_n 1, 39, 1, 0, 0), (39, .iinc 3 1, 42, 3, 0, 0), (42, .goto (-28), 45, 14, 0, 0), (45, .iinc 2 1, 48, 2, 0, 0), (48, .goto (-44), 51, 4, 0, 0), (51, .iload_n 1, 52, 1, 0, 0), (52, .ireturn, 53, 0, 0, 0)]
-- 207: LikeYearsModel.clash(I)I
def mc207_0 : List (Nat × Ins) := [(0, .iload_n 1, 1, 1, 0, 0), (1, .ifCond .lt 8, 4, 9, 0, 0), (4, .iload_n 1, 5, 1, 0, 0), (5, .iconst 2, 6, 0, 0, 0), (6, .if_icmp .le 5, 9, 11, 0, 0), (9, .iconst (-1), 10, 0, 0, 0), (10, .ireturn, 11, 0, 0, 0), (11, .aload_n 0, 12, 0, 0, 0), (12, .invokevirtual 386, 15, 198, 1758, 0), (15, .iconst 0, 16, 0, 0, 0), (16, .istore_n 2, 17, 2, 0, 0), (17, .iconst 0, 18, 0, 0, 0), (18, .istore_n 3, 19, 3, 0, 0), (19, .iconst 0, 20, 0, 0, 0), (20, .istore 4, 22, 4, 0, 0), (22, .iload 4, 24, 4, 0, 0), (24, .aload_n 0, 25, 0, 0, 0), (25, .getfield 353, 28, 12, 38, 1403), (28, .if_icmp .ge 63, 31, 91, 0, 0), (31, .iconst 0, 32, 0, 0, 0), (32, .istore 5, 34, 5, 0, 0), (34, .iload 5, 36, 5, 0, 0), (36, .aload_n 0, 37, 0, 0, 0), (37, .getfield 353, 40, 12, 38, 1403), (40, .if_icmp .ge 45, 43, 85, 0, 0), (43, .iload_n 2, 44, 2, 0, 0), (44, .aload_n 0, 45, 0, 0, 0), (45, .iload 4, 47, 4, 0, 0), (47, .iload 5, 49, 5, 0, 0), (49, .invokevirtual 393, 52, 204, 1782, 0), (52, .iadd, 53, 0, 0, 0), (53, .istore_n 2, 54, 2, 0, 0), (54, .aload_n 0, 55, 0, 0, 0), (55, .iload 4, 57, 4, 0, 0), (57, .iload 5, 59, 5, 0, 0), (59, .invokevirtual 393, 62, 204, 1782, 0), (62, .iload_n 3, 63, 3, 0, 0), (63, .if_icmp .le 14, 66, 77, 0, 0), (66, .aload_n 0, 67, 0, 0, 0), (67, .iload 4, 69, 4, 0, 0)]
def mc207_1 : List (Nat × Ins) := [(69, .iload 5, 71, 5, 0, 0), (71, .invokevirtual 393, 74, 204, 1782, 0), (74, .goto 4, 77, 78, 0, 0), (77, .iload_n 3, 78, 3, 0, 0), (78, .istore_n 3, 79, 3, 0, 0), (79, .iinc 5 1, 82, 5, 0, 0), (82, .goto (-48), 85, 34, 0, 0), (85, .iinc 4 1, 88, 4, 0, 0), (88, .goto (-66), 91, 22, 0, 0), (91, .iload_n 1, 92, 1, 0, 0), (92, .ifCond .ne 10, 95, 102, 0, 0), (95, .aload_n 0, 96, 0, 0, 0), (96, .invokevirtual 396, 99, 206, 1786, 0), (99, .goto 13, 102, 112, 0, 0), (102, .iload_n 1, 103, 1, 0, 0), (103, .iconst 1, 104, 0, 0, 0), (104, .if_icmp .ne 7, 107, 111, 0, 0), (107, .iload_n 2, 108, 2, 0, 0), (108, .goto 4, 111, 112, 0, 0), (111, .iload_n 3, 112, 3, 0, 0), (112, .ireturn, 113, 0, 0, 0)]
def mc207 : List (Nat × Ins) := mc207_0 ++ mc207_1
-- 208: LikeYearsModel.oddest(I)I
def mc208_0 : List (Nat × Ins) := [(0, .iload_n 1, 1, 1, 0, 0), (1, .ifCond .lt 8, 4, 9, 0, 0), (4, .iload_n 1, 5, 1, 0, 0), (5, .iconst 2, 6, 0, 0, 0), (6, .if_icmp .le 5, 9, 11, 0, 0), (9, .iconst (-1), 10, 0, 0, 0), (10, .ireturn, 11, 0, 0, 0), (11, .aload_n 0, 12, 0, 0, 0), (12, .invokevirtual 386, 15, 198, 1758, 0), (15, .iconst (-1), 16, 0, 0, 0), (16, .istore_n 2, 17, 2, 0, 0), (17, .iconst 0, 18, 0, 0, 0), (18, .istore_n 3, 19, 3, 0, 0), (19, .iconst 0, 20, 0, 0, 0), (20, .istore 4, 22, 4, 0, 0), (22, .iconst 0, 23, 0, 0, 0), (23, .istore 5, 25, 5, 0, 0), (25, .iload 5, 27, 5, 0, 0), (27, .aload_n 0, 28, 0, 0, 0), (28, .getfield 353, 31, 12, 38, 1403), (31, .if_icmp .ge 104, 34, 135, 0, 0), (34, .iconst 0, 35, 0, 0, 0), (35, .istore 6, 37, 6, 0, 0), (37, .iconst 0, 38, 0, 0, 0), (38, .istore 7, 40, 7, 0, 0), (40, .iconst 0, 41, 0, 0, 0), (41, .istore 8, 43, 8, 0, 0), (43, .iload 8, 45, 8, 0, 0), (45, .aload_n 0, 46, 0, 0, 0), (46, .getfield 353, 49, 12, 38, 1403), (49, .if_icmp .ge 43, 52, 92, 0, 0), (52, .iload 6, 54, 6, 0, 0), (54, .aload_n 0, 55, 0, 0, 0), (55, .iload 5, 57, 5, 0, 0), (57, .iload 8, 59, 8, 0, 0), (59, .invokevirtual 399, 62, 205, 1794, 0), (62, .ifCond .le 7, 65, 69, 0, 0), (65, .iconst 1, 66, 0, 0, 0), (66, .goto 4, 69, 70, 0, 0), (69, .iconst 0, 70, 0, 0, 0)]
def mc208_1 : List (Nat × Ins) := [(70, .iadd, 71, 0, 0, 0), (71, .istore 6, 73, 6, 0, 0), (73, .iload 7, 75, 7, 0, 0), (75, .aload_n 0, 76, 0, 0, 0), (76, .iload 5, 78, 5, 0, 0), (78, .iload 8, 80, 8, 0, 0), (80, .invokevirtual 399, 83, 205, 1794, 0), (83, .iadd, 84, 0, 0, 0), (84, .istore 7, 86, 7, 0, 0), (86, .iinc 8 1, 89, 8, 0, 0), (89, .goto (-46), 92, 43, 0, 0), (92, .iload 6, 94, 6, 0, 0), (94, .ifCond .eq 35, 97, 129, 0, 0), (97, .iload 6, 99, 6, 0, 0), (99, .iload_n 3, 100, 3, 0, 0), (100, .if_icmp .lt 29, 103, 129, 0, 0), (103, .iload 6, 105, 6, 0, 0), (105, .iload_n 3, 106, 3, 0, 0), (106, .if_icmp .ne 13, 109, 119, 0, 0), (109, .iload 7, 111, 7, 0, 0), (111, .iload 4, 113, 4, 0, 0), (113, .if_icmp .gt 6, 116, 119, 0, 0), (116, .goto 13, 119, 129, 0, 0), (119, .iload 5, 121, 5, 0, 0), (121, .istore_n 2, 122, 2, 0, 0), (122, .iload 6, 124, 6, 0, 0), (124, .istore_n 3, 125, 3, 0, 0), (125, .iload 7, 127, 7, 0, 0), (127, .istore 4, 129, 4, 0, 0), (129, .iinc 5 1, 132, 5, 0, 0), (132, .goto (-107), 135, 25, 0, 0), (135, .iload_n 2, 136, 2, 0, 0), (136, .ifCond .ge 7, 139, 143, 0, 0), (139, .iconst (-1), 140, 0, 0, 0), (140, .goto 22, 143, 162, 0, 0), (143, .iload_n 1, 144, 1, 0, 0), (144, .ifCond .ne 7, 147, 151, 0, 0), (147, .iload_n 2, 148, 2, 0, 0), (148, .goto 14, 151, 162, 0, 0), (151, .iload_n 1, 152, 1, 0, 0)]
def mc208_2 : List (Nat × Ins) := [(152, .iconst 1, 153, 0, 0, 0), (153, .if_icmp .ne 7, 156, 160, 0, 0), (156, .iload_n 3, 157, 3, 0, 0), (157, .goto 5, 160, 162, 0, 0), (160, .iload 4, 162, 4, 0, 0), (162, .ireturn, 163, 0, 0, 0)]
def mc208 : List (Nat × Ins) := mc208_0 ++ mc208_1 ++ mc208_2
-- 209: LikeYearsModel.beside(I)I
def mc209 : List (Nat × Ins) := [(0, .aload_n 0, 1, 0, 0, 0), (1, .iload_n 1, 2, 1, 0, 0), (2, .invokevirtual 383, 5, 200, 1754, 0), (5, .ifCond .ne 5, 8, 10, 0, 0), (8, .iconst (-1), 9, 0, 0, 0), (9, .ireturn, 10, 0, 0, 0), (10, .aload_n 0, 11, 0, 0, 0), (11, .invokevirtual 386, 14, 198, 1758, 0), (14, .iconst (-1), 15, 0, 0, 0), (15, .istore_n 2, 16, 2, 0, 0), (16, .iconst 0, 17, 0, 0, 0), (17, .istore_n 3, 18, 3, 0, 0), (18, .iconst 0, 19, 0, 0, 0), (19, .istore 4, 21, 4, 0, 0), (21, .iload 4, 23, 4, 0, 0), (23, .aload_n 0, 24, 0, 0, 0), (24, .getfield 353, 27, 12, 38, 1403), (27, .if_icmp .ge 34, 30, 61, 0, 0), (30, .aload_n 0, 31, 0, 0, 0), (31, .iload_n 1, 32, 1, 0, 0), (32, .iload 4, 34, 4, 0, 0), (34, .invokevirtual 399, 37, 205, 1794, 0), (37, .iload_n 3, 38, 3, 0, 0), (38, .if_icmp .gt 6, 41, 44, 0, 0), (41, .goto 14, 44, 55, 0, 0), (44, .iload 4, 46, 4, 0, 0), (46, .istore_n 2, 47, 2, 0, 0), (47, .aload_n 0, 48, 0, 0, 0), (48, .iload_n 1, 49, 1, 0, 0), (49, .iload 4, 51, 4, 0, 0), (51, .invokevirtual 399, 54, 205, 1794, 0), (54, .istore_n 3, 55, 3, 0, 0), (55, .iinc 4 1, 58, 4, 0, 0), (58, .goto (-37), 61, 21, 0, 0), (61, .iload_n 2, 62, 2, 0, 0), (62, .ireturn, 63, 0, 0, 0)]
-- 210: LikeYearsModel.common(JJ)J
def mc210 : List (Nat × Ins) := [(0, .lload_n 0, 1, 0, 0, 0), (1, .lconst 0, 2, 0, 0, 0), (2, .lcmp, 3, 0, 0, 0), (3, .ifCond .ge 8, 6, 11, 0, 0), (6, .lload_n 0, 7, 0, 0, 0), (7, .lneg, 8, 0, 0, 0), (8, .goto 4, 11, 12, 0, 0), (11, .lload_n 0, 12, 0, 0, 0), (12, .lstore 4, 14, 4, 0, 0), (14, .lload_n 2, 15, 2, 0, 0), (15, .lstore 6, 17, 6, 0, 0), (17, .lload 6, 19, 6, 0, 0), (19, .lconst 0, 20, 0, 0, 0), (20, .lcmp, 21, 0, 0, 0), (21, .ifCond .le 21, 24, 42, 0, 0), (24, .lload 4, 26, 4, 0, 0), (26, .lload 6, 28, 6, 0, 0), (28, .lrem, 29, 0, 0, 0), (29, .lstore 8, 31, 8, 0, 0), (31, .lload 6, 33, 6, 0, 0), (33, .lstore 4, 35, 4, 0, 0), (35, .lload 8, 37, 8, 0, 0), (37, .lstore 6, 39, 6, 0, 0), (39, .goto (-22), 42, 17, 0, 0), (42, .lload 4, 44, 4, 0, 0), (44, .lreturn, 45, 0, 0, 0)]
-- 211: LikeYearsModel.put(JJ)V
def mc211 : List (Nat × Ins) := [(0, .lload_n 1, 1, 1, 0, 0), (1, .lload_n 3, 2, 3, 0, 0), (2, .invokestatic 402, 5, 210, 1844, 0), (5, .lstore 5, 7, 5, 0, 0), (7, .aload_n 0, 8, 0, 0, 0), (8, .lload_n 1, 9, 1, 0, 0), (9, .lload 5, 11, 5, 0, 0), (11, .ldiv, 12, 0, 0, 0), (12, .putfield 406, 15, 12, 44, 1409), (15, .aload_n 0, 16, 0, 0, 0), (16, .lload_n 3, 17, 3, 0, 0), (17, .lload 5, 19, 5, 0, 0), (19, .ldiv, 20, 0, 0, 0), (20, .putfield 409, 23, 12, 45, 1410), (23, .return_, 24, 0, 0, 0)]
-- 212: LikeYearsModel.add(JJ)V
def mc212 : List (Nat × Ins) := [(0, .aload_n 0, 1, 0, 0, 0), (1, .getfield 409, 4, 12, 45, 1410), (4, .lload_n 3, 5, 3, 0, 0), (5, .invokestatic 402, 8, 210, 1844, 0), (8, .lstore 5, 10, 5, 0, 0), (10, .aload_n 0, 11, 0, 0, 0), (11, .aload_n 0, 12, 0, 0, 0), (12, .getfield 406, 15, 12, 44, 1409), (15, .lload_n 3, 16, 3, 0, 0), (16, .lload 5, 18, 5, 0, 0), (18, .ldiv, 19, 0, 0, 0), (19, .lmul, 20, 0, 0, 0), (20, .lload_n 1, 21, 1, 0, 0), (21, .aload_n 0, 22, 0, 0, 0), (22, .getfield 409, 25, 12, 45, 1410), (25, .lload 5, 27, 5, 0, 0), (27, .ldiv, 28, 0, 0, 0), (28, .lmul, 29, 0, 0, 0), (29, .ladd, 30, 0, 0, 0), (30, .aload_n 0, 31, 0, 0, 0), (31, .getfield 409, 34, 12, 45, 1410), (34, .lload 5, 36, 5, 0, 0), (36, .ldiv, 37, 0, 0, 0), (37, .lload_n 3, 38, 3, 0, 0), (38, .lmul, 39, 0, 0, 0), (39, .invokevirtual 412, 42, 211, 1840, 0), (42, .return_, 43, 0, 0, 0)]
-- 213: LikeYearsModel.isPart(I)Z
def mc213 : List (Nat × Ins) := [(0, .iload_n 0, 1, 0, 0, 0), (1, .ifCond .eq 8, 4, 9, 0, 0), (4, .iload_n 0, 5, 0, 0, 0), (5, .iconst 1, 6, 0, 0, 0), (6, .if_icmp .ne 7, 9, 13, 0, 0), (9, .iconst 1, 10, 0, 0, 0), (10, .goto 4, 13, 14, 0, 0), (13, .iconst 0, 14, 0, 0, 0), (14, .ireturn, 15, 0, 0, 0)]
-- 214: LikeYearsModel.partOf(I)J
def mc214 : List (Nat × Ins) := [(0, .iload_n 1, 1, 1, 0, 0), (1, .ifCond .ne 10, 4, 11, 0, 0), (4, .aload_n 0, 5, 0, 0, 0), (5, .getfield 406, 8, 12, 44, 1409), (8, .goto 7, 11, 15, 0, 0), (11, .aload_n 0, 12, 0, 0, 0), (12, .getfield 409, 15, 12, 45, 1410), (15, .lreturn, 16, 0, 0, 0)]
-- 215: LikeYearsModel.lowest(I)I
def mc215 : List (Nat × Ins) := [(0, .iconst 0, 1, 0, 0, 0), (1, .istore_n 1, 2, 1, 0, 0), (2, .iload_n 0, 3, 0, 0, 0), (3, .iload_n 1, 4, 1, 0, 0), (4, .ishr, 5, 0, 0, 0), (5, .iconst 1, 6, 0, 0, 0), (6, .iand, 7, 0, 0, 0), (7, .ifCond .ne 9, 10, 16, 0, 0), (10, .iinc 1 1, 13, 1, 0, 0), (13, .goto (-11), 16, 2, 0, 0), (16, .iload_n 1, 17, 1, 0, 0), (17, .ireturn, 18, 0, 0, 0)]
-- 216: LikeYearsModel.layOut()V
def mc216_0 : List (Nat × Ins) := [(0, .aload_n 0, 1, 0, 0, 0), (1, .getfield 95, 4, 12, 46, 1411), (4, .iconst 0, 5, 0, 0, 0), (5, .iconst 0, 6, 0, 0, 0), (6, .iastore, 7, 0, 0, 0), (7, .aload_n 0, 8, 0, 0, 0), (8, .getfield 98, 11, 12, 47, 1412), (11, .iconst 0, 12, 0, 0, 0), (12, .iconst 0, 13, 0, 0, 0), (13, .iastore, 14, 0, 0, 0), (14, .aload_n 0, 15, 0, 0, 0), (15, .getfield 101, 18, 12, 48, 1413), (18, .iconst 0, 19, 0, 0, 0), (19, .iconst 0, 20, 0, 0, 0), (20, .iastore, 21, 0, 0, 0), (21, .iconst 1, 22, 0, 0, 0), (22, .istore_n 1, 23, 1, 0, 0), (23, .iload_n 1, 24, 1, 0, 0), (24, .iconst 1, 25, 0, 0, 0), (25, .aload_n 0, 26, 0, 0, 0), (26, .getfield 353, 29, 12, 38, 1403), (29, .ishl, 30, 0, 0, 0), (30, .if_icmp .ge 84, 33, 114, 0, 0), (33, .iload_n 1, 34, 1, 0, 0), (34, .invokestatic 416, 37, 215, 1810, 0), (37, .istore_n 2, 38, 2, 0, 0), (38, .iload_n 1, 39, 1, 0, 0), (39, .iload_n 1, 40, 1, 0, 0), (40, .iconst 1, 41, 0, 0, 0), (41, .isub, 42, 0, 0, 0), (42, .iand, 43, 0, 0, 0), (43, .istore_n 3, 44, 3, 0, 0), (44, .aload_n 0, 45, 0, 0, 0), (45, .getfield 95, 48, 12, 46, 1411), (48, .iload_n 1, 49, 1, 0, 0), (49, .aload_n 0, 50, 0, 0, 0), (50, .getfield 95, 53, 12, 46, 1411), (53, .iload_n 3, 54, 3, 0, 0), (54, .iaload, 55, 0, 0, 0), (55, .aload_n 0, 56, 0, 0, 0)]
def mc216_1 : List (Nat × Ins) := [(56, .getfield 88, 59, 12, 42, 1407), (59, .iload_n 2, 60, 2, 0, 0), (60, .iaload, 61, 0, 0, 0), (61, .ior, 62, 0, 0, 0), (62, .iastore, 63, 0, 0, 0), (63, .aload_n 0, 64, 0, 0, 0), (64, .getfield 98, 67, 12, 47, 1412), (67, .iload_n 1, 68, 1, 0, 0), (68, .aload_n 0, 69, 0, 0, 0), (69, .getfield 98, 72, 12, 47, 1412), (72, .iload_n 3, 73, 3, 0, 0), (73, .iaload, 74, 0, 0, 0), (74, .aload_n 0, 75, 0, 0, 0), (75, .getfield 73, 78, 12, 33, 1398), (78, .iload_n 2, 79, 2, 0, 0), (79, .iaload, 80, 0, 0, 0), (80, .iadd, 81, 0, 0, 0), (81, .iastore, 82, 0, 0, 0), (82, .aload_n 0, 83, 0, 0, 0), (83, .getfield 101, 86, 12, 48, 1413), (86, .iload_n 1, 87, 1, 0, 0), (87, .aload_n 0, 88, 0, 0, 0), (88, .getfield 101, 91, 12, 48, 1413), (91, .iload_n 3, 92, 3, 0, 0), (92, .iaload, 93, 0, 0, 0), (93, .aload_n 0, 94, 0, 0, 0), (94, .getfield 73, 97, 12, 33, 1398), (97, .iload_n 2, 98, 2, 0, 0), (98, .iaload, 99, 0, 0, 0), (99, .aload_n 0, 100, 0, 0, 0), (100, .getfield 70, 103, 12, 32, 1397), (103, .iload_n 2, 104, 2, 0, 0), (104, .iaload, 105, 0, 0, 0), (105, .imul, 106, 0, 0, 0), (106, .iadd, 107, 0, 0, 0), (107, .iastore, 108, 0, 0, 0), (108, .iinc 1 1, 111, 1, 0, 0), (111, .goto (-88), 114, 23, 0, 0), (114, .return_, 115, 0, 0, 0)]
def mc216 : List (Nat × Ins) := mc216_0 ++ mc216_1
-- 217: LikeYearsModel.square(I)V
def mc217_0 : List (Nat × Ins) := [(0, .aload_n 0, 1, 0, 0, 0), (1, .invokevirtual 419, 4, 216, 1806, 0), (4, .aload_n 0, 5, 0, 0, 0), (5, .lconst 0, 6, 0, 0, 0), (6, .lconst 1, 7, 0, 0, 0), (7, .invokevirtual 412, 10, 211, 1840, 0), (10, .iload_n 1, 11, 1, 0, 0), (11, .istore_n 2, 12, 2, 0, 0), (12, .iload_n 2, 13, 2, 0, 0), (13, .ifCond .eq 127, 16, 140, 0, 0), (16, .iconst 0, 17, 0, 0, 0), (17, .istore_n 3, 18, 3, 0, 0), (18, .iconst 1, 19, 0, 0, 0), (19, .istore 4, 21, 4, 0, 0), (21, .iload 4, 23, 4, 0, 0), (23, .iload_n 2, 24, 2, 0, 0), (24, .if_icmp .gt 102, 27, 126, 0, 0), (27, .iload 4, 29, 4, 0, 0), (29, .iload_n 2, 30, 2, 0, 0), (30, .iconst (-1), 31, 0, 0, 0), (31, .ixor, 32, 0, 0, 0), (32, .iand, 33, 0, 0, 0), (33, .ifCond .ne 87, 36, 120, 0, 0), (36, .aload_n 0, 37, 0, 0, 0), (37, .getfield 95, 40, 12, 46, 1411), (40, .iload 4, 42, 4, 0, 0), (42, .iaload, 43, 0, 0, 0), (43, .iload_n 2, 44, 2, 0, 0), (44, .iand, 45, 0, 0, 0), (45, .iload 4, 47, 4, 0, 0), (47, .if_icmp .eq 6, 50, 53, 0, 0), (50, .goto 70, 53, 120, 0, 0), (53, .aload_n 0, 54, 0, 0, 0), (54, .getfield 101, 57, 12, 48, 1413), (57, .iload 4, 59, 4, 0, 0), (59, .iaload, 60, 0, 0, 0), (60, .i2l, 61, 0, 0, 0), (61, .aload_n 0, 62, 0, 0, 0), (62, .getfield 98, 65, 12, 47, 1412), (65, .iload_n 3, 66, 3, 0, 0)]
def mc217_1 : List (Nat × Ins) := [(66, .iaload, 67, 0, 0, 0), (67, .i2l, 68, 0, 0, 0), (68, .lmul, 69, 0, 0, 0), (69, .lstore 5, 71, 5, 0, 0), (71, .aload_n 0, 72, 0, 0, 0), (72, .getfield 101, 75, 12, 48, 1413), (75, .iload_n 3, 76, 3, 0, 0), (76, .iaload, 77, 0, 0, 0), (77, .i2l, 78, 0, 0, 0), (78, .aload_n 0, 79, 0, 0, 0), (79, .getfield 98, 82, 12, 47, 1412), (82, .iload 4, 84, 4, 0, 0), (84, .iaload, 85, 0, 0, 0), (85, .i2l, 86, 0, 0, 0), (86, .lmul, 87, 0, 0, 0), (87, .lstore 7, 89, 7, 0, 0), (89, .iload_n 3, 90, 3, 0, 0), (90, .ifCond .eq 11, 93, 101, 0, 0), (93, .lload 5, 95, 5, 0, 0), (95, .lload 7, 97, 7, 0, 0), (97, .lcmp, 98, 0, 0, 0), (98, .ifCond .ge 9, 101, 107, 0, 0), (101, .iload 4, 103, 4, 0, 0), (103, .istore_n 3, 104, 3, 0, 0), (104, .goto 16, 107, 120, 0, 0), (107, .lload 5, 109, 5, 0, 0), (109, .lload 7, 111, 7, 0, 0), (111, .lcmp, 112, 0, 0, 0), (112, .ifCond .ne 8, 115, 120, 0, 0), (115, .iload_n 3, 116, 3, 0, 0), (116, .iload 4, 118, 4, 0, 0), (118, .ior, 119, 0, 0, 0), (119, .istore_n 3, 120, 3, 0, 0), (120, .iinc 4 1, 123, 4, 0, 0), (123, .goto (-102), 126, 21, 0, 0), (126, .aload_n 0, 127, 0, 0, 0), (127, .iload_n 3, 128, 3, 0, 0), (128, .invokevirtual 422, 131, 218, 1847, 0), (131, .iload_n 2, 132, 2, 0, 0), (132, .iload_n 3, 133, 3, 0, 0)]
def mc217_2 : List (Nat × Ins) := [(133, .iconst (-1), 134, 0, 0, 0), (134, .ixor, 135, 0, 0, 0), (135, .iand, 136, 0, 0, 0), (136, .istore_n 2, 137, 2, 0, 0), (137, .goto (-125), 140, 12, 0, 0), (140, .return_, 141, 0, 0, 0)]
def mc217 : List (Nat × Ins) := mc217_0 ++ mc217_1 ++ mc217_2
-- 218: LikeYearsModel.takeOff(I)V
def mc218_0 : List (Nat × Ins) := [(0, .lconst 0, 1, 0, 0, 0), (1, .lstore_n 2, 2, 2, 0, 0), (2, .aload_n 0, 3, 0, 0, 0), (3, .getfield 101, 6, 12, 48, 1413), (6, .iload_n 1, 7, 1, 0, 0), (7, .iaload, 8, 0, 0, 0), (8, .i2l, 9, 0, 0, 0), (9, .aload_n 0, 10, 0, 0, 0), (10, .getfield 98, 13, 12, 47, 1412), (13, .iload_n 1, 14, 1, 0, 0), (14, .iaload, 15, 0, 0, 0), (15, .i2l, 16, 0, 0, 0), (16, .invokestatic 402, 19, 210, 1844, 0), (19, .lstore 4, 21, 4, 0, 0), (21, .iconst 0, 22, 0, 0, 0), (22, .istore 6, 24, 6, 0, 0), (24, .iload 6, 26, 6, 0, 0), (26, .aload_n 0, 27, 0, 0, 0), (27, .getfield 353, 30, 12, 38, 1403), (30, .if_icmp .ge 84, 33, 114, 0, 0), (33, .iload_n 1, 34, 1, 0, 0), (34, .iload 6, 36, 6, 0, 0), (36, .ishr, 37, 0, 0, 0), (37, .iconst 1, 38, 0, 0, 0), (38, .iand, 39, 0, 0, 0), (39, .ifCond .ne 6, 42, 45, 0, 0), (42, .goto 66, 45, 108, 0, 0), (45, .lload_n 2, 46, 2, 0, 0), (46, .aload_n 0, 47, 0, 0, 0), (47, .getfield 73, 50, 12, 33, 1398), (50, .iload 6, 52, 6, 0, 0), (52, .iaload, 53, 0, 0, 0), (53, .i2l, 54, 0, 0, 0), (54, .aload_n 0, 55, 0, 0, 0), (55, .getfield 70, 58, 12, 32, 1397), (58, .iload 6, 60, 6, 0, 0), (60, .iaload, 61, 0, 0, 0), (61, .i2l, 62, 0, 0, 0), (62, .lmul, 63, 0, 0, 0), (63, .aload_n 0, 64, 0, 0, 0)]
def mc218_1 : List (Nat × Ins) := [(64, .getfield 70, 67, 12, 32, 1397), (67, .iload 6, 69, 6, 0, 0), (69, .iaload, 70, 0, 0, 0), (70, .i2l, 71, 0, 0, 0), (71, .lmul, 72, 0, 0, 0), (72, .ladd, 73, 0, 0, 0), (73, .lstore_n 2, 74, 2, 0, 0), (74, .aload_n 0, 75, 0, 0, 0), (75, .getfield 104, 78, 12, 49, 1414), (78, .iload 6, 80, 6, 0, 0), (80, .aload_n 0, 81, 0, 0, 0), (81, .getfield 101, 84, 12, 48, 1413), (84, .iload_n 1, 85, 1, 0, 0), (85, .iaload, 86, 0, 0, 0), (86, .i2l, 87, 0, 0, 0), (87, .lload 4, 89, 4, 0, 0), (89, .ldiv, 90, 0, 0, 0), (90, .lastore, 91, 0, 0, 0), (91, .aload_n 0, 92, 0, 0, 0), (92, .getfield 107, 95, 12, 50, 1415), (95, .iload 6, 97, 6, 0, 0), (97, .aload_n 0, 98, 0, 0, 0), (98, .getfield 98, 101, 12, 47, 1412), (101, .iload_n 1, 102, 1, 0, 0), (102, .iaload, 103, 0, 0, 0), (103, .i2l, 104, 0, 0, 0), (104, .lload 4, 106, 4, 0, 0), (106, .ldiv, 107, 0, 0, 0), (107, .lastore, 108, 0, 0, 0), (108, .iinc 6 1, 111, 6, 0, 0), (111, .goto (-87), 114, 24, 0, 0), (114, .aload_n 0, 115, 0, 0, 0), (115, .lload_n 2, 116, 2, 0, 0), (116, .aload_n 0, 117, 0, 0, 0), (117, .getfield 98, 120, 12, 47, 1412), (120, .iload_n 1, 121, 1, 0, 0), (121, .iaload, 122, 0, 0, 0), (122, .i2l, 123, 0, 0, 0), (123, .lmul, 124, 0, 0, 0), (124, .aload_n 0, 125, 0, 0, 0)]
def mc218_2 : List (Nat × Ins) := [(125, .getfield 101, 128, 12, 48, 1413), (128, .iload_n 1, 129, 1, 0, 0), (129, .iaload, 130, 0, 0, 0), (130, .i2l, 131, 0, 0, 0), (131, .aload_n 0, 132, 0, 0, 0), (132, .getfield 101, 135, 12, 48, 1413), (135, .iload_n 1, 136, 1, 0, 0), (136, .iaload, 137, 0, 0, 0), (137, .i2l, 138, 0, 0, 0), (138, .lmul, 139, 0, 0, 0), (139, .lsub, 140, 0, 0, 0), (140, .aload_n 0, 141, 0, 0, 0), (141, .getfield 98, 144, 12, 47, 1412), (144, .iload_n 1, 145, 1, 0, 0), (145, .iaload, 146, 0, 0, 0), (146, .i2l, 147, 0, 0, 0), (147, .invokevirtual 425, 150, 212, 1851, 0), (150, .return_, 151, 0, 0, 0)]
def mc218 : List (Nat × Ins) := mc218_0 ++ mc218_1 ++ mc218_2
-- 219: LikeYearsModel.allCases()I
def mc219 : List (Nat × Ins) := [(0, .iconst 1, 1, 0, 0, 0), (1, .aload_n 0, 2, 0, 0, 0), (2, .getfield 353, 5, 12, 38, 1403), (5, .ishl, 6, 0, 0, 0), (6, .iconst 1, 7, 0, 0, 0), (7, .isub, 8, 0, 0, 0), (8, .ireturn, 9, 0, 0, 0)]
-- 220: LikeYearsModel.nextGiven(I)I
def mc220 : List (Nat × Ins) := [(0, .iconst (-1), 1, 0, 0, 0), (1, .istore_n 2, 2, 2, 0, 0), (2, .iconst 0, 3, 0, 0, 0), (3, .istore_n 3, 4, 3, 0, 0), (4, .iload_n 3, 5, 3, 0, 0), (5, .aload_n 0, 6, 0, 0, 0), (6, .getfield 353, 9, 12, 38, 1403), (9, .if_icmp .ge 40, 12, 49, 0, 0), (12, .aload_n 0, 13, 0, 0, 0), (13, .getfield 70, 16, 12, 32, 1397), (16, .iload_n 3, 17, 3, 0, 0), (17, .iaload, 18, 0, 0, 0), (18, .iload_n 1, 19, 1, 0, 0), (19, .if_icmp .le 24, 22, 43, 0, 0), (22, .iload_n 2, 23, 2, 0, 0), (23, .ifCond .lt 13, 26, 36, 0, 0), (26, .aload_n 0, 27, 0, 0, 0), (27, .getfield 70, 30, 12, 32, 1397), (30, .iload_n 3, 31, 3, 0, 0), (31, .iaload, 32, 0, 0, 0), (32, .iload_n 2, 33, 2, 0, 0), (33, .if_icmp .ge 10, 36, 43, 0, 0), (36, .aload_n 0, 37, 0, 0, 0), (37, .getfield 70, 40, 12, 32, 1397), (40, .iload_n 3, 41, 3, 0, 0), (41, .iaload, 42, 0, 0, 0), (42, .istore_n 2, 43, 2, 0, 0), (43, .iinc 3 1, 46, 3, 0, 0), (46, .goto (-42), 49, 4, 0, 0), (49, .iload_n 2, 50, 2, 0, 0), (50, .ireturn, 51, 0, 0, 0)]
-- 221: LikeYearsModel.raise()V
def mc221 : List (Nat × Ins) := [(0, .aload_n 0, 1, 0, 0, 0), (1, .getfield 110, 4, 12, 51, 1416), (4, .iconst 0, 5, 0, 0, 0), (5, .iconst 0, 6, 0, 0, 0), (6, .iastore, 7, 0, 0, 0), (7, .iconst 1, 8, 0, 0, 0), (8, .istore_n 1, 9, 1, 0, 0), (9, .iload_n 1, 10, 1, 0, 0), (10, .iconst 1, 11, 0, 0, 0), (11, .aload_n 0, 12, 0, 0, 0), (12, .getfield 353, 15, 12, 38, 1403), (15, .ishl, 16, 0, 0, 0), (16, .if_icmp .ge 35, 19, 51, 0, 0), (19, .aload_n 0, 20, 0, 0, 0), (20, .getfield 110, 23, 12, 51, 1416), (23, .iload_n 1, 24, 1, 0, 0), (24, .aload_n 0, 25, 0, 0, 0), (25, .getfield 110, 28, 12, 51, 1416), (28, .iload_n 1, 29, 1, 0, 0), (29, .iload_n 1, 30, 1, 0, 0), (30, .iconst 1, 31, 0, 0, 0), (31, .isub, 32, 0, 0, 0), (32, .iand, 33, 0, 0, 0), (33, .iaload, 34, 0, 0, 0), (34, .aload_n 0, 35, 0, 0, 0), (35, .getfield 91, 38, 12, 43, 1408), (38, .iload_n 1, 39, 1, 0, 0), (39, .invokestatic 416, 42, 215, 1810, 0), (42, .iaload, 43, 0, 0, 0), (43, .ior, 44, 0, 0, 0), (44, .iastore, 45, 0, 0, 0), (45, .iinc 1 1, 48, 1, 0, 0), (48, .goto (-39), 51, 9, 0, 0), (51, .return_, 52, 0, 0, 0)]
-- 222: LikeYearsModel.gaps()V
def mc222_0 : List (Nat × Ins) := [(0, .aload_n 0, 1, 0, 0, 0), (1, .invokevirtual 428, 4, 221, 1813, 0), (4, .aload_n 0, 5, 0, 0, 0), (5, .iconst (-1), 6, 0, 0, 0), (6, .invokevirtual 431, 9, 220, 1859, 0), (9, .istore_n 1, 10, 1, 0, 0), (10, .iconst 0, 11, 0, 0, 0), (11, .istore_n 2, 12, 2, 0, 0), (12, .iload_n 2, 13, 2, 0, 0), (13, .aload_n 0, 14, 0, 0, 0), (14, .getfield 353, 17, 12, 38, 1403), (17, .if_icmp .ge 16, 20, 33, 0, 0), (20, .aload_n 0, 21, 0, 0, 0), (21, .getfield 113, 24, 12, 52, 1417), (24, .iload_n 2, 25, 2, 0, 0), (25, .iload_n 1, 26, 1, 0, 0), (26, .iastore, 27, 0, 0, 0), (27, .iinc 2 1, 30, 2, 0, 0), (30, .goto (-18), 33, 12, 0, 0), (33, .iload_n 1, 34, 1, 0, 0), (34, .ifCond .ge 7, 37, 41, 0, 0), (37, .iconst (-1), 38, 0, 0, 0), (38, .goto 8, 41, 46, 0, 0), (41, .aload_n 0, 42, 0, 0, 0), (42, .iload_n 1, 43, 1, 0, 0), (43, .invokevirtual 431, 46, 220, 1859, 0), (46, .istore_n 1, 47, 1, 0, 0), (47, .iload_n 1, 48, 1, 0, 0), (48, .ifCond .lt 50, 51, 98, 0, 0), (51, .aload_n 0, 52, 0, 0, 0), (52, .iload_n 1, 53, 1, 0, 0), (53, .invokevirtual 434, 56, 223, 1863, 0), (56, .istore_n 2, 57, 2, 0, 0), (57, .iconst 0, 58, 0, 0, 0), (58, .istore_n 3, 59, 3, 0, 0), (59, .iload_n 3, 60, 3, 0, 0), (60, .aload_n 0, 61, 0, 0, 0), (61, .getfield 353, 64, 12, 38, 1403), (64, .if_icmp .ge 25, 67, 89, 0, 0), (67, .iload_n 2, 68, 2, 0, 0)]
def mc222_1 : List (Nat × Ins) := [(68, .iload_n 3, 69, 3, 0, 0), (69, .ishr, 70, 0, 0, 0), (70, .iconst 1, 71, 0, 0, 0), (71, .iand, 72, 0, 0, 0), (72, .iconst 1, 73, 0, 0, 0), (73, .if_icmp .ne 10, 76, 83, 0, 0), (76, .aload_n 0, 77, 0, 0, 0), (77, .getfield 113, 80, 12, 52, 1417), (80, .iload_n 3, 81, 3, 0, 0), (81, .iload_n 1, 82, 1, 0, 0), (82, .iastore, 83, 0, 0, 0), (83, .iinc 3 1, 86, 3, 0, 0), (86, .goto (-27), 89, 59, 0, 0), (89, .aload_n 0, 90, 0, 0, 0), (90, .iload_n 1, 91, 1, 0, 0), (91, .invokevirtual 431, 94, 220, 1859, 0), (94, .istore_n 1, 95, 1, 0, 0), (95, .goto (-48), 98, 47, 0, 0), (98, .return_, 99, 0, 0, 0)]
def mc222 : List (Nat × Ins) := mc222_0 ++ mc222_1
-- 223: LikeYearsModel.leastUpper(I)I
def mc223_0 : List (Nat × Ins) := [(0, .iconst 0, 1, 0, 0, 0), (1, .istore_n 2, 2, 2, 0, 0), (2, .iconst 0, 3, 0, 0, 0), (3, .istore_n 3, 4, 3, 0, 0), (4, .aload_n 0, 5, 0, 0, 0), (5, .getfield 101, 8, 12, 48, 1413), (8, .iconst 0, 9, 0, 0, 0), (9, .iconst 0, 10, 0, 0, 0), (10, .iastore, 11, 0, 0, 0), (11, .iconst 1, 12, 0, 0, 0), (12, .istore 4, 14, 4, 0, 0), (14, .iload 4, 16, 4, 0, 0), (16, .iconst 1, 17, 0, 0, 0), (17, .aload_n 0, 18, 0, 0, 0), (18, .getfield 353, 21, 12, 38, 1403), (21, .ishl, 22, 0, 0, 0), (22, .if_icmp .ge 121, 25, 143, 0, 0), (25, .iload 4, 27, 4, 0, 0), (27, .invokestatic 416, 30, 215, 1810, 0), (30, .istore 5, 32, 5, 0, 0), (32, .aload_n 0, 33, 0, 0, 0), (33, .getfield 101, 36, 12, 48, 1413), (36, .iload 4, 38, 4, 0, 0), (38, .aload_n 0, 39, 0, 0, 0), (39, .getfield 101, 42, 12, 48, 1413), (42, .iload 4, 44, 4, 0, 0), (44, .iload 4, 46, 4, 0, 0), (46, .iconst 1, 47, 0, 0, 0), (47, .isub, 48, 0, 0, 0), (48, .iand, 49, 0, 0, 0), (49, .iaload, 50, 0, 0, 0), (50, .aload_n 0, 51, 0, 0, 0), (51, .getfield 70, 54, 12, 32, 1397), (54, .iload 5, 56, 5, 0, 0), (56, .iaload, 57, 0, 0, 0), (57, .iload_n 1, 58, 1, 0, 0), (58, .if_icmp .lt 14, 61, 72, 0, 0), (61, .aload_n 0, 62, 0, 0, 0), (62, .getfield 73, 65, 12, 33, 1398), (65, .iload 5, 67, 5, 0, 0)]
def mc223_1 : List (Nat × Ins) := [(67, .iaload, 68, 0, 0, 0), (68, .ineg, 69, 0, 0, 0), (69, .goto 10, 72, 79, 0, 0), (72, .aload_n 0, 73, 0, 0, 0), (73, .getfield 73, 76, 12, 33, 1398), (76, .iload 5, 78, 5, 0, 0), (78, .iaload, 79, 0, 0, 0), (79, .iadd, 80, 0, 0, 0), (80, .iastore, 81, 0, 0, 0), (81, .aload_n 0, 82, 0, 0, 0), (82, .getfield 110, 85, 12, 51, 1416), (85, .iload 4, 87, 4, 0, 0), (87, .iaload, 88, 0, 0, 0), (88, .iload 4, 90, 4, 0, 0), (90, .if_icmp .eq 6, 93, 96, 0, 0), (93, .goto 44, 96, 137, 0, 0), (96, .aload_n 0, 97, 0, 0, 0), (97, .getfield 101, 100, 12, 48, 1413), (100, .iload 4, 102, 4, 0, 0), (102, .iaload, 103, 0, 0, 0), (103, .iload_n 3, 104, 3, 0, 0), (104, .if_icmp .ge 17, 107, 121, 0, 0), (107, .aload_n 0, 108, 0, 0, 0), (108, .getfield 101, 111, 12, 48, 1413), (111, .iload 4, 113, 4, 0, 0), (113, .iaload, 114, 0, 0, 0), (114, .istore_n 3, 115, 3, 0, 0), (115, .iload 4, 117, 4, 0, 0), (117, .istore_n 2, 118, 2, 0, 0), (118, .goto 19, 121, 137, 0, 0), (121, .aload_n 0, 122, 0, 0, 0), (122, .getfield 101, 125, 12, 48, 1413), (125, .iload 4, 127, 4, 0, 0), (127, .iaload, 128, 0, 0, 0), (128, .iload_n 3, 129, 3, 0, 0), (129, .if_icmp .ne 8, 132, 137, 0, 0), (132, .iload_n 2, 133, 2, 0, 0), (133, .iload 4, 135, 4, 0, 0), (135, .iand, 136, 0, 0, 0), (136, .istore_n 2, 137, 2, 0, 0)]
def mc223_2 : List (Nat × Ins) := [(137, .iinc 4 1, 140, 4, 0, 0), (140, .goto (-126), 143, 14, 0, 0), (143, .iload_n 2, 144, 2, 0, 0), (144, .ireturn, 145, 0, 0, 0)]
def mc223 : List (Nat × Ins) := mc223_0 ++ mc223_1 ++ mc223_2
-- 224: LikeYearsModel.gapOff(I)I
def mc224 : List (Nat × Ins) := [(0, .aload_n 0, 1, 0, 0, 0), (1, .getfield 73, 4, 12, 33, 1398), (4, .iload_n 1, 5, 1, 0, 0), (5, .iaload, 6, 0, 0, 0), (6, .aload_n 0, 7, 0, 0, 0), (7, .getfield 70, 10, 12, 32, 1397), (10, .iload_n 1, 11, 1, 0, 0), (11, .iaload, 12, 0, 0, 0), (12, .aload_n 0, 13, 0, 0, 0), (13, .getfield 113, 16, 12, 52, 1417), (16, .iload_n 1, 17, 1, 0, 0), (17, .iaload, 18, 0, 0, 0), (18, .if_icmp .ge 19, 21, 37, 0, 0), (21, .aload_n 0, 22, 0, 0, 0), (22, .getfield 113, 25, 12, 52, 1417), (25, .iload_n 1, 26, 1, 0, 0), (26, .iaload, 27, 0, 0, 0), (27, .aload_n 0, 28, 0, 0, 0), (28, .getfield 70, 31, 12, 32, 1397), (31, .iload_n 1, 32, 1, 0, 0), (32, .iaload, 33, 0, 0, 0), (33, .isub, 34, 0, 0, 0), (34, .goto 16, 37, 50, 0, 0), (37, .aload_n 0, 38, 0, 0, 0), (38, .getfield 70, 41, 12, 32, 1397), (41, .iload_n 1, 42, 1, 0, 0), (42, .iaload, 43, 0, 0, 0), (43, .aload_n 0, 44, 0, 0, 0), (44, .getfield 113, 47, 12, 52, 1417), (47, .iload_n 1, 48, 1, 0, 0), (48, .iaload, 49, 0, 0, 0), (49, .isub, 50, 0, 0, 0), (50, .imul, 51, 0, 0, 0), (51, .ireturn, 52, 0, 0, 0)]
-- 225: LikeYearsModel.partedFrom(I)I
def mc225_0 : List (Nat × Ins) := [(0, .iconst 0, 1, 0, 0, 0), (1, .istore_n 2, 2, 2, 0, 0), (2, .lconst 0, 3, 0, 0, 0), (3, .lstore_n 3, 4, 3, 0, 0), (4, .iconst 1, 5, 0, 0, 0), (5, .istore 5, 7, 5, 0, 0), (7, .iload 5, 9, 5, 0, 0), (9, .iload_n 1, 10, 1, 0, 0), (10, .if_icmp .gt 109, 13, 119, 0, 0), (13, .iload 5, 15, 5, 0, 0), (15, .iload_n 1, 16, 1, 0, 0), (16, .iconst (-1), 17, 0, 0, 0), (17, .ixor, 18, 0, 0, 0), (18, .iand, 19, 0, 0, 0), (19, .ifCond .ne 94, 22, 113, 0, 0), (22, .aload_n 0, 23, 0, 0, 0), (23, .getfield 110, 26, 12, 51, 1416), (26, .iload 5, 28, 5, 0, 0), (28, .iaload, 29, 0, 0, 0), (29, .iload_n 1, 30, 1, 0, 0), (30, .iand, 31, 0, 0, 0), (31, .iload 5, 33, 5, 0, 0), (33, .if_icmp .eq 6, 36, 39, 0, 0), (36, .goto 77, 39, 113, 0, 0), (39, .aload_n 0, 40, 0, 0, 0), (40, .getfield 101, 43, 12, 48, 1413), (43, .iload 5, 45, 5, 0, 0), (45, .iaload, 46, 0, 0, 0), (46, .i2l, 47, 0, 0, 0), (47, .aload_n 0, 48, 0, 0, 0), (48, .getfield 98, 51, 12, 47, 1412), (51, .iload_n 1, 52, 1, 0, 0), (52, .iaload, 53, 0, 0, 0), (53, .i2l, 54, 0, 0, 0), (54, .lmul, 55, 0, 0, 0), (55, .aload_n 0, 56, 0, 0, 0), (56, .getfield 98, 59, 12, 47, 1412), (59, .iload 5, 61, 5, 0, 0), (61, .iaload, 62, 0, 0, 0), (62, .i2l, 63, 0, 0, 0)]
def mc225_1 : List (Nat × Ins) := [(63, .aload_n 0, 64, 0, 0, 0), (64, .getfield 101, 67, 12, 48, 1413), (67, .iload_n 1, 68, 1, 0, 0), (68, .iaload, 69, 0, 0, 0), (69, .i2l, 70, 0, 0, 0), (70, .lmul, 71, 0, 0, 0), (71, .lsub, 72, 0, 0, 0), (72, .lstore 6, 74, 6, 0, 0), (74, .lload 6, 76, 6, 0, 0), (76, .lload_n 3, 77, 3, 0, 0), (77, .lcmp, 78, 0, 0, 0), (78, .ifCond .lt 35, 81, 113, 0, 0), (81, .lload 6, 83, 6, 0, 0), (83, .lload_n 3, 84, 3, 0, 0), (84, .lcmp, 85, 0, 0, 0), (85, .ifCond .ne 22, 88, 107, 0, 0), (88, .iload_n 2, 89, 2, 0, 0), (89, .ifCond .eq 24, 92, 113, 0, 0), (92, .iload 5, 94, 5, 0, 0), (94, .invokestatic 437, 97, 230, 1825, 0), (97, .iload_n 2, 98, 2, 0, 0), (98, .invokestatic 437, 101, 230, 1825, 0), (101, .if_icmp .lt 6, 104, 107, 0, 0), (104, .goto 9, 107, 113, 0, 0), (107, .iload 5, 109, 5, 0, 0), (109, .istore_n 2, 110, 2, 0, 0), (110, .lload 6, 112, 6, 0, 0), (112, .lstore_n 3, 113, 3, 0, 0), (113, .iinc 5 1, 116, 5, 0, 0), (116, .goto (-109), 119, 7, 0, 0), (119, .iload_n 2, 120, 2, 0, 0), (120, .ireturn, 121, 0, 0, 0)]
def mc225 : List (Nat × Ins) := mc225_0 ++ mc225_1
-- 226: LikeYearsModel.block(I)I
def mc226_0 : List (Nat × Ins) := [(0, .aload_n 0, 1, 0, 0, 0), (1, .iload_n 1, 2, 1, 0, 0), (2, .invokevirtual 383, 5, 200, 1754, 0), (5, .ifCond .ne 5, 8, 10, 0, 0), (8, .iconst (-1), 9, 0, 0, 0), (9, .ireturn, 10, 0, 0, 0), (10, .aload_n 0, 11, 0, 0, 0), (11, .invokevirtual 386, 14, 198, 1758, 0), (14, .aload_n 0, 15, 0, 0, 0), (15, .invokevirtual 419, 18, 216, 1806, 0), (18, .aload_n 0, 19, 0, 0, 0), (19, .invokevirtual 428, 22, 221, 1813, 0), (22, .aload_n 0, 23, 0, 0, 0), (23, .invokevirtual 440, 26, 219, 1817, 0), (26, .istore_n 2, 27, 2, 0, 0), (27, .aload_n 0, 28, 0, 0, 0), (28, .iload_n 2, 29, 2, 0, 0), (29, .invokevirtual 443, 32, 225, 1821, 0), (32, .istore_n 3, 33, 3, 0, 0), (33, .iload_n 3, 34, 3, 0, 0), (34, .ifCond .eq 31, 37, 65, 0, 0), (37, .iload_n 3, 38, 3, 0, 0), (38, .iload_n 1, 39, 1, 0, 0), (39, .ishr, 40, 0, 0, 0), (40, .iconst 1, 41, 0, 0, 0), (41, .iand, 42, 0, 0, 0), (42, .iconst 1, 43, 0, 0, 0), (43, .if_icmp .ne 7, 46, 50, 0, 0), (46, .iload_n 3, 47, 3, 0, 0), (47, .goto 8, 50, 55, 0, 0), (50, .iload_n 2, 51, 2, 0, 0), (51, .iload_n 3, 52, 3, 0, 0), (52, .iconst (-1), 53, 0, 0, 0), (53, .ixor, 54, 0, 0, 0), (54, .iand, 55, 0, 0, 0), (55, .istore_n 2, 56, 2, 0, 0), (56, .aload_n 0, 57, 0, 0, 0), (57, .iload_n 2, 58, 2, 0, 0), (58, .invokevirtual 443, 61, 225, 1821, 0), (61, .istore_n 3, 62, 3, 0, 0)]
def mc226_1 : List (Nat × Ins) := [(62, .goto (-29), 65, 33, 0, 0), (65, .iload_n 2, 66, 2, 0, 0), (66, .ireturn, 67, 0, 0, 0)]
def mc226 : List (Nat × Ins) := mc226_0 ++ mc226_1
-- 227: LikeYearsModel.between(I)I
def mc227_0 : List (Nat × Ins) := [(0, .aload_n 0, 1, 0, 0, 0), (1, .getfield 70, 4, 12, 32, 1397), (4, .iload_n 1, 5, 1, 0, 0), (5, .iaload, 6, 0, 0, 0), (6, .istore_n 2, 7, 2, 0, 0), (7, .aload_n 0, 8, 0, 0, 0), (8, .getfield 70, 11, 12, 32, 1397), (11, .iload_n 1, 12, 1, 0, 0), (12, .iaload, 13, 0, 0, 0), (13, .istore_n 3, 14, 3, 0, 0), (14, .iconst 0, 15, 0, 0, 0), (15, .istore 4, 17, 4, 0, 0), (17, .iload 4, 19, 4, 0, 0), (19, .aload_n 0, 20, 0, 0, 0), (20, .getfield 353, 23, 12, 38, 1403), (23, .if_icmp .ge 67, 26, 90, 0, 0), (26, .aload_n 0, 27, 0, 0, 0), (27, .iload_n 1, 28, 1, 0, 0), (28, .iload 4, 30, 4, 0, 0), (30, .invokevirtual 389, 33, 202, 1774, 0), (33, .ifCond .eq 22, 36, 55, 0, 0), (36, .aload_n 0, 37, 0, 0, 0), (37, .getfield 70, 40, 12, 32, 1397), (40, .iload 4, 42, 4, 0, 0), (42, .iaload, 43, 0, 0, 0), (43, .iload_n 2, 44, 2, 0, 0), (44, .if_icmp .le 11, 47, 55, 0, 0), (47, .aload_n 0, 48, 0, 0, 0), (48, .getfield 70, 51, 12, 32, 1397), (51, .iload 4, 53, 4, 0, 0), (53, .iaload, 54, 0, 0, 0), (54, .istore_n 2, 55, 2, 0, 0), (55, .aload_n 0, 56, 0, 0, 0), (56, .iload 4, 58, 4, 0, 0), (58, .iload_n 1, 59, 1, 0, 0), (59, .invokevirtual 389, 62, 202, 1774, 0), (62, .ifCond .eq 22, 65, 84, 0, 0), (65, .aload_n 0, 66, 0, 0, 0), (66, .getfield 70, 69, 12, 32, 1397), (69, .iload 4, 71, 4, 0, 0)]
def mc227_1 : List (Nat × Ins) := [(71, .iaload, 72, 0, 0, 0), (72, .iload_n 3, 73, 3, 0, 0), (73, .if_icmp .ge 11, 76, 84, 0, 0), (76, .aload_n 0, 77, 0, 0, 0), (77, .getfield 70, 80, 12, 32, 1397), (80, .iload 4, 82, 4, 0, 0), (82, .iaload, 83, 0, 0, 0), (83, .istore_n 3, 84, 3, 0, 0), (84, .iinc 4 1, 87, 4, 0, 0), (87, .goto (-70), 90, 17, 0, 0), (90, .iload_n 2, 91, 2, 0, 0), (91, .iload_n 3, 92, 3, 0, 0), (92, .iadd, 93, 0, 0, 0), (93, .ireturn, 94, 0, 0, 0)]
def mc227 : List (Nat × Ins) := mc227_0 ++ mc227_1
-- 228: LikeYearsModel.kept(III)J
def mc228_0 : List (Nat × Ins) := [(0, .iload_n 1, 1, 1, 0, 0), (1, .ifCond .lt 23, 4, 24, 0, 0), (4, .iload_n 1, 5, 1, 0, 0), (5, .iconst 2, 6, 0, 0, 0), (6, .if_icmp .gt 18, 9, 24, 0, 0), (9, .aload_n 0, 10, 0, 0, 0), (10, .iload_n 2, 11, 2, 0, 0), (11, .invokevirtual 383, 14, 200, 1754, 0), (14, .ifCond .eq 10, 17, 24, 0, 0), (17, .iload_n 3, 18, 3, 0, 0), (18, .invokestatic 446, 21, 213, 1832, 0), (21, .ifCond .ne 7, 24, 28, 0, 0), (24, .ldc2_w 449, 27, 0, 1835, -1), (27, .lreturn, 28, 0, 0, 0), (28, .aload_n 0, 29, 0, 0, 0), (29, .invokevirtual 386, 32, 198, 1758, 0), (32, .iload_n 1, 33, 1, 0, 0), (33, .ifCond .ne 31, 36, 64, 0, 0), (36, .aload_n 0, 37, 0, 0, 0), (37, .aload_n 0, 38, 0, 0, 0), (38, .invokevirtual 440, 41, 219, 1817, 0), (41, .invokevirtual 451, 44, 217, 1836, 0), (44, .iload_n 3, 45, 3, 0, 0), (45, .ifCond .ne 12, 48, 57, 0, 0), (48, .aload_n 0, 49, 0, 0, 0), (49, .getfield 104, 52, 12, 49, 1414), (52, .iload_n 2, 53, 2, 0, 0), (53, .laload, 54, 0, 0, 0), (54, .goto 9, 57, 63, 0, 0), (57, .aload_n 0, 58, 0, 0, 0), (58, .getfield 107, 61, 12, 50, 1415), (61, .iload_n 2, 62, 2, 0, 0), (62, .laload, 63, 0, 0, 0), (63, .lreturn, 64, 0, 0, 0), (64, .iload_n 1, 65, 1, 0, 0), (65, .iconst 1, 66, 0, 0, 0), (66, .if_icmp .ne 22, 69, 88, 0, 0), (69, .aload_n 0, 70, 0, 0, 0), (70, .invokevirtual 454, 73, 222, 1855, 0), (73, .aload_n 0, 74, 0, 0, 0)]
def mc228_1 : List (Nat × Ins) := [(74, .aload_n 0, 75, 0, 0, 0), (75, .getfield 113, 78, 12, 52, 1417), (78, .iload_n 2, 79, 2, 0, 0), (79, .iaload, 80, 0, 0, 0), (80, .i2l, 81, 0, 0, 0), (81, .lconst 1, 82, 0, 0, 0), (82, .invokevirtual 412, 85, 211, 1840, 0), (85, .goto 16, 88, 101, 0, 0), (88, .aload_n 0, 89, 0, 0, 0), (89, .aload_n 0, 90, 0, 0, 0), (90, .iload_n 2, 91, 2, 0, 0), (91, .invokevirtual 457, 94, 227, 1867, 0), (94, .i2l, 95, 0, 0, 0), (95, .ldc2_w 460, 98, 0, 1871, 2), (98, .invokevirtual 412, 101, 211, 1840, 0), (101, .aload_n 0, 102, 0, 0, 0), (102, .iload_n 3, 103, 3, 0, 0), (103, .invokevirtual 462, 106, 214, 1872, 0), (106, .lreturn, 107, 0, 0, 0)]
def mc228 : List (Nat × Ins) := mc228_0 ++ mc228_1
-- 229: LikeYearsModel.cost(II)J
def mc229_0 : List (Nat × Ins) := [(0, .iload_n 1, 1, 1, 0, 0), (1, .ifCond .lt 15, 4, 16, 0, 0), (4, .iload_n 1, 5, 1, 0, 0), (5, .iconst 2, 6, 0, 0, 0), (6, .if_icmp .gt 10, 9, 16, 0, 0), (9, .iload_n 2, 10, 2, 0, 0), (10, .invokestatic 446, 13, 213, 1832, 0), (13, .ifCond .ne 7, 16, 20, 0, 0), (16, .ldc2_w 449, 19, 0, 1835, -1), (19, .lreturn, 20, 0, 0, 0), (20, .aload_n 0, 21, 0, 0, 0), (21, .invokevirtual 386, 24, 198, 1758, 0), (24, .iload_n 1, 25, 1, 0, 0), (25, .ifCond .ne 14, 28, 39, 0, 0), (28, .aload_n 0, 29, 0, 0, 0), (29, .aload_n 0, 30, 0, 0, 0), (30, .invokevirtual 440, 33, 219, 1817, 0), (33, .invokevirtual 451, 36, 217, 1836, 0), (36, .goto 123, 39, 159, 0, 0), (39, .iload_n 1, 40, 1, 0, 0), (40, .iconst 1, 41, 0, 0, 0), (41, .if_icmp .ne 43, 44, 84, 0, 0), (44, .aload_n 0, 45, 0, 0, 0), (45, .invokevirtual 454, 48, 222, 1855, 0), (48, .aload_n 0, 49, 0, 0, 0), (49, .lconst 0, 50, 0, 0, 0), (50, .lconst 1, 51, 0, 0, 0), (51, .invokevirtual 412, 54, 211, 1840, 0), (54, .iconst 0, 55, 0, 0, 0), (55, .istore_n 3, 56, 3, 0, 0), (56, .iload_n 3, 57, 3, 0, 0), (57, .aload_n 0, 58, 0, 0, 0), (58, .getfield 353, 61, 12, 38, 1403), (61, .if_icmp .ge 20, 64, 81, 0, 0), (64, .aload_n 0, 65, 0, 0, 0), (65, .aload_n 0, 66, 0, 0, 0), (66, .iload_n 3, 67, 3, 0, 0), (67, .invokevirtual 466, 70, 224, 1880, 0), (70, .i2l, 71, 0, 0, 0), (71, .lconst 1, 72, 0, 0, 0)]
def mc229_1 : List (Nat × Ins) := [(72, .invokevirtual 425, 75, 212, 1851, 0), (75, .iinc 3 1, 78, 3, 0, 0), (78, .goto (-22), 81, 56, 0, 0), (81, .goto 78, 84, 159, 0, 0), (84, .iconst 0, 85, 0, 0, 0), (85, .istore_n 3, 86, 3, 0, 0), (86, .iconst 0, 87, 0, 0, 0), (87, .istore 4, 89, 4, 0, 0), (89, .iload 4, 91, 4, 0, 0), (91, .aload_n 0, 92, 0, 0, 0), (92, .getfield 353, 95, 12, 38, 1403), (95, .if_icmp .ge 55, 98, 150, 0, 0), (98, .iconst 2, 99, 0, 0, 0), (99, .aload_n 0, 100, 0, 0, 0), (100, .getfield 70, 103, 12, 32, 1397), (103, .iload 4, 105, 4, 0, 0), (105, .iaload, 106, 0, 0, 0), (106, .imul, 107, 0, 0, 0), (107, .aload_n 0, 108, 0, 0, 0), (108, .iload 4, 110, 4, 0, 0), (110, .invokevirtual 457, 113, 227, 1867, 0), (113, .isub, 114, 0, 0, 0), (114, .istore 5, 116, 5, 0, 0), (116, .iload 5, 118, 5, 0, 0), (118, .ifCond .ge 9, 121, 127, 0, 0), (121, .iload 5, 123, 5, 0, 0), (123, .ineg, 124, 0, 0, 0), (124, .goto 5, 127, 129, 0, 0), (127, .iload 5, 129, 5, 0, 0), (129, .istore 5, 131, 5, 0, 0), (131, .iload 5, 133, 5, 0, 0), (133, .iload_n 3, 134, 3, 0, 0), (134, .if_icmp .le 8, 137, 142, 0, 0), (137, .iload 5, 139, 5, 0, 0), (139, .goto 4, 142, 143, 0, 0), (142, .iload_n 3, 143, 3, 0, 0), (143, .istore_n 3, 144, 3, 0, 0), (144, .iinc 4 1, 147, 4, 0, 0), (147, .goto (-58), 150, 89, 0, 0), (150, .aload_n 0, 151, 0, 0, 0)]
def mc229_2 : List (Nat × Ins) := [(151, .iload_n 3, 152, 3, 0, 0), (152, .i2l, 153, 0, 0, 0), (153, .ldc2_w 460, 156, 0, 1871, 2), (156, .invokevirtual 412, 159, 211, 1840, 0), (159, .aload_n 0, 160, 0, 0, 0), (160, .iload_n 2, 161, 2, 0, 0), (161, .invokevirtual 462, 164, 214, 1872, 0), (164, .lreturn, 165, 0, 0, 0)]
def mc229 : List (Nat × Ins) := mc229_0 ++ mc229_1 ++ mc229_2
-- 230: LikeYearsModel.bitsOf(I)I
def mc230 : List (Nat × Ins) := [(0, .iconst 0, 1, 0, 0, 0), (1, .istore_n 1, 2, 1, 0, 0), (2, .iconst 0, 3, 0, 0, 0), (3, .istore_n 2, 4, 2, 0, 0), (4, .iload_n 2, 5, 2, 0, 0), (5, .bipush 16, 7, 0, 0, 0), (7, .if_icmp .ge 17, 10, 24, 0, 0), (10, .iload_n 1, 11, 1, 0, 0), (11, .iload_n 0, 12, 0, 0, 0), (12, .iload_n 2, 13, 2, 0, 0), (13, .ishr, 14, 0, 0, 0), (14, .iconst 1, 15, 0, 0, 0), (15, .iand, 16, 0, 0, 0), (16, .iadd, 17, 0, 0, 0), (17, .istore_n 1, 18, 1, 0, 0), (18, .iinc 2 1, 21, 2, 0, 0), (21, .goto (-17), 24, 4, 0, 0), (24, .iload_n 1, 25, 1, 0, 0), (25, .ireturn, 26, 0, 0, 0)]
-- 231: LikeYearsModel.again(I)I
def mc231_0 : List (Nat × Ins) := [(0, .iload_n 1, 1, 1, 0, 0), (1, .ifCond .lt 8, 4, 9, 0, 0), (4, .iload_n 1, 5, 1, 0, 0), (5, .iconst 2, 6, 0, 0, 0), (6, .if_icmp .le 5, 9, 11, 0, 0), (9, .iconst (-1), 10, 0, 0, 0), (10, .ireturn, 11, 0, 0, 0), (11, .aload_n 0, 12, 0, 0, 0), (12, .invokevirtual 386, 15, 198, 1758, 0), (15, .aload_n 0, 16, 0, 0, 0), (16, .invokevirtual 440, 19, 219, 1817, 0), (19, .istore_n 2, 20, 2, 0, 0), (20, .iconst 1, 21, 0, 0, 0), (21, .istore_n 3, 22, 3, 0, 0), (22, .iconst 0, 23, 0, 0, 0), (23, .istore 4, 25, 4, 0, 0), (25, .iload 4, 27, 4, 0, 0), (27, .iconst 1, 28, 0, 0, 0), (28, .aload_n 0, 29, 0, 0, 0), (29, .getfield 353, 32, 12, 38, 1403), (32, .ishl, 33, 0, 0, 0), (33, .if_icmp .ge 166, 36, 199, 0, 0), (36, .iload 4, 38, 4, 0, 0), (38, .invokestatic 437, 41, 230, 1825, 0), (41, .iload_n 2, 42, 2, 0, 0), (42, .invokestatic 437, 45, 230, 1825, 0), (45, .if_icmp .le 6, 48, 51, 0, 0), (48, .goto 145, 51, 193, 0, 0), (51, .iconst 1, 52, 0, 0, 0), (52, .istore 5, 54, 5, 0, 0), (54, .iconst 0, 55, 0, 0, 0), (55, .istore 6, 57, 6, 0, 0), (57, .iload 6, 59, 6, 0, 0), (59, .aload_n 0, 60, 0, 0, 0), (60, .getfield 353, 63, 12, 38, 1403), (63, .if_icmp .ge 77, 66, 140, 0, 0), (66, .iload 5, 68, 5, 0, 0), (68, .ifCond .eq 72, 71, 140, 0, 0), (71, .iconst 0, 72, 0, 0, 0), (72, .istore 7, 74, 7, 0, 0)]
def mc231_1 : List (Nat × Ins) := [(74, .iload 7, 76, 7, 0, 0), (76, .aload_n 0, 77, 0, 0, 0), (77, .getfield 353, 80, 12, 38, 1403), (80, .if_icmp .ge 54, 83, 134, 0, 0), (83, .iload 5, 85, 5, 0, 0), (85, .ifCond .eq 49, 88, 134, 0, 0), (88, .iload 4, 90, 4, 0, 0), (90, .iload 6, 92, 6, 0, 0), (92, .ishr, 93, 0, 0, 0), (93, .iconst 1, 94, 0, 0, 0), (94, .iand, 95, 0, 0, 0), (95, .iconst 1, 96, 0, 0, 0), (96, .if_icmp .eq 25, 99, 121, 0, 0), (99, .iload 4, 101, 4, 0, 0), (101, .iload 7, 103, 7, 0, 0), (103, .ishr, 104, 0, 0, 0), (104, .iconst 1, 105, 0, 0, 0), (105, .iand, 106, 0, 0, 0), (106, .iconst 1, 107, 0, 0, 0), (107, .if_icmp .eq 14, 110, 121, 0, 0), (110, .aload_n 0, 111, 0, 0, 0), (111, .iload 6, 113, 6, 0, 0), (113, .iload 7, 115, 7, 0, 0), (115, .invokevirtual 393, 118, 204, 1782, 0), (118, .ifCond .ne 7, 121, 125, 0, 0), (121, .iconst 1, 122, 0, 0, 0), (122, .goto 4, 125, 126, 0, 0), (125, .iconst 0, 126, 0, 0, 0), (126, .istore 5, 128, 5, 0, 0), (128, .iinc 7 1, 131, 7, 0, 0), (131, .goto (-57), 134, 74, 0, 0), (134, .iinc 6 1, 137, 6, 0, 0), (137, .goto (-80), 140, 57, 0, 0), (140, .iload 5, 142, 5, 0, 0), (142, .ifCond .ne 6, 145, 148, 0, 0), (145, .goto 48, 148, 193, 0, 0), (148, .iload 4, 150, 4, 0, 0), (150, .invokestatic 437, 153, 230, 1825, 0), (153, .iload_n 2, 154, 2, 0, 0), (154, .invokestatic 437, 157, 230, 1825, 0)]
def mc231_2 : List (Nat × Ins) := [(157, .if_icmp .lt 9, 160, 166, 0, 0), (160, .iload 4, 162, 4, 0, 0), (162, .iload_n 2, 163, 2, 0, 0), (163, .if_icmp .ne 7, 166, 170, 0, 0), (166, .iconst 1, 167, 0, 0, 0), (167, .goto 6, 170, 173, 0, 0), (170, .iload_n 3, 171, 3, 0, 0), (171, .iconst 1, 172, 0, 0, 0), (172, .iadd, 173, 0, 0, 0), (173, .istore_n 3, 174, 3, 0, 0), (174, .iload 4, 176, 4, 0, 0), (176, .invokestatic 437, 179, 230, 1825, 0), (179, .iload_n 2, 180, 2, 0, 0), (180, .invokestatic 437, 183, 230, 1825, 0), (183, .if_icmp .ge 8, 186, 191, 0, 0), (186, .iload 4, 188, 4, 0, 0), (188, .goto 4, 191, 192, 0, 0), (191, .iload_n 2, 192, 2, 0, 0), (192, .istore_n 2, 193, 2, 0, 0), (193, .iinc 4 1, 196, 4, 0, 0), (196, .goto (-171), 199, 25, 0, 0), (199, .iload_n 1, 200, 1, 0, 0), (200, .ifCond .ne 10, 203, 210, 0, 0), (203, .iload_n 2, 204, 2, 0, 0), (204, .invokestatic 437, 207, 230, 1825, 0), (207, .goto 13, 210, 220, 0, 0), (210, .iload_n 1, 211, 1, 0, 0), (211, .iconst 1, 212, 0, 0, 0), (212, .if_icmp .ne 7, 215, 219, 0, 0), (215, .iload_n 2, 216, 2, 0, 0), (216, .goto 4, 219, 220, 0, 0), (219, .iload_n 3, 220, 3, 0, 0), (220, .ireturn, 221, 0, 0, 0)]
def mc231 : List (Nat × Ins) := mc231_0 ++ mc231_1 ++ mc231_2
-- 232: LikeYearsModel.isGrid(II)Z
def mc232 : List (Nat × Ins) := [(0, .aload_n 0, 1, 0, 0, 0), (1, .iload_n 1, 2, 1, 0, 0), (2, .invokevirtual 469, 5, 201, 1896, 0), (5, .ifCond .eq 20, 8, 25, 0, 0), (8, .aload_n 0, 9, 0, 0, 0), (9, .iload_n 2, 10, 2, 0, 0), (10, .invokevirtual 469, 13, 201, 1896, 0), (13, .ifCond .eq 12, 16, 25, 0, 0), (16, .iload_n 1, 17, 1, 0, 0), (17, .iload_n 2, 18, 2, 0, 0), (18, .if_icmp .ge 7, 21, 25, 0, 0), (21, .iconst 1, 22, 0, 0, 0), (22, .goto 4, 25, 26, 0, 0), (25, .iconst 0, 26, 0, 0, 0), (26, .ireturn, 27, 0, 0, 0)]
-- 233: LikeYearsModel.grid(III)J
def mc233 : List (Nat × Ins) := [(0, .aload_n 0, 1, 0, 0, 0), (1, .iload_n 1, 2, 1, 0, 0), (2, .iload_n 2, 3, 2, 0, 0), (3, .invokevirtual 472, 6, 232, 1892, 0), (6, .ifCond .eq 10, 9, 16, 0, 0), (9, .iload_n 3, 10, 3, 0, 0), (10, .invokestatic 446, 13, 213, 1832, 0), (13, .ifCond .ne 7, 16, 20, 0, 0), (16, .ldc2_w 449, 19, 0, 1835, -1), (19, .lreturn, 20, 0, 0, 0), (20, .aload_n 0, 21, 0, 0, 0), (21, .iconst 1, 22, 0, 0, 0), (22, .iload_n 1, 23, 1, 0, 0), (23, .ishl, 24, 0, 0, 0), (24, .iconst 1, 25, 0, 0, 0), (25, .iload_n 2, 26, 2, 0, 0), (26, .ishl, 27, 0, 0, 0), (27, .ior, 28, 0, 0, 0), (28, .iconst 0, 29, 0, 0, 0), (29, .invokevirtual 379, 32, 197, 1766, 0), (32, .aload_n 0, 33, 0, 0, 0), (33, .aload_n 0, 34, 0, 0, 0), (34, .invokevirtual 440, 37, 219, 1817, 0), (37, .invokevirtual 451, 40, 217, 1836, 0), (40, .aload_n 0, 41, 0, 0, 0), (41, .iload_n 3, 42, 3, 0, 0), (42, .invokevirtual 462, 45, 214, 1872, 0), (45, .lreturn, 46, 0, 0, 0)]
-- 234: LikeYearsModel.loses(III)J
def mc234_0 : List (Nat × Ins) := [(0, .aload_n 0, 1, 0, 0, 0), (1, .iload_n 1, 2, 1, 0, 0), (2, .iload_n 2, 3, 2, 0, 0), (3, .invokevirtual 472, 6, 232, 1892, 0), (6, .ifCond .eq 10, 9, 16, 0, 0), (9, .iload_n 3, 10, 3, 0, 0), (10, .invokestatic 446, 13, 213, 1832, 0), (13, .ifCond .ne 7, 16, 20, 0, 0), (16, .ldc2_w 475, 19, 0, 1904, -1000000000000), (19, .lreturn, 20, 0, 0, 0), (20, .aload_n 0, 21, 0, 0, 0), (21, .invokevirtual 386, 24, 198, 1758, 0), (24, .aload_n 0, 25, 0, 0, 0), (25, .aload_n 0, 26, 0, 0, 0), (26, .invokevirtual 440, 29, 219, 1817, 0), (29, .invokevirtual 451, 32, 217, 1836, 0), (32, .aload_n 0, 33, 0, 0, 0), (33, .getfield 406, 36, 12, 44, 1409), (36, .lstore 4, 38, 4, 0, 0), (38, .aload_n 0, 39, 0, 0, 0), (39, .getfield 409, 42, 12, 45, 1410), (42, .lstore 6, 44, 6, 0, 0), (44, .aload_n 0, 45, 0, 0, 0), (45, .iconst 1, 46, 0, 0, 0), (46, .iload_n 1, 47, 1, 0, 0), (47, .ishl, 48, 0, 0, 0), (48, .iconst 1, 49, 0, 0, 0), (49, .iload_n 2, 50, 2, 0, 0), (50, .ishl, 51, 0, 0, 0), (51, .ior, 52, 0, 0, 0), (52, .iconst 0, 53, 0, 0, 0), (53, .invokevirtual 379, 56, 197, 1766, 0), (56, .aload_n 0, 57, 0, 0, 0), (57, .aload_n 0, 58, 0, 0, 0), (58, .invokevirtual 440, 61, 219, 1817, 0), (61, .invokevirtual 451, 64, 217, 1836, 0), (64, .aload_n 0, 65, 0, 0, 0), (65, .lload 4, 67, 4, 0, 0), (67, .lneg, 68, 0, 0, 0), (68, .lload 6, 70, 6, 0, 0)]
def mc234_1 : List (Nat × Ins) := [(70, .invokevirtual 425, 73, 212, 1851, 0), (73, .aload_n 0, 74, 0, 0, 0), (74, .iload_n 3, 75, 3, 0, 0), (75, .invokevirtual 462, 78, 214, 1872, 0), (78, .lreturn, 79, 0, 0, 0)]
def mc234 : List (Nat × Ins) := mc234_0 ++ mc234_1
-- 235: LikeYearsModel.best()I
def mc235_0 : List (Nat × Ins) := [(0, .iconst (-1), 1, 0, 0, 0), (1, .istore_n 1, 2, 1, 0, 0), (2, .lconst 0, 3, 0, 0, 0), (3, .lstore_n 2, 4, 2, 0, 0), (4, .lconst 1, 5, 0, 0, 0), (5, .lstore 4, 7, 4, 0, 0), (7, .iconst 0, 8, 0, 0, 0), (8, .istore 6, 10, 6, 0, 0), (10, .iload 6, 12, 6, 0, 0), (12, .aload_n 0, 13, 0, 0, 0), (13, .getfield 350, 16, 12, 37, 1402), (16, .if_icmp .ge 96, 19, 112, 0, 0), (19, .iload 6, 21, 6, 0, 0), (21, .iconst 1, 22, 0, 0, 0), (22, .iadd, 23, 0, 0, 0), (23, .istore 7, 25, 7, 0, 0), (25, .iload 7, 27, 7, 0, 0), (27, .aload_n 0, 28, 0, 0, 0), (28, .getfield 350, 31, 12, 37, 1402), (31, .if_icmp .ge 75, 34, 106, 0, 0), (34, .aload_n 0, 35, 0, 0, 0), (35, .iconst 1, 36, 0, 0, 0), (36, .iload 6, 38, 6, 0, 0), (38, .ishl, 39, 0, 0, 0), (39, .iconst 1, 40, 0, 0, 0), (40, .iload 7, 42, 7, 0, 0), (42, .ishl, 43, 0, 0, 0), (43, .ior, 44, 0, 0, 0), (44, .iconst 0, 45, 0, 0, 0), (45, .invokevirtual 379, 48, 197, 1766, 0), (48, .aload_n 0, 49, 0, 0, 0), (49, .aload_n 0, 50, 0, 0, 0), (50, .invokevirtual 440, 53, 219, 1817, 0), (53, .invokevirtual 451, 56, 217, 1836, 0), (56, .iload_n 1, 57, 1, 0, 0), (57, .ifCond .lt 23, 60, 80, 0, 0), (60, .aload_n 0, 61, 0, 0, 0), (61, .getfield 406, 64, 12, 44, 1409), (64, .lload 4, 66, 4, 0, 0), (66, .lmul, 67, 0, 0, 0)]
def mc235_1 : List (Nat × Ins) := [(67, .lload_n 2, 68, 2, 0, 0), (68, .aload_n 0, 69, 0, 0, 0), (69, .getfield 409, 72, 12, 45, 1410), (72, .lmul, 73, 0, 0, 0), (73, .lcmp, 74, 0, 0, 0), (74, .ifCond .lt 6, 77, 80, 0, 0), (77, .goto 23, 80, 100, 0, 0), (80, .bipush 10, 82, 0, 0, 0), (82, .iload 6, 84, 6, 0, 0), (84, .imul, 85, 0, 0, 0), (85, .iload 7, 87, 7, 0, 0), (87, .iadd, 88, 0, 0, 0), (88, .istore_n 1, 89, 1, 0, 0), (89, .aload_n 0, 90, 0, 0, 0), (90, .getfield 406, 93, 12, 44, 1409), (93, .lstore_n 2, 94, 2, 0, 0), (94, .aload_n 0, 95, 0, 0, 0), (95, .getfield 409, 98, 12, 45, 1410), (98, .lstore 4, 100, 4, 0, 0), (100, .iinc 7 1, 103, 7, 0, 0), (103, .goto (-78), 106, 25, 0, 0), (106, .iinc 6 1, 109, 6, 0, 0), (109, .goto (-99), 112, 10, 0, 0), (112, .iload_n 1, 113, 1, 0, 0), (113, .ireturn, 114, 0, 0, 0)]
def mc235 : List (Nat × Ins) := mc235_0 ++ mc235_1
-- 236: LikeYearsModel.runCost(II)V
def mc236_0 : List (Nat × Ins) := [(0, .iconst 0, 1, 0, 0, 0), (1, .istore_n 3, 2, 3, 0, 0), (2, .iconst 0, 3, 0, 0, 0), (3, .istore 4, 5, 4, 0, 0), (5, .iload 4, 7, 4, 0, 0), (7, .aload_n 0, 8, 0, 0, 0), (8, .getfield 58, 11, 12, 28, 1393), (11, .iload_n 1, 12, 1, 0, 0), (12, .iaload, 13, 0, 0, 0), (13, .if_icmp .gt 320, 16, 333, 0, 0), (16, .iload 4, 18, 4, 0, 0), (18, .ifCond .eq 13, 21, 31, 0, 0), (21, .iload_n 2, 22, 2, 0, 0), (22, .iload 4, 24, 4, 0, 0), (24, .ishr, 25, 0, 0, 0), (25, .iconst 1, 26, 0, 0, 0), (26, .iand, 27, 0, 0, 0), (27, .iconst 1, 28, 0, 0, 0), (28, .if_icmp .ne 27, 31, 55, 0, 0), (31, .aload_n 0, 32, 0, 0, 0), (32, .getfield 116, 35, 12, 53, 1418), (35, .iload_n 3, 36, 3, 0, 0), (36, .iconst 0, 37, 0, 0, 0), (37, .iastore, 38, 0, 0, 0), (38, .aload_n 0, 39, 0, 0, 0), (39, .getfield 119, 42, 12, 54, 1419), (42, .iload_n 3, 43, 3, 0, 0), (43, .iconst 0, 44, 0, 0, 0), (44, .iastore, 45, 0, 0, 0), (45, .aload_n 0, 46, 0, 0, 0), (46, .getfield 122, 49, 12, 55, 1420), (49, .iload_n 3, 50, 3, 0, 0), (50, .lconst 0, 51, 0, 0, 0), (51, .lastore, 52, 0, 0, 0), (52, .iinc 3 1, 55, 3, 0, 0), (55, .iconst 0, 56, 0, 0, 0), (56, .istore 5, 58, 5, 0, 0), (58, .iload 5, 60, 5, 0, 0), (60, .aload_n 0, 61, 0, 0, 0), (61, .getfield 353, 64, 12, 38, 1403)]
def mc236_1 : List (Nat × Ins) := [(64, .if_icmp .ge 110, 67, 174, 0, 0), (67, .aload_n 0, 68, 0, 0, 0), (68, .getfield 61, 71, 12, 29, 1394), (71, .bipush 6, 73, 0, 0, 0), (73, .iload 5, 75, 5, 0, 0), (75, .imul, 76, 0, 0, 0), (76, .iload_n 1, 77, 1, 0, 0), (77, .iadd, 78, 0, 0, 0), (78, .iaload, 79, 0, 0, 0), (79, .iload 4, 81, 4, 0, 0), (81, .if_icmp .eq 6, 84, 87, 0, 0), (84, .goto 84, 87, 168, 0, 0), (87, .aload_n 0, 88, 0, 0, 0), (88, .getfield 116, 91, 12, 53, 1418), (91, .iload_n 3, 92, 3, 0, 0), (92, .iconst 1, 93, 0, 0, 0), (93, .isub, 94, 0, 0, 0), (94, .dup2, 95, 0, 0, 0), (95, .iaload, 96, 0, 0, 0), (96, .aload_n 0, 97, 0, 0, 0), (97, .getfield 73, 100, 12, 33, 1398), (100, .iload 5, 102, 5, 0, 0), (102, .iaload, 103, 0, 0, 0), (103, .iadd, 104, 0, 0, 0), (104, .iastore, 105, 0, 0, 0), (105, .aload_n 0, 106, 0, 0, 0), (106, .getfield 119, 109, 12, 54, 1419), (109, .iload_n 3, 110, 3, 0, 0), (110, .iconst 1, 111, 0, 0, 0), (111, .isub, 112, 0, 0, 0), (112, .dup2, 113, 0, 0, 0), (113, .iaload, 114, 0, 0, 0), (114, .aload_n 0, 115, 0, 0, 0), (115, .getfield 73, 118, 12, 33, 1398), (118, .iload 5, 120, 5, 0, 0), (120, .iaload, 121, 0, 0, 0), (121, .aload_n 0, 122, 0, 0, 0), (122, .getfield 70, 125, 12, 32, 1397), (125, .iload 5, 127, 5, 0, 0), (127, .iaload, 128, 0, 0, 0)]
def mc236_2 : List (Nat × Ins) := [(128, .imul, 129, 0, 0, 0), (129, .iadd, 130, 0, 0, 0), (130, .iastore, 131, 0, 0, 0), (131, .aload_n 0, 132, 0, 0, 0), (132, .getfield 122, 135, 12, 55, 1420), (135, .iload_n 3, 136, 3, 0, 0), (136, .iconst 1, 137, 0, 0, 0), (137, .isub, 138, 0, 0, 0), (138, .dup2, 139, 0, 0, 0), (139, .laload, 140, 0, 0, 0), (140, .aload_n 0, 141, 0, 0, 0), (141, .getfield 73, 144, 12, 33, 1398), (144, .iload 5, 146, 5, 0, 0), (146, .iaload, 147, 0, 0, 0), (147, .i2l, 148, 0, 0, 0), (148, .aload_n 0, 149, 0, 0, 0), (149, .getfield 70, 152, 12, 32, 1397), (152, .iload 5, 154, 5, 0, 0), (154, .iaload, 155, 0, 0, 0), (155, .i2l, 156, 0, 0, 0), (156, .lmul, 157, 0, 0, 0), (157, .aload_n 0, 158, 0, 0, 0), (158, .getfield 70, 161, 12, 32, 1397), (161, .iload 5, 163, 5, 0, 0), (163, .iaload, 164, 0, 0, 0), (164, .i2l, 165, 0, 0, 0), (165, .lmul, 166, 0, 0, 0), (166, .ladd, 167, 0, 0, 0), (167, .lastore, 168, 0, 0, 0), (168, .iinc 5 1, 171, 5, 0, 0), (171, .goto (-113), 174, 58, 0, 0), (174, .iload 4, 176, 4, 0, 0), (176, .aload_n 0, 177, 0, 0, 0), (177, .getfield 58, 180, 12, 28, 1393), (180, .iload_n 1, 181, 1, 0, 0), (181, .iaload, 182, 0, 0, 0), (182, .if_icmp .eq 15, 185, 197, 0, 0), (185, .iload_n 2, 186, 2, 0, 0), (186, .iload 4, 188, 4, 0, 0), (188, .iconst 1, 189, 0, 0, 0)]
def mc236_3 : List (Nat × Ins) := [(189, .iadd, 190, 0, 0, 0), (190, .ishr, 191, 0, 0, 0), (191, .iconst 1, 192, 0, 0, 0), (192, .iand, 193, 0, 0, 0), (193, .iconst 1, 194, 0, 0, 0), (194, .if_icmp .ne 7, 197, 201, 0, 0), (197, .iconst 1, 198, 0, 0, 0), (198, .goto 4, 201, 202, 0, 0), (201, .iconst 0, 202, 0, 0, 0), (202, .istore 5, 204, 5, 0, 0), (204, .iload 5, 206, 5, 0, 0), (206, .ifCond .eq 17, 209, 223, 0, 0), (209, .aload_n 0, 210, 0, 0, 0), (210, .getfield 116, 213, 12, 53, 1418), (213, .iload_n 3, 214, 3, 0, 0), (214, .iconst 1, 215, 0, 0, 0), (215, .isub, 216, 0, 0, 0), (216, .iaload, 217, 0, 0, 0), (217, .ifCond .ne 6, 220, 223, 0, 0), (220, .iinc 3 (-1), 223, 3, 0, 0), (223, .iload 5, 225, 5, 0, 0), (225, .ifCond .eq 102, 228, 327, 0, 0), (228, .iload_n 3, 229, 3, 0, 0), (229, .iconst 1, 230, 0, 0, 0), (230, .if_icmp .le 97, 233, 327, 0, 0), (233, .aload_n 0, 234, 0, 0, 0), (234, .getfield 119, 237, 12, 54, 1419), (237, .iload_n 3, 238, 3, 0, 0), (238, .iconst 2, 239, 0, 0, 0), (239, .isub, 240, 0, 0, 0), (240, .iaload, 241, 0, 0, 0), (241, .aload_n 0, 242, 0, 0, 0), (242, .getfield 116, 245, 12, 53, 1418), (245, .iload_n 3, 246, 3, 0, 0), (246, .iconst 1, 247, 0, 0, 0), (247, .isub, 248, 0, 0, 0), (248, .iaload, 249, 0, 0, 0), (249, .imul, 250, 0, 0, 0), (250, .aload_n 0, 251, 0, 0, 0), (251, .getfield 119, 254, 12, 54, 1419)]
def mc236_4 : List (Nat × Ins) := [(254, .iload_n 3, 255, 3, 0, 0), (255, .iconst 1, 256, 0, 0, 0), (256, .isub, 257, 0, 0, 0), (257, .iaload, 258, 0, 0, 0), (258, .aload_n 0, 259, 0, 0, 0), (259, .getfield 116, 262, 12, 53, 1418), (262, .iload_n 3, 263, 3, 0, 0), (263, .iconst 2, 264, 0, 0, 0), (264, .isub, 265, 0, 0, 0), (265, .iaload, 266, 0, 0, 0), (266, .imul, 267, 0, 0, 0), (267, .if_icmp .le 60, 270, 327, 0, 0), (270, .iinc 3 (-1), 273, 3, 0, 0), (273, .aload_n 0, 274, 0, 0, 0), (274, .getfield 116, 277, 12, 53, 1418), (277, .iload_n 3, 278, 3, 0, 0), (278, .iconst 1, 279, 0, 0, 0), (279, .isub, 280, 0, 0, 0), (280, .dup2, 281, 0, 0, 0), (281, .iaload, 282, 0, 0, 0), (282, .aload_n 0, 283, 0, 0, 0), (283, .getfield 116, 286, 12, 53, 1418), (286, .iload_n 3, 287, 3, 0, 0), (287, .iaload, 288, 0, 0, 0), (288, .iadd, 289, 0, 0, 0), (289, .iastore, 290, 0, 0, 0), (290, .aload_n 0, 291, 0, 0, 0), (291, .getfield 119, 294, 12, 54, 1419), (294, .iload_n 3, 295, 3, 0, 0), (295, .iconst 1, 296, 0, 0, 0), (296, .isub, 297, 0, 0, 0), (297, .dup2, 298, 0, 0, 0), (298, .iaload, 299, 0, 0, 0), (299, .aload_n 0, 300, 0, 0, 0), (300, .getfield 119, 303, 12, 54, 1419), (303, .iload_n 3, 304, 3, 0, 0), (304, .iaload, 305, 0, 0, 0), (305, .iadd, 306, 0, 0, 0), (306, .iastore, 307, 0, 0, 0), (307, .aload_n 0, 308, 0, 0, 0)]
def mc236_5 : List (Nat × Ins) := [(308, .getfield 122, 311, 12, 55, 1420), (311, .iload_n 3, 312, 3, 0, 0), (312, .iconst 1, 313, 0, 0, 0), (313, .isub, 314, 0, 0, 0), (314, .dup2, 315, 0, 0, 0), (315, .laload, 316, 0, 0, 0), (316, .aload_n 0, 317, 0, 0, 0), (317, .getfield 122, 320, 12, 55, 1420), (320, .iload_n 3, 321, 3, 0, 0), (321, .laload, 322, 0, 0, 0), (322, .ladd, 323, 0, 0, 0), (323, .lastore, 324, 0, 0, 0), (324, .goto (-101), 327, 223, 0, 0), (327, .iinc 4 1, 330, 4, 0, 0), (330, .goto (-325), 333, 5, 0, 0), (333, .aload_n 0, 334, 0, 0, 0), (334, .lconst 0, 335, 0, 0, 0), (335, .lconst 1, 336, 0, 0, 0), (336, .invokevirtual 412, 339, 211, 1840, 0), (339, .iconst 0, 340, 0, 0, 0), (340, .istore 4, 342, 4, 0, 0), (342, .iload 4, 344, 4, 0, 0), (344, .iload_n 3, 345, 3, 0, 0), (345, .if_icmp .ge 55, 348, 400, 0, 0), (348, .aload_n 0, 349, 0, 0, 0), (349, .aload_n 0, 350, 0, 0, 0), (350, .getfield 122, 353, 12, 55, 1420), (353, .iload 4, 355, 4, 0, 0), (355, .laload, 356, 0, 0, 0), (356, .aload_n 0, 357, 0, 0, 0), (357, .getfield 116, 360, 12, 53, 1418), (360, .iload 4, 362, 4, 0, 0), (362, .iaload, 363, 0, 0, 0), (363, .i2l, 364, 0, 0, 0), (364, .lmul, 365, 0, 0, 0), (365, .aload_n 0, 366, 0, 0, 0), (366, .getfield 119, 369, 12, 54, 1419), (369, .iload 4, 371, 4, 0, 0), (371, .iaload, 372, 0, 0, 0), (372, .i2l, 373, 0, 0, 0)]
def mc236_6 : List (Nat × Ins) := [(373, .aload_n 0, 374, 0, 0, 0), (374, .getfield 119, 377, 12, 54, 1419), (377, .iload 4, 379, 4, 0, 0), (379, .iaload, 380, 0, 0, 0), (380, .i2l, 381, 0, 0, 0), (381, .lmul, 382, 0, 0, 0), (382, .lsub, 383, 0, 0, 0), (383, .aload_n 0, 384, 0, 0, 0), (384, .getfield 116, 387, 12, 53, 1418), (387, .iload 4, 389, 4, 0, 0), (389, .iaload, 390, 0, 0, 0), (390, .i2l, 391, 0, 0, 0), (391, .invokevirtual 425, 394, 212, 1851, 0), (394, .iinc 4 1, 397, 4, 0, 0), (397, .goto (-55), 400, 342, 0, 0), (400, .return_, 401, 0, 0, 0)]
def mc236 : List (Nat × Ins) := mc236_0 ++ mc236_1 ++ mc236_2 ++ mc236_3 ++ mc236_4 ++ mc236_5 ++ mc236_6
-- 237: LikeYearsModel.canRun(II)Z
def mc237 : List (Nat × Ins) := [(0, .aload_n 0, 1, 0, 0, 0), (1, .iload_n 1, 2, 1, 0, 0), (2, .invokevirtual 469, 5, 201, 1896, 0), (5, .ifCond .eq 18, 8, 23, 0, 0), (8, .iload_n 2, 9, 2, 0, 0), (9, .iconst 1, 10, 0, 0, 0), (10, .if_icmp .lt 13, 13, 23, 0, 0), (13, .iload_n 2, 14, 2, 0, 0), (14, .bipush 12, 16, 0, 0, 0), (16, .if_icmp .gt 7, 19, 23, 0, 0), (19, .iconst 1, 20, 0, 0, 0), (20, .goto 4, 23, 24, 0, 0), (23, .iconst 0, 24, 0, 0, 0), (24, .ireturn, 25, 0, 0, 0)]
-- 238: LikeYearsModel.seekRuns(II)I
def mc238_0 : List (Nat × Ins) := [(0, .iconst (-1), 1, 0, 0, 0), (1, .istore_n 3, 2, 3, 0, 0), (2, .lconst 0, 3, 0, 0, 0), (3, .lstore 4, 5, 4, 0, 0), (5, .lconst 1, 6, 0, 0, 0), (6, .lstore 6, 8, 6, 0, 0), (8, .iconst 0, 9, 0, 0, 0), (9, .istore 8, 11, 8, 0, 0), (11, .iload 8, 13, 8, 0, 0), (13, .iconst 1, 14, 0, 0, 0), (14, .aload_n 0, 15, 0, 0, 0), (15, .getfield 58, 18, 12, 28, 1393), (18, .iload_n 1, 19, 1, 0, 0), (19, .iaload, 20, 0, 0, 0), (20, .iconst 1, 21, 0, 0, 0), (21, .iadd, 22, 0, 0, 0), (22, .ishl, 23, 0, 0, 0), (23, .if_icmp .ge 128, 26, 151, 0, 0), (26, .iload 8, 28, 8, 0, 0), (28, .invokestatic 437, 31, 230, 1825, 0), (31, .iconst 1, 32, 0, 0, 0), (32, .iadd, 33, 0, 0, 0), (33, .iload_n 2, 34, 2, 0, 0), (34, .if_icmp .le 6, 37, 40, 0, 0), (37, .goto 108, 40, 145, 0, 0), (40, .aload_n 0, 41, 0, 0, 0), (41, .iload_n 1, 42, 1, 0, 0), (42, .iload 8, 44, 8, 0, 0), (44, .invokevirtual 477, 47, 236, 1921, 0), (47, .iload_n 3, 48, 3, 0, 0), (48, .ifCond .lt 21, 51, 69, 0, 0), (51, .aload_n 0, 52, 0, 0, 0), (52, .getfield 406, 55, 12, 44, 1409), (55, .lload 6, 57, 6, 0, 0), (57, .lmul, 58, 0, 0, 0), (58, .lload 4, 60, 4, 0, 0), (60, .aload_n 0, 61, 0, 0, 0), (61, .getfield 409, 64, 12, 45, 1410), (64, .lmul, 65, 0, 0, 0), (65, .lcmp, 66, 0, 0, 0)]
def mc238_1 : List (Nat × Ins) := [(66, .ifCond .ge 7, 69, 73, 0, 0), (69, .iconst 1, 70, 0, 0, 0), (70, .goto 4, 73, 74, 0, 0), (73, .iconst 0, 74, 0, 0, 0), (74, .istore 9, 76, 9, 0, 0), (76, .iload_n 3, 77, 3, 0, 0), (77, .ifCond .lt 37, 80, 114, 0, 0), (80, .aload_n 0, 81, 0, 0, 0), (81, .getfield 406, 84, 12, 44, 1409), (84, .lload 6, 86, 6, 0, 0), (86, .lmul, 87, 0, 0, 0), (87, .lload 4, 89, 4, 0, 0), (89, .aload_n 0, 90, 0, 0, 0), (90, .getfield 409, 93, 12, 45, 1410), (93, .lmul, 94, 0, 0, 0), (94, .lcmp, 95, 0, 0, 0), (95, .ifCond .ne 19, 98, 114, 0, 0), (98, .iload 8, 100, 8, 0, 0), (100, .invokestatic 437, 103, 230, 1825, 0), (103, .iload_n 3, 104, 3, 0, 0), (104, .invokestatic 437, 107, 230, 1825, 0), (107, .if_icmp .ge 7, 110, 114, 0, 0), (110, .iconst 1, 111, 0, 0, 0), (111, .goto 4, 114, 115, 0, 0), (114, .iconst 0, 115, 0, 0, 0), (115, .istore 10, 117, 10, 0, 0), (117, .iload 9, 119, 9, 0, 0), (119, .ifCond .ne 11, 122, 130, 0, 0), (122, .iload 10, 124, 10, 0, 0), (124, .ifCond .ne 6, 127, 130, 0, 0), (127, .goto 18, 130, 145, 0, 0), (130, .iload 8, 132, 8, 0, 0), (132, .istore_n 3, 133, 3, 0, 0), (133, .aload_n 0, 134, 0, 0, 0), (134, .getfield 406, 137, 12, 44, 1409), (137, .lstore 4, 139, 4, 0, 0), (139, .aload_n 0, 140, 0, 0, 0), (140, .getfield 409, 143, 12, 45, 1410), (143, .lstore 6, 145, 6, 0, 0), (145, .iinc 8 2, 148, 8, 0, 0)]
def mc238_2 : List (Nat × Ins) := [(148, .goto (-137), 151, 11, 0, 0), (151, .aload_n 0, 152, 0, 0, 0), (152, .lload 4, 154, 4, 0, 0), (154, .lload 6, 156, 6, 0, 0), (156, .invokevirtual 412, 159, 211, 1840, 0), (159, .iload_n 3, 160, 3, 0, 0), (160, .ireturn, 161, 0, 0, 0)]
def mc238 : List (Nat × Ins) := mc238_0 ++ mc238_1 ++ mc238_2
-- 239: LikeYearsModel.runs(III)J
def mc239 : List (Nat × Ins) := [(0, .aload_n 0, 1, 0, 0, 0), (1, .iload_n 1, 2, 1, 0, 0), (2, .iload_n 2, 3, 2, 0, 0), (3, .invokevirtual 481, 6, 237, 1913, 0), (6, .ifCond .eq 10, 9, 16, 0, 0), (9, .iload_n 3, 10, 3, 0, 0), (10, .invokestatic 446, 13, 213, 1832, 0), (13, .ifCond .ne 7, 16, 20, 0, 0), (16, .ldc2_w 449, 19, 0, 1835, -1), (19, .lreturn, 20, 0, 0, 0), (20, .aload_n 0, 21, 0, 0, 0), (21, .iload_n 1, 22, 1, 0, 0), (22, .iload_n 2, 23, 2, 0, 0), (23, .invokevirtual 484, 26, 238, 1917, 0), (26, .istore 4, 28, 4, 0, 0), (28, .aload_n 0, 29, 0, 0, 0), (29, .iload_n 3, 30, 3, 0, 0), (30, .invokevirtual 462, 33, 214, 1872, 0), (33, .lreturn, 34, 0, 0, 0)]
-- 240: LikeYearsModel.begins(II)I
def mc240 : List (Nat × Ins) := [(0, .aload_n 0, 1, 0, 0, 0), (1, .iload_n 1, 2, 1, 0, 0), (2, .iload_n 2, 3, 2, 0, 0), (3, .invokevirtual 481, 6, 237, 1913, 0), (6, .ifCond .eq 12, 9, 18, 0, 0), (9, .aload_n 0, 10, 0, 0, 0), (10, .iload_n 1, 11, 1, 0, 0), (11, .iload_n 2, 12, 2, 0, 0), (12, .invokevirtual 484, 15, 238, 1917, 0), (15, .goto 4, 18, 19, 0, 0), (18, .iconst (-1), 19, 0, 0, 0), (19, .ireturn, 20, 0, 0, 0)]
-- 241: LikeYearsModel.isJudge(I)Z
def mc241 : List (Nat × Ins) := [(0, .iload_n 0, 1, 0, 0, 0), (1, .ifCond .lt 13, 4, 14, 0, 0), (4, .iload_n 0, 5, 0, 0, 0), (5, .bipush 10, 7, 0, 0, 0), (7, .if_icmp .ge 7, 10, 14, 0, 0), (10, .iconst 1, 11, 0, 0, 0), (11, .goto 4, 14, 15, 0, 0), (14, .iconst 0, 15, 0, 0, 0), (15, .ireturn, 16, 0, 0, 0)]
-- 242: LikeYearsModel.offOf(I)I
def mc242 : List (Nat × Ins) := [(0, .iconst 0, 1, 0, 0, 0), (1, .istore_n 2, 2, 2, 0, 0), (2, .iconst 0, 3, 0, 0, 0), (3, .istore_n 3, 4, 3, 0, 0), (4, .iload_n 3, 5, 3, 0, 0), (5, .aload_n 0, 6, 0, 0, 0), (6, .getfield 353, 9, 12, 38, 1403), (9, .if_icmp .ge 31, 12, 40, 0, 0), (12, .iload_n 2, 13, 2, 0, 0), (13, .aload_n 0, 14, 0, 0, 0), (14, .getfield 64, 17, 12, 30, 1395), (17, .iload_n 3, 18, 3, 0, 0), (18, .iaload, 19, 0, 0, 0), (19, .iload_n 1, 20, 1, 0, 0), (20, .if_icmp .ne 11, 23, 31, 0, 0), (23, .aload_n 0, 24, 0, 0, 0), (24, .iload_n 3, 25, 3, 0, 0), (25, .invokevirtual 466, 28, 224, 1880, 0), (28, .goto 4, 31, 32, 0, 0), (31, .iconst 0, 32, 0, 0, 0), (32, .iadd, 33, 0, 0, 0), (33, .istore_n 2, 34, 2, 0, 0), (34, .iinc 3 1, 37, 3, 0, 0), (37, .goto (-33), 40, 4, 0, 0), (40, .iload_n 2, 41, 2, 0, 0), (41, .ireturn, 42, 0, 0, 0)]
-- 243: LikeYearsModel.off(I)I
def mc243 : List (Nat × Ins) := [(0, .iload_n 1, 1, 1, 0, 0), (1, .invokestatic 487, 4, 241, 1933, 0), (4, .ifCond .ne 5, 7, 9, 0, 0), (7, .iconst (-1), 8, 0, 0, 0), (8, .ireturn, 9, 0, 0, 0), (9, .aload_n 0, 10, 0, 0, 0), (10, .invokevirtual 386, 13, 198, 1758, 0), (13, .aload_n 0, 14, 0, 0, 0), (14, .invokevirtual 454, 17, 222, 1855, 0), (17, .aload_n 0, 18, 0, 0, 0), (18, .iload_n 1, 19, 1, 0, 0), (19, .invokevirtual 490, 22, 242, 1936, 0), (22, .ireturn, 23, 0, 0, 0)]
-- 244: LikeYearsModel.luck(II)J
def mc244_0 : List (Nat × Ins) := [(0, .iconst 0, 1, 0, 0, 0), (1, .istore_n 3, 2, 3, 0, 0), (2, .iconst 0, 3, 0, 0, 0), (3, .istore 4, 5, 4, 0, 0), (5, .iload 4, 7, 4, 0, 0), (7, .aload_n 0, 8, 0, 0, 0), (8, .getfield 353, 11, 12, 38, 1403), (11, .if_icmp .ge 28, 14, 39, 0, 0), (14, .iload_n 3, 15, 3, 0, 0), (15, .aload_n 0, 16, 0, 0, 0), (16, .getfield 64, 19, 12, 30, 1395), (19, .iload 4, 21, 4, 0, 0), (21, .iaload, 22, 0, 0, 0), (22, .iload_n 1, 23, 1, 0, 0), (23, .if_icmp .ne 7, 26, 30, 0, 0), (26, .iconst 1, 27, 0, 0, 0), (27, .goto 4, 30, 31, 0, 0), (30, .iconst 0, 31, 0, 0, 0), (31, .iadd, 32, 0, 0, 0), (32, .istore_n 3, 33, 3, 0, 0), (33, .iinc 4 1, 36, 4, 0, 0), (36, .goto (-31), 39, 5, 0, 0), (39, .iload_n 1, 40, 1, 0, 0), (40, .invokestatic 487, 43, 241, 1933, 0), (43, .ifCond .eq 14, 46, 57, 0, 0), (46, .iload_n 3, 47, 3, 0, 0), (47, .ifCond .eq 10, 50, 57, 0, 0), (50, .iload_n 2, 51, 2, 0, 0), (51, .invokestatic 446, 54, 213, 1832, 0), (54, .ifCond .ne 7, 57, 61, 0, 0), (57, .ldc2_w 449, 60, 0, 1835, -1), (60, .lreturn, 61, 0, 0, 0), (61, .aload_n 0, 62, 0, 0, 0), (62, .invokevirtual 386, 65, 198, 1758, 0), (65, .aload_n 0, 66, 0, 0, 0), (66, .invokevirtual 454, 69, 222, 1855, 0), (69, .aload_n 0, 70, 0, 0, 0), (70, .iload_n 1, 71, 1, 0, 0), (71, .invokevirtual 490, 74, 242, 1936, 0), (74, .istore 4, 76, 4, 0, 0)]
def mc244_1 : List (Nat × Ins) := [(76, .lconst 0, 77, 0, 0, 0), (77, .lstore 5, 79, 5, 0, 0), (79, .lconst 0, 80, 0, 0, 0), (80, .lstore 7, 82, 7, 0, 0), (82, .iconst 1, 83, 0, 0, 0), (83, .istore 9, 85, 9, 0, 0), (85, .iload 9, 87, 9, 0, 0), (87, .iconst 1, 88, 0, 0, 0), (88, .aload_n 0, 89, 0, 0, 0), (89, .getfield 353, 92, 12, 38, 1403), (92, .ishl, 93, 0, 0, 0), (93, .if_icmp .ge 91, 96, 184, 0, 0), (96, .iload 9, 98, 9, 0, 0), (98, .invokestatic 437, 101, 230, 1825, 0), (101, .iload_n 3, 102, 3, 0, 0), (102, .if_icmp .eq 6, 105, 108, 0, 0), (105, .goto 73, 108, 178, 0, 0), (108, .lload 5, 110, 5, 0, 0), (110, .lconst 1, 111, 0, 0, 0), (111, .ladd, 112, 0, 0, 0), (112, .lstore 5, 114, 5, 0, 0), (114, .iconst 0, 115, 0, 0, 0), (115, .istore 10, 117, 10, 0, 0), (117, .iconst 0, 118, 0, 0, 0), (118, .istore 11, 120, 11, 0, 0), (120, .iload 11, 122, 11, 0, 0), (122, .aload_n 0, 123, 0, 0, 0), (123, .getfield 353, 126, 12, 38, 1403), (126, .if_icmp .ge 35, 129, 161, 0, 0), (129, .iload 10, 131, 10, 0, 0), (131, .iload 9, 133, 9, 0, 0), (133, .iload 11, 135, 11, 0, 0), (135, .ishr, 136, 0, 0, 0), (136, .iconst 1, 137, 0, 0, 0), (137, .iand, 138, 0, 0, 0), (138, .iconst 1, 139, 0, 0, 0), (139, .if_icmp .ne 12, 142, 151, 0, 0), (142, .aload_n 0, 143, 0, 0, 0), (143, .iload 11, 145, 11, 0, 0), (145, .invokevirtual 466, 148, 224, 1880, 0)]
def mc244_2 : List (Nat × Ins) := [(148, .goto 4, 151, 152, 0, 0), (151, .iconst 0, 152, 0, 0, 0), (152, .iadd, 153, 0, 0, 0), (153, .istore 10, 155, 10, 0, 0), (155, .iinc 11 1, 158, 11, 0, 0), (158, .goto (-38), 161, 120, 0, 0), (161, .lload 7, 163, 7, 0, 0), (163, .iload 10, 165, 10, 0, 0), (165, .iload 4, 167, 4, 0, 0), (167, .if_icmp .lt 7, 170, 174, 0, 0), (170, .lconst 1, 171, 0, 0, 0), (171, .goto 4, 174, 175, 0, 0), (174, .lconst 0, 175, 0, 0, 0), (175, .ladd, 176, 0, 0, 0), (176, .lstore 7, 178, 7, 0, 0), (178, .iinc 9 1, 181, 9, 0, 0), (181, .goto (-96), 184, 85, 0, 0), (184, .aload_n 0, 185, 0, 0, 0), (185, .lload 7, 187, 7, 0, 0), (187, .lload 5, 189, 5, 0, 0), (189, .invokevirtual 412, 192, 211, 1840, 0), (192, .aload_n 0, 193, 0, 0, 0), (193, .iload_n 2, 194, 2, 0, 0), (194, .invokevirtual 462, 197, 214, 1872, 0), (197, .lreturn, 198, 0, 0, 0)]
def mc244 : List (Nat × Ins) := mc244_0 ++ mc244_1 ++ mc244_2
-- 245: LikeYearsModel.upto(II)J
def mc245_0 : List (Nat × Ins) := [(0, .iload_n 1, 1, 1, 0, 0), (1, .ifCond .lt 16, 4, 17, 0, 0), (4, .iload_n 1, 5, 1, 0, 0), (5, .bipush 99, 7, 0, 0, 0), (7, .if_icmp .gt 10, 10, 17, 0, 0), (10, .iload_n 2, 11, 2, 0, 0), (11, .invokestatic 446, 14, 213, 1832, 0), (14, .ifCond .ne 7, 17, 21, 0, 0), (17, .ldc2_w 449, 20, 0, 1835, -1), (20, .lreturn, 21, 0, 0, 0), (21, .aload_n 0, 22, 0, 0, 0), (22, .invokevirtual 386, 25, 198, 1758, 0), (25, .iconst 0, 26, 0, 0, 0), (26, .istore_n 3, 27, 3, 0, 0), (27, .iconst 0, 28, 0, 0, 0), (28, .istore 4, 30, 4, 0, 0), (30, .iload 4, 32, 4, 0, 0), (32, .aload_n 0, 33, 0, 0, 0), (33, .getfield 353, 36, 12, 38, 1403), (36, .if_icmp .ge 31, 39, 67, 0, 0), (39, .iload_n 3, 40, 3, 0, 0), (40, .aload_n 0, 41, 0, 0, 0), (41, .getfield 67, 44, 12, 31, 1396), (44, .iload 4, 46, 4, 0, 0), (46, .iaload, 47, 0, 0, 0), (47, .iload_n 1, 48, 1, 0, 0), (48, .if_icmp .gt 10, 51, 58, 0, 0), (51, .iconst 1, 52, 0, 0, 0), (52, .iload 4, 54, 4, 0, 0), (54, .ishl, 55, 0, 0, 0), (55, .goto 4, 58, 59, 0, 0), (58, .iconst 0, 59, 0, 0, 0), (59, .ior, 60, 0, 0, 0), (60, .istore_n 3, 61, 3, 0, 0), (61, .iinc 4 1, 64, 4, 0, 0), (64, .goto (-34), 67, 30, 0, 0), (67, .aload_n 0, 68, 0, 0, 0), (68, .iload_n 3, 69, 3, 0, 0), (69, .invokevirtual 451, 72, 217, 1836, 0), (72, .aload_n 0, 73, 0, 0, 0)]
def mc245_1 : List (Nat × Ins) := [(73, .iload_n 2, 74, 2, 0, 0), (74, .invokevirtual 462, 77, 214, 1872, 0), (77, .lreturn, 78, 0, 0, 0)]
def mc245 : List (Nat × Ins) := mc245_0 ++ mc245_1
-- 246: LikeYearsModel.within()I
def mc246_0 : List (Nat × Ins) := [(0, .aload_n 0, 1, 0, 0, 0), (1, .invokevirtual 386, 4, 198, 1758, 0), (4, .iconst 0, 5, 0, 0, 0), (5, .istore_n 1, 6, 1, 0, 0), (6, .iconst 0, 7, 0, 0, 0), (7, .istore_n 2, 8, 2, 0, 0), (8, .iload_n 2, 9, 2, 0, 0), (9, .aload_n 0, 10, 0, 0, 0), (10, .getfield 353, 13, 12, 38, 1403), (13, .if_icmp .ge 57, 16, 70, 0, 0), (16, .iconst 0, 17, 0, 0, 0), (17, .istore_n 3, 18, 3, 0, 0), (18, .iload_n 3, 19, 3, 0, 0), (19, .aload_n 0, 20, 0, 0, 0), (20, .getfield 353, 23, 12, 38, 1403), (23, .if_icmp .ge 41, 26, 64, 0, 0), (26, .iload_n 1, 27, 1, 0, 0), (27, .aload_n 0, 28, 0, 0, 0), (28, .iload_n 2, 29, 2, 0, 0), (29, .iload_n 3, 30, 3, 0, 0), (30, .invokevirtual 393, 33, 204, 1782, 0), (33, .ifCond .le 22, 36, 55, 0, 0), (36, .aload_n 0, 37, 0, 0, 0), (37, .getfield 67, 40, 12, 31, 1396), (40, .iload_n 2, 41, 2, 0, 0), (41, .iaload, 42, 0, 0, 0), (42, .aload_n 0, 43, 0, 0, 0), (43, .getfield 67, 46, 12, 31, 1396), (46, .iload_n 3, 47, 3, 0, 0), (47, .iaload, 48, 0, 0, 0), (48, .if_icmp .ne 7, 51, 55, 0, 0), (51, .iconst 1, 52, 0, 0, 0), (52, .goto 4, 55, 56, 0, 0), (55, .iconst 0, 56, 0, 0, 0), (56, .iadd, 57, 0, 0, 0), (57, .istore_n 1, 58, 1, 0, 0), (58, .iinc 3 1, 61, 3, 0, 0), (61, .goto (-43), 64, 18, 0, 0), (64, .iinc 2 1, 67, 2, 0, 0), (67, .goto (-59), 70, 8, 0, 0)]
def mc246_1 : List (Nat × Ins) := [(70, .iload_n 1, 71, 1, 0, 0), (71, .ireturn, 72, 0, 0, 0)]
def mc246 : List (Nat × Ins) := mc246_0 ++ mc246_1
-- 247: LikeYearsModel.drift(II)J
def mc247_0 : List (Nat × Ins) := [(0, .iload_n 1, 1, 1, 0, 0), (1, .ifCond .lt 16, 4, 17, 0, 0), (4, .iload_n 1, 5, 1, 0, 0), (5, .bipush 99, 7, 0, 0, 0), (7, .if_icmp .gt 10, 10, 17, 0, 0), (10, .iload_n 2, 11, 2, 0, 0), (11, .invokestatic 446, 14, 213, 1832, 0), (14, .ifCond .ne 7, 17, 21, 0, 0), (17, .ldc2_w 475, 20, 0, 1904, -1000000000000), (20, .lreturn, 21, 0, 0, 0), (21, .aload_n 0, 22, 0, 0, 0), (22, .invokevirtual 386, 25, 198, 1758, 0), (25, .aload_n 0, 26, 0, 0, 0), (26, .aload_n 0, 27, 0, 0, 0), (27, .invokevirtual 440, 30, 219, 1817, 0), (30, .invokevirtual 451, 33, 217, 1836, 0), (33, .aload_n 0, 34, 0, 0, 0), (34, .lconst 0, 35, 0, 0, 0), (35, .lconst 1, 36, 0, 0, 0), (36, .invokevirtual 412, 39, 211, 1840, 0), (39, .iconst 0, 40, 0, 0, 0), (40, .istore_n 3, 41, 3, 0, 0), (41, .iload_n 3, 42, 3, 0, 0), (42, .aload_n 0, 43, 0, 0, 0), (43, .getfield 353, 46, 12, 38, 1403), (46, .if_icmp .ge 58, 49, 104, 0, 0), (49, .aload_n 0, 50, 0, 0, 0), (50, .getfield 67, 53, 12, 31, 1396), (53, .iload_n 3, 54, 3, 0, 0), (54, .iaload, 55, 0, 0, 0), (55, .iload_n 1, 56, 1, 0, 0), (56, .if_icmp .ne 42, 59, 98, 0, 0), (59, .aload_n 0, 60, 0, 0, 0), (60, .aload_n 0, 61, 0, 0, 0), (61, .getfield 73, 64, 12, 33, 1398), (64, .iload_n 3, 65, 3, 0, 0), (65, .iaload, 66, 0, 0, 0), (66, .i2l, 67, 0, 0, 0), (67, .aload_n 0, 68, 0, 0, 0), (68, .getfield 70, 71, 12, 32, 1397)]
def mc247_1 : List (Nat × Ins) := [(71, .iload_n 3, 72, 3, 0, 0), (72, .iaload, 73, 0, 0, 0), (73, .i2l, 74, 0, 0, 0), (74, .aload_n 0, 75, 0, 0, 0), (75, .getfield 107, 78, 12, 50, 1415), (78, .iload_n 3, 79, 3, 0, 0), (79, .laload, 80, 0, 0, 0), (80, .lmul, 81, 0, 0, 0), (81, .aload_n 0, 82, 0, 0, 0), (82, .getfield 104, 85, 12, 49, 1414), (85, .iload_n 3, 86, 3, 0, 0), (86, .laload, 87, 0, 0, 0), (87, .lsub, 88, 0, 0, 0), (88, .lmul, 89, 0, 0, 0), (89, .aload_n 0, 90, 0, 0, 0), (90, .getfield 107, 93, 12, 50, 1415), (93, .iload_n 3, 94, 3, 0, 0), (94, .laload, 95, 0, 0, 0), (95, .invokevirtual 425, 98, 212, 1851, 0), (98, .iinc 3 1, 101, 3, 0, 0), (101, .goto (-60), 104, 41, 0, 0), (104, .aload_n 0, 105, 0, 0, 0), (105, .iload_n 2, 106, 2, 0, 0), (106, .invokevirtual 462, 109, 214, 1872, 0), (109, .lreturn, 110, 0, 0, 0)]
def mc247 : List (Nat × Ins) := mc247_0 ++ mc247_1
-- 248: LikeYearsModel.isMonths(I)Z
def mc248 : List (Nat × Ins) := [(0, .iload_n 0, 1, 0, 0, 0), (1, .ifCond .lt 14, 4, 15, 0, 0), (4, .iload_n 0, 5, 0, 0, 0), (5, .sipush 240, 8, 0, 0, 0), (8, .if_icmp .gt 7, 11, 15, 0, 0), (11, .iconst 1, 12, 0, 0, 0), (12, .goto 4, 15, 16, 0, 0), (15, .iconst 0, 16, 0, 0, 0), (16, .ireturn, 17, 0, 0, 0)]
-- 249: LikeYearsModel.law(IIIII)I
def mc249_0 : List (Nat × Ins) := [(0, .aload_n 0, 1, 0, 0, 0), (1, .iload_n 1, 2, 1, 0, 0), (2, .invokevirtual 469, 5, 201, 1896, 0), (5, .ifCond .eq 49, 8, 54, 0, 0), (8, .iload_n 2, 9, 2, 0, 0), (9, .ifCond .lt 45, 12, 54, 0, 0), (12, .iload_n 2, 13, 2, 0, 0), (13, .aload_n 0, 14, 0, 0, 0), (14, .getfield 58, 17, 12, 28, 1393), (17, .iload_n 1, 18, 1, 0, 0), (18, .iaload, 19, 0, 0, 0), (19, .if_icmp .gt 35, 22, 54, 0, 0), (22, .iload_n 3, 23, 3, 0, 0), (23, .invokestatic 493, 26, 248, 1960, 0), (26, .ifCond .eq 28, 29, 54, 0, 0), (29, .iload 4, 31, 4, 0, 0), (31, .invokestatic 493, 34, 248, 1960, 0), (34, .ifCond .eq 20, 37, 54, 0, 0), (37, .iload 4, 39, 4, 0, 0), (39, .iload_n 3, 40, 3, 0, 0), (40, .if_icmp .lt 14, 43, 54, 0, 0), (43, .iload 5, 45, 5, 0, 0), (45, .ifCond .lt 9, 48, 54, 0, 0), (48, .iload 5, 50, 5, 0, 0), (50, .iconst 1, 51, 0, 0, 0), (51, .if_icmp .le 5, 54, 56, 0, 0), (54, .iconst (-1), 55, 0, 0, 0), (55, .ireturn, 56, 0, 0, 0), (56, .iconst 0, 57, 0, 0, 0), (57, .istore 6, 59, 6, 0, 0), (59, .iconst 0, 60, 0, 0, 0), (60, .istore 7, 62, 7, 0, 0), (62, .iconst 0, 63, 0, 0, 0), (63, .istore 8, 65, 8, 0, 0), (65, .iload 8, 67, 8, 0, 0), (67, .aload_n 0, 68, 0, 0, 0), (68, .getfield 353, 71, 12, 38, 1403), (71, .if_icmp .ge 101, 74, 172, 0, 0), (74, .aload_n 0, 75, 0, 0, 0), (75, .getfield 61, 78, 12, 29, 1394)]
def mc249_1 : List (Nat × Ins) := [(78, .bipush 6, 80, 0, 0, 0), (80, .iload 8, 82, 8, 0, 0), (82, .imul, 83, 0, 0, 0), (83, .iload_n 1, 84, 1, 0, 0), (84, .iadd, 85, 0, 0, 0), (85, .iaload, 86, 0, 0, 0), (86, .iload_n 2, 87, 2, 0, 0), (87, .if_icmp .ge 6, 90, 93, 0, 0), (90, .goto 76, 93, 166, 0, 0), (93, .aload_n 0, 94, 0, 0, 0), (94, .getfield 70, 97, 12, 32, 1397), (97, .iload 8, 99, 8, 0, 0), (99, .iaload, 100, 0, 0, 0), (100, .iload_n 3, 101, 3, 0, 0), (101, .if_icmp .ge 15, 104, 116, 0, 0), (104, .iload_n 3, 105, 3, 0, 0), (105, .aload_n 0, 106, 0, 0, 0), (106, .getfield 70, 109, 12, 32, 1397), (109, .iload 8, 111, 8, 0, 0), (111, .iaload, 112, 0, 0, 0), (112, .isub, 113, 0, 0, 0), (113, .goto 29, 116, 142, 0, 0), (116, .aload_n 0, 117, 0, 0, 0), (117, .getfield 70, 120, 12, 32, 1397), (120, .iload 8, 122, 8, 0, 0), (122, .iaload, 123, 0, 0, 0), (123, .iload 4, 125, 4, 0, 0), (125, .if_icmp .le 16, 128, 141, 0, 0), (128, .aload_n 0, 129, 0, 0, 0), (129, .getfield 70, 132, 12, 32, 1397), (132, .iload 8, 134, 8, 0, 0), (134, .iaload, 135, 0, 0, 0), (135, .iload 4, 137, 4, 0, 0), (137, .isub, 138, 0, 0, 0), (138, .goto 4, 141, 142, 0, 0), (141, .iconst 0, 142, 0, 0, 0), (142, .istore 9, 144, 9, 0, 0), (144, .iload 6, 146, 6, 0, 0), (146, .iload 9, 148, 9, 0, 0), (148, .ifCond .le 7, 151, 155, 0, 0)]
def mc249_2 : List (Nat × Ins) := [(151, .iconst 1, 152, 0, 0, 0), (152, .goto 4, 155, 156, 0, 0), (155, .iconst 0, 156, 0, 0, 0), (156, .iadd, 157, 0, 0, 0), (157, .istore 6, 159, 6, 0, 0), (159, .iload 7, 161, 7, 0, 0), (161, .iload 9, 163, 9, 0, 0), (163, .iadd, 164, 0, 0, 0), (164, .istore 7, 166, 7, 0, 0), (166, .iinc 8 1, 169, 8, 0, 0), (169, .goto (-104), 172, 65, 0, 0), (172, .iload 5, 174, 5, 0, 0), (174, .ifCond .ne 8, 177, 182, 0, 0), (177, .iload 6, 179, 6, 0, 0), (179, .goto 5, 182, 184, 0, 0), (182, .iload 7, 184, 7, 0, 0), (184, .ireturn, 185, 0, 0, 0)]
def mc249 : List (Nat × Ins) := mc249_0 ++ mc249_1 ++ mc249_2
-- 250: LikeYearsModel.mercy(I)I
def mc250_0 : List (Nat × Ins) := [(0, .iload_n 1, 1, 1, 0, 0), (1, .ifCond .lt 8, 4, 9, 0, 0), (4, .iload_n 1, 5, 1, 0, 0), (5, .iconst 1, 6, 0, 0, 0), (6, .if_icmp .le 5, 9, 11, 0, 0), (9, .iconst (-1), 10, 0, 0, 0), (10, .ireturn, 11, 0, 0, 0), (11, .iconst (-1), 12, 0, 0, 0), (12, .istore_n 2, 13, 2, 0, 0), (13, .iconst 0, 14, 0, 0, 0), (14, .istore_n 3, 15, 3, 0, 0), (15, .iconst 0, 16, 0, 0, 0), (16, .istore 4, 18, 4, 0, 0), (18, .iload 4, 20, 4, 0, 0), (20, .aload_n 0, 21, 0, 0, 0), (21, .getfield 350, 24, 12, 37, 1402), (24, .if_icmp .ge 61, 27, 85, 0, 0), (27, .aload_n 0, 28, 0, 0, 0), (28, .getfield 82, 31, 12, 36, 1401), (31, .iload 4, 33, 4, 0, 0), (33, .baload, 34, 0, 0, 0), (34, .ifCond .eq 6, 37, 40, 0, 0), (37, .goto 42, 40, 79, 0, 0), (40, .aload_n 0, 41, 0, 0, 0), (41, .aload_n 0, 42, 0, 0, 0), (42, .invokevirtual 376, 45, 196, 1762, 0), (45, .iconst 1, 46, 0, 0, 0), (46, .iload 4, 48, 4, 0, 0), (48, .ishl, 49, 0, 0, 0), (49, .ior, 50, 0, 0, 0), (50, .iconst 1, 51, 0, 0, 0), (51, .invokevirtual 379, 54, 197, 1766, 0), (54, .aload_n 0, 55, 0, 0, 0), (55, .invokevirtual 396, 58, 206, 1786, 0), (58, .istore 5, 60, 5, 0, 0), (60, .iload_n 2, 61, 2, 0, 0), (61, .ifCond .lt 12, 64, 73, 0, 0), (64, .iload 5, 66, 5, 0, 0), (66, .iload_n 3, 67, 3, 0, 0), (67, .if_icmp .lt 6, 70, 73, 0, 0)]
def mc250_1 : List (Nat × Ins) := [(70, .goto 9, 73, 79, 0, 0), (73, .iload 4, 75, 4, 0, 0), (75, .istore_n 2, 76, 2, 0, 0), (76, .iload 5, 78, 5, 0, 0), (78, .istore_n 3, 79, 3, 0, 0), (79, .iinc 4 1, 82, 4, 0, 0), (82, .goto (-64), 85, 18, 0, 0), (85, .iload_n 2, 86, 2, 0, 0), (86, .ifCond .ge 7, 89, 93, 0, 0), (89, .iconst (-1), 90, 0, 0, 0), (90, .goto 12, 93, 102, 0, 0), (93, .iload_n 1, 94, 1, 0, 0), (94, .ifCond .ne 7, 97, 101, 0, 0), (97, .iload_n 2, 98, 2, 0, 0), (98, .goto 4, 101, 102, 0, 0), (101, .iload_n 3, 102, 3, 0, 0), (102, .ireturn, 103, 0, 0, 0)]
def mc250 : List (Nat × Ins) := mc250_0 ++ mc250_1
-- 251: LikeYearsModel.note(II)V
def mc251 : List (Nat × Ins) := [(0, .aload_n 0, 1, 0, 0, 0), (1, .getfield 125, 4, 12, 56, 1421), (4, .aload_n 0, 5, 0, 0, 0), (5, .getfield 496, 8, 12, 68, 1433), (8, .iload_n 1, 9, 1, 0, 0), (9, .iastore, 10, 0, 0, 0), (10, .aload_n 0, 11, 0, 0, 0), (11, .getfield 128, 14, 12, 57, 1422), (14, .aload_n 0, 15, 0, 0, 0), (15, .getfield 496, 18, 12, 68, 1433), (18, .iload_n 2, 19, 2, 0, 0), (19, .iastore, 20, 0, 0, 0), (20, .aload_n 0, 21, 0, 0, 0), (21, .dup, 22, 0, 0, 0), (22, .getfield 496, 25, 12, 68, 1433), (25, .iconst 1, 26, 0, 0, 0), (26, .iadd, 27, 0, 0, 0), (27, .putfield 496, 30, 12, 68, 1433), (30, .return_, 31, 0, 0, 0)]
-- 252: LikeYearsModel.upper()I
def mc252 : List (Nat × Ins) := [(0, .aload_n 0, 1, 0, 0, 0), (1, .getfield 499, 4, 12, 72, 1437), (4, .ifCond .ne 8, 7, 12, 0, 0), (7, .bipush 30, 9, 0, 0, 0), (9, .goto 14, 12, 23, 0, 0), (12, .aload_n 0, 13, 0, 0, 0), (13, .getfield 155, 16, 12, 66, 1431), (16, .aload_n 0, 17, 0, 0, 0), (17, .getfield 499, 20, 12, 72, 1437), (20, .iconst 1, 21, 0, 0, 0), (21, .isub, 22, 0, 0, 0), (22, .iaload, 23, 0, 0, 0), (23, .ireturn, 24, 0, 0, 0)]
-- 253: LikeYearsModel.hold(I)V
def mc253 : List (Nat × Ins) := [(0, .aload_n 0, 1, 0, 0, 0), (1, .getfield 155, 4, 12, 66, 1431), (4, .aload_n 0, 5, 0, 0, 0), (5, .getfield 499, 8, 12, 72, 1437), (8, .iload_n 1, 9, 1, 0, 0), (9, .iastore, 10, 0, 0, 0), (10, .aload_n 0, 11, 0, 0, 0), (11, .dup, 12, 0, 0, 0), (12, .getfield 499, 15, 12, 72, 1437), (15, .iconst 1, 16, 0, 0, 0), (16, .iadd, 17, 0, 0, 0), (17, .putfield 499, 20, 12, 72, 1437), (20, .iload_n 1, 21, 1, 0, 0), (21, .bipush 30, 23, 0, 0, 0), (23, .if_icmp .eq 9, 26, 32, 0, 0), (26, .iload_n 1, 27, 1, 0, 0), (27, .bipush 22, 29, 0, 0, 0), (29, .if_icmp .ne 13, 32, 42, 0, 0), (32, .aload_n 0, 33, 0, 0, 0), (33, .dup, 34, 0, 0, 0), (34, .getfield 502, 37, 12, 73, 1438), (37, .iconst 1, 38, 0, 0, 0), (38, .iadd, 39, 0, 0, 0), (39, .putfield 502, 42, 12, 73, 1438), (42, .return_, 43, 0, 0, 0)]
-- 254: LikeYearsModel.pop()V
def mc254 : List (Nat × Ins) := [(0, .aload_n 0, 1, 0, 0, 0), (1, .dup, 2, 0, 0, 0), (2, .getfield 499, 5, 12, 72, 1437), (5, .iconst 1, 6, 0, 0, 0), (6, .isub, 7, 0, 0, 0), (7, .putfield 499, 10, 12, 72, 1437), (10, .aload_n 0, 11, 0, 0, 0), (11, .getfield 155, 14, 12, 66, 1431), (14, .aload_n 0, 15, 0, 0, 0), (15, .getfield 499, 18, 12, 72, 1437), (18, .iaload, 19, 0, 0, 0), (19, .bipush 22, 21, 0, 0, 0), (21, .if_icmp .ne 13, 24, 34, 0, 0), (24, .aload_n 0, 25, 0, 0, 0), (25, .dup, 26, 0, 0, 0), (26, .getfield 502, 29, 12, 73, 1438), (29, .iconst 1, 30, 0, 0, 0), (30, .isub, 31, 0, 0, 0), (31, .putfield 502, 34, 12, 73, 1438), (34, .aload_n 0, 35, 0, 0, 0), (35, .aload_n 0, 36, 0, 0, 0), (36, .getfield 155, 39, 12, 66, 1431), (39, .aload_n 0, 40, 0, 0, 0), (40, .getfield 499, 43, 12, 72, 1437), (43, .iaload, 44, 0, 0, 0), (44, .iconst 0, 45, 0, 0, 0), (45, .invokevirtual 505, 48, 251, 1995, 0), (48, .return_, 49, 0, 0, 0)]
-- 255: LikeYearsModel.settle(I)V
def mc255 : List (Nat × Ins) := [(0, .aload_n 0, 1, 0, 0, 0), (1, .invokevirtual 508, 4, 252, 1987, 0), (4, .bipush 30, 6, 0, 0, 0), (6, .if_icmp .eq 18, 9, 24, 0, 0), (9, .aload_n 0, 10, 0, 0, 0), (10, .invokevirtual 508, 13, 252, 1987, 0), (13, .iload_n 1, 14, 1, 0, 0), (14, .if_icmp .lt 10, 17, 24, 0, 0), (17, .aload_n 0, 18, 0, 0, 0), (18, .invokevirtual 511, 21, 254, 1991, 0), (21, .goto (-21), 24, 0, 0, 0), (24, .return_, 25, 0, 0, 0)]
-- 256: LikeYearsModel.isOpen()Z
def mc256 : List (Nat × Ins) := [(0, .iconst 0, 1, 0, 0, 0), (1, .istore_n 1, 2, 1, 0, 0), (2, .iconst 0, 3, 0, 0, 0), (3, .istore_n 2, 4, 2, 0, 0), (4, .iload_n 2, 5, 2, 0, 0), (5, .aload_n 0, 6, 0, 0, 0), (6, .getfield 499, 9, 12, 72, 1437), (9, .if_icmp .ge 30, 12, 39, 0, 0), (12, .iload_n 1, 13, 1, 0, 0), (13, .ifCond .ne 14, 16, 27, 0, 0), (16, .aload_n 0, 17, 0, 0, 0), (17, .getfield 155, 20, 12, 66, 1431), (20, .iload_n 2, 21, 2, 0, 0), (21, .iaload, 22, 0, 0, 0), (22, .bipush 30, 24, 0, 0, 0), (24, .if_icmp .ne 7, 27, 31, 0, 0), (27, .iconst 1, 28, 0, 0, 0), (28, .goto 4, 31, 32, 0, 0), (31, .iconst 0, 32, 0, 0, 0), (32, .istore_n 1, 33, 1, 0, 0), (33, .iinc 2 1, 36, 2, 0, 0), (36, .goto (-32), 39, 4, 0, 0), (39, .iload_n 1, 40, 1, 0, 0), (40, .ireturn, 41, 0, 0, 0)]
-- 257: LikeYearsModel.rank(I)I
def mc257 : List (Nat × Ins) := [(0, .iload_n 0, 1, 0, 0, 0), (1, .bipush 27, 3, 0, 0, 0), (3, .if_icmp .ne 8, 6, 11, 0, 0), (6, .bipush 26, 8, 0, 0, 0), (8, .goto 21, 11, 29, 0, 0), (11, .iload_n 0, 12, 0, 0, 0), (12, .bipush 24, 14, 0, 0, 0), (14, .if_icmp .eq 9, 17, 23, 0, 0), (17, .iload_n 0, 18, 0, 0, 0), (18, .bipush 25, 20, 0, 0, 0), (20, .if_icmp .ne 8, 23, 28, 0, 0), (23, .bipush 23, 25, 0, 0, 0), (25, .goto 4, 28, 29, 0, 0), (28, .iload_n 0, 29, 0, 0, 0), (29, .ireturn, 30, 0, 0, 0)]
-- 258: LikeYearsModel.known()I
def mc258 : List (Nat × Ins) := [(0, .aload_n 0, 1, 0, 0, 0), (1, .ldc2_w 256, 4, 0, 1697, 457236047717), (4, .invokevirtual 280, 7, 177, 1668, 0), (7, .ifCond .eq 7, 10, 14, 0, 0), (10, .iconst 2, 11, 0, 0, 0), (11, .goto 46, 14, 57, 0, 0), (14, .aload_n 0, 15, 0, 0, 0), (15, .ldc2_w 258, 18, 0, 1698, 26990), (18, .invokevirtual 280, 21, 177, 1668, 0), (21, .ifCond .eq 7, 24, 28, 0, 0), (24, .iconst 3, 25, 0, 0, 0), (25, .goto 32, 28, 57, 0, 0), (28, .aload_n 0, 29, 0, 0, 0), (29, .ldc2_w 260, 32, 0, 1699, 444150998382), (32, .invokevirtual 280, 35, 177, 1668, 0), (35, .ifCond .eq 7, 38, 42, 0, 0), (38, .iconst 4, 39, 0, 0, 0), (39, .goto 18, 42, 57, 0, 0), (42, .aload_n 0, 43, 0, 0, 0), (43, .ldc2_w 262, 46, 0, 1700, 131277443786868), (46, .invokevirtual 280, 49, 177, 1668, 0), (49, .ifCond .eq 7, 52, 56, 0, 0), (52, .iconst 5, 53, 0, 0, 0), (53, .goto 4, 56, 57, 0, 0), (56, .iconst (-1), 57, 0, 0, 0), (57, .ireturn, 58, 0, 0, 0)]
-- 259: LikeYearsModel.named()I
def mc259 : List (Nat × Ins) := [(0, .iconst (-1), 1, 0, 0, 0), (1, .istore_n 1, 2, 1, 0, 0), (2, .iconst 0, 3, 0, 0, 0), (3, .istore_n 2, 4, 2, 0, 0), (4, .iload_n 2, 5, 2, 0, 0), (5, .aload_n 0, 6, 0, 0, 0), (6, .getfield 350, 9, 12, 37, 1402), (9, .if_icmp .ge 29, 12, 38, 0, 0), (12, .aload_n 0, 13, 0, 0, 0), (13, .getfield 85, 16, 12, 41, 1406), (16, .iload_n 2, 17, 2, 0, 0), (17, .laload, 18, 0, 0, 0), (18, .aload_n 0, 19, 0, 0, 0), (19, .getfield 217, 22, 12, 9, 1374), (22, .lcmp, 23, 0, 0, 0), (23, .ifCond .ne 7, 26, 30, 0, 0), (26, .iload_n 2, 27, 2, 0, 0), (27, .goto 4, 30, 31, 0, 0), (30, .iload_n 1, 31, 1, 0, 0), (31, .istore_n 1, 32, 1, 0, 0), (32, .iinc 2 1, 35, 2, 0, 0), (35, .goto (-31), 38, 4, 0, 0), (38, .iload_n 1, 39, 1, 0, 0), (39, .ireturn, 40, 0, 0, 0)]
-- 260: LikeYearsModel.operand(I)I
def mc260_0 : List (Nat × Ins) := [(0, .iload_n 1, 1, 1, 0, 0), (1, .ifCond .ne 17, 4, 18, 0, 0), (4, .aload_n 0, 5, 0, 0, 0), (5, .ldc2_w 278, 8, 0, 1693, 7237492), (8, .invokevirtual 280, 11, 177, 1668, 0), (11, .ifCond .eq 7, 14, 18, 0, 0), (14, .iconst 1, 15, 0, 0, 0), (15, .goto 4, 18, 19, 0, 0), (18, .iconst 0, 19, 0, 0, 0), (19, .istore_n 2, 20, 2, 0, 0), (20, .aload_n 0, 21, 0, 0, 0), (21, .invokevirtual 514, 24, 258, 2010, 0), (24, .istore_n 3, 25, 3, 0, 0), (25, .aload_n 0, 26, 0, 0, 0), (26, .invokevirtual 296, 29, 178, 1680, 0), (29, .istore 4, 31, 4, 0, 0), (31, .aload_n 0, 32, 0, 0, 0), (32, .getfield 224, 35, 12, 6, 1371), (35, .iconst 2, 36, 0, 0, 0), (36, .if_icmp .eq 21, 39, 57, 0, 0), (39, .aload_n 0, 40, 0, 0, 0), (40, .getfield 224, 43, 12, 6, 1371), (43, .bipush 40, 45, 0, 0, 0), (45, .if_icmp .eq 12, 48, 57, 0, 0), (48, .iload_n 3, 49, 3, 0, 0), (49, .ifCond .ge 8, 52, 57, 0, 0), (52, .iload 4, 54, 4, 0, 0), (54, .ifCond .eq 7, 57, 61, 0, 0), (57, .iconst 1, 58, 0, 0, 0), (58, .goto 4, 61, 62, 0, 0), (61, .iconst 0, 62, 0, 0, 0), (62, .istore 5, 64, 5, 0, 0), (64, .iload_n 2, 65, 2, 0, 0), (65, .ifCond .ne 8, 68, 73, 0, 0), (68, .iload 5, 70, 5, 0, 0), (70, .ifCond .eq 39, 73, 109, 0, 0), (73, .iload 5, 75, 5, 0, 0), (75, .ifCond .eq 12, 78, 87, 0, 0), (78, .aload_n 0, 79, 0, 0, 0), (79, .getfield 517, 82, 12, 71, 1436)]
def mc260_1 : List (Nat × Ins) := [(82, .bipush 50, 84, 0, 0, 0), (84, .if_icmp .eq 25, 87, 109, 0, 0), (87, .iload_n 2, 88, 2, 0, 0), (88, .ifCond .ne 12, 91, 100, 0, 0), (91, .aload_n 0, 92, 0, 0, 0), (92, .getfield 224, 95, 12, 6, 1371), (95, .bipush 40, 97, 0, 0, 0), (97, .if_icmp .ne 20, 100, 117, 0, 0), (100, .aload_n 0, 101, 0, 0, 0), (101, .getfield 502, 104, 12, 73, 1438), (104, .bipush 7, 106, 0, 0, 0), (106, .if_icmp .lt 11, 109, 117, 0, 0), (109, .aload_n 0, 110, 0, 0, 0), (110, .iconst 2, 111, 0, 0, 0), (111, .invokevirtual 284, 114, 176, 1703, 0), (114, .goto 20, 117, 134, 0, 0), (117, .iload 4, 119, 4, 0, 0), (119, .ifCond .eq 15, 122, 134, 0, 0), (122, .aload_n 0, 123, 0, 0, 0), (123, .invokevirtual 520, 126, 259, 2014, 0), (126, .ifCond .ge 8, 129, 134, 0, 0), (129, .aload_n 0, 130, 0, 0, 0), (130, .iconst 5, 131, 0, 0, 0), (131, .invokevirtual 284, 134, 176, 1703, 0), (134, .aload_n 0, 135, 0, 0, 0), (135, .getfield 241, 138, 12, 2, 1367), (138, .ifCond .le 5, 141, 143, 0, 0), (141, .iload_n 1, 142, 1, 0, 0), (142, .ireturn, 143, 0, 0, 0), (143, .iload_n 2, 144, 2, 0, 0), (144, .ifCond .eq 15, 147, 159, 0, 0), (147, .aload_n 0, 148, 0, 0, 0), (148, .bipush 22, 150, 0, 0, 0), (150, .invokevirtual 523, 153, 253, 2002, 0), (153, .aload_n 0, 154, 0, 0, 0), (154, .invokevirtual 287, 157, 175, 1646, 0), (157, .iconst 0, 158, 0, 0, 0), (158, .ireturn, 159, 0, 0, 0), (159, .aload_n 0, 160, 0, 0, 0), (160, .dup, 161, 0, 0, 0)]
def mc260_2 : List (Nat × Ins) := [(161, .getfield 517, 164, 12, 71, 1436), (164, .iconst 1, 165, 0, 0, 0), (165, .iadd, 166, 0, 0, 0), (166, .putfield 517, 169, 12, 71, 1436), (169, .aload_n 0, 170, 0, 0, 0), (170, .getfield 224, 173, 12, 6, 1371), (173, .bipush 40, 175, 0, 0, 0), (175, .if_icmp .ne 15, 178, 190, 0, 0), (178, .aload_n 0, 179, 0, 0, 0), (179, .bipush 30, 181, 0, 0, 0), (181, .invokevirtual 523, 184, 253, 2002, 0), (184, .aload_n 0, 185, 0, 0, 0), (185, .invokevirtual 287, 188, 175, 1646, 0), (188, .iconst 0, 189, 0, 0, 0), (189, .ireturn, 190, 0, 0, 0), (190, .aload_n 0, 191, 0, 0, 0), (191, .iload 4, 193, 4, 0, 0), (193, .ifCond .eq 7, 196, 200, 0, 0), (196, .iconst 1, 197, 0, 0, 0), (197, .goto 12, 200, 209, 0, 0), (200, .iload_n 3, 201, 3, 0, 0), (201, .ifCond .ge 7, 204, 208, 0, 0), (204, .iconst 0, 205, 0, 0, 0), (205, .goto 4, 208, 209, 0, 0), (208, .iload_n 3, 209, 3, 0, 0), (209, .iload 4, 211, 4, 0, 0), (211, .ifCond .eq 10, 214, 221, 0, 0), (214, .aload_n 0, 215, 0, 0, 0), (215, .invokevirtual 520, 218, 259, 2014, 0), (218, .goto 7, 221, 225, 0, 0), (221, .aload_n 0, 222, 0, 0, 0), (222, .getfield 221, 225, 12, 8, 1373), (225, .invokevirtual 505, 228, 251, 1995, 0), (228, .aload_n 0, 229, 0, 0, 0), (229, .invokevirtual 287, 232, 175, 1646, 0), (232, .iconst 2, 233, 0, 0, 0), (233, .ireturn, 234, 0, 0, 0)]
def mc260 : List (Nat × Ins) := mc260_0 ++ mc260_1 ++ mc260_2
-- 261: LikeYearsModel.sign()I
def mc261_0 : List (Nat × Ins) := [(0, .aload_n 0, 1, 0, 0, 0), (1, .getfield 224, 4, 12, 6, 1371), (4, .bipush 43, 6, 0, 0, 0), (6, .if_icmp .ne 8, 9, 14, 0, 0), (9, .bipush 26, 11, 0, 0, 0), (11, .goto 104, 14, 115, 0, 0), (14, .aload_n 0, 15, 0, 0, 0), (15, .getfield 224, 18, 12, 6, 1371), (18, .bipush 45, 20, 0, 0, 0), (20, .if_icmp .ne 8, 23, 28, 0, 0), (23, .bipush 27, 25, 0, 0, 0), (25, .goto 90, 28, 115, 0, 0), (28, .aload_n 0, 29, 0, 0, 0), (29, .getfield 224, 32, 12, 6, 1371), (32, .bipush 42, 34, 0, 0, 0), (34, .if_icmp .ne 8, 37, 42, 0, 0), (37, .bipush 28, 39, 0, 0, 0), (39, .goto 76, 42, 115, 0, 0), (42, .aload_n 0, 43, 0, 0, 0), (43, .getfield 224, 46, 12, 6, 1371), (46, .bipush 61, 48, 0, 0, 0), (48, .if_icmp .ne 8, 51, 56, 0, 0), (51, .bipush 23, 53, 0, 0, 0), (53, .goto 62, 56, 115, 0, 0), (56, .aload_n 0, 57, 0, 0, 0), (57, .getfield 224, 60, 12, 6, 1371), (60, .bipush 60, 62, 0, 0, 0), (62, .if_icmp .ne 8, 65, 70, 0, 0), (65, .bipush 24, 67, 0, 0, 0), (67, .goto 48, 70, 115, 0, 0), (70, .aload_n 0, 71, 0, 0, 0), (71, .getfield 224, 74, 12, 6, 1371), (74, .bipush 62, 76, 0, 0, 0), (76, .if_icmp .ne 8, 79, 84, 0, 0), (79, .bipush 25, 81, 0, 0, 0), (81, .goto 34, 84, 115, 0, 0), (84, .aload_n 0, 85, 0, 0, 0), (85, .ldc2_w 276, 88, 0, 1692, 6385252), (88, .invokevirtual 280, 91, 177, 1668, 0), (91, .ifCond .eq 8, 94, 99, 0, 0)]
def mc261_1 : List (Nat × Ins) := [(94, .bipush 21, 96, 0, 0, 0), (96, .goto 19, 99, 115, 0, 0), (99, .aload_n 0, 100, 0, 0, 0), (100, .ldc2_w 274, 103, 0, 1691, 28530), (103, .invokevirtual 280, 106, 177, 1668, 0), (106, .ifCond .eq 8, 109, 114, 0, 0), (109, .bipush 20, 111, 0, 0, 0), (111, .goto 4, 114, 115, 0, 0), (114, .iconst (-1), 115, 0, 0, 0), (115, .istore_n 1, 116, 1, 0, 0), (116, .aload_n 0, 117, 0, 0, 0), (117, .getfield 224, 120, 12, 6, 1371), (120, .bipush 41, 122, 0, 0, 0), (122, .if_icmp .ne 41, 125, 163, 0, 0), (125, .aload_n 0, 126, 0, 0, 0), (126, .invokevirtual 526, 129, 256, 1975, 0), (129, .ifCond .eq 34, 132, 163, 0, 0), (132, .aload_n 0, 133, 0, 0, 0), (133, .iconst 0, 134, 0, 0, 0), (134, .invokevirtual 529, 137, 255, 1983, 0), (137, .aload_n 0, 138, 0, 0, 0), (138, .dup, 139, 0, 0, 0), (139, .getfield 499, 142, 12, 72, 1437), (142, .iconst 1, 143, 0, 0, 0), (143, .isub, 144, 0, 0, 0), (144, .putfield 499, 147, 12, 72, 1437), (147, .aload_n 0, 148, 0, 0, 0), (148, .dup, 149, 0, 0, 0), (149, .getfield 502, 152, 12, 73, 1438), (152, .iconst 1, 153, 0, 0, 0), (153, .isub, 154, 0, 0, 0), (154, .putfield 502, 157, 12, 73, 1438), (157, .aload_n 0, 158, 0, 0, 0), (158, .invokevirtual 287, 161, 175, 1646, 0), (161, .iconst 2, 162, 0, 0, 0), (162, .ireturn, 163, 0, 0, 0), (163, .iload_n 1, 164, 1, 0, 0), (164, .ifCond .ge 10, 167, 174, 0, 0), (167, .aload_n 0, 168, 0, 0, 0), (168, .iconst 2, 169, 0, 0, 0)]
def mc261_2 : List (Nat × Ins) := [(169, .invokevirtual 284, 172, 176, 1703, 0), (172, .iconst 2, 173, 0, 0, 0), (173, .ireturn, 174, 0, 0, 0), (174, .iload_n 1, 175, 1, 0, 0), (175, .invokestatic 532, 178, 257, 1999, 0), (178, .bipush 23, 180, 0, 0, 0), (180, .if_icmp .ne 29, 183, 209, 0, 0), (183, .aload_n 0, 184, 0, 0, 0), (184, .bipush 26, 186, 0, 0, 0), (186, .invokevirtual 529, 189, 255, 1983, 0), (189, .aload_n 0, 190, 0, 0, 0), (190, .invokevirtual 508, 193, 252, 1987, 0), (193, .invokestatic 532, 196, 257, 1999, 0), (196, .bipush 23, 198, 0, 0, 0), (198, .if_icmp .ne 19, 201, 217, 0, 0), (201, .aload_n 0, 202, 0, 0, 0), (202, .iconst 2, 203, 0, 0, 0), (203, .invokevirtual 284, 206, 176, 1703, 0), (206, .goto 11, 209, 217, 0, 0), (209, .aload_n 0, 210, 0, 0, 0), (210, .iload_n 1, 211, 1, 0, 0), (211, .invokestatic 532, 214, 257, 1999, 0), (214, .invokevirtual 529, 217, 255, 1983, 0), (217, .aload_n 0, 218, 0, 0, 0), (218, .getfield 241, 221, 12, 2, 1367), (221, .ifCond .le 5, 224, 226, 0, 0), (224, .iconst 2, 225, 0, 0, 0), (225, .ireturn, 226, 0, 0, 0), (226, .aload_n 0, 227, 0, 0, 0), (227, .iload_n 1, 228, 1, 0, 0), (228, .invokevirtual 523, 231, 253, 2002, 0), (231, .aload_n 0, 232, 0, 0, 0), (232, .invokevirtual 287, 235, 175, 1646, 0), (235, .iload_n 1, 236, 1, 0, 0), (236, .bipush 21, 238, 0, 0, 0), (238, .if_icmp .eq 9, 241, 247, 0, 0), (241, .iload_n 1, 242, 1, 0, 0), (242, .bipush 20, 244, 0, 0, 0), (244, .if_icmp .ne 7, 247, 251, 0, 0), (247, .iconst 0, 248, 0, 0, 0)]
def mc261_3 : List (Nat × Ins) := [(248, .goto 4, 251, 252, 0, 0), (251, .iconst 1, 252, 0, 0, 0), (252, .ireturn, 253, 0, 0, 0)]
def mc261 : List (Nat × Ins) := mc261_0 ++ mc261_1 ++ mc261_2 ++ mc261_3
-- 262: LikeYearsModel.readLaw()V
def mc262_0 : List (Nat × Ins) := [(0, .aload_n 0, 1, 0, 0, 0), (1, .getfield 535, 4, 12, 69, 1434), (4, .bipush 8, 6, 0, 0, 0), (6, .if_icmp .ne 8, 9, 14, 0, 0), (9, .aload_n 0, 10, 0, 0, 0), (10, .iconst 2, 11, 0, 0, 0), (11, .invokevirtual 284, 14, 176, 1703, 0), (14, .aload_n 0, 15, 0, 0, 0), (15, .ldc2_w 268, 18, 0, 1688, 2003330414), (18, .invokevirtual 310, 21, 180, 1715, 0), (21, .aload_n 0, 22, 0, 0, 0), (22, .getfield 241, 25, 12, 2, 1367), (25, .ifCond .le 4, 28, 29, 0, 0), (28, .return_, 29, 0, 0, 0), (29, .aload_n 0, 30, 0, 0, 0), (30, .getfield 131, 33, 12, 58, 1423), (33, .aload_n 0, 34, 0, 0, 0), (34, .getfield 535, 37, 12, 69, 1434), (37, .aload_n 0, 38, 0, 0, 0), (38, .getfield 496, 41, 12, 68, 1433), (41, .iastore, 42, 0, 0, 0), (42, .aload_n 0, 43, 0, 0, 0), (43, .iconst 0, 44, 0, 0, 0), (44, .putfield 499, 47, 12, 72, 1437), (47, .aload_n 0, 48, 0, 0, 0), (48, .iconst 0, 49, 0, 0, 0), (49, .putfield 502, 52, 12, 73, 1438), (52, .iconst 0, 53, 0, 0, 0), (53, .istore_n 1, 54, 1, 0, 0), (54, .aload_n 0, 55, 0, 0, 0), (55, .getfield 241, 58, 12, 2, 1367), (58, .ifCond .ne 46, 61, 104, 0, 0), (61, .iload_n 1, 62, 1, 0, 0), (62, .iconst 2, 63, 0, 0, 0), (63, .if_icmp .ne 20, 66, 83, 0, 0), (66, .aload_n 0, 67, 0, 0, 0), (67, .ldc2_w 270, 70, 0, 1689, 465557353332), (70, .invokevirtual 280, 73, 177, 1668, 0), (73, .ifCond .eq 10, 76, 83, 0, 0), (76, .aload_n 0, 77, 0, 0, 0)]
def mc262_1 : List (Nat × Ins) := [(77, .invokevirtual 526, 80, 256, 1975, 0), (80, .ifCond .eq 24, 83, 104, 0, 0), (83, .iload_n 1, 84, 1, 0, 0), (84, .iconst 2, 85, 0, 0, 0), (85, .if_icmp .ne 10, 88, 95, 0, 0), (88, .aload_n 0, 89, 0, 0, 0), (89, .invokevirtual 538, 92, 261, 1979, 0), (92, .goto 8, 95, 100, 0, 0), (95, .aload_n 0, 96, 0, 0, 0), (96, .iload_n 1, 97, 1, 0, 0), (97, .invokevirtual 541, 100, 260, 2006, 0), (100, .istore_n 1, 101, 1, 0, 0), (101, .goto (-47), 104, 54, 0, 0), (104, .aload_n 0, 105, 0, 0, 0), (105, .getfield 241, 108, 12, 2, 1367), (108, .ifCond .le 4, 111, 112, 0, 0), (111, .return_, 112, 0, 0, 0), (112, .aload_n 0, 113, 0, 0, 0), (113, .iconst 0, 114, 0, 0, 0), (114, .invokevirtual 529, 117, 255, 1983, 0), (117, .aload_n 0, 118, 0, 0, 0), (118, .invokevirtual 287, 121, 175, 1646, 0), (121, .aload_n 0, 122, 0, 0, 0), (122, .getfield 134, 125, 12, 59, 1424), (125, .aload_n 0, 126, 0, 0, 0), (126, .getfield 535, 129, 12, 69, 1434), (129, .aload_n 0, 130, 0, 0, 0), (130, .iconst 0, 131, 0, 0, 0), (131, .sipush 240, 134, 0, 0, 0), (134, .invokevirtual 314, 137, 181, 1719, 0), (137, .iastore, 138, 0, 0, 0), (138, .aload_n 0, 139, 0, 0, 0), (139, .ldc2_w 272, 142, 0, 1690, 1836020596), (142, .invokevirtual 310, 145, 180, 1715, 0), (145, .aload_n 0, 146, 0, 0, 0), (146, .getfield 137, 149, 12, 60, 1425), (149, .aload_n 0, 150, 0, 0, 0), (150, .getfield 535, 153, 12, 69, 1434), (153, .aload_n 0, 154, 0, 0, 0), (154, .aload_n 0, 155, 0, 0, 0)]
def mc262_2 : List (Nat × Ins) := [(155, .getfield 134, 158, 12, 59, 1424), (158, .aload_n 0, 159, 0, 0, 0), (159, .getfield 535, 162, 12, 69, 1434), (162, .iaload, 163, 0, 0, 0), (163, .sipush 240, 166, 0, 0, 0), (166, .invokevirtual 314, 169, 181, 1719, 0), (169, .iastore, 170, 0, 0, 0), (170, .aload_n 0, 171, 0, 0, 0), (171, .getfield 241, 174, 12, 2, 1367), (174, .ifCond .ne 17, 177, 191, 0, 0), (177, .aload_n 0, 178, 0, 0, 0), (178, .getfield 224, 181, 12, 6, 1371), (181, .bipush 59, 183, 0, 0, 0), (183, .if_icmp .eq 8, 186, 191, 0, 0), (186, .aload_n 0, 187, 0, 0, 0), (187, .iconst 2, 188, 0, 0, 0), (188, .invokevirtual 284, 191, 176, 1703, 0), (191, .aload_n 0, 192, 0, 0, 0), (192, .getfield 241, 195, 12, 2, 1367), (195, .ifCond .le 4, 198, 199, 0, 0), (198, .return_, 199, 0, 0, 0), (199, .aload_n 0, 200, 0, 0, 0), (200, .invokevirtual 287, 203, 175, 1646, 0), (203, .aload_n 0, 204, 0, 0, 0), (204, .dup, 205, 0, 0, 0), (205, .getfield 535, 208, 12, 69, 1434), (208, .iconst 1, 209, 0, 0, 0), (209, .iadd, 210, 0, 0, 0), (210, .putfield 535, 213, 12, 69, 1434), (213, .aload_n 0, 214, 0, 0, 0), (214, .getfield 131, 217, 12, 58, 1423), (217, .aload_n 0, 218, 0, 0, 0), (218, .getfield 535, 221, 12, 69, 1434), (221, .aload_n 0, 222, 0, 0, 0), (222, .getfield 496, 225, 12, 68, 1433), (225, .iastore, 226, 0, 0, 0), (226, .return_, 227, 0, 0, 0)]
def mc262 : List (Nat × Ins) := mc262_0 ++ mc262_1 ++ mc262_2
-- 263: LikeYearsModel.laws()I
def mc263_0 : List (Nat × Ins) := [(0, .aload_n 0, 1, 0, 0, 0), (1, .getfield 197, 4, 12, 1, 1366), (4, .sipush 500, 7, 0, 0, 0), (7, .if_icmp .le 6, 10, 13, 0, 0), (10, .bipush (-2), 12, 0, 0, 0), (12, .ireturn, 13, 0, 0, 0), (13, .aload_n 0, 14, 0, 0, 0), (14, .iconst 1, 15, 0, 0, 0), (15, .putfield 234, 18, 12, 10, 1375), (18, .aload_n 0, 19, 0, 0, 0), (19, .aload_n 0, 20, 0, 0, 0), (20, .getfield 197, 23, 12, 1, 1366), (23, .putfield 207, 26, 12, 5, 1370), (26, .aload_n 0, 27, 0, 0, 0), (27, .iconst 0, 28, 0, 0, 0), (28, .putfield 197, 31, 12, 1, 1366), (31, .aload_n 0, 32, 0, 0, 0), (32, .iconst 0, 33, 0, 0, 0), (33, .putfield 204, 36, 12, 4, 1369), (36, .aload_n 0, 37, 0, 0, 0), (37, .iconst 0, 38, 0, 0, 0), (38, .putfield 241, 41, 12, 2, 1367), (41, .aload_n 0, 42, 0, 0, 0), (42, .iconst (-1), 43, 0, 0, 0), (43, .putfield 13, 46, 12, 3, 1368), (46, .aload_n 0, 47, 0, 0, 0), (47, .iconst 0, 48, 0, 0, 0), (48, .putfield 496, 51, 12, 68, 1433), (51, .aload_n 0, 52, 0, 0, 0), (52, .iconst 0, 53, 0, 0, 0), (53, .putfield 535, 56, 12, 69, 1434), (56, .aload_n 0, 57, 0, 0, 0), (57, .iconst 0, 58, 0, 0, 0), (58, .putfield 517, 61, 12, 71, 1436), (61, .aload_n 0, 62, 0, 0, 0), (62, .invokevirtual 287, 65, 175, 1646, 0), (65, .aload_n 0, 66, 0, 0, 0), (66, .getfield 241, 69, 12, 2, 1367), (69, .ifCond .ne 17, 72, 86, 0, 0), (72, .aload_n 0, 73, 0, 0, 0)]
def mc263_1 : List (Nat × Ins) := [(73, .getfield 224, 76, 12, 6, 1371), (76, .ifCond .eq 10, 79, 86, 0, 0), (79, .aload_n 0, 80, 0, 0, 0), (80, .invokevirtual 544, 83, 262, 1971, 0), (83, .goto (-18), 86, 65, 0, 0), (86, .aload_n 0, 87, 0, 0, 0), (87, .getfield 241, 90, 12, 2, 1367), (90, .ifCond .le 5, 93, 95, 0, 0), (93, .iconst (-1), 94, 0, 0, 0), (94, .ireturn, 95, 0, 0, 0), (95, .iconst 0, 96, 0, 0, 0), (96, .istore_n 1, 97, 1, 0, 0), (97, .iload_n 1, 98, 1, 0, 0), (98, .aload_n 0, 99, 0, 0, 0), (99, .getfield 496, 102, 12, 68, 1433), (102, .if_icmp .ge 33, 105, 135, 0, 0), (105, .aload_n 0, 106, 0, 0, 0), (106, .getfield 140, 109, 12, 61, 1426), (109, .iload_n 1, 110, 1, 0, 0), (110, .aload_n 0, 111, 0, 0, 0), (111, .getfield 125, 114, 12, 56, 1421), (114, .iload_n 1, 115, 1, 0, 0), (115, .iaload, 116, 0, 0, 0), (116, .iastore, 117, 0, 0, 0), (117, .aload_n 0, 118, 0, 0, 0), (118, .getfield 143, 121, 12, 62, 1427), (121, .iload_n 1, 122, 1, 0, 0), (122, .aload_n 0, 123, 0, 0, 0), (123, .getfield 128, 126, 12, 57, 1422), (126, .iload_n 1, 127, 1, 0, 0), (127, .iaload, 128, 0, 0, 0), (128, .iastore, 129, 0, 0, 0), (129, .iinc 1 1, 132, 1, 0, 0), (132, .goto (-35), 135, 97, 0, 0), (135, .iconst 0, 136, 0, 0, 0), (136, .istore_n 1, 137, 1, 0, 0), (137, .iload_n 1, 138, 1, 0, 0), (138, .aload_n 0, 139, 0, 0, 0), (139, .getfield 535, 142, 12, 69, 1434), (142, .if_icmp .ge 61, 145, 203, 0, 0)]
def mc263_2 : List (Nat × Ins) := [(145, .aload_n 0, 146, 0, 0, 0), (146, .getfield 146, 149, 12, 63, 1428), (149, .iload_n 1, 150, 1, 0, 0), (150, .aload_n 0, 151, 0, 0, 0), (151, .getfield 131, 154, 12, 58, 1423), (154, .iload_n 1, 155, 1, 0, 0), (155, .iaload, 156, 0, 0, 0), (156, .iastore, 157, 0, 0, 0), (157, .aload_n 0, 158, 0, 0, 0), (158, .getfield 146, 161, 12, 63, 1428), (161, .iload_n 1, 162, 1, 0, 0), (162, .iconst 1, 163, 0, 0, 0), (163, .iadd, 164, 0, 0, 0), (164, .aload_n 0, 165, 0, 0, 0), (165, .getfield 131, 168, 12, 58, 1423), (168, .iload_n 1, 169, 1, 0, 0), (169, .iconst 1, 170, 0, 0, 0), (170, .iadd, 171, 0, 0, 0), (171, .iaload, 172, 0, 0, 0), (172, .iastore, 173, 0, 0, 0), (173, .aload_n 0, 174, 0, 0, 0), (174, .getfield 149, 177, 12, 64, 1429), (177, .iload_n 1, 178, 1, 0, 0), (178, .aload_n 0, 179, 0, 0, 0), (179, .getfield 134, 182, 12, 59, 1424), (182, .iload_n 1, 183, 1, 0, 0), (183, .iaload, 184, 0, 0, 0), (184, .iastore, 185, 0, 0, 0), (185, .aload_n 0, 186, 0, 0, 0), (186, .getfield 152, 189, 12, 65, 1430), (189, .iload_n 1, 190, 1, 0, 0), (190, .aload_n 0, 191, 0, 0, 0), (191, .getfield 137, 194, 12, 60, 1425), (194, .iload_n 1, 195, 1, 0, 0), (195, .iaload, 196, 0, 0, 0), (196, .iastore, 197, 0, 0, 0), (197, .iinc 1 1, 200, 1, 0, 0), (200, .goto (-63), 203, 137, 0, 0), (203, .aload_n 0, 204, 0, 0, 0), (204, .aload_n 0, 205, 0, 0, 0)]
def mc263_3 : List (Nat × Ins) := [(205, .getfield 535, 208, 12, 69, 1434), (208, .putfield 347, 211, 12, 70, 1435), (211, .aload_n 0, 212, 0, 0, 0), (212, .getfield 347, 215, 12, 70, 1435), (215, .ireturn, 216, 0, 0, 0)]
def mc263 : List (Nat × Ins) := mc263_0 ++ mc263_1 ++ mc263_2 ++ mc263_3
-- 264: LikeYearsModel.worked(III)I
def mc264_0 : List (Nat × Ins) := [(0, .iload_n 0, 1, 0, 0, 0), (1, .tableswitch 116 20 27 #[47, 61, 116, 75, 86, 97, 108, 112], 48, 0, 0, 0), (48, .iload_n 1, 49, 1, 0, 0), (49, .ifCond .ne 7, 52, 56, 0, 0), (52, .iload_n 2, 53, 2, 0, 0), (53, .ifCond .eq 7, 56, 60, 0, 0), (56, .iconst 1, 57, 0, 0, 0), (57, .goto 4, 60, 61, 0, 0), (60, .iconst 0, 61, 0, 0, 0), (61, .ireturn, 62, 0, 0, 0), (62, .iload_n 1, 63, 1, 0, 0), (63, .ifCond .eq 11, 66, 74, 0, 0), (66, .iload_n 2, 67, 2, 0, 0), (67, .ifCond .eq 7, 70, 74, 0, 0), (70, .iconst 1, 71, 0, 0, 0), (71, .goto 4, 74, 75, 0, 0), (74, .iconst 0, 75, 0, 0, 0), (75, .ireturn, 76, 0, 0, 0), (76, .iload_n 1, 77, 1, 0, 0), (77, .iload_n 2, 78, 2, 0, 0), (78, .if_icmp .ne 7, 81, 85, 0, 0), (81, .iconst 1, 82, 0, 0, 0), (82, .goto 4, 85, 86, 0, 0), (85, .iconst 0, 86, 0, 0, 0), (86, .ireturn, 87, 0, 0, 0), (87, .iload_n 1, 88, 1, 0, 0), (88, .iload_n 2, 89, 2, 0, 0), (89, .if_icmp .ge 7, 92, 96, 0, 0), (92, .iconst 1, 93, 0, 0, 0), (93, .goto 4, 96, 97, 0, 0), (96, .iconst 0, 97, 0, 0, 0), (97, .ireturn, 98, 0, 0, 0), (98, .iload_n 1, 99, 1, 0, 0), (99, .iload_n 2, 100, 2, 0, 0), (100, .if_icmp .le 7, 103, 107, 0, 0), (103, .iconst 1, 104, 0, 0, 0), (104, .goto 4, 107, 108, 0, 0), (107, .iconst 0, 108, 0, 0, 0), (108, .ireturn, 109, 0, 0, 0), (109, .iload_n 1, 110, 1, 0, 0)]
def mc264_1 : List (Nat × Ins) := [(110, .iload_n 2, 111, 2, 0, 0), (111, .iadd, 112, 0, 0, 0), (112, .ireturn, 113, 0, 0, 0), (113, .iload_n 1, 114, 1, 0, 0), (114, .iload_n 2, 115, 2, 0, 0), (115, .isub, 116, 0, 0, 0), (116, .ireturn, 117, 0, 0, 0), (117, .iload_n 1, 118, 1, 0, 0), (118, .iload_n 2, 119, 2, 0, 0), (119, .imul, 120, 0, 0, 0), (120, .ireturn, 121, 0, 0, 0)]
def mc264 : List (Nat × Ins) := mc264_0 ++ mc264_1
-- 265: LikeYearsModel.askedOf(II)I
def mc265_0 : List (Nat × Ins) := [(0, .aload_n 0, 1, 0, 0, 0), (1, .getfield 140, 4, 12, 61, 1426), (4, .iload_n 2, 5, 2, 0, 0), (5, .iaload, 6, 0, 0, 0), (6, .tableswitch 79 0 4 #[34, 41, 58, 65, 72], 40, 0, 0, 0), (40, .aload_n 0, 41, 0, 0, 0), (41, .getfield 143, 44, 12, 62, 1427), (44, .iload_n 2, 45, 2, 0, 0), (45, .iaload, 46, 0, 0, 0), (46, .ireturn, 47, 0, 0, 0), (47, .aload_n 0, 48, 0, 0, 0), (48, .getfield 61, 51, 12, 29, 1394), (51, .bipush 6, 53, 0, 0, 0), (53, .iload_n 1, 54, 1, 0, 0), (54, .imul, 55, 0, 0, 0), (55, .aload_n 0, 56, 0, 0, 0), (56, .getfield 143, 59, 12, 62, 1427), (59, .iload_n 2, 60, 2, 0, 0), (60, .iaload, 61, 0, 0, 0), (61, .iadd, 62, 0, 0, 0), (62, .iaload, 63, 0, 0, 0), (63, .ireturn, 64, 0, 0, 0), (64, .aload_n 0, 65, 0, 0, 0), (65, .getfield 64, 68, 12, 30, 1395), (68, .iload_n 1, 69, 1, 0, 0), (69, .iaload, 70, 0, 0, 0), (70, .ireturn, 71, 0, 0, 0), (71, .aload_n 0, 72, 0, 0, 0), (72, .getfield 67, 75, 12, 31, 1396), (75, .iload_n 1, 76, 1, 0, 0), (76, .iaload, 77, 0, 0, 0), (77, .ireturn, 78, 0, 0, 0), (78, .aload_n 0, 79, 0, 0, 0), (79, .getfield 70, 82, 12, 32, 1397), (82, .iload_n 1, 83, 1, 0, 0), (83, .iaload, 84, 0, 0, 0), (84, .ireturn, 85, 0, 0, 0), (85, .aload_n 0, 86, 0, 0, 0), (86, .getfield 73, 89, 12, 33, 1398), (89, .iload_n 1, 90, 1, 0, 0)]
def mc265_1 : List (Nat × Ins) := [(90, .iaload, 91, 0, 0, 0), (91, .ireturn, 92, 0, 0, 0)]
def mc265 : List (Nat × Ins) := mc265_0 ++ mc265_1
-- 266: LikeYearsModel.holds(II)Z
def mc266_0 : List (Nat × Ins) := [(0, .iconst 0, 1, 0, 0, 0), (1, .istore_n 3, 2, 3, 0, 0), (2, .aload_n 0, 3, 0, 0, 0), (3, .getfield 146, 6, 12, 63, 1428), (6, .iload_n 1, 7, 1, 0, 0), (7, .iaload, 8, 0, 0, 0), (8, .istore 4, 10, 4, 0, 0), (10, .iload 4, 12, 4, 0, 0), (12, .aload_n 0, 13, 0, 0, 0), (13, .getfield 146, 16, 12, 63, 1428), (16, .iload_n 1, 17, 1, 0, 0), (17, .iconst 1, 18, 0, 0, 0), (18, .iadd, 19, 0, 0, 0), (19, .iaload, 20, 0, 0, 0), (20, .if_icmp .ge 114, 23, 134, 0, 0), (23, .aload_n 0, 24, 0, 0, 0), (24, .getfield 140, 27, 12, 61, 1426), (27, .iload 4, 29, 4, 0, 0), (29, .iaload, 30, 0, 0, 0), (30, .bipush 20, 32, 0, 0, 0), (32, .if_icmp .ge 22, 35, 54, 0, 0), (35, .aload_n 0, 36, 0, 0, 0), (36, .getfield 158, 39, 12, 67, 1432), (39, .iload_n 3, 40, 3, 0, 0), (40, .aload_n 0, 41, 0, 0, 0), (41, .iload_n 2, 42, 2, 0, 0), (42, .iload 4, 44, 4, 0, 0), (44, .invokevirtual 547, 47, 265, 2030, 0), (47, .iastore, 48, 0, 0, 0), (48, .iinc 3 1, 51, 3, 0, 0), (51, .goto 77, 54, 128, 0, 0), (54, .aload_n 0, 55, 0, 0, 0), (55, .getfield 140, 58, 12, 61, 1426), (58, .iload 4, 60, 4, 0, 0), (60, .iaload, 61, 0, 0, 0), (61, .bipush 22, 63, 0, 0, 0), (63, .if_icmp .ne 30, 66, 93, 0, 0), (66, .aload_n 0, 67, 0, 0, 0), (67, .getfield 158, 70, 12, 67, 1432), (70, .iload_n 3, 71, 3, 0, 0)]
def mc266_1 : List (Nat × Ins) := [(71, .iconst 1, 72, 0, 0, 0), (72, .isub, 73, 0, 0, 0), (73, .aload_n 0, 74, 0, 0, 0), (74, .getfield 158, 77, 12, 67, 1432), (77, .iload_n 3, 78, 3, 0, 0), (78, .iconst 1, 79, 0, 0, 0), (79, .isub, 80, 0, 0, 0), (80, .iaload, 81, 0, 0, 0), (81, .ifCond .ne 7, 84, 88, 0, 0), (84, .iconst 1, 85, 0, 0, 0), (85, .goto 4, 88, 89, 0, 0), (88, .iconst 0, 89, 0, 0, 0), (89, .iastore, 90, 0, 0, 0), (90, .goto 38, 93, 128, 0, 0), (93, .iinc 3 (-1), 96, 3, 0, 0), (96, .aload_n 0, 97, 0, 0, 0), (97, .getfield 158, 100, 12, 67, 1432), (100, .iload_n 3, 101, 3, 0, 0), (101, .iconst 1, 102, 0, 0, 0), (102, .isub, 103, 0, 0, 0), (103, .aload_n 0, 104, 0, 0, 0), (104, .getfield 140, 107, 12, 61, 1426), (107, .iload 4, 109, 4, 0, 0), (109, .iaload, 110, 0, 0, 0), (110, .aload_n 0, 111, 0, 0, 0), (111, .getfield 158, 114, 12, 67, 1432), (114, .iload_n 3, 115, 3, 0, 0), (115, .iconst 1, 116, 0, 0, 0), (116, .isub, 117, 0, 0, 0), (117, .iaload, 118, 0, 0, 0), (118, .aload_n 0, 119, 0, 0, 0), (119, .getfield 158, 122, 12, 67, 1432), (122, .iload_n 3, 123, 3, 0, 0), (123, .iaload, 124, 0, 0, 0), (124, .invokestatic 550, 127, 264, 2034, 0), (127, .iastore, 128, 0, 0, 0), (128, .iinc 4 1, 131, 4, 0, 0), (131, .goto (-121), 134, 10, 0, 0), (134, .aload_n 0, 135, 0, 0, 0), (135, .getfield 158, 138, 12, 67, 1432)]
def mc266_2 : List (Nat × Ins) := [(138, .iconst 0, 139, 0, 0, 0), (139, .iaload, 140, 0, 0, 0), (140, .ifCond .eq 7, 143, 147, 0, 0), (143, .iconst 1, 144, 0, 0, 0), (144, .goto 4, 147, 148, 0, 0), (147, .iconst 0, 148, 0, 0, 0), (148, .ireturn, 149, 0, 0, 0)]
def mc266 : List (Nat × Ins) := mc266_0 ++ mc266_1 ++ mc266_2
-- 267: LikeYearsModel.lineOf(I)I
def mc267 : List (Nat × Ins) := [(0, .iconst 0, 1, 0, 0, 0), (1, .istore_n 2, 2, 2, 0, 0), (2, .iload_n 2, 3, 2, 0, 0), (3, .aload_n 0, 4, 0, 0, 0), (4, .getfield 347, 7, 12, 70, 1435), (7, .if_icmp .ge 20, 10, 27, 0, 0), (10, .aload_n 0, 11, 0, 0, 0), (11, .iload_n 2, 12, 2, 0, 0), (12, .iload_n 1, 13, 1, 0, 0), (13, .invokevirtual 554, 16, 266, 2026, 0), (16, .ifCond .eq 5, 19, 21, 0, 0), (19, .iload_n 2, 20, 2, 0, 0), (20, .ireturn, 21, 0, 0, 0), (21, .iinc 2 1, 24, 2, 0, 0), (24, .goto (-22), 27, 2, 0, 0), (27, .iconst (-1), 28, 0, 0, 0), (28, .ireturn, 29, 0, 0, 0)]
-- 268: LikeYearsModel.lawOf(I)I
def mc268 : List (Nat × Ins) := [(0, .aload_n 0, 1, 0, 0, 0), (1, .iload_n 1, 2, 1, 0, 0), (2, .invokevirtual 383, 5, 200, 1754, 0), (5, .ifCond .eq 11, 8, 16, 0, 0), (8, .aload_n 0, 9, 0, 0, 0), (9, .iload_n 1, 10, 1, 0, 0), (10, .invokevirtual 557, 13, 267, 2022, 0), (13, .goto 4, 16, 17, 0, 0), (16, .iconst (-1), 17, 0, 0, 0), (17, .ireturn, 18, 0, 0, 0)]
-- 269: LikeYearsModel.movedBy(I)I
def mc269_0 : List (Nat × Ins) := [(0, .aload_n 0, 1, 0, 0, 0), (1, .iload_n 1, 2, 1, 0, 0), (2, .invokevirtual 557, 5, 267, 2022, 0), (5, .istore_n 2, 6, 2, 0, 0), (6, .iload_n 2, 7, 2, 0, 0), (7, .ifCond .ge 7, 10, 14, 0, 0), (10, .iconst 0, 11, 0, 0, 0), (11, .goto 66, 14, 77, 0, 0), (14, .aload_n 0, 15, 0, 0, 0), (15, .getfield 70, 18, 12, 32, 1397), (18, .iload_n 1, 19, 1, 0, 0), (19, .iaload, 20, 0, 0, 0), (20, .aload_n 0, 21, 0, 0, 0), (21, .getfield 149, 24, 12, 64, 1429), (24, .iload_n 2, 25, 2, 0, 0), (25, .iaload, 26, 0, 0, 0), (26, .if_icmp .ge 19, 29, 45, 0, 0), (29, .aload_n 0, 30, 0, 0, 0), (30, .getfield 149, 33, 12, 64, 1429), (33, .iload_n 2, 34, 2, 0, 0), (34, .iaload, 35, 0, 0, 0), (35, .aload_n 0, 36, 0, 0, 0), (36, .getfield 70, 39, 12, 32, 1397), (39, .iload_n 1, 40, 1, 0, 0), (40, .iaload, 41, 0, 0, 0), (41, .isub, 42, 0, 0, 0), (42, .goto 35, 45, 77, 0, 0), (45, .aload_n 0, 46, 0, 0, 0), (46, .getfield 70, 49, 12, 32, 1397), (49, .iload_n 1, 50, 1, 0, 0), (50, .iaload, 51, 0, 0, 0), (51, .aload_n 0, 52, 0, 0, 0), (52, .getfield 152, 55, 12, 65, 1430), (55, .iload_n 2, 56, 2, 0, 0), (56, .iaload, 57, 0, 0, 0), (57, .if_icmp .le 19, 60, 76, 0, 0), (60, .aload_n 0, 61, 0, 0, 0), (61, .getfield 70, 64, 12, 32, 1397), (64, .iload_n 1, 65, 1, 0, 0), (65, .iaload, 66, 0, 0, 0)]
def mc269_1 : List (Nat × Ins) := [(66, .aload_n 0, 67, 0, 0, 0), (67, .getfield 152, 70, 12, 65, 1430), (70, .iload_n 2, 71, 2, 0, 0), (71, .iaload, 72, 0, 0, 0), (72, .isub, 73, 0, 0, 0), (73, .goto 4, 76, 77, 0, 0), (76, .iconst 0, 77, 0, 0, 0), (77, .ireturn, 78, 0, 0, 0)]
def mc269 : List (Nat × Ins) := mc269_0 ++ mc269_1
-- 270: LikeYearsModel.moved(I)I
def mc270_0 : List (Nat × Ins) := [(0, .iconst 0, 1, 0, 0, 0), (1, .istore_n 2, 2, 2, 0, 0), (2, .iconst 0, 3, 0, 0, 0), (3, .istore_n 3, 4, 3, 0, 0), (4, .iconst (-1), 5, 0, 0, 0), (5, .istore 4, 7, 4, 0, 0), (7, .iconst 0, 8, 0, 0, 0), (8, .istore 5, 10, 5, 0, 0), (10, .iconst 0, 11, 0, 0, 0), (11, .istore 6, 13, 6, 0, 0), (13, .iload 6, 15, 6, 0, 0), (15, .aload_n 0, 16, 0, 0, 0), (16, .getfield 353, 19, 12, 38, 1403), (19, .if_icmp .ge 53, 22, 72, 0, 0), (22, .aload_n 0, 23, 0, 0, 0), (23, .iload 6, 25, 6, 0, 0), (25, .invokevirtual 560, 28, 269, 2041, 0), (28, .istore 7, 30, 7, 0, 0), (30, .iload_n 2, 31, 2, 0, 0), (31, .iload 7, 33, 7, 0, 0), (33, .ifCond .le 7, 36, 40, 0, 0), (36, .iconst 1, 37, 0, 0, 0), (37, .goto 4, 40, 41, 0, 0), (40, .iconst 0, 41, 0, 0, 0), (41, .iadd, 42, 0, 0, 0), (42, .istore_n 2, 43, 2, 0, 0), (43, .iload_n 3, 44, 3, 0, 0), (44, .iload 7, 46, 7, 0, 0), (46, .iadd, 47, 0, 0, 0), (47, .istore_n 3, 48, 3, 0, 0), (48, .iload 7, 50, 7, 0, 0), (50, .iload 5, 52, 5, 0, 0), (52, .if_icmp .gt 6, 55, 58, 0, 0), (55, .goto 11, 58, 66, 0, 0), (58, .iload 7, 60, 7, 0, 0), (60, .istore 5, 62, 5, 0, 0), (62, .iload 6, 64, 6, 0, 0), (64, .istore 4, 66, 4, 0, 0), (66, .iinc 6 1, 69, 6, 0, 0), (69, .goto (-56), 72, 13, 0, 0)]
def mc270_1 : List (Nat × Ins) := [(72, .iload_n 1, 73, 1, 0, 0), (73, .ifCond .ne 7, 76, 80, 0, 0), (76, .iload_n 2, 77, 2, 0, 0), (77, .goto 23, 80, 100, 0, 0), (80, .iload_n 1, 81, 1, 0, 0), (81, .iconst 1, 82, 0, 0, 0), (82, .if_icmp .ne 7, 85, 89, 0, 0), (85, .iload_n 3, 86, 3, 0, 0), (86, .goto 14, 89, 100, 0, 0), (89, .iload_n 1, 90, 1, 0, 0), (90, .iconst 2, 91, 0, 0, 0), (91, .if_icmp .ne 8, 94, 99, 0, 0), (94, .iload 4, 96, 4, 0, 0), (96, .goto 4, 99, 100, 0, 0), (99, .iconst (-1), 100, 0, 0, 0), (100, .ireturn, 101, 0, 0, 0)]
def mc270 : List (Nat × Ins) := mc270_0 ++ mc270_1
-- 271: LikeYearsModel.step(II)Z
def mc271 : List (Nat × Ins) := [(0, .aload_n 0, 1, 0, 0, 0), (1, .iload_n 1, 2, 1, 0, 0), (2, .invokevirtual 469, 5, 201, 1896, 0), (5, .ifCond .eq 17, 8, 22, 0, 0), (8, .iload_n 2, 9, 2, 0, 0), (9, .ifCond .lt 13, 12, 22, 0, 0), (12, .iload_n 2, 13, 2, 0, 0), (13, .aload_n 0, 14, 0, 0, 0), (14, .getfield 58, 17, 12, 28, 1393), (17, .iload_n 1, 18, 1, 0, 0), (18, .iaload, 19, 0, 0, 0), (19, .if_icmp .le 5, 22, 24, 0, 0), (22, .iconst 0, 23, 0, 0, 0), (23, .ireturn, 24, 0, 0, 0), (24, .aload_n 0, 25, 0, 0, 0), (25, .getfield 161, 28, 12, 74, 1439), (28, .iload_n 1, 29, 1, 0, 0), (29, .iload_n 2, 30, 2, 0, 0), (30, .iastore, 31, 0, 0, 0), (31, .iconst 1, 32, 0, 0, 0), (32, .ireturn, 33, 0, 0, 0)]
-- 272: LikeYearsModel.aroundNew(Z)I
def mc272_0 : List (Nat × Ins) := [(0, .iconst 0, 1, 0, 0, 0), (1, .istore_n 2, 2, 2, 0, 0), (2, .iconst 0, 3, 0, 0, 0), (3, .istore_n 3, 4, 3, 0, 0), (4, .iload_n 3, 5, 3, 0, 0), (5, .aload_n 0, 6, 0, 0, 0), (6, .getfield 353, 9, 12, 38, 1403), (9, .if_icmp .ge 130, 12, 139, 0, 0), (12, .iconst 1, 13, 0, 0, 0), (13, .istore 4, 15, 4, 0, 0), (15, .iconst 0, 16, 0, 0, 0), (16, .istore 5, 18, 5, 0, 0), (18, .iload 5, 20, 5, 0, 0), (20, .aload_n 0, 21, 0, 0, 0), (21, .getfield 350, 24, 12, 37, 1402), (24, .if_icmp .ge 82, 27, 106, 0, 0), (27, .iload 4, 29, 4, 0, 0), (29, .ifCond .eq 68, 32, 97, 0, 0), (32, .aload_n 0, 33, 0, 0, 0), (33, .getfield 82, 36, 12, 36, 1401), (36, .iload 5, 38, 5, 0, 0), (38, .baload, 39, 0, 0, 0), (39, .ifCond .eq 54, 42, 93, 0, 0), (42, .iload_n 1, 43, 1, 0, 0), (43, .ifCond .eq 28, 46, 71, 0, 0), (46, .aload_n 0, 47, 0, 0, 0), (47, .getfield 61, 50, 12, 29, 1394), (50, .bipush 6, 52, 0, 0, 0), (52, .iload_n 3, 53, 3, 0, 0), (53, .imul, 54, 0, 0, 0), (54, .iload 5, 56, 5, 0, 0), (56, .iadd, 57, 0, 0, 0), (57, .iaload, 58, 0, 0, 0), (58, .aload_n 0, 59, 0, 0, 0), (59, .getfield 161, 62, 12, 74, 1439), (62, .iload 5, 64, 5, 0, 0), (64, .iaload, 65, 0, 0, 0), (65, .if_icmp .lt 32, 68, 97, 0, 0), (68, .goto 25, 71, 93, 0, 0), (71, .aload_n 0, 72, 0, 0, 0)]
def mc272_1 : List (Nat × Ins) := [(72, .getfield 161, 75, 12, 74, 1439), (75, .iload 5, 77, 5, 0, 0), (77, .iaload, 78, 0, 0, 0), (78, .aload_n 0, 79, 0, 0, 0), (79, .getfield 61, 82, 12, 29, 1394), (82, .bipush 6, 84, 0, 0, 0), (84, .iload_n 3, 85, 3, 0, 0), (85, .imul, 86, 0, 0, 0), (86, .iload 5, 88, 5, 0, 0), (88, .iadd, 89, 0, 0, 0), (89, .iaload, 90, 0, 0, 0), (90, .if_icmp .lt 7, 93, 97, 0, 0), (93, .iconst 1, 94, 0, 0, 0), (94, .goto 4, 97, 98, 0, 0), (97, .iconst 0, 98, 0, 0, 0), (98, .istore 4, 100, 4, 0, 0), (100, .iinc 5 1, 103, 5, 0, 0), (103, .goto (-85), 106, 18, 0, 0), (106, .iload 4, 108, 4, 0, 0), (108, .ifCond .eq 25, 111, 133, 0, 0), (111, .iload_n 2, 112, 2, 0, 0), (112, .iload_n 1, 113, 1, 0, 0), (113, .ifCond .eq 12, 116, 125, 0, 0), (116, .aload_n 0, 117, 0, 0, 0), (117, .getfield 91, 120, 12, 43, 1408), (120, .iload_n 3, 121, 3, 0, 0), (121, .iaload, 122, 0, 0, 0), (122, .goto 9, 125, 131, 0, 0), (125, .aload_n 0, 126, 0, 0, 0), (126, .getfield 88, 129, 12, 42, 1407), (129, .iload_n 3, 130, 3, 0, 0), (130, .iaload, 131, 0, 0, 0), (131, .ior, 132, 0, 0, 0), (132, .istore_n 2, 133, 2, 0, 0), (133, .iinc 3 1, 136, 3, 0, 0), (136, .goto (-132), 139, 4, 0, 0), (139, .iload_n 2, 140, 2, 0, 0), (140, .ireturn, 141, 0, 0, 0)]
def mc272 : List (Nat × Ins) := mc272_0 ++ mc272_1
-- 273: LikeYearsModel.ends(ZI)J
def mc273_0 : List (Nat × Ins) := [(0, .iload_n 2, 1, 2, 0, 0), (1, .invokestatic 446, 4, 213, 1832, 0), (4, .ifCond .ne 7, 7, 11, 0, 0), (7, .ldc2_w 449, 10, 0, 1835, -1), (10, .lreturn, 11, 0, 0, 0), (11, .aload_n 0, 12, 0, 0, 0), (12, .invokevirtual 386, 15, 198, 1758, 0), (15, .aload_n 0, 16, 0, 0, 0), (16, .aload_n 0, 17, 0, 0, 0), (17, .invokevirtual 440, 20, 219, 1817, 0), (20, .invokevirtual 451, 23, 217, 1836, 0), (23, .aload_n 0, 24, 0, 0, 0), (24, .iload_n 1, 25, 1, 0, 0), (25, .invokevirtual 563, 28, 272, 2053, 0), (28, .istore_n 3, 29, 3, 0, 0), (29, .iconst (-1), 30, 0, 0, 0), (30, .istore 4, 32, 4, 0, 0), (32, .iconst 0, 33, 0, 0, 0), (33, .istore 5, 35, 5, 0, 0), (35, .iload 5, 37, 5, 0, 0), (37, .aload_n 0, 38, 0, 0, 0), (38, .getfield 353, 41, 12, 38, 1403), (41, .if_icmp .ge 105, 44, 146, 0, 0), (44, .iload_n 3, 45, 3, 0, 0), (45, .iload 5, 47, 5, 0, 0), (47, .ishr, 48, 0, 0, 0), (48, .iconst 1, 49, 0, 0, 0), (49, .iand, 50, 0, 0, 0), (50, .ifCond .ne 6, 53, 56, 0, 0), (53, .goto 87, 56, 140, 0, 0), (56, .iload 4, 58, 4, 0, 0), (58, .ifCond .ge 7, 61, 65, 0, 0), (61, .lconst 0, 62, 0, 0, 0), (62, .goto 18, 65, 80, 0, 0), (65, .aload_n 0, 66, 0, 0, 0), (66, .getfield 104, 69, 12, 49, 1414), (69, .iload 5, 71, 5, 0, 0), (71, .laload, 72, 0, 0, 0), (72, .aload_n 0, 73, 0, 0, 0), (73, .getfield 107, 76, 12, 50, 1415)]
def mc273_1 : List (Nat × Ins) := [(76, .iload 4, 78, 4, 0, 0), (78, .laload, 79, 0, 0, 0), (79, .lmul, 80, 0, 0, 0), (80, .lstore 6, 82, 6, 0, 0), (82, .iload 4, 84, 4, 0, 0), (84, .ifCond .ge 7, 87, 91, 0, 0), (87, .lconst 0, 88, 0, 0, 0), (88, .goto 18, 91, 106, 0, 0), (91, .aload_n 0, 92, 0, 0, 0), (92, .getfield 104, 95, 12, 49, 1414), (95, .iload 4, 97, 4, 0, 0), (97, .laload, 98, 0, 0, 0), (98, .aload_n 0, 99, 0, 0, 0), (99, .getfield 107, 102, 12, 50, 1415), (102, .iload 5, 104, 5, 0, 0), (104, .laload, 105, 0, 0, 0), (105, .lmul, 106, 0, 0, 0), (106, .lstore 8, 108, 8, 0, 0), (108, .iload 4, 110, 4, 0, 0), (110, .ifCond .lt 26, 113, 136, 0, 0), (113, .iload_n 1, 114, 1, 0, 0), (114, .ifCond .eq 14, 117, 128, 0, 0), (117, .lload 6, 119, 6, 0, 0), (119, .lload 8, 121, 8, 0, 0), (121, .lcmp, 122, 0, 0, 0), (122, .ifCond .ge 18, 125, 140, 0, 0), (125, .goto 11, 128, 136, 0, 0), (128, .lload 6, 130, 6, 0, 0), (130, .lload 8, 132, 8, 0, 0), (132, .lcmp, 133, 0, 0, 0), (133, .ifCond .le 7, 136, 140, 0, 0), (136, .iload 5, 138, 5, 0, 0), (138, .istore 4, 140, 4, 0, 0), (140, .iinc 5 1, 143, 5, 0, 0), (143, .goto (-108), 146, 35, 0, 0), (146, .iload 4, 148, 4, 0, 0), (148, .ifCond .ge 9, 151, 157, 0, 0), (151, .ldc2_w 449, 154, 0, 1835, -1), (154, .goto 24, 157, 178, 0, 0), (157, .iload_n 2, 158, 2, 0, 0)]
def mc273_2 : List (Nat × Ins) := [(158, .ifCond .ne 13, 161, 171, 0, 0), (161, .aload_n 0, 162, 0, 0, 0), (162, .getfield 104, 165, 12, 49, 1414), (165, .iload 4, 167, 4, 0, 0), (167, .laload, 168, 0, 0, 0), (168, .goto 10, 171, 178, 0, 0), (171, .aload_n 0, 172, 0, 0, 0), (172, .getfield 107, 175, 12, 50, 1415), (175, .iload 4, 177, 4, 0, 0), (177, .laload, 178, 0, 0, 0), (178, .lreturn, 179, 0, 0, 0)]
def mc273 : List (Nat × Ins) := mc273_0 ++ mc273_1 ++ mc273_2
-- 274: LikeYearsModel.first(I)I
def mc274_0 : List (Nat × Ins) := [(0, .iload_n 1, 1, 1, 0, 0), (1, .invokestatic 493, 4, 248, 1960, 0), (4, .ifCond .ne 5, 7, 9, 0, 0), (7, .iconst (-1), 8, 0, 0, 0), (8, .ireturn, 9, 0, 0, 0), (9, .aload_n 0, 10, 0, 0, 0), (10, .invokevirtual 386, 13, 198, 1758, 0), (13, .aload_n 0, 14, 0, 0, 0), (14, .iconst 0, 15, 0, 0, 0), (15, .invokevirtual 563, 18, 272, 2053, 0), (18, .istore_n 2, 19, 2, 0, 0), (19, .aload_n 0, 20, 0, 0, 0), (20, .iconst 1, 21, 0, 0, 0), (21, .invokevirtual 563, 24, 272, 2053, 0), (24, .istore_n 3, 25, 3, 0, 0), (25, .iconst 0, 26, 0, 0, 0), (26, .istore 4, 28, 4, 0, 0), (28, .iload 4, 30, 4, 0, 0), (30, .aload_n 0, 31, 0, 0, 0), (31, .getfield 353, 34, 12, 38, 1403), (34, .if_icmp .ge 54, 37, 88, 0, 0), (37, .iload_n 2, 38, 2, 0, 0), (38, .iload 4, 40, 4, 0, 0), (40, .ishr, 41, 0, 0, 0), (41, .iconst 1, 42, 0, 0, 0), (42, .iand, 43, 0, 0, 0), (43, .iconst 1, 44, 0, 0, 0), (44, .if_icmp .ne 14, 47, 58, 0, 0), (47, .iload_n 1, 48, 1, 0, 0), (48, .aload_n 0, 49, 0, 0, 0), (49, .getfield 70, 52, 12, 32, 1397), (52, .iload 4, 54, 4, 0, 0), (54, .iaload, 55, 0, 0, 0), (55, .if_icmp .lt 24, 58, 79, 0, 0), (58, .iload_n 3, 59, 3, 0, 0), (59, .iload 4, 61, 4, 0, 0), (61, .ishr, 62, 0, 0, 0), (62, .iconst 1, 63, 0, 0, 0), (63, .iand, 64, 0, 0, 0), (64, .iconst 1, 65, 0, 0, 0)]
def mc274_1 : List (Nat × Ins) := [(65, .if_icmp .ne 17, 68, 82, 0, 0), (68, .aload_n 0, 69, 0, 0, 0), (69, .getfield 70, 72, 12, 32, 1397), (72, .iload 4, 74, 4, 0, 0), (74, .iaload, 75, 0, 0, 0), (75, .iload_n 1, 76, 1, 0, 0), (76, .if_icmp .ge 6, 79, 82, 0, 0), (79, .iload 4, 81, 4, 0, 0), (81, .ireturn, 82, 0, 0, 0), (82, .iinc 4 1, 85, 4, 0, 0), (85, .goto (-57), 88, 28, 0, 0), (88, .iconst (-1), 89, 0, 0, 0), (89, .ireturn, 90, 0, 0, 0)]
def mc274 : List (Nat × Ins) := mc274_0 ++ mc274_1
-- 275: LikeYearsModel.act(III)V
def mc275_0 : List (Nat × Ins) := [(0, .aload_n 0, 1, 0, 0, 0), (1, .getfield 362, 4, 12, 78, 1443), (4, .bipush 60, 6, 0, 0, 0), (6, .if_icmp .ne 77, 9, 83, 0, 0), (9, .iconst 1, 10, 0, 0, 0), (10, .istore 4, 12, 4, 0, 0), (12, .iload 4, 14, 4, 0, 0), (14, .bipush 60, 16, 0, 0, 0), (16, .if_icmp .ge 57, 19, 73, 0, 0), (19, .aload_n 0, 20, 0, 0, 0), (20, .getfield 164, 23, 12, 75, 1440), (23, .iload 4, 25, 4, 0, 0), (25, .iconst 1, 26, 0, 0, 0), (26, .isub, 27, 0, 0, 0), (27, .aload_n 0, 28, 0, 0, 0), (28, .getfield 164, 31, 12, 75, 1440), (31, .iload 4, 33, 4, 0, 0), (33, .iaload, 34, 0, 0, 0), (34, .iastore, 35, 0, 0, 0), (35, .aload_n 0, 36, 0, 0, 0), (36, .getfield 167, 39, 12, 76, 1441), (39, .iload 4, 41, 4, 0, 0), (41, .iconst 1, 42, 0, 0, 0), (42, .isub, 43, 0, 0, 0), (43, .aload_n 0, 44, 0, 0, 0), (44, .getfield 167, 47, 12, 76, 1441), (47, .iload 4, 49, 4, 0, 0), (49, .iaload, 50, 0, 0, 0), (50, .iastore, 51, 0, 0, 0), (51, .aload_n 0, 52, 0, 0, 0), (52, .getfield 170, 55, 12, 77, 1442), (55, .iload 4, 57, 4, 0, 0), (57, .iconst 1, 58, 0, 0, 0), (58, .isub, 59, 0, 0, 0), (59, .aload_n 0, 60, 0, 0, 0), (60, .getfield 170, 63, 12, 77, 1442), (63, .iload 4, 65, 4, 0, 0), (65, .iaload, 66, 0, 0, 0), (66, .iastore, 67, 0, 0, 0), (67, .iinc 4 1, 70, 4, 0, 0)]
def mc275_1 : List (Nat × Ins) := [(70, .goto (-58), 73, 12, 0, 0), (73, .aload_n 0, 74, 0, 0, 0), (74, .dup, 75, 0, 0, 0), (75, .getfield 362, 78, 12, 78, 1443), (78, .iconst 1, 79, 0, 0, 0), (79, .isub, 80, 0, 0, 0), (80, .putfield 362, 83, 12, 78, 1443), (83, .aload_n 0, 84, 0, 0, 0), (84, .getfield 164, 87, 12, 75, 1440), (87, .aload_n 0, 88, 0, 0, 0), (88, .getfield 362, 91, 12, 78, 1443), (91, .iload_n 1, 92, 1, 0, 0), (92, .iastore, 93, 0, 0, 0), (93, .aload_n 0, 94, 0, 0, 0), (94, .getfield 167, 97, 12, 76, 1441), (97, .aload_n 0, 98, 0, 0, 0), (98, .getfield 362, 101, 12, 78, 1443), (101, .iload_n 2, 102, 2, 0, 0), (102, .iastore, 103, 0, 0, 0), (103, .aload_n 0, 104, 0, 0, 0), (104, .getfield 170, 107, 12, 77, 1442), (107, .aload_n 0, 108, 0, 0, 0), (108, .getfield 362, 111, 12, 78, 1443), (111, .iload_n 3, 112, 3, 0, 0), (112, .iastore, 113, 0, 0, 0), (113, .aload_n 0, 114, 0, 0, 0), (114, .dup, 115, 0, 0, 0), (115, .getfield 362, 118, 12, 78, 1443), (118, .iconst 1, 119, 0, 0, 0), (119, .iadd, 120, 0, 0, 0), (120, .putfield 362, 123, 12, 78, 1443), (123, .aload_n 0, 124, 0, 0, 0), (124, .iconst 0, 125, 0, 0, 0), (125, .putfield 365, 128, 12, 79, 1444), (128, .return_, 129, 0, 0, 0)]
def mc275 : List (Nat × Ins) := mc275_0 ++ mc275_1
-- 276: LikeYearsModel.turn(IZ)V
def mc276_0 : List (Nat × Ins) := [(0, .aload_n 0, 1, 0, 0, 0), (1, .getfield 164, 4, 12, 75, 1440), (4, .iload_n 1, 5, 1, 0, 0), (5, .iaload, 6, 0, 0, 0), (6, .ifCond .ne 24, 9, 30, 0, 0), (9, .aload_n 0, 10, 0, 0, 0), (10, .dup, 11, 0, 0, 0), (11, .getfield 353, 14, 12, 38, 1403), (14, .iload_n 2, 15, 2, 0, 0), (15, .ifCond .eq 7, 18, 22, 0, 0), (18, .iconst 1, 19, 0, 0, 0), (19, .goto 4, 22, 23, 0, 0), (22, .iconst (-1), 23, 0, 0, 0), (23, .iadd, 24, 0, 0, 0), (24, .putfield 353, 27, 12, 38, 1403), (27, .goto 82, 30, 109, 0, 0), (30, .aload_n 0, 31, 0, 0, 0), (31, .getfield 164, 34, 12, 75, 1440), (34, .iload_n 1, 35, 1, 0, 0), (35, .iaload, 36, 0, 0, 0), (36, .iconst 1, 37, 0, 0, 0), (37, .if_icmp .ne 36, 40, 73, 0, 0), (40, .aload_n 0, 41, 0, 0, 0), (41, .getfield 82, 44, 12, 36, 1401), (44, .aload_n 0, 45, 0, 0, 0), (45, .getfield 167, 48, 12, 76, 1441), (48, .iload_n 1, 49, 1, 0, 0), (49, .iaload, 50, 0, 0, 0), (50, .aload_n 0, 51, 0, 0, 0), (51, .getfield 82, 54, 12, 36, 1401), (54, .aload_n 0, 55, 0, 0, 0), (55, .getfield 167, 58, 12, 76, 1441), (58, .iload_n 1, 59, 1, 0, 0), (59, .iaload, 60, 0, 0, 0), (60, .baload, 61, 0, 0, 0), (61, .ifCond .ne 7, 64, 68, 0, 0), (64, .iconst 1, 65, 0, 0, 0), (65, .goto 4, 68, 69, 0, 0), (68, .iconst 0, 69, 0, 0, 0), (69, .bastore, 70, 0, 0, 0)]
def mc276_1 : List (Nat × Ins) := [(70, .goto 39, 73, 109, 0, 0), (73, .aload_n 0, 74, 0, 0, 0), (74, .getfield 70, 77, 12, 32, 1397), (77, .aload_n 0, 78, 0, 0, 0), (78, .getfield 167, 81, 12, 76, 1441), (81, .iload_n 1, 82, 1, 0, 0), (82, .iaload, 83, 0, 0, 0), (83, .iaload, 84, 0, 0, 0), (84, .istore_n 3, 85, 3, 0, 0), (85, .aload_n 0, 86, 0, 0, 0), (86, .getfield 70, 89, 12, 32, 1397), (89, .aload_n 0, 90, 0, 0, 0), (90, .getfield 167, 93, 12, 76, 1441), (93, .iload_n 1, 94, 1, 0, 0), (94, .iaload, 95, 0, 0, 0), (95, .aload_n 0, 96, 0, 0, 0), (96, .getfield 170, 99, 12, 77, 1442), (99, .iload_n 1, 100, 1, 0, 0), (100, .iaload, 101, 0, 0, 0), (101, .iastore, 102, 0, 0, 0), (102, .aload_n 0, 103, 0, 0, 0), (103, .getfield 170, 106, 12, 77, 1442), (106, .iload_n 1, 107, 1, 0, 0), (107, .iload_n 3, 108, 3, 0, 0), (108, .iastore, 109, 0, 0, 0), (109, .return_, 110, 0, 0, 0)]
def mc276 : List (Nat × Ins) := mc276_0 ++ mc276_1
-- 277: LikeYearsModel.come(IIII)I
def mc277_0 : List (Nat × Ins) := [(0, .iload_n 1, 1, 1, 0, 0), (1, .invokestatic 487, 4, 241, 1933, 0), (4, .ifCond .eq 41, 7, 45, 0, 0), (7, .iload_n 2, 8, 2, 0, 0), (8, .ifCond .lt 37, 11, 45, 0, 0), (11, .iload_n 2, 12, 2, 0, 0), (12, .bipush 99, 14, 0, 0, 0), (14, .if_icmp .gt 31, 17, 45, 0, 0), (17, .iload_n 3, 18, 3, 0, 0), (18, .invokestatic 493, 21, 248, 1960, 0), (21, .ifCond .eq 24, 24, 45, 0, 0), (24, .iload 4, 26, 4, 0, 0), (26, .iconst 1, 27, 0, 0, 0), (27, .if_icmp .lt 18, 30, 45, 0, 0), (30, .iload 4, 32, 4, 0, 0), (32, .iconst 4, 33, 0, 0, 0), (33, .if_icmp .gt 12, 36, 45, 0, 0), (36, .aload_n 0, 37, 0, 0, 0), (37, .getfield 353, 40, 12, 38, 1403), (40, .bipush 16, 42, 0, 0, 0), (42, .if_icmp .ne 5, 45, 47, 0, 0), (45, .iconst (-1), 46, 0, 0, 0), (46, .ireturn, 47, 0, 0, 0), (47, .iconst 0, 48, 0, 0, 0), (48, .istore 5, 50, 5, 0, 0), (50, .iload 5, 52, 5, 0, 0), (52, .bipush 6, 54, 0, 0, 0), (54, .if_icmp .ge 44, 57, 98, 0, 0), (57, .aload_n 0, 58, 0, 0, 0), (58, .getfield 61, 61, 12, 29, 1394), (61, .bipush 6, 63, 0, 0, 0), (63, .aload_n 0, 64, 0, 0, 0), (64, .getfield 353, 67, 12, 38, 1403), (67, .imul, 68, 0, 0, 0), (68, .iload 5, 70, 5, 0, 0), (70, .iadd, 71, 0, 0, 0), (71, .iload 5, 73, 5, 0, 0), (73, .aload_n 0, 74, 0, 0, 0), (74, .getfield 350, 77, 12, 37, 1402), (77, .if_icmp .ge 13, 80, 90, 0, 0)]
def mc277_1 : List (Nat × Ins) := [(80, .aload_n 0, 81, 0, 0, 0), (81, .getfield 161, 84, 12, 74, 1439), (84, .iload 5, 86, 5, 0, 0), (86, .iaload, 87, 0, 0, 0), (87, .goto 4, 90, 91, 0, 0), (90, .iconst 0, 91, 0, 0, 0), (91, .iastore, 92, 0, 0, 0), (92, .iinc 5 1, 95, 5, 0, 0), (95, .goto (-45), 98, 50, 0, 0), (98, .aload_n 0, 99, 0, 0, 0), (99, .getfield 64, 102, 12, 30, 1395), (102, .aload_n 0, 103, 0, 0, 0), (103, .getfield 353, 106, 12, 38, 1403), (106, .iload_n 1, 107, 1, 0, 0), (107, .iastore, 108, 0, 0, 0), (108, .aload_n 0, 109, 0, 0, 0), (109, .getfield 67, 112, 12, 31, 1396), (112, .aload_n 0, 113, 0, 0, 0), (113, .getfield 353, 116, 12, 38, 1403), (116, .iload_n 2, 117, 2, 0, 0), (117, .iastore, 118, 0, 0, 0), (118, .aload_n 0, 119, 0, 0, 0), (119, .getfield 70, 122, 12, 32, 1397), (122, .aload_n 0, 123, 0, 0, 0), (123, .getfield 353, 126, 12, 38, 1403), (126, .iload_n 3, 127, 3, 0, 0), (127, .iastore, 128, 0, 0, 0), (128, .aload_n 0, 129, 0, 0, 0), (129, .getfield 73, 132, 12, 33, 1398), (132, .aload_n 0, 133, 0, 0, 0), (133, .getfield 353, 136, 12, 38, 1403), (136, .iload 4, 138, 4, 0, 0), (138, .iastore, 139, 0, 0, 0), (139, .aload_n 0, 140, 0, 0, 0), (140, .iconst 0, 141, 0, 0, 0), (141, .aload_n 0, 142, 0, 0, 0), (142, .getfield 353, 145, 12, 38, 1403), (145, .iconst 0, 146, 0, 0, 0), (146, .invokevirtual 566, 149, 275, 2065, 0), (149, .aload_n 0, 150, 0, 0, 0)]
def mc277_2 : List (Nat × Ins) := [(150, .dup, 151, 0, 0, 0), (151, .getfield 353, 154, 12, 38, 1403), (154, .iconst 1, 155, 0, 0, 0), (155, .iadd, 156, 0, 0, 0), (156, .putfield 353, 159, 12, 38, 1403), (159, .aload_n 0, 160, 0, 0, 0), (160, .getfield 353, 163, 12, 38, 1403), (163, .iconst 1, 164, 0, 0, 0), (164, .isub, 165, 0, 0, 0), (165, .ireturn, 166, 0, 0, 0)]
def mc277 : List (Nat × Ins) := mc277_0 ++ mc277_1 ++ mc277_2
-- 278: LikeYearsModel.count(IZ)Z
def mc278 : List (Nat × Ins) := [(0, .aload_n 0, 1, 0, 0, 0), (1, .iload_n 1, 2, 1, 0, 0), (2, .invokevirtual 469, 5, 201, 1896, 0), (5, .ifCond .eq 13, 8, 18, 0, 0), (8, .aload_n 0, 9, 0, 0, 0), (9, .getfield 82, 12, 12, 36, 1401), (12, .iload_n 1, 13, 1, 0, 0), (13, .baload, 14, 0, 0, 0), (14, .iload_n 2, 15, 2, 0, 0), (15, .if_icmp .ne 5, 18, 20, 0, 0), (18, .iconst 0, 19, 0, 0, 0), (19, .ireturn, 20, 0, 0, 0), (20, .aload_n 0, 21, 0, 0, 0), (21, .invokevirtual 376, 24, 196, 1762, 0), (24, .iconst 1, 25, 0, 0, 0), (25, .iload_n 1, 26, 1, 0, 0), (26, .ishl, 27, 0, 0, 0), (27, .ixor, 28, 0, 0, 0), (28, .istore_n 3, 29, 3, 0, 0), (29, .aload_n 0, 30, 0, 0, 0), (30, .iload_n 3, 31, 3, 0, 0), (31, .invokevirtual 570, 34, 199, 2073, 0), (34, .ifCond .eq 5, 37, 39, 0, 0), (37, .iconst 0, 38, 0, 0, 0), (38, .ireturn, 39, 0, 0, 0), (39, .aload_n 0, 40, 0, 0, 0), (40, .iconst 1, 41, 0, 0, 0), (41, .iload_n 1, 42, 1, 0, 0), (42, .iconst 0, 43, 0, 0, 0), (43, .invokevirtual 566, 46, 275, 2065, 0), (46, .aload_n 0, 47, 0, 0, 0), (47, .getfield 82, 50, 12, 36, 1401), (50, .iload_n 1, 51, 1, 0, 0), (51, .iload_n 2, 52, 2, 0, 0), (52, .bastore, 53, 0, 0, 0), (53, .iconst 1, 54, 0, 0, 0), (54, .ireturn, 55, 0, 0, 0)]
-- 279: LikeYearsModel.give(II)Z
def mc279 : List (Nat × Ins) := [(0, .aload_n 0, 1, 0, 0, 0), (1, .iload_n 1, 2, 1, 0, 0), (2, .invokevirtual 383, 5, 200, 1754, 0), (5, .ifCond .eq 20, 8, 25, 0, 0), (8, .iload_n 2, 9, 2, 0, 0), (9, .invokestatic 493, 12, 248, 1960, 0), (12, .ifCond .eq 13, 15, 25, 0, 0), (15, .aload_n 0, 16, 0, 0, 0), (16, .getfield 70, 19, 12, 32, 1397), (19, .iload_n 1, 20, 1, 0, 0), (20, .iaload, 21, 0, 0, 0), (21, .iload_n 2, 22, 2, 0, 0), (22, .if_icmp .ne 5, 25, 27, 0, 0), (25, .iconst 0, 26, 0, 0, 0), (26, .ireturn, 27, 0, 0, 0), (27, .aload_n 0, 28, 0, 0, 0), (28, .iconst 2, 29, 0, 0, 0), (29, .iload_n 1, 30, 1, 0, 0), (30, .aload_n 0, 31, 0, 0, 0), (31, .getfield 70, 34, 12, 32, 1397), (34, .iload_n 1, 35, 1, 0, 0), (35, .iaload, 36, 0, 0, 0), (36, .invokevirtual 566, 39, 275, 2065, 0), (39, .aload_n 0, 40, 0, 0, 0), (40, .getfield 70, 43, 12, 32, 1397), (43, .iload_n 1, 44, 1, 0, 0), (44, .iload_n 2, 45, 2, 0, 0), (45, .iastore, 46, 0, 0, 0), (46, .iconst 1, 47, 0, 0, 0), (47, .ireturn, 48, 0, 0, 0)]
-- 280: LikeYearsModel.undo()Z
def mc280 : List (Nat × Ins) := [(0, .aload_n 0, 1, 0, 0, 0), (1, .getfield 362, 4, 12, 78, 1443), (4, .ifCond .ne 5, 7, 9, 0, 0), (7, .iconst 0, 8, 0, 0, 0), (8, .ireturn, 9, 0, 0, 0), (9, .aload_n 0, 10, 0, 0, 0), (10, .dup, 11, 0, 0, 0), (11, .getfield 362, 14, 12, 78, 1443), (14, .iconst 1, 15, 0, 0, 0), (15, .isub, 16, 0, 0, 0), (16, .putfield 362, 19, 12, 78, 1443), (19, .aload_n 0, 20, 0, 0, 0), (20, .dup, 21, 0, 0, 0), (21, .getfield 365, 24, 12, 79, 1444), (24, .iconst 1, 25, 0, 0, 0), (25, .iadd, 26, 0, 0, 0), (26, .putfield 365, 29, 12, 79, 1444), (29, .aload_n 0, 30, 0, 0, 0), (30, .aload_n 0, 31, 0, 0, 0), (31, .getfield 362, 34, 12, 78, 1443), (34, .iconst 0, 35, 0, 0, 0), (35, .invokevirtual 573, 38, 276, 2085, 0), (38, .iconst 1, 39, 0, 0, 0), (39, .ireturn, 40, 0, 0, 0)]
-- 281: LikeYearsModel.redo()Z
def mc281 : List (Nat × Ins) := [(0, .aload_n 0, 1, 0, 0, 0), (1, .getfield 365, 4, 12, 79, 1444), (4, .ifCond .ne 5, 7, 9, 0, 0), (7, .iconst 0, 8, 0, 0, 0), (8, .ireturn, 9, 0, 0, 0), (9, .aload_n 0, 10, 0, 0, 0), (10, .aload_n 0, 11, 0, 0, 0), (11, .getfield 362, 14, 12, 78, 1443), (14, .iconst 1, 15, 0, 0, 0), (15, .invokevirtual 573, 18, 276, 2085, 0), (18, .aload_n 0, 19, 0, 0, 0), (19, .dup, 20, 0, 0, 0), (20, .getfield 362, 23, 12, 78, 1443), (23, .iconst 1, 24, 0, 0, 0), (24, .iadd, 25, 0, 0, 0), (25, .putfield 362, 28, 12, 78, 1443), (28, .aload_n 0, 29, 0, 0, 0), (29, .dup, 30, 0, 0, 0), (30, .getfield 365, 33, 12, 79, 1444), (33, .iconst 1, 34, 0, 0, 0), (34, .isub, 35, 0, 0, 0), (35, .putfield 365, 38, 12, 79, 1444), (38, .iconst 1, 39, 0, 0, 0), (39, .ireturn, 40, 0, 0, 0)]
-- 282: LikeYearsModel.isBox(I)Z
def mc282 : List (Nat × Ins) := [(0, .iload_n 0, 1, 0, 0, 0), (1, .ifCond .lt 12, 4, 13, 0, 0), (4, .iload_n 0, 5, 0, 0, 0), (5, .iconst 3, 6, 0, 0, 0), (6, .if_icmp .ge 7, 9, 13, 0, 0), (9, .iconst 1, 10, 0, 0, 0), (10, .goto 4, 13, 14, 0, 0), (13, .iconst 0, 14, 0, 0, 0), (14, .ireturn, 15, 0, 0, 0)]
-- 283: LikeYearsModel.keep(I)I
def mc283_0 : List (Nat × Ins) := [(0, .iload_n 1, 1, 1, 0, 0), (1, .invokestatic 576, 4, 282, 2097, 0), (4, .ifCond .ne 5, 7, 9, 0, 0), (7, .iconst (-1), 8, 0, 0, 0), (8, .ireturn, 9, 0, 0, 0), (9, .aload_n 0, 10, 0, 0, 0), (10, .getfield 173, 13, 12, 80, 1445), (13, .iload_n 1, 14, 1, 0, 0), (14, .iconst 1, 15, 0, 0, 0), (15, .bastore, 16, 0, 0, 0), (16, .aload_n 0, 17, 0, 0, 0), (17, .getfield 179, 20, 12, 82, 1447), (20, .iload_n 1, 21, 1, 0, 0), (21, .aload_n 0, 22, 0, 0, 0), (22, .getfield 353, 25, 12, 38, 1403), (25, .iastore, 26, 0, 0, 0), (26, .iconst 0, 27, 0, 0, 0), (27, .istore_n 2, 28, 2, 0, 0), (28, .iload_n 2, 29, 2, 0, 0), (29, .bipush 96, 31, 0, 0, 0), (31, .if_icmp .ge 26, 34, 57, 0, 0), (34, .aload_n 0, 35, 0, 0, 0), (35, .getfield 182, 38, 12, 83, 1448), (38, .bipush 96, 40, 0, 0, 0), (40, .iload_n 1, 41, 1, 0, 0), (41, .imul, 42, 0, 0, 0), (42, .iload_n 2, 43, 2, 0, 0), (43, .iadd, 44, 0, 0, 0), (44, .aload_n 0, 45, 0, 0, 0), (45, .getfield 61, 48, 12, 29, 1394), (48, .iload_n 2, 49, 2, 0, 0), (49, .iaload, 50, 0, 0, 0), (50, .iastore, 51, 0, 0, 0), (51, .iinc 2 1, 54, 2, 0, 0), (54, .goto (-26), 57, 28, 0, 0), (57, .iconst 0, 58, 0, 0, 0), (58, .istore_n 2, 59, 2, 0, 0), (59, .iload_n 2, 60, 2, 0, 0), (60, .bipush 6, 62, 0, 0, 0), (62, .if_icmp .ge 26, 65, 88, 0, 0)]
def mc283_1 : List (Nat × Ins) := [(65, .aload_n 0, 66, 0, 0, 0), (66, .getfield 176, 69, 12, 81, 1446), (69, .bipush 6, 71, 0, 0, 0), (71, .iload_n 1, 72, 1, 0, 0), (72, .imul, 73, 0, 0, 0), (73, .iload_n 2, 74, 2, 0, 0), (74, .iadd, 75, 0, 0, 0), (75, .aload_n 0, 76, 0, 0, 0), (76, .getfield 82, 79, 12, 36, 1401), (79, .iload_n 2, 80, 2, 0, 0), (80, .baload, 81, 0, 0, 0), (81, .bastore, 82, 0, 0, 0), (82, .iinc 2 1, 85, 2, 0, 0), (85, .goto (-26), 88, 59, 0, 0), (88, .iconst 0, 89, 0, 0, 0), (89, .istore_n 2, 90, 2, 0, 0), (90, .iload_n 2, 91, 2, 0, 0), (91, .bipush 16, 93, 0, 0, 0), (93, .if_icmp .ge 77, 96, 170, 0, 0), (96, .aload_n 0, 97, 0, 0, 0), (97, .getfield 185, 100, 12, 84, 1449), (100, .bipush 16, 102, 0, 0, 0), (102, .iload_n 1, 103, 1, 0, 0), (103, .imul, 104, 0, 0, 0), (104, .iload_n 2, 105, 2, 0, 0), (105, .iadd, 106, 0, 0, 0), (106, .aload_n 0, 107, 0, 0, 0), (107, .getfield 64, 110, 12, 30, 1395), (110, .iload_n 2, 111, 2, 0, 0), (111, .iaload, 112, 0, 0, 0), (112, .iastore, 113, 0, 0, 0), (113, .aload_n 0, 114, 0, 0, 0), (114, .getfield 188, 117, 12, 85, 1450), (117, .bipush 16, 119, 0, 0, 0), (119, .iload_n 1, 120, 1, 0, 0), (120, .imul, 121, 0, 0, 0), (121, .iload_n 2, 122, 2, 0, 0), (122, .iadd, 123, 0, 0, 0), (123, .aload_n 0, 124, 0, 0, 0), (124, .getfield 67, 127, 12, 31, 1396)]
def mc283_2 : List (Nat × Ins) := [(127, .iload_n 2, 128, 2, 0, 0), (128, .iaload, 129, 0, 0, 0), (129, .iastore, 130, 0, 0, 0), (130, .aload_n 0, 131, 0, 0, 0), (131, .getfield 191, 134, 12, 86, 1451), (134, .bipush 16, 136, 0, 0, 0), (136, .iload_n 1, 137, 1, 0, 0), (137, .imul, 138, 0, 0, 0), (138, .iload_n 2, 139, 2, 0, 0), (139, .iadd, 140, 0, 0, 0), (140, .aload_n 0, 141, 0, 0, 0), (141, .getfield 70, 144, 12, 32, 1397), (144, .iload_n 2, 145, 2, 0, 0), (145, .iaload, 146, 0, 0, 0), (146, .iastore, 147, 0, 0, 0), (147, .aload_n 0, 148, 0, 0, 0), (148, .getfield 194, 151, 12, 87, 1452), (151, .bipush 16, 153, 0, 0, 0), (153, .iload_n 1, 154, 1, 0, 0), (154, .imul, 155, 0, 0, 0), (155, .iload_n 2, 156, 2, 0, 0), (156, .iadd, 157, 0, 0, 0), (157, .aload_n 0, 158, 0, 0, 0), (158, .getfield 73, 161, 12, 33, 1398), (161, .iload_n 2, 162, 2, 0, 0), (162, .iaload, 163, 0, 0, 0), (163, .iastore, 164, 0, 0, 0), (164, .iinc 2 1, 167, 2, 0, 0), (167, .goto (-77), 170, 90, 0, 0), (170, .aload_n 0, 171, 0, 0, 0), (171, .getfield 353, 174, 12, 38, 1403), (174, .ireturn, 175, 0, 0, 0)]
def mc283 : List (Nat × Ins) := mc283_0 ++ mc283_1 ++ mc283_2
-- 284: LikeYearsModel.back(I)I
def mc284_0 : List (Nat × Ins) := [(0, .iload_n 1, 1, 1, 0, 0), (1, .invokestatic 576, 4, 282, 2097, 0), (4, .ifCond .eq 12, 7, 16, 0, 0), (7, .aload_n 0, 8, 0, 0, 0), (8, .getfield 173, 11, 12, 80, 1445), (11, .iload_n 1, 12, 1, 0, 0), (12, .baload, 13, 0, 0, 0), (13, .ifCond .ne 5, 16, 18, 0, 0), (16, .iconst (-1), 17, 0, 0, 0), (17, .ireturn, 18, 0, 0, 0), (18, .aload_n 0, 19, 0, 0, 0), (19, .aload_n 0, 20, 0, 0, 0), (20, .getfield 179, 23, 12, 82, 1447), (23, .iload_n 1, 24, 1, 0, 0), (24, .iaload, 25, 0, 0, 0), (25, .putfield 353, 28, 12, 38, 1403), (28, .iconst 0, 29, 0, 0, 0), (29, .istore_n 2, 30, 2, 0, 0), (30, .iload_n 2, 31, 2, 0, 0), (31, .bipush 96, 33, 0, 0, 0), (33, .if_icmp .ge 26, 36, 59, 0, 0), (36, .aload_n 0, 37, 0, 0, 0), (37, .getfield 61, 40, 12, 29, 1394), (40, .iload_n 2, 41, 2, 0, 0), (41, .aload_n 0, 42, 0, 0, 0), (42, .getfield 182, 45, 12, 83, 1448), (45, .bipush 96, 47, 0, 0, 0), (47, .iload_n 1, 48, 1, 0, 0), (48, .imul, 49, 0, 0, 0), (49, .iload_n 2, 50, 2, 0, 0), (50, .iadd, 51, 0, 0, 0), (51, .iaload, 52, 0, 0, 0), (52, .iastore, 53, 0, 0, 0), (53, .iinc 2 1, 56, 2, 0, 0), (56, .goto (-26), 59, 30, 0, 0), (59, .iconst 0, 60, 0, 0, 0), (60, .istore_n 2, 61, 2, 0, 0), (61, .iload_n 2, 62, 2, 0, 0), (62, .bipush 6, 64, 0, 0, 0), (64, .if_icmp .ge 26, 67, 90, 0, 0)]
def mc284_1 : List (Nat × Ins) := [(67, .aload_n 0, 68, 0, 0, 0), (68, .getfield 82, 71, 12, 36, 1401), (71, .iload_n 2, 72, 2, 0, 0), (72, .aload_n 0, 73, 0, 0, 0), (73, .getfield 176, 76, 12, 81, 1446), (76, .bipush 6, 78, 0, 0, 0), (78, .iload_n 1, 79, 1, 0, 0), (79, .imul, 80, 0, 0, 0), (80, .iload_n 2, 81, 2, 0, 0), (81, .iadd, 82, 0, 0, 0), (82, .baload, 83, 0, 0, 0), (83, .bastore, 84, 0, 0, 0), (84, .iinc 2 1, 87, 2, 0, 0), (87, .goto (-26), 90, 61, 0, 0), (90, .iconst 0, 91, 0, 0, 0), (91, .istore_n 2, 92, 2, 0, 0), (92, .iload_n 2, 93, 2, 0, 0), (93, .bipush 16, 95, 0, 0, 0), (95, .if_icmp .ge 77, 98, 172, 0, 0), (98, .aload_n 0, 99, 0, 0, 0), (99, .getfield 64, 102, 12, 30, 1395), (102, .iload_n 2, 103, 2, 0, 0), (103, .aload_n 0, 104, 0, 0, 0), (104, .getfield 185, 107, 12, 84, 1449), (107, .bipush 16, 109, 0, 0, 0), (109, .iload_n 1, 110, 1, 0, 0), (110, .imul, 111, 0, 0, 0), (111, .iload_n 2, 112, 2, 0, 0), (112, .iadd, 113, 0, 0, 0), (113, .iaload, 114, 0, 0, 0), (114, .iastore, 115, 0, 0, 0), (115, .aload_n 0, 116, 0, 0, 0), (116, .getfield 67, 119, 12, 31, 1396), (119, .iload_n 2, 120, 2, 0, 0), (120, .aload_n 0, 121, 0, 0, 0), (121, .getfield 188, 124, 12, 85, 1450), (124, .bipush 16, 126, 0, 0, 0), (126, .iload_n 1, 127, 1, 0, 0), (127, .imul, 128, 0, 0, 0), (128, .iload_n 2, 129, 2, 0, 0)]
def mc284_2 : List (Nat × Ins) := [(129, .iadd, 130, 0, 0, 0), (130, .iaload, 131, 0, 0, 0), (131, .iastore, 132, 0, 0, 0), (132, .aload_n 0, 133, 0, 0, 0), (133, .getfield 70, 136, 12, 32, 1397), (136, .iload_n 2, 137, 2, 0, 0), (137, .aload_n 0, 138, 0, 0, 0), (138, .getfield 191, 141, 12, 86, 1451), (141, .bipush 16, 143, 0, 0, 0), (143, .iload_n 1, 144, 1, 0, 0), (144, .imul, 145, 0, 0, 0), (145, .iload_n 2, 146, 2, 0, 0), (146, .iadd, 147, 0, 0, 0), (147, .iaload, 148, 0, 0, 0), (148, .iastore, 149, 0, 0, 0), (149, .aload_n 0, 150, 0, 0, 0), (150, .getfield 73, 153, 12, 33, 1398), (153, .iload_n 2, 154, 2, 0, 0), (154, .aload_n 0, 155, 0, 0, 0), (155, .getfield 194, 158, 12, 87, 1452), (158, .bipush 16, 160, 0, 0, 0), (160, .iload_n 1, 161, 1, 0, 0), (161, .imul, 162, 0, 0, 0), (162, .iload_n 2, 163, 2, 0, 0), (163, .iadd, 164, 0, 0, 0), (164, .iaload, 165, 0, 0, 0), (165, .iastore, 166, 0, 0, 0), (166, .iinc 2 1, 169, 2, 0, 0), (169, .goto (-77), 172, 92, 0, 0), (172, .aload_n 0, 173, 0, 0, 0), (173, .iconst 0, 174, 0, 0, 0), (174, .putfield 362, 177, 12, 78, 1443), (177, .aload_n 0, 178, 0, 0, 0), (178, .iconst 0, 179, 0, 0, 0), (179, .putfield 365, 182, 12, 79, 1444), (182, .aload_n 0, 183, 0, 0, 0), (183, .getfield 353, 186, 12, 38, 1403), (186, .ireturn, 187, 0, 0, 0)]
def mc284 : List (Nat × Ins) := mc284_0 ++ mc284_1 ++ mc284_2
-- 285: LikeYearsModel.about(I)I
def mc285 : List (Nat × Ins) := [(0, .iload_n 1, 1, 1, 0, 0), (1, .bipush 10, 3, 0, 0, 0), (3, .if_icmp .lt 24, 6, 27, 0, 0), (6, .aload_n 0, 7, 0, 0, 0), (7, .iload_n 1, 8, 1, 0, 0), (8, .bipush 10, 10, 0, 0, 0), (10, .isub, 11, 0, 0, 0), (11, .invokevirtual 383, 14, 200, 1754, 0), (14, .ifCond .eq 13, 17, 27, 0, 0), (17, .aload_n 0, 18, 0, 0, 0), (18, .getfield 70, 21, 12, 32, 1397), (21, .iload_n 1, 22, 1, 0, 0), (22, .bipush 10, 24, 0, 0, 0), (24, .isub, 25, 0, 0, 0), (25, .iaload, 26, 0, 0, 0), (26, .ireturn, 27, 0, 0, 0), (27, .iload_n 1, 28, 1, 0, 0), (28, .tableswitch 70 0 5 #[40, 45, 50, 55, 60, 65], 68, 0, 0, 0), (68, .aload_n 0, 69, 0, 0, 0), (69, .getfield 350, 72, 12, 37, 1402), (72, .ireturn, 73, 0, 0, 0), (73, .aload_n 0, 74, 0, 0, 0), (74, .getfield 353, 77, 12, 38, 1403), (77, .ireturn, 78, 0, 0, 0), (78, .aload_n 0, 79, 0, 0, 0), (79, .getfield 356, 82, 12, 39, 1404), (82, .ireturn, 83, 0, 0, 0), (83, .aload_n 0, 84, 0, 0, 0), (84, .getfield 362, 87, 12, 78, 1443), (87, .ireturn, 88, 0, 0, 0), (88, .aload_n 0, 89, 0, 0, 0), (89, .getfield 197, 92, 12, 1, 1366), (92, .ireturn, 93, 0, 0, 0), (93, .aload_n 0, 94, 0, 0, 0), (94, .getfield 347, 97, 12, 70, 1435), (97, .ireturn, 98, 0, 0, 0), (98, .iconst (-1), 99, 0, 0, 0), (99, .ireturn, 100, 0, 0, 0)]
-- 286: java/lang/Integer.bitCount(I)I
def mc286_0 : List (Nat × Ins) := [(0, .iload_n 0, 1, 0, 0, 0), (1, .iload_n 0, 2, 0, 0, 0), (2, .iconst 1, 3, 0, 0, 0), (3, .iushr, 4, 0, 0, 0), (4, .ldc_w 265, 7, 0, 928, 1431655765), (7, .iand, 8, 0, 0, 0), (8, .isub, 9, 0, 0, 0), (9, .istore_n 0, 10, 0, 0, 0), (10, .iload_n 0, 11, 0, 0, 0), (11, .ldc_w 266, 14, 0, 929, 858993459), (14, .iand, 15, 0, 0, 0), (15, .iload_n 0, 16, 0, 0, 0), (16, .iconst 2, 17, 0, 0, 0), (17, .iushr, 18, 0, 0, 0), (18, .ldc_w 266, 21, 0, 929, 858993459), (21, .iand, 22, 0, 0, 0), (22, .iadd, 23, 0, 0, 0), (23, .istore_n 0, 24, 0, 0, 0), (24, .iload_n 0, 25, 0, 0, 0), (25, .iload_n 0, 26, 0, 0, 0), (26, .iconst 4, 27, 0, 0, 0), (27, .iushr, 28, 0, 0, 0), (28, .iadd, 29, 0, 0, 0), (29, .ldc_w 267, 32, 0, 930, 252645135), (32, .iand, 33, 0, 0, 0), (33, .istore_n 0, 34, 0, 0, 0), (34, .iload_n 0, 35, 0, 0, 0), (35, .iload_n 0, 36, 0, 0, 0), (36, .bipush 8, 38, 0, 0, 0), (38, .iushr, 39, 0, 0, 0), (39, .iadd, 40, 0, 0, 0), (40, .istore_n 0, 41, 0, 0, 0), (41, .iload_n 0, 42, 0, 0, 0), (42, .iload_n 0, 43, 0, 0, 0), (43, .bipush 16, 45, 0, 0, 0), (45, .iushr, 46, 0, 0, 0), (46, .iadd, 47, 0, 0, 0), (47, .istore_n 0, 48, 0, 0, 0), (48, .iload_n 0, 49, 0, 0, 0), (49, .bipush 63, 51, 0, 0, 0)]
def mc286_1 : List (Nat × Ins) := [(51, .iand, 52, 0, 0, 0), (52, .ireturn, 53, 0, 0, 0)]
def mc286 : List (Nat × Ins) := mc286_0 ++ mc286_1
-- 287: java/lang/Long.compare(JJ)I
def mc287 : List (Nat × Ins) := [(0, .lload_n 0, 1, 0, 0, 0), (1, .lload_n 2, 2, 2, 0, 0), (2, .lcmp, 3, 0, 0, 0), (3, .ifCond .ge 7, 6, 10, 0, 0), (6, .iconst (-1), 7, 0, 0, 0), (7, .goto 14, 10, 21, 0, 0), (10, .lload_n 0, 11, 0, 0, 0), (11, .lload_n 2, 12, 2, 0, 0), (12, .lcmp, 13, 0, 0, 0), (13, .ifCond .ne 7, 16, 20, 0, 0), (16, .iconst 0, 17, 0, 0, 0), (17, .goto 4, 20, 21, 0, 0), (20, .iconst 1, 21, 0, 0, 0), (21, .ireturn, 22, 0, 0, 0)]
-- 288: java/lang/Math.abs(I)I
def mc288 : List (Nat × Ins) := [(0, .iload_n 0, 1, 0, 0, 0), (1, .ifCond .ge 8, 4, 9, 0, 0), (4, .iload_n 0, 5, 0, 0, 0), (5, .ineg, 6, 0, 0, 0), (6, .goto 4, 9, 10, 0, 0), (9, .iload_n 0, 10, 0, 0, 0), (10, .ireturn, 11, 0, 0, 0)]
-- 289: java/lang/Math.abs(J)J
def mc289 : List (Nat × Ins) := [(0, .lload_n 0, 1, 0, 0, 0), (1, .lconst 0, 2, 0, 0, 0), (2, .lcmp, 3, 0, 0, 0), (3, .ifCond .ge 8, 6, 11, 0, 0), (6, .lload_n 0, 7, 0, 0, 0), (7, .lneg, 8, 0, 0, 0), (8, .goto 4, 11, 12, 0, 0), (11, .lload_n 0, 12, 0, 0, 0), (12, .lreturn, 13, 0, 0, 0)]
-- 290: java/lang/Math.max(II)I
def mc290 : List (Nat × Ins) := [(0, .iload_n 0, 1, 0, 0, 0), (1, .iload_n 1, 2, 1, 0, 0), (2, .if_icmp .lt 7, 5, 9, 0, 0), (5, .iload_n 0, 6, 0, 0, 0), (6, .goto 4, 9, 10, 0, 0), (9, .iload_n 1, 10, 1, 0, 0), (10, .ireturn, 11, 0, 0, 0)]
-- 291: java/lang/Math.min(II)I
def mc291 : List (Nat × Ins) := [(0, .iload_n 0, 1, 0, 0, 0), (1, .iload_n 1, 2, 1, 0, 0), (2, .if_icmp .gt 7, 5, 9, 0, 0), (5, .iload_n 0, 6, 0, 0, 0), (6, .goto 4, 9, 10, 0, 0), (9, .iload_n 1, 10, 1, 0, 0), (10, .ireturn, 11, 0, 0, 0)]
-- 292: java/util/Arrays.fill([II)V
def mc292 : List (Nat × Ins) := [(0, .iconst 0, 1, 0, 0, 0), (1, .istore_n 2, 2, 2, 0, 0), (2, .aload_n 0, 3, 0, 0, 0), (3, .arraylength, 4, 0, 0, 0), (4, .istore_n 3, 5, 3, 0, 0), (5, .iload_n 2, 6, 2, 0, 0), (6, .iload_n 3, 7, 3, 0, 0), (7, .if_icmp .ge 13, 10, 20, 0, 0), (10, .aload_n 0, 11, 0, 0, 0), (11, .iload_n 2, 12, 2, 0, 0), (12, .iload_n 1, 13, 1, 0, 0), (13, .iastore, 14, 0, 0, 0), (14, .iinc 2 1, 17, 2, 0, 0), (17, .goto (-12), 20, 5, 0, 0), (20, .return_, 21, 0, 0, 0)]
-- 293: java/util/Arrays.fill([ZZ)V
def mc293 : List (Nat × Ins) := [(0, .iconst 0, 1, 0, 0, 0), (1, .istore_n 2, 2, 2, 0, 0), (2, .aload_n 0, 3, 0, 0, 0), (3, .arraylength, 4, 0, 0, 0), (4, .istore_n 3, 5, 3, 0, 0), (5, .iload_n 2, 6, 2, 0, 0), (6, .iload_n 3, 7, 3, 0, 0), (7, .if_icmp .ge 13, 10, 20, 0, 0), (10, .aload_n 0, 11, 0, 0, 0), (11, .iload_n 2, 12, 2, 0, 0), (12, .iload_n 1, 13, 1, 0, 0), (13, .bastore, 14, 0, 0, 0), (14, .iinc 2 1, 17, 2, 0, 0), (17, .goto (-12), 20, 5, 0, 0), (20, .return_, 21, 0, 0, 0)]
-- 294: LikeYearsLaw.law([I)Z
def mc294_0 : List (Nat × Ins) := [(0, .new 7, 3, 0, 0, 0), (3, .dup, 4, 0, 0, 0), (4, .invokespecial 9, 7, 0, 0, 0), (7, .astore_n 1, 8, 1, 0, 0), (8, .new 10, 11, 0, 0, 0), (11, .dup, 12, 0, 0, 0), (12, .invokespecial 12, 15, 0, 0, 0), (15, .astore_n 2, 16, 2, 0, 0), (16, .iconst 0, 17, 0, 0, 0), (17, .istore_n 3, 18, 3, 0, 0), (18, .iload_n 3, 19, 3, 0, 0), (19, .aload_n 0, 20, 0, 0, 0), (20, .arraylength, 21, 0, 0, 0), (21, .bipush 6, 23, 0, 0, 0), (23, .isub, 24, 0, 0, 0), (24, .if_icmp .gt 1327, 27, 1351, 0, 0), (27, .aload_n 0, 28, 0, 0, 0), (28, .iload_n 3, 29, 3, 0, 0), (29, .iaload, 30, 0, 0, 0), (30, .bipush 63, 32, 0, 0, 0), (32, .iand, 33, 0, 0, 0), (33, .tableswitch 1312 0 37 #[167, 230, 253, 266, 279, 302, 335, 358, 381, 404, 448, 482, 505, 528, 572, 616, 629, 673, 706, 729, 763, 797, 831, 844, 907, 930, 953, 976, 1009, 1059, 1082, 1135, 1184, 1217, 1230, 1243, 1266, 1289], 200, 0, 0, 0), (200, .aload_n 1, 201, 1, 0, 0), (201, .aload_n 0, 202, 0, 0, 0), (202, .iload_n 3, 203, 3, 0, 0), (203, .iconst 1, 204, 0, 0, 0), (204, .iadd, 205, 0, 0, 0), (205, .iaload, 206, 0, 0, 0), (206, .aload_n 0, 207, 0, 0, 0), (207, .iload_n 3, 208, 3, 0, 0), (208, .iconst 2, 209, 0, 0, 0), (209, .iadd, 210, 0, 0, 0), (210, .iaload, 211, 0, 0, 0), (211, .aload_n 0, 212, 0, 0, 0), (212, .iload_n 3, 213, 3, 0, 0), (213, .iconst 3, 214, 0, 0, 0), (214, .iadd, 215, 0, 0, 0), (215, .iaload, 216, 0, 0, 0), (216, .aload_n 0, 217, 0, 0, 0), (217, .iload_n 3, 218, 3, 0, 0)]
def mc294_1 : List (Nat × Ins) := [(218, .iconst 4, 219, 0, 0, 0), (219, .iadd, 220, 0, 0, 0), (220, .iaload, 221, 0, 0, 0), (221, .aload_n 0, 222, 0, 0, 0), (222, .iload_n 3, 223, 3, 0, 0), (223, .iconst 5, 224, 0, 0, 0), (224, .iadd, 225, 0, 0, 0), (225, .iaload, 226, 0, 0, 0), (226, .invokevirtual 13, 229, 117, 509, 0), (229, .aload_n 2, 230, 2, 0, 0), (230, .aload_n 0, 231, 0, 0, 0), (231, .iload_n 3, 232, 3, 0, 0), (232, .iconst 1, 233, 0, 0, 0), (233, .iadd, 234, 0, 0, 0), (234, .iaload, 235, 0, 0, 0), (235, .aload_n 0, 236, 0, 0, 0), (236, .iload_n 3, 237, 3, 0, 0), (237, .iconst 2, 238, 0, 0, 0), (238, .iadd, 239, 0, 0, 0), (239, .iaload, 240, 0, 0, 0), (240, .aload_n 0, 241, 0, 0, 0), (241, .iload_n 3, 242, 3, 0, 0), (242, .iconst 3, 243, 0, 0, 0), (243, .iadd, 244, 0, 0, 0), (244, .iaload, 245, 0, 0, 0), (245, .aload_n 0, 246, 0, 0, 0), (246, .iload_n 3, 247, 3, 0, 0), (247, .iconst 4, 248, 0, 0, 0), (248, .iadd, 249, 0, 0, 0), (249, .iaload, 250, 0, 0, 0), (250, .aload_n 0, 251, 0, 0, 0), (251, .iload_n 3, 252, 3, 0, 0), (252, .iconst 5, 253, 0, 0, 0), (253, .iadd, 254, 0, 0, 0), (254, .iaload, 255, 0, 0, 0), (255, .invokevirtual 17, 258, 168, 1630, 0), (258, .if_icmp .eq 1087, 261, 1345, 0, 0), (261, .iconst 0, 262, 0, 0, 0), (262, .ireturn, 263, 0, 0, 0), (263, .aload_n 1, 264, 1, 0, 0)]
def mc294_2 : List (Nat × Ins) := [(264, .aload_n 0, 265, 0, 0, 0), (265, .iload_n 3, 266, 3, 0, 0), (266, .iconst 1, 267, 0, 0, 0), (267, .iadd, 268, 0, 0, 0), (268, .iaload, 269, 0, 0, 0), (269, .invokevirtual 18, 272, 118, 517, 0), (272, .aload_n 2, 273, 2, 0, 0), (273, .aload_n 0, 274, 0, 0, 0), (274, .iload_n 3, 275, 3, 0, 0), (275, .iconst 1, 276, 0, 0, 0), (276, .iadd, 277, 0, 0, 0), (277, .iaload, 278, 0, 0, 0), (278, .invokevirtual 22, 281, 170, 1638, 0), (281, .if_icmp .eq 1064, 284, 1345, 0, 0), (284, .iconst 0, 285, 0, 0, 0), (285, .ireturn, 286, 0, 0, 0), (286, .aload_n 1, 287, 1, 0, 0), (287, .invokevirtual 23, 290, 119, 521, 0), (290, .aload_n 2, 291, 2, 0, 0), (291, .invokevirtual 27, 294, 191, 1642, 0), (294, .if_icmp .eq 1051, 297, 1345, 0, 0), (297, .iconst 0, 298, 0, 0, 0), (298, .ireturn, 299, 0, 0, 0), (299, .aload_n 1, 300, 1, 0, 0), (300, .invokevirtual 28, 303, 120, 809, 0), (303, .aload_n 2, 304, 2, 0, 0), (304, .invokevirtual 31, 307, 263, 1967, 0), (307, .if_icmp .eq 1038, 310, 1345, 0, 0), (310, .iconst 0, 311, 0, 0, 0), (311, .ireturn, 312, 0, 0, 0), (312, .aload_n 1, 313, 1, 0, 0), (313, .aload_n 0, 314, 0, 0, 0), (314, .iload_n 3, 315, 3, 0, 0), (315, .iconst 1, 316, 0, 0, 0), (316, .iadd, 317, 0, 0, 0), (317, .iaload, 318, 0, 0, 0), (318, .invokevirtual 32, 321, 121, 869, 0), (321, .aload_n 2, 322, 2, 0, 0), (322, .aload_n 0, 323, 0, 0, 0), (323, .iload_n 3, 324, 3, 0, 0)]
def mc294_3 : List (Nat × Ins) := [(324, .iconst 1, 325, 0, 0, 0), (325, .iadd, 326, 0, 0, 0), (326, .iaload, 327, 0, 0, 0), (327, .invokevirtual 35, 330, 192, 1746, 0), (330, .if_icmp .eq 1015, 333, 1345, 0, 0), (333, .iconst 0, 334, 0, 0, 0), (334, .ireturn, 335, 0, 0, 0), (335, .aload_n 1, 336, 1, 0, 0), (336, .aload_n 0, 337, 0, 0, 0), (337, .iload_n 3, 338, 3, 0, 0), (338, .iconst 1, 339, 0, 0, 0), (339, .iadd, 340, 0, 0, 0), (340, .iaload, 341, 0, 0, 0), (341, .aload_n 0, 342, 0, 0, 0), (342, .iload_n 3, 343, 3, 0, 0), (343, .iconst 2, 344, 0, 0, 0), (344, .iadd, 345, 0, 0, 0), (345, .iaload, 346, 0, 0, 0), (346, .invokevirtual 36, 349, 122, 873, 0), (349, .aload_n 2, 350, 2, 0, 0), (350, .aload_n 0, 351, 0, 0, 0), (351, .iload_n 3, 352, 3, 0, 0), (352, .iconst 1, 353, 0, 0, 0), (353, .iadd, 354, 0, 0, 0), (354, .iaload, 355, 0, 0, 0), (355, .aload_n 0, 356, 0, 0, 0), (356, .iload_n 3, 357, 3, 0, 0), (357, .iconst 2, 358, 0, 0, 0), (358, .iadd, 359, 0, 0, 0), (359, .iaload, 360, 0, 0, 0), (360, .invokevirtual 40, 363, 203, 1750, 0), (363, .if_icmp .eq 982, 366, 1345, 0, 0), (366, .iconst 0, 367, 0, 0, 0), (367, .ireturn, 368, 0, 0, 0), (368, .aload_n 1, 369, 1, 0, 0), (369, .aload_n 0, 370, 0, 0, 0), (370, .iload_n 3, 371, 3, 0, 0), (371, .iconst 1, 372, 0, 0, 0), (372, .iadd, 373, 0, 0, 0), (373, .iaload, 374, 0, 0, 0)]
def mc294_4 : List (Nat × Ins) := [(374, .invokevirtual 41, 377, 123, 888, 0), (377, .aload_n 2, 378, 2, 0, 0), (378, .aload_n 0, 379, 0, 0, 0), (379, .iload_n 3, 380, 3, 0, 0), (380, .iconst 1, 381, 0, 0, 0), (381, .iadd, 382, 0, 0, 0), (382, .iaload, 383, 0, 0, 0), (383, .invokevirtual 44, 386, 207, 1778, 0), (386, .if_icmp .eq 959, 389, 1345, 0, 0), (389, .iconst 0, 390, 0, 0, 0), (390, .ireturn, 391, 0, 0, 0), (391, .aload_n 1, 392, 1, 0, 0), (392, .aload_n 0, 393, 0, 0, 0), (393, .iload_n 3, 394, 3, 0, 0), (394, .iconst 1, 395, 0, 0, 0), (395, .iadd, 396, 0, 0, 0), (396, .iaload, 397, 0, 0, 0), (397, .invokevirtual 45, 400, 124, 913, 0), (400, .aload_n 2, 401, 2, 0, 0), (401, .aload_n 0, 402, 0, 0, 0), (402, .iload_n 3, 403, 3, 0, 0), (403, .iconst 1, 404, 0, 0, 0), (404, .iadd, 405, 0, 0, 0), (405, .iaload, 406, 0, 0, 0), (406, .invokevirtual 48, 409, 208, 1790, 0), (409, .if_icmp .eq 936, 412, 1345, 0, 0), (412, .iconst 0, 413, 0, 0, 0), (413, .ireturn, 414, 0, 0, 0), (414, .aload_n 1, 415, 1, 0, 0), (415, .aload_n 0, 416, 0, 0, 0), (416, .iload_n 3, 417, 3, 0, 0), (417, .iconst 1, 418, 0, 0, 0), (418, .iadd, 419, 0, 0, 0), (419, .iaload, 420, 0, 0, 0), (420, .invokevirtual 49, 423, 125, 934, 0), (423, .aload_n 2, 424, 2, 0, 0), (424, .aload_n 0, 425, 0, 0, 0), (425, .iload_n 3, 426, 3, 0, 0), (426, .iconst 1, 427, 0, 0, 0), (427, .iadd, 428, 0, 0, 0)]
def mc294_5 : List (Nat × Ins) := [(428, .iaload, 429, 0, 0, 0), (429, .invokevirtual 52, 432, 209, 1798, 0), (432, .if_icmp .eq 913, 435, 1345, 0, 0), (435, .iconst 0, 436, 0, 0, 0), (436, .ireturn, 437, 0, 0, 0), (437, .aload_n 1, 438, 1, 0, 0), (438, .aload_n 0, 439, 0, 0, 0), (439, .iload_n 3, 440, 3, 0, 0), (440, .iconst 1, 441, 0, 0, 0), (441, .iadd, 442, 0, 0, 0), (442, .iaload, 443, 0, 0, 0), (443, .aload_n 0, 444, 0, 0, 0), (444, .iload_n 3, 445, 3, 0, 0), (445, .iconst 2, 446, 0, 0, 0), (446, .iadd, 447, 0, 0, 0), (447, .iaload, 448, 0, 0, 0), (448, .aload_n 0, 449, 0, 0, 0), (449, .iload_n 3, 450, 3, 0, 0), (450, .iconst 3, 451, 0, 0, 0), (451, .iadd, 452, 0, 0, 0), (452, .iaload, 453, 0, 0, 0), (453, .invokevirtual 53, 456, 126, 942, 0), (456, .aload_n 2, 457, 2, 0, 0), (457, .aload_n 0, 458, 0, 0, 0), (458, .iload_n 3, 459, 3, 0, 0), (459, .iconst 1, 460, 0, 0, 0), (460, .iadd, 461, 0, 0, 0), (461, .iaload, 462, 0, 0, 0), (462, .aload_n 0, 463, 0, 0, 0), (463, .iload_n 3, 464, 3, 0, 0), (464, .iconst 2, 465, 0, 0, 0), (465, .iadd, 466, 0, 0, 0), (466, .iaload, 467, 0, 0, 0), (467, .aload_n 0, 468, 0, 0, 0), (468, .iload_n 3, 469, 3, 0, 0), (469, .iconst 3, 470, 0, 0, 0), (470, .iadd, 471, 0, 0, 0), (471, .iaload, 472, 0, 0, 0), (472, .invokevirtual 57, 475, 228, 1828, 0), (475, .lcmp, 476, 0, 0, 0)]
def mc294_6 : List (Nat × Ins) := [(476, .ifCond .eq 869, 479, 1345, 0, 0), (479, .iconst 0, 480, 0, 0, 0), (480, .ireturn, 481, 0, 0, 0), (481, .aload_n 1, 482, 1, 0, 0), (482, .aload_n 0, 483, 0, 0, 0), (483, .iload_n 3, 484, 3, 0, 0), (484, .iconst 1, 485, 0, 0, 0), (485, .iadd, 486, 0, 0, 0), (486, .iaload, 487, 0, 0, 0), (487, .aload_n 0, 488, 0, 0, 0), (488, .iload_n 3, 489, 3, 0, 0), (489, .iconst 2, 490, 0, 0, 0), (490, .iadd, 491, 0, 0, 0), (491, .iaload, 492, 0, 0, 0), (492, .invokevirtual 58, 495, 127, 1052, 0), (495, .aload_n 2, 496, 2, 0, 0), (496, .aload_n 0, 497, 0, 0, 0), (497, .iload_n 3, 498, 3, 0, 0), (498, .iconst 1, 499, 0, 0, 0), (499, .iadd, 500, 0, 0, 0), (500, .iaload, 501, 0, 0, 0), (501, .aload_n 0, 502, 0, 0, 0), (502, .iload_n 3, 503, 3, 0, 0), (503, .iconst 2, 504, 0, 0, 0), (504, .iadd, 505, 0, 0, 0), (505, .iaload, 506, 0, 0, 0), (506, .invokevirtual 62, 509, 229, 1876, 0), (509, .lcmp, 510, 0, 0, 0), (510, .ifCond .eq 835, 513, 1345, 0, 0), (513, .iconst 0, 514, 0, 0, 0), (514, .ireturn, 515, 0, 0, 0), (515, .aload_n 1, 516, 1, 0, 0), (516, .aload_n 0, 517, 0, 0, 0), (517, .iload_n 3, 518, 3, 0, 0), (518, .iconst 1, 519, 0, 0, 0), (519, .iadd, 520, 0, 0, 0), (520, .iaload, 521, 0, 0, 0), (521, .invokevirtual 63, 524, 128, 1062, 0), (524, .aload_n 2, 525, 2, 0, 0), (525, .aload_n 0, 526, 0, 0, 0)]
def mc294_7 : List (Nat × Ins) := [(526, .iload_n 3, 527, 3, 0, 0), (527, .iconst 1, 528, 0, 0, 0), (528, .iadd, 529, 0, 0, 0), (529, .iaload, 530, 0, 0, 0), (530, .invokevirtual 66, 533, 226, 1802, 0), (533, .if_icmp .eq 812, 536, 1345, 0, 0), (536, .iconst 0, 537, 0, 0, 0), (537, .ireturn, 538, 0, 0, 0), (538, .aload_n 1, 539, 1, 0, 0), (539, .aload_n 0, 540, 0, 0, 0), (540, .iload_n 3, 541, 3, 0, 0), (541, .iconst 1, 542, 0, 0, 0), (542, .iadd, 543, 0, 0, 0), (543, .iaload, 544, 0, 0, 0), (544, .invokevirtual 67, 547, 129, 1066, 0), (547, .aload_n 2, 548, 2, 0, 0), (548, .aload_n 0, 549, 0, 0, 0), (549, .iload_n 3, 550, 3, 0, 0), (550, .iconst 1, 551, 0, 0, 0), (551, .iadd, 552, 0, 0, 0), (552, .iaload, 553, 0, 0, 0), (553, .invokevirtual 70, 556, 231, 1884, 0), (556, .if_icmp .eq 789, 559, 1345, 0, 0), (559, .iconst 0, 560, 0, 0, 0), (560, .ireturn, 561, 0, 0, 0), (561, .aload_n 1, 562, 1, 0, 0), (562, .aload_n 0, 563, 0, 0, 0), (563, .iload_n 3, 564, 3, 0, 0), (564, .iconst 1, 565, 0, 0, 0), (565, .iadd, 566, 0, 0, 0), (566, .iaload, 567, 0, 0, 0), (567, .aload_n 0, 568, 0, 0, 0), (568, .iload_n 3, 569, 3, 0, 0), (569, .iconst 2, 570, 0, 0, 0), (570, .iadd, 571, 0, 0, 0), (571, .iaload, 572, 0, 0, 0), (572, .aload_n 0, 573, 0, 0, 0), (573, .iload_n 3, 574, 3, 0, 0), (574, .iconst 3, 575, 0, 0, 0), (575, .iadd, 576, 0, 0, 0)]
def mc294_8 : List (Nat × Ins) := [(576, .iaload, 577, 0, 0, 0), (577, .invokevirtual 71, 580, 130, 1090, 0), (580, .aload_n 2, 581, 2, 0, 0), (581, .aload_n 0, 582, 0, 0, 0), (582, .iload_n 3, 583, 3, 0, 0), (583, .iconst 1, 584, 0, 0, 0), (584, .iadd, 585, 0, 0, 0), (585, .iaload, 586, 0, 0, 0), (586, .aload_n 0, 587, 0, 0, 0), (587, .iload_n 3, 588, 3, 0, 0), (588, .iconst 2, 589, 0, 0, 0), (589, .iadd, 590, 0, 0, 0), (590, .iaload, 591, 0, 0, 0), (591, .aload_n 0, 592, 0, 0, 0), (592, .iload_n 3, 593, 3, 0, 0), (593, .iconst 3, 594, 0, 0, 0), (594, .iadd, 595, 0, 0, 0), (595, .iaload, 596, 0, 0, 0), (596, .invokevirtual 74, 599, 233, 1888, 0), (599, .lcmp, 600, 0, 0, 0), (600, .ifCond .eq 745, 603, 1345, 0, 0), (603, .iconst 0, 604, 0, 0, 0), (604, .ireturn, 605, 0, 0, 0), (605, .aload_n 1, 606, 1, 0, 0), (606, .aload_n 0, 607, 0, 0, 0), (607, .iload_n 3, 608, 3, 0, 0), (608, .iconst 1, 609, 0, 0, 0), (609, .iadd, 610, 0, 0, 0), (610, .iaload, 611, 0, 0, 0), (611, .aload_n 0, 612, 0, 0, 0), (612, .iload_n 3, 613, 3, 0, 0), (613, .iconst 2, 614, 0, 0, 0), (614, .iadd, 615, 0, 0, 0), (615, .iaload, 616, 0, 0, 0), (616, .aload_n 0, 617, 0, 0, 0), (617, .iload_n 3, 618, 3, 0, 0), (618, .iconst 3, 619, 0, 0, 0), (619, .iadd, 620, 0, 0, 0), (620, .iaload, 621, 0, 0, 0), (621, .invokevirtual 75, 624, 131, 1106, 0)]
def mc294_9 : List (Nat × Ins) := [(624, .aload_n 2, 625, 2, 0, 0), (625, .aload_n 0, 626, 0, 0, 0), (626, .iload_n 3, 627, 3, 0, 0), (627, .iconst 1, 628, 0, 0, 0), (628, .iadd, 629, 0, 0, 0), (629, .iaload, 630, 0, 0, 0), (630, .aload_n 0, 631, 0, 0, 0), (631, .iload_n 3, 632, 3, 0, 0), (632, .iconst 2, 633, 0, 0, 0), (633, .iadd, 634, 0, 0, 0), (634, .iaload, 635, 0, 0, 0), (635, .aload_n 0, 636, 0, 0, 0), (636, .iload_n 3, 637, 3, 0, 0), (637, .iconst 3, 638, 0, 0, 0), (638, .iadd, 639, 0, 0, 0), (639, .iaload, 640, 0, 0, 0), (640, .invokevirtual 78, 643, 234, 1900, 0), (643, .lcmp, 644, 0, 0, 0), (644, .ifCond .eq 701, 647, 1345, 0, 0), (647, .iconst 0, 648, 0, 0, 0), (648, .ireturn, 649, 0, 0, 0), (649, .aload_n 1, 650, 1, 0, 0), (650, .invokevirtual 79, 653, 132, 1112, 0), (653, .aload_n 2, 654, 2, 0, 0), (654, .invokevirtual 82, 657, 235, 1905, 0), (657, .if_icmp .eq 688, 660, 1345, 0, 0), (660, .iconst 0, 661, 0, 0, 0), (661, .ireturn, 662, 0, 0, 0), (662, .aload_n 1, 663, 1, 0, 0), (663, .aload_n 0, 664, 0, 0, 0), (664, .iload_n 3, 665, 3, 0, 0), (665, .iconst 1, 666, 0, 0, 0), (666, .iadd, 667, 0, 0, 0), (667, .iaload, 668, 0, 0, 0), (668, .aload_n 0, 669, 0, 0, 0), (669, .iload_n 3, 670, 3, 0, 0), (670, .iconst 2, 671, 0, 0, 0), (671, .iadd, 672, 0, 0, 0), (672, .iaload, 673, 0, 0, 0), (673, .aload_n 0, 674, 0, 0, 0)]
def mc294_10 : List (Nat × Ins) := [(674, .iload_n 3, 675, 3, 0, 0), (675, .iconst 3, 676, 0, 0, 0), (676, .iadd, 677, 0, 0, 0), (677, .iaload, 678, 0, 0, 0), (678, .invokevirtual 83, 681, 133, 1126, 0), (681, .aload_n 2, 682, 2, 0, 0), (682, .aload_n 0, 683, 0, 0, 0), (683, .iload_n 3, 684, 3, 0, 0), (684, .iconst 1, 685, 0, 0, 0), (685, .iadd, 686, 0, 0, 0), (686, .iaload, 687, 0, 0, 0), (687, .aload_n 0, 688, 0, 0, 0), (688, .iload_n 3, 689, 3, 0, 0), (689, .iconst 2, 690, 0, 0, 0), (690, .iadd, 691, 0, 0, 0), (691, .iaload, 692, 0, 0, 0), (692, .aload_n 0, 693, 0, 0, 0), (693, .iload_n 3, 694, 3, 0, 0), (694, .iconst 3, 695, 0, 0, 0), (695, .iadd, 696, 0, 0, 0), (696, .iaload, 697, 0, 0, 0), (697, .invokevirtual 86, 700, 239, 1909, 0), (700, .lcmp, 701, 0, 0, 0), (701, .ifCond .eq 644, 704, 1345, 0, 0), (704, .iconst 0, 705, 0, 0, 0), (705, .ireturn, 706, 0, 0, 0), (706, .aload_n 1, 707, 1, 0, 0), (707, .aload_n 0, 708, 0, 0, 0), (708, .iload_n 3, 709, 3, 0, 0), (709, .iconst 1, 710, 0, 0, 0), (710, .iadd, 711, 0, 0, 0), (711, .iaload, 712, 0, 0, 0), (712, .aload_n 0, 713, 0, 0, 0), (713, .iload_n 3, 714, 3, 0, 0), (714, .iconst 2, 715, 0, 0, 0), (715, .iadd, 716, 0, 0, 0), (716, .iaload, 717, 0, 0, 0), (717, .invokevirtual 87, 720, 134, 1170, 0), (720, .aload_n 2, 721, 2, 0, 0), (721, .aload_n 0, 722, 0, 0, 0)]
def mc294_11 : List (Nat × Ins) := [(722, .iload_n 3, 723, 3, 0, 0), (723, .iconst 1, 724, 0, 0, 0), (724, .iadd, 725, 0, 0, 0), (725, .iaload, 726, 0, 0, 0), (726, .aload_n 0, 727, 0, 0, 0), (727, .iload_n 3, 728, 3, 0, 0), (728, .iconst 2, 729, 0, 0, 0), (729, .iadd, 730, 0, 0, 0), (730, .iaload, 731, 0, 0, 0), (731, .invokevirtual 90, 734, 240, 1925, 0), (734, .if_icmp .eq 611, 737, 1345, 0, 0), (737, .iconst 0, 738, 0, 0, 0), (738, .ireturn, 739, 0, 0, 0), (739, .aload_n 1, 740, 1, 0, 0), (740, .aload_n 0, 741, 0, 0, 0), (741, .iload_n 3, 742, 3, 0, 0), (742, .iconst 1, 743, 0, 0, 0), (743, .iadd, 744, 0, 0, 0), (744, .iaload, 745, 0, 0, 0), (745, .invokevirtual 91, 748, 135, 1174, 0), (748, .aload_n 2, 749, 2, 0, 0), (749, .aload_n 0, 750, 0, 0, 0), (750, .iload_n 3, 751, 3, 0, 0), (751, .iconst 1, 752, 0, 0, 0), (752, .iadd, 753, 0, 0, 0), (753, .iaload, 754, 0, 0, 0), (754, .invokevirtual 94, 757, 243, 1929, 0), (757, .if_icmp .eq 588, 760, 1345, 0, 0), (760, .iconst 0, 761, 0, 0, 0), (761, .ireturn, 762, 0, 0, 0), (762, .aload_n 1, 763, 1, 0, 0), (763, .aload_n 0, 764, 0, 0, 0), (764, .iload_n 3, 765, 3, 0, 0), (765, .iconst 1, 766, 0, 0, 0), (766, .iadd, 767, 0, 0, 0), (767, .iaload, 768, 0, 0, 0), (768, .aload_n 0, 769, 0, 0, 0), (769, .iload_n 3, 770, 3, 0, 0), (770, .iconst 2, 771, 0, 0, 0), (771, .iadd, 772, 0, 0, 0)]
def mc294_12 : List (Nat × Ins) := [(772, .iaload, 773, 0, 0, 0), (773, .invokevirtual 95, 776, 136, 1178, 0), (776, .aload_n 2, 777, 2, 0, 0), (777, .aload_n 0, 778, 0, 0, 0), (778, .iload_n 3, 779, 3, 0, 0), (779, .iconst 1, 780, 0, 0, 0), (780, .iadd, 781, 0, 0, 0), (781, .iaload, 782, 0, 0, 0), (782, .aload_n 0, 783, 0, 0, 0), (783, .iload_n 3, 784, 3, 0, 0), (784, .iconst 2, 785, 0, 0, 0), (785, .iadd, 786, 0, 0, 0), (786, .iaload, 787, 0, 0, 0), (787, .invokevirtual 98, 790, 244, 1940, 0), (790, .lcmp, 791, 0, 0, 0), (791, .ifCond .eq 554, 794, 1345, 0, 0), (794, .iconst 0, 795, 0, 0, 0), (795, .ireturn, 796, 0, 0, 0), (796, .aload_n 1, 797, 1, 0, 0), (797, .aload_n 0, 798, 0, 0, 0), (798, .iload_n 3, 799, 3, 0, 0), (799, .iconst 1, 800, 0, 0, 0), (800, .iadd, 801, 0, 0, 0), (801, .iaload, 802, 0, 0, 0), (802, .aload_n 0, 803, 0, 0, 0), (803, .iload_n 3, 804, 3, 0, 0), (804, .iconst 2, 805, 0, 0, 0), (805, .iadd, 806, 0, 0, 0), (806, .iaload, 807, 0, 0, 0), (807, .invokevirtual 99, 810, 137, 1195, 0), (810, .aload_n 2, 811, 2, 0, 0), (811, .aload_n 0, 812, 0, 0, 0), (812, .iload_n 3, 813, 3, 0, 0), (813, .iconst 1, 814, 0, 0, 0), (814, .iadd, 815, 0, 0, 0), (815, .iaload, 816, 0, 0, 0), (816, .aload_n 0, 817, 0, 0, 0), (817, .iload_n 3, 818, 3, 0, 0), (818, .iconst 2, 819, 0, 0, 0), (819, .iadd, 820, 0, 0, 0)]
def mc294_13 : List (Nat × Ins) := [(820, .iaload, 821, 0, 0, 0), (821, .invokevirtual 102, 824, 245, 1944, 0), (824, .lcmp, 825, 0, 0, 0), (825, .ifCond .eq 520, 828, 1345, 0, 0), (828, .iconst 0, 829, 0, 0, 0), (829, .ireturn, 830, 0, 0, 0), (830, .aload_n 1, 831, 1, 0, 0), (831, .aload_n 0, 832, 0, 0, 0), (832, .iload_n 3, 833, 3, 0, 0), (833, .iconst 1, 834, 0, 0, 0), (834, .iadd, 835, 0, 0, 0), (835, .iaload, 836, 0, 0, 0), (836, .aload_n 0, 837, 0, 0, 0), (837, .iload_n 3, 838, 3, 0, 0), (838, .iconst 2, 839, 0, 0, 0), (839, .iadd, 840, 0, 0, 0), (840, .iaload, 841, 0, 0, 0), (841, .invokevirtual 103, 844, 138, 1202, 0), (844, .aload_n 2, 845, 2, 0, 0), (845, .aload_n 0, 846, 0, 0, 0), (846, .iload_n 3, 847, 3, 0, 0), (847, .iconst 1, 848, 0, 0, 0), (848, .iadd, 849, 0, 0, 0), (849, .iaload, 850, 0, 0, 0), (850, .aload_n 0, 851, 0, 0, 0), (851, .iload_n 3, 852, 3, 0, 0), (852, .iconst 2, 853, 0, 0, 0), (853, .iadd, 854, 0, 0, 0), (854, .iaload, 855, 0, 0, 0), (855, .invokevirtual 106, 858, 247, 1952, 0), (858, .lcmp, 859, 0, 0, 0), (859, .ifCond .eq 486, 862, 1345, 0, 0), (862, .iconst 0, 863, 0, 0, 0), (863, .ireturn, 864, 0, 0, 0), (864, .aload_n 1, 865, 1, 0, 0), (865, .invokevirtual 107, 868, 139, 1206, 0), (868, .aload_n 2, 869, 2, 0, 0), (869, .invokevirtual 110, 872, 246, 1948, 0), (872, .if_icmp .eq 473, 875, 1345, 0, 0), (875, .iconst 0, 876, 0, 0, 0)]
def mc294_14 : List (Nat × Ins) := [(876, .ireturn, 877, 0, 0, 0), (877, .aload_n 1, 878, 1, 0, 0), (878, .aload_n 0, 879, 0, 0, 0), (879, .iload_n 3, 880, 3, 0, 0), (880, .iconst 1, 881, 0, 0, 0), (881, .iadd, 882, 0, 0, 0), (882, .iaload, 883, 0, 0, 0), (883, .aload_n 0, 884, 0, 0, 0), (884, .iload_n 3, 885, 3, 0, 0), (885, .iconst 2, 886, 0, 0, 0), (886, .iadd, 887, 0, 0, 0), (887, .iaload, 888, 0, 0, 0), (888, .aload_n 0, 889, 0, 0, 0), (889, .iload_n 3, 890, 3, 0, 0), (890, .iconst 3, 891, 0, 0, 0), (891, .iadd, 892, 0, 0, 0), (892, .iaload, 893, 0, 0, 0), (893, .aload_n 0, 894, 0, 0, 0), (894, .iload_n 3, 895, 3, 0, 0), (895, .iconst 4, 896, 0, 0, 0), (896, .iadd, 897, 0, 0, 0), (897, .iaload, 898, 0, 0, 0), (898, .aload_n 0, 899, 0, 0, 0), (899, .iload_n 3, 900, 3, 0, 0), (900, .iconst 5, 901, 0, 0, 0), (901, .iadd, 902, 0, 0, 0), (902, .iaload, 903, 0, 0, 0), (903, .invokevirtual 111, 906, 140, 1210, 0), (906, .aload_n 2, 907, 2, 0, 0), (907, .aload_n 0, 908, 0, 0, 0), (908, .iload_n 3, 909, 3, 0, 0), (909, .iconst 1, 910, 0, 0, 0), (910, .iadd, 911, 0, 0, 0), (911, .iaload, 912, 0, 0, 0), (912, .aload_n 0, 913, 0, 0, 0), (913, .iload_n 3, 914, 3, 0, 0), (914, .iconst 2, 915, 0, 0, 0), (915, .iadd, 916, 0, 0, 0), (916, .iaload, 917, 0, 0, 0), (917, .aload_n 0, 918, 0, 0, 0)]
def mc294_15 : List (Nat × Ins) := [(918, .iload_n 3, 919, 3, 0, 0), (919, .iconst 3, 920, 0, 0, 0), (920, .iadd, 921, 0, 0, 0), (921, .iaload, 922, 0, 0, 0), (922, .aload_n 0, 923, 0, 0, 0), (923, .iload_n 3, 924, 3, 0, 0), (924, .iconst 4, 925, 0, 0, 0), (925, .iadd, 926, 0, 0, 0), (926, .iaload, 927, 0, 0, 0), (927, .aload_n 0, 928, 0, 0, 0), (928, .iload_n 3, 929, 3, 0, 0), (929, .iconst 5, 930, 0, 0, 0), (930, .iadd, 931, 0, 0, 0), (931, .iaload, 932, 0, 0, 0), (932, .invokevirtual 114, 935, 249, 1956, 0), (935, .if_icmp .eq 410, 938, 1345, 0, 0), (938, .iconst 0, 939, 0, 0, 0), (939, .ireturn, 940, 0, 0, 0), (940, .aload_n 1, 941, 1, 0, 0), (941, .aload_n 0, 942, 0, 0, 0), (942, .iload_n 3, 943, 3, 0, 0), (943, .iconst 1, 944, 0, 0, 0), (944, .iadd, 945, 0, 0, 0), (945, .iaload, 946, 0, 0, 0), (946, .invokevirtual 115, 949, 141, 1223, 0), (949, .aload_n 2, 950, 2, 0, 0), (950, .aload_n 0, 951, 0, 0, 0), (951, .iload_n 3, 952, 3, 0, 0), (952, .iconst 1, 953, 0, 0, 0), (953, .iadd, 954, 0, 0, 0), (954, .iaload, 955, 0, 0, 0), (955, .invokevirtual 118, 958, 268, 2018, 0), (958, .if_icmp .eq 387, 961, 1345, 0, 0), (961, .iconst 0, 962, 0, 0, 0), (962, .ireturn, 963, 0, 0, 0), (963, .aload_n 1, 964, 1, 0, 0), (964, .aload_n 0, 965, 0, 0, 0), (965, .iload_n 3, 966, 3, 0, 0), (966, .iconst 1, 967, 0, 0, 0), (967, .iadd, 968, 0, 0, 0)]
def mc294_16 : List (Nat × Ins) := [(968, .iaload, 969, 0, 0, 0), (969, .invokevirtual 119, 972, 142, 1253, 0), (972, .aload_n 2, 973, 2, 0, 0), (973, .aload_n 0, 974, 0, 0, 0), (974, .iload_n 3, 975, 3, 0, 0), (975, .iconst 1, 976, 0, 0, 0), (976, .iadd, 977, 0, 0, 0), (977, .iaload, 978, 0, 0, 0), (978, .invokevirtual 122, 981, 270, 2037, 0), (981, .if_icmp .eq 364, 984, 1345, 0, 0), (984, .iconst 0, 985, 0, 0, 0), (985, .ireturn, 986, 0, 0, 0), (986, .aload_n 1, 987, 1, 0, 0), (987, .aload_n 0, 988, 0, 0, 0), (988, .iload_n 3, 989, 3, 0, 0), (989, .iconst 1, 990, 0, 0, 0), (990, .iadd, 991, 0, 0, 0), (991, .iaload, 992, 0, 0, 0), (992, .invokevirtual 123, 995, 143, 1261, 0), (995, .aload_n 2, 996, 2, 0, 0), (996, .aload_n 0, 997, 0, 0, 0), (997, .iload_n 3, 998, 3, 0, 0), (998, .iconst 1, 999, 0, 0, 0), (999, .iadd, 1000, 0, 0, 0), (1000, .iaload, 1001, 0, 0, 0), (1001, .invokevirtual 126, 1004, 250, 1963, 0), (1004, .if_icmp .eq 341, 1007, 1345, 0, 0), (1007, .iconst 0, 1008, 0, 0, 0), (1008, .ireturn, 1009, 0, 0, 0), (1009, .aload_n 1, 1010, 1, 0, 0), (1010, .aload_n 0, 1011, 0, 0, 0), (1011, .iload_n 3, 1012, 3, 0, 0), (1012, .iconst 1, 1013, 0, 0, 0), (1013, .iadd, 1014, 0, 0, 0), (1014, .iaload, 1015, 0, 0, 0), (1015, .aload_n 0, 1016, 0, 0, 0), (1016, .iload_n 3, 1017, 3, 0, 0), (1017, .iconst 2, 1018, 0, 0, 0), (1018, .iadd, 1019, 0, 0, 0), (1019, .iaload, 1020, 0, 0, 0)]
def mc294_17 : List (Nat × Ins) := [(1020, .invokevirtual 127, 1023, 144, 1266, 0), (1023, .aload_n 2, 1024, 2, 0, 0), (1024, .aload_n 0, 1025, 0, 0, 0), (1025, .iload_n 3, 1026, 3, 0, 0), (1026, .iconst 1, 1027, 0, 0, 0), (1027, .iadd, 1028, 0, 0, 0), (1028, .iaload, 1029, 0, 0, 0), (1029, .aload_n 0, 1030, 0, 0, 0), (1030, .iload_n 3, 1031, 3, 0, 0), (1031, .iconst 2, 1032, 0, 0, 0), (1032, .iadd, 1033, 0, 0, 0), (1033, .iaload, 1034, 0, 0, 0), (1034, .invokevirtual 131, 1037, 271, 2045, 0), (1037, .if_icmp .eq 308, 1040, 1345, 0, 0), (1040, .iconst 0, 1041, 0, 0, 0), (1041, .ireturn, 1042, 0, 0, 0), (1042, .aload_n 1, 1043, 1, 0, 0), (1043, .aload_n 0, 1044, 0, 0, 0), (1044, .iload_n 3, 1045, 3, 0, 0), (1045, .iconst 1, 1046, 0, 0, 0), (1046, .iadd, 1047, 0, 0, 0), (1047, .iaload, 1048, 0, 0, 0), (1048, .ifCond .eq 7, 1051, 1055, 0, 0), (1051, .iconst 1, 1052, 0, 0, 0), (1052, .goto 4, 1055, 1056, 0, 0), (1055, .iconst 0, 1056, 0, 0, 0), (1056, .aload_n 0, 1057, 0, 0, 0), (1057, .iload_n 3, 1058, 3, 0, 0), (1058, .iconst 2, 1059, 0, 0, 0), (1059, .iadd, 1060, 0, 0, 0), (1060, .iaload, 1061, 0, 0, 0), (1061, .invokevirtual 132, 1064, 145, 1271, 0), (1064, .aload_n 2, 1065, 2, 0, 0), (1065, .aload_n 0, 1066, 0, 0, 0), (1066, .iload_n 3, 1067, 3, 0, 0), (1067, .iconst 1, 1068, 0, 0, 0), (1068, .iadd, 1069, 0, 0, 0), (1069, .iaload, 1070, 0, 0, 0), (1070, .ifCond .eq 7, 1073, 1077, 0, 0), (1073, .iconst 1, 1074, 0, 0, 0)]
def mc294_18 : List (Nat × Ins) := [(1074, .goto 4, 1077, 1078, 0, 0), (1077, .iconst 0, 1078, 0, 0, 0), (1078, .aload_n 0, 1079, 0, 0, 0), (1079, .iload_n 3, 1080, 3, 0, 0), (1080, .iconst 2, 1081, 0, 0, 0), (1081, .iadd, 1082, 0, 0, 0), (1082, .iaload, 1083, 0, 0, 0), (1083, .invokevirtual 136, 1086, 273, 2049, 0), (1086, .lcmp, 1087, 0, 0, 0), (1087, .ifCond .eq 258, 1090, 1345, 0, 0), (1090, .iconst 0, 1091, 0, 0, 0), (1091, .ireturn, 1092, 0, 0, 0), (1092, .aload_n 1, 1093, 1, 0, 0), (1093, .aload_n 0, 1094, 0, 0, 0), (1094, .iload_n 3, 1095, 3, 0, 0), (1095, .iconst 1, 1096, 0, 0, 0), (1096, .iadd, 1097, 0, 0, 0), (1097, .iaload, 1098, 0, 0, 0), (1098, .invokevirtual 137, 1101, 146, 1287, 0), (1101, .aload_n 2, 1102, 2, 0, 0), (1102, .aload_n 0, 1103, 0, 0, 0), (1103, .iload_n 3, 1104, 3, 0, 0), (1104, .iconst 1, 1105, 0, 0, 0), (1105, .iadd, 1106, 0, 0, 0), (1106, .iaload, 1107, 0, 0, 0), (1107, .invokevirtual 140, 1110, 274, 2057, 0), (1110, .if_icmp .eq 235, 1113, 1345, 0, 0), (1113, .iconst 0, 1114, 0, 0, 0), (1114, .ireturn, 1115, 0, 0, 0), (1115, .aload_n 1, 1116, 1, 0, 0), (1116, .aload_n 0, 1117, 0, 0, 0), (1117, .iload_n 3, 1118, 3, 0, 0), (1118, .iconst 1, 1119, 0, 0, 0), (1119, .iadd, 1120, 0, 0, 0), (1120, .iaload, 1121, 0, 0, 0), (1121, .aload_n 0, 1122, 0, 0, 0), (1122, .iload_n 3, 1123, 3, 0, 0), (1123, .iconst 2, 1124, 0, 0, 0), (1124, .iadd, 1125, 0, 0, 0), (1125, .iaload, 1126, 0, 0, 0)]
def mc294_19 : List (Nat × Ins) := [(1126, .aload_n 0, 1127, 0, 0, 0), (1127, .iload_n 3, 1128, 3, 0, 0), (1128, .iconst 3, 1129, 0, 0, 0), (1129, .iadd, 1130, 0, 0, 0), (1130, .iaload, 1131, 0, 0, 0), (1131, .aload_n 0, 1132, 0, 0, 0), (1132, .iload_n 3, 1133, 3, 0, 0), (1133, .iconst 4, 1134, 0, 0, 0), (1134, .iadd, 1135, 0, 0, 0), (1135, .iaload, 1136, 0, 0, 0), (1136, .invokevirtual 141, 1139, 147, 1294, 0), (1139, .aload_n 2, 1140, 2, 0, 0), (1140, .aload_n 0, 1141, 0, 0, 0), (1141, .iload_n 3, 1142, 3, 0, 0), (1142, .iconst 1, 1143, 0, 0, 0), (1143, .iadd, 1144, 0, 0, 0), (1144, .iaload, 1145, 0, 0, 0), (1145, .aload_n 0, 1146, 0, 0, 0), (1146, .iload_n 3, 1147, 3, 0, 0), (1147, .iconst 2, 1148, 0, 0, 0), (1148, .iadd, 1149, 0, 0, 0), (1149, .iaload, 1150, 0, 0, 0), (1150, .aload_n 0, 1151, 0, 0, 0), (1151, .iload_n 3, 1152, 3, 0, 0), (1152, .iconst 3, 1153, 0, 0, 0), (1153, .iadd, 1154, 0, 0, 0), (1154, .iaload, 1155, 0, 0, 0), (1155, .aload_n 0, 1156, 0, 0, 0), (1156, .iload_n 3, 1157, 3, 0, 0), (1157, .iconst 4, 1158, 0, 0, 0), (1158, .iadd, 1159, 0, 0, 0), (1159, .iaload, 1160, 0, 0, 0), (1160, .invokevirtual 145, 1163, 277, 2061, 0), (1163, .if_icmp .eq 182, 1166, 1345, 0, 0), (1166, .iconst 0, 1167, 0, 0, 0), (1167, .ireturn, 1168, 0, 0, 0), (1168, .aload_n 1, 1169, 1, 0, 0), (1169, .aload_n 0, 1170, 0, 0, 0), (1170, .iload_n 3, 1171, 3, 0, 0), (1171, .iconst 1, 1172, 0, 0, 0)]
def mc294_20 : List (Nat × Ins) := [(1172, .iadd, 1173, 0, 0, 0), (1173, .iaload, 1174, 0, 0, 0), (1174, .aload_n 0, 1175, 0, 0, 0), (1175, .iload_n 3, 1176, 3, 0, 0), (1176, .iconst 2, 1177, 0, 0, 0), (1177, .iadd, 1178, 0, 0, 0), (1178, .iaload, 1179, 0, 0, 0), (1179, .ifCond .eq 7, 1182, 1186, 0, 0), (1182, .iconst 1, 1183, 0, 0, 0), (1183, .goto 4, 1186, 1187, 0, 0), (1186, .iconst 0, 1187, 0, 0, 0), (1187, .invokevirtual 146, 1190, 148, 1316, 0), (1190, .aload_n 2, 1191, 2, 0, 0), (1191, .aload_n 0, 1192, 0, 0, 0), (1192, .iload_n 3, 1193, 3, 0, 0), (1193, .iconst 1, 1194, 0, 0, 0), (1194, .iadd, 1195, 0, 0, 0), (1195, .iaload, 1196, 0, 0, 0), (1196, .aload_n 0, 1197, 0, 0, 0), (1197, .iload_n 3, 1198, 3, 0, 0), (1198, .iconst 2, 1199, 0, 0, 0), (1199, .iadd, 1200, 0, 0, 0), (1200, .iaload, 1201, 0, 0, 0), (1201, .ifCond .eq 7, 1204, 1208, 0, 0), (1204, .iconst 1, 1205, 0, 0, 0), (1205, .goto 4, 1208, 1209, 0, 0), (1208, .iconst 0, 1209, 0, 0, 0), (1209, .invokevirtual 150, 1212, 278, 2069, 0), (1212, .if_icmp .eq 133, 1215, 1345, 0, 0), (1215, .iconst 0, 1216, 0, 0, 0), (1216, .ireturn, 1217, 0, 0, 0), (1217, .aload_n 1, 1218, 1, 0, 0), (1218, .aload_n 0, 1219, 0, 0, 0), (1219, .iload_n 3, 1220, 3, 0, 0), (1220, .iconst 1, 1221, 0, 0, 0), (1221, .iadd, 1222, 0, 0, 0), (1222, .iaload, 1223, 0, 0, 0), (1223, .aload_n 0, 1224, 0, 0, 0), (1224, .iload_n 3, 1225, 3, 0, 0), (1225, .iconst 2, 1226, 0, 0, 0)]
def mc294_21 : List (Nat × Ins) := [(1226, .iadd, 1227, 0, 0, 0), (1227, .iaload, 1228, 0, 0, 0), (1228, .invokevirtual 151, 1231, 149, 1320, 0), (1231, .aload_n 2, 1232, 2, 0, 0), (1232, .aload_n 0, 1233, 0, 0, 0), (1233, .iload_n 3, 1234, 3, 0, 0), (1234, .iconst 1, 1235, 0, 0, 0), (1235, .iadd, 1236, 0, 0, 0), (1236, .iaload, 1237, 0, 0, 0), (1237, .aload_n 0, 1238, 0, 0, 0), (1238, .iload_n 3, 1239, 3, 0, 0), (1239, .iconst 2, 1240, 0, 0, 0), (1240, .iadd, 1241, 0, 0, 0), (1241, .iaload, 1242, 0, 0, 0), (1242, .invokevirtual 154, 1245, 279, 2077, 0), (1245, .if_icmp .eq 100, 1248, 1345, 0, 0), (1248, .iconst 0, 1249, 0, 0, 0), (1249, .ireturn, 1250, 0, 0, 0), (1250, .aload_n 1, 1251, 1, 0, 0), (1251, .invokevirtual 155, 1254, 150, 1324, 0), (1254, .aload_n 2, 1255, 2, 0, 0), (1255, .invokevirtual 159, 1258, 280, 2081, 0), (1258, .if_icmp .eq 87, 1261, 1345, 0, 0), (1261, .iconst 0, 1262, 0, 0, 0), (1262, .ireturn, 1263, 0, 0, 0), (1263, .aload_n 1, 1264, 1, 0, 0), (1264, .invokevirtual 160, 1267, 151, 1333, 0), (1267, .aload_n 2, 1268, 2, 0, 0), (1268, .invokevirtual 163, 1271, 281, 2089, 0), (1271, .if_icmp .eq 74, 1274, 1345, 0, 0), (1274, .iconst 0, 1275, 0, 0, 0), (1275, .ireturn, 1276, 0, 0, 0), (1276, .aload_n 1, 1277, 1, 0, 0), (1277, .aload_n 0, 1278, 0, 0, 0), (1278, .iload_n 3, 1279, 3, 0, 0), (1279, .iconst 1, 1280, 0, 0, 0), (1280, .iadd, 1281, 0, 0, 0), (1281, .iaload, 1282, 0, 0, 0), (1282, .invokevirtual 164, 1285, 152, 1341, 0), (1285, .aload_n 2, 1286, 2, 0, 0)]
def mc294_22 : List (Nat × Ins) := [(1286, .aload_n 0, 1287, 0, 0, 0), (1287, .iload_n 3, 1288, 3, 0, 0), (1288, .iconst 1, 1289, 0, 0, 0), (1289, .iadd, 1290, 0, 0, 0), (1290, .iaload, 1291, 0, 0, 0), (1291, .invokevirtual 167, 1294, 283, 2093, 0), (1294, .if_icmp .eq 51, 1297, 1345, 0, 0), (1297, .iconst 0, 1298, 0, 0, 0), (1298, .ireturn, 1299, 0, 0, 0), (1299, .aload_n 1, 1300, 1, 0, 0), (1300, .aload_n 0, 1301, 0, 0, 0), (1301, .iload_n 3, 1302, 3, 0, 0), (1302, .iconst 1, 1303, 0, 0, 0), (1303, .iadd, 1304, 0, 0, 0), (1304, .iaload, 1305, 0, 0, 0), (1305, .invokevirtual 168, 1308, 153, 1350, 0), (1308, .aload_n 2, 1309, 2, 0, 0), (1309, .aload_n 0, 1310, 0, 0, 0), (1310, .iload_n 3, 1311, 3, 0, 0), (1311, .iconst 1, 1312, 0, 0, 0), (1312, .iadd, 1313, 0, 0, 0), (1313, .iaload, 1314, 0, 0, 0), (1314, .invokevirtual 171, 1317, 284, 2100, 0), (1317, .if_icmp .eq 28, 1320, 1345, 0, 0), (1320, .iconst 0, 1321, 0, 0, 0), (1321, .ireturn, 1322, 0, 0, 0), (1322, .aload_n 1, 1323, 1, 0, 0), (1323, .aload_n 0, 1324, 0, 0, 0), (1324, .iload_n 3, 1325, 3, 0, 0), (1325, .iconst 1, 1326, 0, 0, 0), (1326, .iadd, 1327, 0, 0, 0), (1327, .iaload, 1328, 0, 0, 0), (1328, .invokevirtual 172, 1331, 154, 1354, 0), (1331, .aload_n 2, 1332, 2, 0, 0), (1332, .aload_n 0, 1333, 0, 0, 0), (1333, .iload_n 3, 1334, 3, 0, 0), (1334, .iconst 1, 1335, 0, 0, 0), (1335, .iadd, 1336, 0, 0, 0), (1336, .iaload, 1337, 0, 0, 0), (1337, .invokevirtual 175, 1340, 285, 2104, 0)]
def mc294_23 : List (Nat × Ins) := [(1340, .if_icmp .eq 5, 1343, 1345, 0, 0), (1343, .iconst 0, 1344, 0, 0, 0), (1344, .ireturn, 1345, 0, 0, 0), (1345, .iinc 3 6, 1348, 3, 0, 0), (1348, .goto (-1330), 1351, 18, 0, 0), (1351, .iconst 1, 1352, 0, 0, 0), (1352, .ireturn, 1353, 0, 0, 0)]
def mc294 : List (Nat × Ins) := mc294_0 ++ mc294_1 ++ mc294_2 ++ mc294_3 ++ mc294_4 ++ mc294_5 ++ mc294_6 ++ mc294_7 ++ mc294_8 ++ mc294_9 ++ mc294_10 ++ mc294_11 ++ mc294_12 ++ mc294_13 ++ mc294_14 ++ mc294_15 ++ mc294_16 ++ mc294_17 ++ mc294_18 ++ mc294_19 ++ mc294_20 ++ mc294_21 ++ mc294_22 ++ mc294_23
abbrev MRow : Type := MethodName × ByteArray × Nat × Option FieldType × Nat × Nat × Bool × Nat
def mr0 : MRow := (yX0_forget, cX0_forget, 1, (none : Option FieldType), 0, 0, false, 805)
def mr1 : MRow := (yX0_add, cX0_add, 5, (none : Option FieldType), 0, 4, false, 1306)
def mr2 : MRow := (yX0_dropFirst, cX0_dropFirst, 1, (none : Option FieldType), 0, 1, true, 1309)
def mr3 : MRow := (yX0_takeBack, cX0_takeBack, 2, (some FieldType.boolean), 0, 1, false, 1331)
def mr4 : MRow := (yX0_doAgain, cX0_doAgain, 2, (some FieldType.boolean), 0, 1, false, 1340)
def mr5 : MRow := (yX0_carryOut, cX0_carryOut, 4, (none : Option FieldType), 0, 4, true, 1315)
def mr6 : MRow := (yX1_empty, cX1_empty, 1, (none : Option FieldType), 1, 0, false, 532)
def mr7 : MRow := (yX1_addMark, cX1_addMark, 4, (none : Option FieldType), 1, 2, false, 717)
def mr8 : MRow := (yX1_addTold, cX1_addTold, 3, (none : Option FieldType), 1, 2, false, 772)
def mr9 : MRow := (yX1_setCase, cX1_setCase, 6, (none : Option FieldType), 1, 5, false, 747)
def mr10 : MRow := (yX1_markNamed, cX1_markNamed, 4, (some FieldType.int), 1, 1, false, 686)
def mr11 : MRow := (yX1_isMark, cX1_isMark, 2, (some FieldType.boolean), 1, 1, false, 1101)
def mr12 : MRow := (yX1_isCase, cX1_isCase, 2, (some FieldType.boolean), 1, 1, false, 880)
def mr13 : MRow := (yX1_isStep, cX1_isStep, 3, (some FieldType.boolean), 1, 2, false, 1217)
def mr14 : MRow := (yX1_isCounted, cX1_isCounted, 2, (some FieldType.boolean), 1, 1, false, 730)
def mr15 : MRow := (yX1_stepOf, cX1_stepOf, 3, (some FieldType.int), 1, 2, false, 789)
def mr16 : MRow := (yX1_setStep, cX1_setStep, 4, (none : Option FieldType), 1, 3, false, 757)
def mr17 : MRow := (yX1_allCases, cX1_allCases, 1, (some FieldType.int), 1, 0, false, 957)
def mr18 : MRow := (yX1_noLess, cX1_noLess, 5, (some FieldType.boolean), 1, 3, false, 785)
def mr19 : MRow := (yX1_copyCases, cX1_copyCases, 2, (none : Option FieldType), 1, 1, false, 1348)
def mr20 : MRow := (yX2_read, cX2_read, 3, (some FieldType.boolean), 2, 1, false, 528)
def mr21 : MRow := (yX2_readLine, cX2_readLine, 1, (some FieldType.boolean), 2, 0, false, 658)
def mr22 : MRow := (yX2_readMark, cX2_readMark, 4, (some FieldType.boolean), 2, 0, false, 667)
def mr23 : MRow := (yX2_readNever, cX2_readNever, 2, (some FieldType.boolean), 2, 0, false, 722)
def mr24 : MRow := (yX2_readCase, cX2_readCase, 3, (some FieldType.boolean), 2, 0, false, 735)
def mr25 : MRow := (yX2_readFacts, cX2_readFacts, 5, (some FieldType.boolean), 2, 0, false, 739)
def mr26 : MRow := (yX2_readSteps, cX2_readSteps, 5, (some FieldType.boolean), 2, 0, false, 751)
def mr27 : MRow := (yX2_readTold, cX2_readTold, 3, (some FieldType.boolean), 2, 0, false, 762)
def mr28 : MRow := (yX2_passNewName, cX2_passNewName, 3, (some FieldType.long), 2, 0, false, 676)
def mr29 : MRow := (yX2_markHere, cX2_markHere, 2, (some FieldType.int), 2, 0, false, 726)
def mr30 : MRow := (yX2_passCase, cX2_passCase, 2, (some FieldType.int), 2, 0, false, 766)
def mr31 : MRow := (yX2_caseNamed, cX2_caseNamed, 4, (some FieldType.int), 2, 1, false, 690)
def mr32 : MRow := (yX2_toldHolds, cX2_toldHolds, 2, (some FieldType.boolean), 2, 0, false, 776)
def mr33 : MRow := (yX3_cover, cX3_cover, 4, (none : Option FieldType), 3, 2, false, 1073)
def mr34 : MRow := (yX3_search, cX3_search, 6, (none : Option FieldType), 3, 2, false, 1079)
def mr35 : MRow := (yX3_mostFoes, cX3_mostFoes, 5, (some FieldType.int), 3, 1, false, 1084)
def mr36 : MRow := (yX3_note, cX3_note, 3, (none : Option FieldType), 3, 2, false, 1088)
def mr37 : MRow := (yX3_draws, cX3_draws, 7, (some FieldType.int), 3, 4, false, 1186)
def mr38 : MRow := (yX3_drawsFrom, cX3_drawsFrom, 5, (some FieldType.int), 3, 3, false, 1190)
def mr39 : MRow := (yX3_choose, cX3_choose, 4, (some FieldType.int), 3, 2, true, 1193)
def mr40 : MRow := (yX4_choose, cX4_choose, 6, (some FieldType.int), 4, 2, false, 979)
def mr41 : MRow := (yX4_prepare, cX4_prepare, 3, (none : Option FieldType), 4, 1, false, 983)
def mr42 : MRow := (yX4_payDirectly, cX4_payDirectly, 5, (none : Option FieldType), 4, 0, false, 991)
def mr43 : MRow := (yX4_findOpenOwer, cX4_findOpenOwer, 6, (some FieldType.int), 4, 0, false, 996)
def mr44 : MRow := (yX4_startQueue, cX4_startQueue, 3, (some FieldType.int), 4, 0, false, 1000)
def mr45 : MRow := (yX4_queuePayersOf, cX4_queuePayersOf, 6, (some FieldType.int), 4, 2, false, 1004)
def mr46 : MRow := (yX4_payAround, cX4_payAround, 6, (none : Option FieldType), 4, 1, false, 1009)
def mr47 : MRow := (yX5_set, cX5_set, 7, (none : Option FieldType), 5, 2, false, 965)
def mr48 : MRow := (yX5_add, cX5_add, 7, (none : Option FieldType), 5, 2, false, 1017)
def mr49 : MRow := (yX5_part, cX5_part, 2, (some FieldType.long), 5, 1, false, 1051)
def mr50 : MRow := (yX5_common, cX5_common, 11, (some FieldType.long), 5, 2, true, 971)
def mr51 : MRow := (yX5_compare, cX5_compare, 12, (some FieldType.int), 5, 4, true, 1122)
def mr52 : MRow := (yX6_read, cX6_read, 3, (some FieldType.boolean), 6, 1, false, 816)
def mr53 : MRow := (yX6_readLine, cX6_readLine, 3, (some FieldType.boolean), 6, 0, false, 821)
def mr54 : MRow := (yX6_readLevel, cX6_readLevel, 7, (some FieldType.boolean), 6, 2, false, 828)
def mr55 : MRow := (yX6_signHere, cX6_signHere, 2, (some FieldType.int), 6, 1, false, 859)
def mr56 : MRow := (yX6_relationHere, cX6_relationHere, 1, (some FieldType.int), 6, 0, false, 865)
def mr57 : MRow := (yX6_readUnit, cX6_readUnit, 2, (some FieldType.boolean), 6, 1, false, 832)
def mr58 : MRow := (yX6_readPlainUnit, cX6_readPlainUnit, 2, (some FieldType.boolean), 6, 0, false, 839)
def mr59 : MRow := (yX6_factHere, cX6_factHere, 1, (some FieldType.int), 6, 0, false, 849)
def mr60 : MRow := (yX6_write, cX6_write, 3, (some FieldType.boolean), 6, 2, false, 843)
def mr61 : MRow := (yX6_lineFor, cX6_lineFor, 5, (some FieldType.int), 6, 2, false, 1230)
def mr62 : MRow := (yX6_worth, cX6_worth, 7, (some FieldType.int), 6, 4, false, 1234)
def mr63 : MRow := (yX6_push, cX6_push, 2, (none : Option FieldType), 6, 1, false, 1242)
def mr64 : MRow := (yX6_pop, cX6_pop, 1, (some FieldType.int), 6, 0, false, 1246)
def mr65 : MRow := (yX6_fact, cX6_fact, 4, (some FieldType.int), 6, 4, true, 1237)
def mr66 : MRow := (yX6_join, cX6_join, 3, (some FieldType.int), 6, 3, true, 1249)
def mr67 : MRow := (yX6_holds, cX6_holds, 3, (some FieldType.boolean), 6, 3, true, 1252)
def mr68 : MRow := (yX7_fitSquares, cX7_fitSquares, 8, (none : Option FieldType), 7, 3, false, 961)
def mr69 : MRow := (yX7_upperPart, cX7_upperPart, 7, (some FieldType.int), 7, 3, false, 975)
def mr70 : MRow := (yX7_seal, cX7_seal, 10, (none : Option FieldType), 7, 2, false, 1013)
def mr71 : MRow := (yX7_partOf, cX7_partOf, 3, (some FieldType.long), 7, 2, false, 1022)
def mr72 : MRow := (yX7_isFarther, cX7_isFarther, 6, (some FieldType.boolean), 7, 3, false, 1286)
def mr73 : MRow := (yX7_fitGaps, cX7_fitGaps, 8, (none : Option FieldType), 7, 2, false, 1030)
def mr74 : MRow := (yX7_nextLevel, cX7_nextLevel, 5, (some FieldType.int), 7, 3, true, 1034)
def mr75 : MRow := (yX7_shareOut, cX7_shareOut, 3, (none : Option FieldType), 7, 1, false, 1039)
def mr76 : MRow := (yX8_fill, cX8_fill, 5, (none : Option FieldType), 8, 2, false, 780)
def mr77 : MRow := (yX8_tellAll, cX8_tellAll, 6, (some FieldType.int), 8, 1, false, 793)
def mr78 : MRow := (yX8_tell, cX8_tell, 4, (none : Option FieldType), 8, 2, false, 801)
def mr79 : MRow := (yX8_isOver, cX8_isOver, 3, (some FieldType.boolean), 8, 2, false, 797)
def mr80 : MRow := (yX8_gap, cX8_gap, 5, (some FieldType.int), 8, 3, false, 899)
def mr81 : MRow := (yX8_foes, cX8_foes, 5, (some FieldType.int), 8, 2, false, 924)
def mr82 : MRow := (yX8_gapsOf, cX8_gapsOf, 5, (some FieldType.int), 8, 2, false, 907)
def mr83 : MRow := (yX8_pairs, cX8_pairs, 7, (some FieldType.int), 8, 2, false, 895)
def mr84 : MRow := (yX8_gapsTogether, cX8_gapsTogether, 4, (some FieldType.int), 8, 1, false, 903)
def mr85 : MRow := (yX8_greatestGap, cX8_greatestGap, 5, (some FieldType.int), 8, 1, false, 911)
def mr86 : MRow := (yX8_oddestOf, cX8_oddestOf, 8, (some FieldType.int), 8, 1, false, 920)
def mr87 : MRow := (yX8_besideOf, cX8_besideOf, 6, (some FieldType.int), 8, 2, false, 941)
def mr88 : MRow := (yX8_twiceMiddle, cX8_twiceMiddle, 6, (some FieldType.int), 8, 2, false, 1045)
def mr89 : MRow := (yX8_twiceGreatest, cX8_twiceGreatest, 4, (some FieldType.int), 8, 1, false, 1059)
def mr90 : MRow := (yX8_underNew, cX8_underNew, 4, (some FieldType.int), 8, 1, false, 1282)
def mr91 : MRow := (yX8_overNew, cX8_overNew, 4, (some FieldType.int), 8, 1, false, 1278)
def mr92 : MRow := (yX9_reckon, cX9_reckon, 7, (none : Option FieldType), 9, 3, false, 1137)
def mr93 : MRow := (yX9_squares, cX9_squares, 4, (some FieldType.long), 9, 1, true, 1150)
def mr94 : MRow := (yX9_pool, cX9_pool, 8, (none : Option FieldType), 9, 2, false, 1141)
def mr95 : MRow := (yX9_joinFalling, cX9_joinFalling, 3, (none : Option FieldType), 9, 0, false, 1146)
def mr96 : MRow := (yX9_oneRun, cX9_oneRun, 2, (none : Option FieldType), 9, 0, false, 1155)
def mr97 : MRow := (yX9_lastRun, cX9_lastRun, 8, (none : Option FieldType), 9, 2, false, 1168)
def mr98 : MRow := (yX9_store, cX9_store, 3, (none : Option FieldType), 9, 2, false, 1164)
def mr99 : MRow := (yX9_addRun, cX9_addRun, 8, (none : Option FieldType), 9, 2, false, 1159)
def mr100 : MRow := (yX10_put, cX10_put, 3, (none : Option FieldType), 10, 1, false, 516)
def mr101 : MRow := (yX10_open, cX10_open, 5, (none : Option FieldType), 10, 1, false, 539)
def mr102 : MRow := (yX10_next, cX10_next, 1, (none : Option FieldType), 10, 0, false, 654)
def mr103 : MRow := (yX10_note, cX10_note, 5, (none : Option FieldType), 10, 3, false, 554)
def mr104 : MRow := (yX10_scanToken, cX10_scanToken, 5, (some FieldType.int), 10, 2, false, 543)
def mr105 : MRow := (yX10_isLetter, cX10_isLetter, 1, (some FieldType.boolean), 10, 1, true, 546)
def mr106 : MRow := (yX10_isDigit, cX10_isDigit, 1, (some FieldType.boolean), 10, 1, true, 557)
def mr107 : MRow := (yX10_scanWord, cX10_scanWord, 5, (some FieldType.int), 10, 1, false, 550)
def mr108 : MRow := (yX10_scanNumber, cX10_scanNumber, 6, (some FieldType.int), 10, 1, false, 561)
def mr109 : MRow := (yX10_refuse, cX10_refuse, 2, (some FieldType.boolean), 10, 1, false, 671)
def mr110 : MRow := (yX10_isWord, cX10_isWord, 3, (some FieldType.boolean), 10, 1, false, 663)
def mr111 : MRow := (yX10_isSign, cX10_isSign, 2, (some FieldType.boolean), 10, 1, false, 713)
def mr112 : MRow := (yX10_isName, cX10_isName, 3, (some FieldType.boolean), 10, 0, false, 680)
def mr113 : MRow := (yX10_passWord, cX10_passWord, 3, (some FieldType.boolean), 10, 1, false, 699)
def mr114 : MRow := (yX10_passSign, cX10_passSign, 2, (some FieldType.boolean), 10, 1, false, 709)
def mr115 : MRow := (yX10_passNumber, cX10_passNumber, 4, (some FieldType.int), 10, 2, false, 705)
def mr116 : MRow := (yX10_passNumberOf, cX10_passNumberOf, 5, (some FieldType.int), 10, 3, false, 695)
def mr117 : MRow := (yX11_feed, cX11_feed, 6, (some FieldType.int), 11, 5, false, 512)
def mr118 : MRow := (yX11_end, cX11_end, 2, (some FieldType.int), 11, 1, false, 520)
def mr119 : MRow := (yX11_book, cX11_book, 3, (some FieldType.int), 11, 0, false, 524)
def mr120 : MRow := (yX11_laws, cX11_laws, 3, (some FieldType.int), 11, 0, false, 812)
def mr121 : MRow := (yX11_fault, cX11_fault, 2, (some FieldType.int), 11, 1, false, 872)
def mr122 : MRow := (yX11_worse, cX11_worse, 4, (some FieldType.int), 11, 2, false, 876)
def mr123 : MRow := (yX11_clash, cX11_clash, 3, (some FieldType.int), 11, 1, false, 891)
def mr124 : MRow := (yX11_oddest, cX11_oddest, 4, (some FieldType.int), 11, 1, false, 916)
def mr125 : MRow := (yX11_beside, cX11_beside, 2, (some FieldType.int), 11, 1, false, 937)
def mr126 : MRow := (yX11_kept, cX11_kept, 4, (some FieldType.long), 11, 3, false, 945)
def mr127 : MRow := (yX11_cost, cX11_cost, 3, (some FieldType.long), 11, 2, false, 1055)
def mr128 : MRow := (yX11_block, cX11_block, 2, (some FieldType.int), 11, 1, false, 1065)
def mr129 : MRow := (yX11_again, cX11_again, 2, (some FieldType.int), 11, 1, false, 1069)
def mr130 : MRow := (yX11_grid, cX11_grid, 4, (some FieldType.long), 11, 3, false, 1093)
def mr131 : MRow := (yX11_loses, cX11_loses, 6, (some FieldType.long), 11, 3, false, 1109)
def mr132 : MRow := (yX11_best, cX11_best, 1, (some FieldType.int), 11, 0, false, 1115)
def mr133 : MRow := (yX11_runs, cX11_runs, 4, (some FieldType.long), 11, 3, false, 1129)
def mr134 : MRow := (yX11_begins, cX11_begins, 3, (some FieldType.int), 11, 2, false, 1173)
def mr135 : MRow := (yX11_off, cX11_off, 5, (some FieldType.int), 11, 1, false, 1177)
def mr136 : MRow := (yX11_luck, cX11_luck, 6, (some FieldType.long), 11, 2, false, 1181)
def mr137 : MRow := (yX11_upto, cX11_upto, 5, (some FieldType.long), 11, 2, false, 1198)
def mr138 : MRow := (yX11_drift, cX11_drift, 5, (some FieldType.long), 11, 2, false, 1205)
def mr139 : MRow := (yX11_within, cX11_within, 1, (some FieldType.int), 11, 0, false, 1209)
def mr140 : MRow := (yX11_law, cX11_law, 10, (some FieldType.int), 11, 5, false, 1213)
def mr141 : MRow := (yX11_lawOf, cX11_lawOf, 2, (some FieldType.int), 11, 1, false, 1226)
def mr142 : MRow := (yX11_moved, cX11_moved, 8, (some FieldType.int), 11, 1, false, 1256)
def mr143 : MRow := (yX11_mercy, cX11_mercy, 6, (some FieldType.int), 11, 1, false, 1264)
def mr144 : MRow := (yX11_step, cX11_step, 3, (some FieldType.boolean), 11, 2, false, 1269)
def mr145 : MRow := (yX11_ends, cX11_ends, 7, (some FieldType.long), 11, 2, false, 1274)
def mr146 : MRow := (yX11_first, cX11_first, 7, (some FieldType.int), 11, 1, false, 1290)
def mr147 : MRow := (yX11_come, cX11_come, 8, (some FieldType.int), 11, 4, false, 1297)
def mr148 : MRow := (yX11_count, cX11_count, 3, (some FieldType.boolean), 11, 2, false, 1319)
def mr149 : MRow := (yX11_give, cX11_give, 3, (some FieldType.boolean), 11, 2, false, 1323)
def mr150 : MRow := (yX11_undo, cX11_undo, 2, (some FieldType.boolean), 11, 0, false, 1327)
def mr151 : MRow := (yX11_redo, cX11_redo, 2, (some FieldType.boolean), 11, 0, false, 1336)
def mr152 : MRow := (yX11_keep, cX11_keep, 2, (some FieldType.int), 11, 1, false, 1344)
def mr153 : MRow := (yX11_back, cX11_back, 2, (some FieldType.int), 11, 1, false, 1353)
def mr154 : MRow := (yX11_about, cX11_about, 2, (some FieldType.int), 11, 1, false, 1357)
def mr155 : MRow := (yX11_isPart, cX11_isPart, 1, (some FieldType.boolean), 11, 1, true, 948)
def mr156 : MRow := (yX11_isYear, cX11_isYear, 1, (some FieldType.boolean), 11, 1, true, 1201)
def mr157 : MRow := (yX11_isGiven, cX11_isGiven, 1, (some FieldType.boolean), 11, 1, true, 1293)
def mr158 : MRow := (yX11_isGrid, cX11_isGrid, 3, (some FieldType.boolean), 11, 2, false, 1097)
def mr159 : MRow := (yX11_isRuns, cX11_isRuns, 3, (some FieldType.boolean), 11, 2, false, 1133)
def mr160 : MRow := (yX11_knownOrder, cX11_knownOrder, 1, (some (FieldType.object "LikeYears$Order")), 11, 0, false, 884)
def mr161 : MRow := (yX11_knownSquares, cX11_knownSquares, 1, (some (FieldType.object "LikeYears$Nearest")), 11, 0, false, 953)
def mr162 : MRow := (yX11_knownGaps, cX11_knownGaps, 1, (some (FieldType.object "LikeYears$Nearest")), 11, 0, false, 1026)
def mr163 : MRow := (yX11_gridCost, cX11_gridCost, 3, (some (FieldType.object "LikeYears$Fraction")), 11, 2, false, 1105)
def mr164 : MRow := (yX11_findBest, cX11_findBest, 5, (some FieldType.int), 11, 0, false, 1119)
def mr165 : MRow := (yX11_outside, cX11_outside, 3, (some FieldType.int), 11, 3, true, 1222)
def mr166 : MRow := (yX11_moveOf, cX11_moveOf, 3, (some FieldType.int), 11, 1, false, 1260)
def mr167 : MRow := (yX11_act, cX11_act, 5, (none : Option FieldType), 11, 4, false, 1302)
def mr168 : MRow := (yX12_feed, cX12_feed, 6, (some FieldType.int), 12, 5, false, 1633)
def mr169 : MRow := (yX12_four, cX12_four, 3, (none : Option FieldType), 12, 1, false, 1637)
def mr170 : MRow := (yX12_end, cX12_end, 2, (some FieldType.int), 12, 1, false, 1641)
def mr171 : MRow := (yX12_here, cX12_here, 2, (some FieldType.int), 12, 1, false, 1653)
def mr172 : MRow := (yX12_isLetter, cX12_isLetter, 1, (some FieldType.boolean), 12, 1, true, 1656)
def mr173 : MRow := (yX12_isDigit, cX12_isDigit, 1, (some FieldType.boolean), 12, 1, true, 1659)
def mr174 : MRow := (yX12_isLawSign, cX12_isLawSign, 1, (some FieldType.boolean), 12, 1, true, 1662)
def mr175 : MRow := (yX12_token, cX12_token, 3, (none : Option FieldType), 12, 0, false, 1649)
def mr176 : MRow := (yX12_wrong, cX12_wrong, 2, (none : Option FieldType), 12, 1, false, 1706)
def mr177 : MRow := (yX12_isWord, cX12_isWord, 3, (some FieldType.boolean), 12, 1, false, 1671)
def mr178 : MRow := (yX12_isName, cX12_isName, 1, (some FieldType.boolean), 12, 0, false, 1683)
def mr179 : MRow := (yX12_isNoLawWord, cX12_isNoLawWord, 1, (some FieldType.boolean), 12, 0, false, 1687)
def mr180 : MRow := (yX12_want, cX12_want, 3, (none : Option FieldType), 12, 1, false, 1718)
def mr181 : MRow := (yX12_told, cX12_told, 4, (some FieldType.int), 12, 2, false, 1722)
def mr182 : MRow := (yX12_markOf, cX12_markOf, 5, (some FieldType.int), 12, 1, false, 1710)
def mr183 : MRow := (yX12_caseOf, cX12_caseOf, 5, (some FieldType.int), 12, 1, false, 1714)
def mr184 : MRow := (yX12_newName, cX12_newName, 3, (some FieldType.long), 12, 0, false, 1679)
def mr185 : MRow := (yX12_oldName, cX12_oldName, 3, (some FieldType.int), 12, 1, false, 1730)
def mr186 : MRow := (yX12_readMark, cX12_readMark, 4, (none : Option FieldType), 12, 0, false, 1675)
def mr187 : MRow := (yX12_readNever, cX12_readNever, 2, (none : Option FieldType), 12, 0, false, 1726)
def mr188 : MRow := (yX12_readCase, cX12_readCase, 5, (none : Option FieldType), 12, 0, false, 1734)
def mr189 : MRow := (yX12_readTold, cX12_readTold, 1, (none : Option FieldType), 12, 0, false, 1738)
def mr190 : MRow := (yX12_readLine, cX12_readLine, 1, (none : Option FieldType), 12, 0, false, 1666)
def mr191 : MRow := (yX12_book, cX12_book, 3, (some FieldType.int), 12, 0, false, 1645)
def mr192 : MRow := (yX12_fault, cX12_fault, 2, (some FieldType.int), 12, 1, false, 1749)
def mr193 : MRow := (yX12_close, cX12_close, 4, (none : Option FieldType), 12, 2, true, 1745)
def mr194 : MRow := (yX12_firstRound, cX12_firstRound, 5, (some FieldType.int), 12, 0, false, 1742)
def mr195 : MRow := (yX12_isOverBy, cX12_isOverBy, 6, (some FieldType.boolean), 12, 3, false, 1773)
def mr196 : MRow := (yX12_counting, cX12_counting, 3, (some FieldType.int), 12, 0, false, 1765)
def mr197 : MRow := (yX12_order, cX12_order, 5, (none : Option FieldType), 12, 2, false, 1769)
def mr198 : MRow := (yX12_orderNow, cX12_orderNow, 1, (none : Option FieldType), 12, 0, false, 1761)
def mr199 : MRow := (yX12_goesRound, cX12_goesRound, 4, (some FieldType.boolean), 12, 1, false, 2076)
def mr200 : MRow := (yX12_isCase, cX12_isCase, 2, (some FieldType.boolean), 12, 1, false, 1757)
def mr201 : MRow := (yX12_isMark, cX12_isMark, 2, (some FieldType.boolean), 12, 1, false, 1899)
def mr202 : MRow := (yX12_isOver, cX12_isOver, 3, (some FieldType.boolean), 12, 2, false, 1777)
def mr203 : MRow := (yX12_worse, cX12_worse, 3, (some FieldType.int), 12, 2, false, 1753)
def mr204 : MRow := (yX12_gapOf, cX12_gapOf, 3, (some FieldType.int), 12, 2, false, 1785)
def mr205 : MRow := (yX12_eitherGap, cX12_eitherGap, 3, (some FieldType.int), 12, 2, false, 1797)
def mr206 : MRow := (yX12_clashes, cX12_clashes, 4, (some FieldType.int), 12, 0, false, 1789)
def mr207 : MRow := (yX12_clash, cX12_clash, 6, (some FieldType.int), 12, 1, false, 1781)
def mr208 : MRow := (yX12_oddest, cX12_oddest, 9, (some FieldType.int), 12, 1, false, 1793)
def mr209 : MRow := (yX12_beside, cX12_beside, 5, (some FieldType.int), 12, 1, false, 1801)
def mr210 : MRow := (yX12_common, cX12_common, 10, (some FieldType.long), 12, 2, true, 1846)
def mr211 : MRow := (yX12_put, cX12_put, 7, (none : Option FieldType), 12, 2, false, 1843)
def mr212 : MRow := (yX12_add, cX12_add, 7, (none : Option FieldType), 12, 2, false, 1854)
def mr213 : MRow := (yX12_isPart, cX12_isPart, 1, (some FieldType.boolean), 12, 1, true, 1834)
def mr214 : MRow := (yX12_partOf, cX12_partOf, 2, (some FieldType.long), 12, 1, false, 1875)
def mr215 : MRow := (yX12_lowest, cX12_lowest, 2, (some FieldType.int), 12, 1, true, 1812)
def mr216 : MRow := (yX12_layOut, cX12_layOut, 4, (none : Option FieldType), 12, 0, false, 1809)
def mr217 : MRow := (yX12_square, cX12_square, 9, (none : Option FieldType), 12, 1, false, 1839)
def mr218 : MRow := (yX12_takeOff, cX12_takeOff, 7, (none : Option FieldType), 12, 1, false, 1850)
def mr219 : MRow := (yX12_allCases, cX12_allCases, 1, (some FieldType.int), 12, 0, false, 1820)
def mr220 : MRow := (yX12_nextGiven, cX12_nextGiven, 4, (some FieldType.int), 12, 1, false, 1862)
def mr221 : MRow := (yX12_raise, cX12_raise, 2, (none : Option FieldType), 12, 0, false, 1816)
def mr222 : MRow := (yX12_gaps, cX12_gaps, 4, (none : Option FieldType), 12, 0, false, 1858)
def mr223 : MRow := (yX12_leastUpper, cX12_leastUpper, 6, (some FieldType.int), 12, 1, false, 1866)
def mr224 : MRow := (yX12_gapOff, cX12_gapOff, 2, (some FieldType.int), 12, 1, false, 1883)
def mr225 : MRow := (yX12_partedFrom, cX12_partedFrom, 8, (some FieldType.int), 12, 1, false, 1824)
def mr226 : MRow := (yX12_block, cX12_block, 4, (some FieldType.int), 12, 1, false, 1805)
def mr227 : MRow := (yX12_between, cX12_between, 5, (some FieldType.int), 12, 1, false, 1870)
def mr228 : MRow := (yX12_kept, cX12_kept, 4, (some FieldType.long), 12, 3, false, 1831)
def mr229 : MRow := (yX12_cost, cX12_cost, 6, (some FieldType.long), 12, 2, false, 1879)
def mr230 : MRow := (yX12_bitsOf, cX12_bitsOf, 3, (some FieldType.int), 12, 1, true, 1827)
def mr231 : MRow := (yX12_again, cX12_again, 8, (some FieldType.int), 12, 1, false, 1887)
def mr232 : MRow := (yX12_isGrid, cX12_isGrid, 3, (some FieldType.boolean), 12, 2, false, 1895)
def mr233 : MRow := (yX12_grid, cX12_grid, 4, (some FieldType.long), 12, 3, false, 1891)
def mr234 : MRow := (yX12_loses, cX12_loses, 8, (some FieldType.long), 12, 3, false, 1903)
def mr235 : MRow := (yX12_best, cX12_best, 8, (some FieldType.int), 12, 0, false, 1908)
def mr236 : MRow := (yX12_runCost, cX12_runCost, 6, (none : Option FieldType), 12, 2, false, 1924)
def mr237 : MRow := (yX12_canRun, cX12_canRun, 3, (some FieldType.boolean), 12, 2, false, 1916)
def mr238 : MRow := (yX12_seekRuns, cX12_seekRuns, 11, (some FieldType.int), 12, 2, false, 1920)
def mr239 : MRow := (yX12_runs, cX12_runs, 5, (some FieldType.long), 12, 3, false, 1912)
def mr240 : MRow := (yX12_begins, cX12_begins, 3, (some FieldType.int), 12, 2, false, 1928)
def mr241 : MRow := (yX12_isJudge, cX12_isJudge, 1, (some FieldType.boolean), 12, 1, true, 1935)
def mr242 : MRow := (yX12_offOf, cX12_offOf, 4, (some FieldType.int), 12, 1, false, 1939)
def mr243 : MRow := (yX12_off, cX12_off, 2, (some FieldType.int), 12, 1, false, 1932)
def mr244 : MRow := (yX12_luck, cX12_luck, 12, (some FieldType.long), 12, 2, false, 1943)
def mr245 : MRow := (yX12_upto, cX12_upto, 5, (some FieldType.long), 12, 2, false, 1947)
def mr246 : MRow := (yX12_within, cX12_within, 4, (some FieldType.int), 12, 0, false, 1951)
def mr247 : MRow := (yX12_drift, cX12_drift, 4, (some FieldType.long), 12, 2, false, 1955)
def mr248 : MRow := (yX12_isMonths, cX12_isMonths, 1, (some FieldType.boolean), 12, 1, true, 1962)
def mr249 : MRow := (yX12_law, cX12_law, 10, (some FieldType.int), 12, 5, false, 1959)
def mr250 : MRow := (yX12_mercy, cX12_mercy, 6, (some FieldType.int), 12, 1, false, 1966)
def mr251 : MRow := (yX12_note, cX12_note, 3, (none : Option FieldType), 12, 2, false, 1998)
def mr252 : MRow := (yX12_upper, cX12_upper, 1, (some FieldType.int), 12, 0, false, 1990)
def mr253 : MRow := (yX12_hold, cX12_hold, 2, (none : Option FieldType), 12, 1, false, 2005)
def mr254 : MRow := (yX12_pop, cX12_pop, 1, (none : Option FieldType), 12, 0, false, 1994)
def mr255 : MRow := (yX12_settle, cX12_settle, 2, (none : Option FieldType), 12, 1, false, 1986)
def mr256 : MRow := (yX12_isOpen, cX12_isOpen, 3, (some FieldType.boolean), 12, 0, false, 1978)
def mr257 : MRow := (yX12_rank, cX12_rank, 1, (some FieldType.int), 12, 1, true, 2001)
def mr258 : MRow := (yX12_known, cX12_known, 1, (some FieldType.int), 12, 0, false, 2013)
def mr259 : MRow := (yX12_named, cX12_named, 3, (some FieldType.int), 12, 0, false, 2017)
def mr260 : MRow := (yX12_operand, cX12_operand, 6, (some FieldType.int), 12, 1, false, 2009)
def mr261 : MRow := (yX12_sign, cX12_sign, 2, (some FieldType.int), 12, 0, false, 1982)
def mr262 : MRow := (yX12_readLaw, cX12_readLaw, 2, (none : Option FieldType), 12, 0, false, 1974)
def mr263 : MRow := (yX12_laws, cX12_laws, 2, (some FieldType.int), 12, 0, false, 1970)
def mr264 : MRow := (yX12_worked, cX12_worked, 3, (some FieldType.int), 12, 3, true, 2036)
def mr265 : MRow := (yX12_askedOf, cX12_askedOf, 3, (some FieldType.int), 12, 2, false, 2033)
def mr266 : MRow := (yX12_holds, cX12_holds, 5, (some FieldType.boolean), 12, 2, false, 2029)
def mr267 : MRow := (yX12_lineOf, cX12_lineOf, 3, (some FieldType.int), 12, 1, false, 2025)
def mr268 : MRow := (yX12_lawOf, cX12_lawOf, 2, (some FieldType.int), 12, 1, false, 2021)
def mr269 : MRow := (yX12_movedBy, cX12_movedBy, 3, (some FieldType.int), 12, 1, false, 2044)
def mr270 : MRow := (yX12_moved, cX12_moved, 8, (some FieldType.int), 12, 1, false, 2040)
def mr271 : MRow := (yX12_step, cX12_step, 3, (some FieldType.boolean), 12, 2, false, 2048)
def mr272 : MRow := (yX12_aroundNew, cX12_aroundNew, 6, (some FieldType.int), 12, 1, false, 2056)
def mr273 : MRow := (yX12_ends, cX12_ends, 10, (some FieldType.long), 12, 2, false, 2052)
def mr274 : MRow := (yX12_first, cX12_first, 5, (some FieldType.int), 12, 1, false, 2060)
def mr275 : MRow := (yX12_act, cX12_act, 5, (none : Option FieldType), 12, 3, false, 2068)
def mr276 : MRow := (yX12_turn, cX12_turn, 4, (none : Option FieldType), 12, 2, false, 2088)
def mr277 : MRow := (yX12_come, cX12_come, 6, (some FieldType.int), 12, 4, false, 2064)
def mr278 : MRow := (yX12_count, cX12_count, 4, (some FieldType.boolean), 12, 2, false, 2072)
def mr279 : MRow := (yX12_give, cX12_give, 3, (some FieldType.boolean), 12, 2, false, 2080)
def mr280 : MRow := (yX12_undo, cX12_undo, 1, (some FieldType.boolean), 12, 0, false, 2084)
def mr281 : MRow := (yX12_redo, cX12_redo, 1, (some FieldType.boolean), 12, 0, false, 2092)
def mr282 : MRow := (yX12_isBox, cX12_isBox, 1, (some FieldType.boolean), 12, 1, true, 2099)
def mr283 : MRow := (yX12_keep, cX12_keep, 3, (some FieldType.int), 12, 1, false, 2096)
def mr284 : MRow := (yX12_back, cX12_back, 3, (some FieldType.int), 12, 1, false, 2103)
def mr285 : MRow := (yX12_about, cX12_about, 2, (some FieldType.int), 12, 1, false, 2107)
def mr286 : MRow := (yJ6_bitCount_0f7a4, cJ6_bitCount_0f7a4, 1, (some FieldType.int), 15, 1, true, 927)
def mr287 : MRow := (yJ13_compare_74951, cJ13_compare_74951, 4, (some FieldType.int), 16, 2, true, 1125)
def mr288 : MRow := (yJ9_abs_0f7a4, cJ9_abs_0f7a4, 1, (some FieldType.int), 14, 1, true, 986)
def mr289 : MRow := (yJ9_abs_067f4, cJ9_abs_067f4, 2, (some FieldType.long), 14, 1, true, 968)
def mr290 : MRow := (yJ9_max_7cf53, cJ9_max_7cf53, 2, (some FieldType.int), 14, 2, true, 595)
def mr291 : MRow := (yJ9_min_7cf53, cJ9_min_7cf53, 2, (some FieldType.int), 14, 2, true, 598)
def mr292 : MRow := (yJ7_fill_53178, cJ7_fill_53178, 4, (none : Option FieldType), 17, 2, true, 535)
def mr293 : MRow := (yJ7_fill_49daa, cJ7_fill_49daa, 4, (none : Option FieldType), 17, 2, true, 808)
def mr294 : MRow := (x, code, 4, (some .boolean), 13, 1, true, 0)
def mrL : List MRow := [mr0, mr1, mr2, mr3, mr4, mr5, mr6, mr7, mr8, mr9, mr10, mr11, mr12, mr13, mr14, mr15, mr16, mr17, mr18, mr19, mr20, mr21, mr22, mr23, mr24, mr25, mr26, mr27, mr28, mr29, mr30, mr31, mr32, mr33, mr34, mr35, mr36, mr37, mr38, mr39, mr40, mr41, mr42, mr43, mr44, mr45, mr46, mr47, mr48, mr49, mr50, mr51, mr52, mr53, mr54, mr55, mr56, mr57, mr58, mr59, mr60, mr61, mr62, mr63, mr64, mr65, mr66, mr67, mr68, mr69, mr70, mr71, mr72, mr73, mr74, mr75, mr76, mr77, mr78, mr79, mr80, mr81, mr82, mr83, mr84, mr85, mr86, mr87, mr88, mr89, mr90, mr91, mr92, mr93, mr94, mr95, mr96, mr97, mr98, mr99, mr100, mr101, mr102, mr103, mr104, mr105, mr106, mr107, mr108, mr109, mr110, mr111, mr112, mr113, mr114, mr115, mr116, mr117, mr118, mr119, mr120, mr121, mr122, mr123, mr124, mr125, mr126, mr127, mr128, mr129, mr130, mr131, mr132, mr133, mr134, mr135, mr136, mr137, mr138, mr139, mr140, mr141, mr142, mr143, mr144, mr145, mr146, mr147, mr148, mr149, mr150, mr151, mr152, mr153, mr154, mr155, mr156, mr157, mr158, mr159, mr160, mr161, mr162, mr163, mr164, mr165, mr166, mr167, mr168, mr169, mr170, mr171, mr172, mr173, mr174, mr175, mr176, mr177, mr178, mr179, mr180, mr181, mr182, mr183, mr184, mr185, mr186, mr187, mr188, mr189, mr190, mr191, mr192, mr193, mr194, mr195, mr196, mr197, mr198, mr199, mr200, mr201, mr202, mr203, mr204, mr205, mr206, mr207, mr208, mr209, mr210, mr211, mr212, mr213, mr214, mr215, mr216, mr217, mr218, mr219, mr220, mr221, mr222, mr223, mr224, mr225, mr226, mr227, mr228, mr229, mr230, mr231, mr232, mr233, mr234, mr235, mr236, mr237, mr238, mr239, mr240, mr241, mr242, mr243, mr244, mr245, mr246, mr247, mr248, mr249, mr250, mr251, mr252, mr253, mr254, mr255, mr256, mr257, mr258, mr259, mr260, mr261, mr262, mr263, mr264, mr265, mr266, mr267, mr268, mr269, mr270, mr271, mr272, mr273, mr274, mr275, mr276, mr277, mr278, mr279, mr280, mr281, mr282, mr283, mr284, mr285, mr286, mr287, mr288, mr289, mr290, mr291, mr292, mr293, mr294]
def mrow (k : Nat) : MRow := mrL.getD k mr0
def mcL : List (List (Nat × Ins)) := [mc0, mc1, mc2, mc3, mc4, mc5, mc6, mc7, mc8, mc9, mc10, mc11, mc12, mc13, mc14, mc15, mc16, mc17, mc18, mc19, mc20, mc21, mc22, mc23, mc24, mc25, mc26, mc27, mc28, mc29, mc30, mc31, mc32, mc33, mc34, mc35, mc36, mc37, mc38, mc39, mc40, mc41, mc42, mc43, mc44, mc45, mc46, mc47, mc48, mc49, mc50, mc51, mc52, mc53, mc54, mc55, mc56, mc57, mc58, mc59, mc60, mc61, mc62, mc63, mc64, mc65, mc66, mc67, mc68, mc69, mc70, mc71, mc72, mc73, mc74, mc75, mc76, mc77, mc78, mc79, mc80, mc81, mc82, mc83, mc84, mc85, mc86, mc87, mc88, mc89, mc90, mc91, mc92, mc93, mc94, mc95, mc96, mc97, mc98, mc99, mc100, mc101, mc102, mc103, mc104, mc105, mc106, mc107, mc108, mc109, mc110, mc111, mc112, mc113, mc114, mc115, mc116, mc117, mc118, mc119, mc120, mc121, mc122, mc123, mc124, mc125, mc126, mc127, mc128, mc129, mc130, mc131, mc132, mc133, mc134, mc135, mc136, mc137, mc138, mc139, mc140, mc141, mc142, mc143, mc144, mc145, mc146, mc147, mc148, mc149, mc150, mc151, mc152, mc153, mc154, mc155, mc156, mc157, mc158, mc159, mc160, mc161, mc162, mc163, mc164, mc165, mc166, mc167, mc168, mc169, mc170, mc171, mc172, mc173, mc174, mc175, mc176, mc177, mc178, mc179, mc180, mc181, mc182, mc183, mc184, mc185, mc186, mc187, mc188, mc189, mc190, mc191, mc192, mc193, mc194, mc195, mc196, mc197, mc198, mc199, mc200, mc201, mc202, mc203, mc204, mc205, mc206, mc207, mc208, mc209, mc210, mc211, mc212, mc213, mc214, mc215, mc216, mc217, mc218, mc219, mc220, mc221, mc222, mc223, mc224, mc225, mc226, mc227, mc228, mc229, mc230, mc231, mc232, mc233, mc234, mc235, mc236, mc237, mc238, mc239, mc240, mc241, mc242, mc243, mc244, mc245, mc246, mc247, mc248, mc249, mc250, mc251, mc252, mc253, mc254, mc255, mc256, mc257, mc258, mc259, mc260, mc261, mc262, mc263, mc264, mc265, mc266, mc267, mc268, mc269, mc270, mc271, mc272, mc273, mc274, mc275, mc276, mc277, mc278, mc279, mc280, mc281, mc282, mc283, mc284, mc285, mc286, mc287, mc288, mc289, mc290, mc291, mc292, mc293, mc294]
def mcode (k : Nat) : List (Nat × Ins) := mcL.getD k []
end
section
/-! CHECKS of the tables against the Statement, by the kernel -/
def npv : Nat := 124
def mplL : List (Nat × Nat × Nat × Nat) := [(929, 927, 928, 131), (1430, 1428, 1429, 131), (1433, 1432, 0, 131), (1455, 1453, 1454, 131), (1464, 1462, 1463, 131), (1439, 1438, 0, 131), (656, 654, 655, 129), (841, 839, 840, 129), (896, 894, 895, 129), (871, 869, 870, 129), (810, 808, 809, 129), (1225, 1223, 1224, 129), (1004, 1002, 1003, 129), (1341, 1339, 1340, 129), (854, 852, 853, 129), (913, 911, 912, 129), (881, 879, 880, 129), (1081, 1079, 1080, 129), (909, 907, 908, 129), (1472, 1470, 1471, 129), (652, 650, 651, 128), (782, 781, 4, 128), (791, 790, 5, 128), (846, 845, 8, 128), (859, 858, 10, 128), (863, 862, 11, 128), (875, 874, 12, 128), (886, 885, 13, 128), (800, 799, 6, 128), (850, 849, 9, 128), (890, 889, 14, 128), (814, 813, 7, 128), (900, 899, 15, 128), (1197, 1195, 1196, 135), (1203, 1202, 38, 135), (1208, 1207, 39, 135), (1212, 1211, 40, 135), (1310, 1308, 1309, 135), (1314, 1313, 51, 135), (1317, 1316, 0, 135), (1103, 1101, 1102, 132), (1107, 1106, 29, 132), (1115, 1114, 30, 132), (1120, 1119, 31, 132), (1124, 1123, 32, 132), (1128, 1127, 33, 132), (1133, 1132, 34, 132), (1089, 1087, 1088, 134), (1141, 1139, 1140, 134), (1175, 1173, 1174, 134), (1095, 1094, 0, 134), (1246, 1245, 0, 134), (940, 938, 939, 130), (945, 944, 17, 130), (952, 951, 18, 130), (983, 982, 23, 130), (989, 988, 24, 130), (956, 955, 19, 130), (963, 962, 20, 130), (973, 972, 22, 130), (967, 966, 21, 130), (1354, 1352, 1353, 130), (1358, 1357, 52, 130), (1366, 1365, 53, 130), (1370, 1369, 54, 130), (1361, 1360, 0, 130), (1373, 1372, 0, 130), (1376, 1375, 0, 130), (1085, 1083, 1084, 133), (1099, 1098, 28, 133), (1137, 1136, 35, 133), (1146, 1144, 1145, 133), (1410, 1408, 1409, 133), (1154, 1152, 1153, 133), (1158, 1157, 0, 133), (1163, 1162, 37, 133), (904, 902, 903, 127), (917, 915, 916, 127), (925, 924, 16, 127), (921, 919, 920, 127), (1023, 1022, 26, 127), (1048, 1046, 1047, 127), (1031, 1029, 1030, 127), (1019, 1017, 1018, 127), (1027, 1025, 1026, 127), (1035, 1033, 1034, 127), (1044, 1042, 1043, 127), (1065, 1063, 1064, 127), (1169, 1167, 1168, 127), (1183, 1181, 1182, 127), (1406, 1404, 1405, 127), (1402, 1400, 1401, 127), (1261, 1259, 1260, 136), (1274, 1273, 0, 136), (1265, 1264, 45, 136), (1270, 1269, 46, 136), (1279, 1278, 47, 136), (1292, 1291, 50, 136), (1288, 1287, 49, 136), (1283, 1282, 48, 136), (640, 638, 639, 126), (663, 661, 662, 126), (778, 776, 777, 126), (678, 677, 2, 126), (667, 666, 0, 126), (670, 669, 0, 126), (681, 680, 0, 126), (674, 673, 1, 126), (685, 684, 3, 126), (795, 793, 794, 126), (787, 785, 786, 126), (837, 835, 836, 126), (804, 802, 803, 126), (823, 821, 822, 126), (833, 831, 832, 126), (829, 827, 828, 126), (819, 817, 818, 126), (636, 634, 635, 125), (644, 642, 643, 125), (648, 646, 647, 125), (936, 934, 935, 125), (996, 994, 995, 125), (1000, 998, 999, 125), (1015, 1013, 1014, 125), (1040, 1038, 1039, 125), (1061, 1059, 1060, 125), (1069, 1067, 1068, 125), (1179, 1177, 1178, 125), (1189, 1187, 1188, 125), (1193, 1191, 1192, 125), (1217, 1215, 1216, 125), (1233, 1231, 1232, 125), (1239, 1237, 1238, 125), (1253, 1251, 1252, 125), (1297, 1295, 1296, 125), (1301, 1299, 1300, 125), (1305, 1303, 1304, 125), (1322, 1320, 1321, 125), (1329, 1327, 1328, 125), (1333, 1331, 1332, 125), (1337, 1335, 1336, 125), (1350, 1348, 1349, 125), (1380, 1378, 1379, 125), (1388, 1386, 1387, 125), (1393, 1391, 1392, 125), (1398, 1396, 1397, 125), (1414, 1412, 1413, 125), (1421, 1419, 1420, 125), (1443, 1441, 1442, 125), (1447, 1445, 1446, 125), (1451, 1449, 1450, 125), (1460, 1458, 1459, 125), (1468, 1466, 1467, 125), (1477, 1475, 1476, 125), (1481, 1479, 1480, 125), (1072, 1071, 0, 125), (1325, 1324, 0, 125), (1417, 1416, 0, 125), (1221, 1220, 41, 125), (1257, 1256, 44, 125), (1008, 1007, 25, 125), (1077, 1076, 27, 125), (1150, 1149, 36, 125), (1229, 1228, 42, 125), (1243, 1242, 43, 125), (1346, 1345, 0, 125), (1384, 1383, 55, 125), (1426, 1425, 56, 125), (1757, 1755, 1756, 137), (1761, 1760, 57, 137), (1765, 1763, 1764, 137), (1777, 1776, 59, 137), (1780, 1779, 0, 137), (1783, 1782, 0, 137), (1786, 1785, 0, 137), (1773, 1772, 58, 137), (1830, 1829, 66, 137), (1795, 1794, 61, 137), (1807, 1806, 64, 137), (1811, 1810, 65, 137), (1842, 1841, 69, 137), (1846, 1845, 70, 137), (1834, 1833, 67, 137), (1838, 1837, 68, 137), (1803, 1802, 63, 137), (1854, 1853, 72, 137), (1799, 1798, 62, 137), (1850, 1849, 71, 137), (1858, 1857, 73, 137), (1862, 1861, 74, 137), (1790, 1789, 60, 137), (1769, 1767, 1768, 137), (1873, 1871, 1872, 137), (1869, 1868, 0, 137), (1866, 1865, 75, 137), (1897, 1896, 80, 137), (1889, 1888, 78, 137), (1893, 1892, 79, 137), (1885, 1884, 77, 137), (2200, 2199, 122, 137), (1881, 1880, 76, 137), (2023, 2022, 100, 137), (1901, 1900, 81, 137), (1877, 1875, 1876, 137), (1909, 1908, 82, 137), (1921, 1920, 84, 137), (1913, 1912, 83, 137), (1905, 1903, 1904, 137), (1917, 1915, 1916, 137), (1925, 1923, 1924, 137), (1970, 1969, 0, 137), (1967, 1966, 90, 137), (1978, 1977, 92, 137), (1958, 1957, 0, 137), (1999, 1998, 97, 137), (1936, 1935, 0, 137), (1933, 1932, 85, 137), (1963, 1962, 89, 137), (1974, 1973, 91, 137), (1944, 1943, 87, 137), (1986, 1985, 94, 137), (1940, 1939, 86, 137), (1982, 1981, 93, 137), (1990, 1989, 95, 137), (2007, 2006, 98, 137), (1948, 1947, 88, 137), (1929, 1927, 1928, 137), (1994, 1993, 96, 137), (1955, 1953, 1954, 137), (2003, 2001, 2002, 137), (1951, 1950, 0, 137), (2011, 2009, 2010, 137), (2019, 2018, 99, 137), (2015, 2013, 2014, 137), (2027, 2025, 2026, 137), (2032, 2030, 2031, 137), (2048, 2047, 103, 137), (2040, 2039, 101, 137), (2044, 2043, 102, 137), (2036, 2034, 2035, 137), (2052, 2050, 2051, 137), (2059, 2058, 0, 137), (2063, 2062, 104, 137), (2056, 2054, 2055, 137), (2067, 2065, 2066, 137), (2071, 2069, 2070, 137), (2075, 2073, 2074, 137), (2079, 2077, 2078, 137), (2086, 2085, 0, 137), (2083, 2081, 2082, 137), (2090, 2088, 2089, 137), (2122, 2121, 111, 137), (2114, 2113, 109, 137), (2129, 2128, 112, 137), (2118, 2117, 110, 137), (2110, 2109, 108, 137), (2102, 2101, 106, 137), (2125, 2124, 0, 137), (2137, 2136, 114, 137), (2141, 2140, 115, 137), (2133, 2132, 113, 137), (2106, 2105, 107, 137), (2098, 2097, 105, 137), (2094, 2092, 2093, 137), (2160, 2159, 0, 137), (2157, 2156, 118, 137), (2153, 2152, 117, 137), (2149, 2148, 116, 137), (2145, 2143, 2144, 137), (2168, 2167, 119, 137), (2164, 2162, 2163, 137), (2172, 2170, 2171, 137), (2180, 2179, 120, 137), (2176, 2174, 2175, 137), (2184, 2182, 2183, 137), (2192, 2191, 121, 137), (2212, 2211, 123, 137), (2188, 2186, 2187, 137), (2196, 2194, 2195, 137), (2204, 2202, 2203, 137), (2208, 2206, 2207, 137), (2216, 2214, 2215, 137), (2223, 2222, 0, 137), (2220, 2218, 2219, 137), (2227, 2225, 2226, 137), (2231, 2229, 2230, 137), (1051, 1050, 0, 145), (1249, 1248, 0, 146), (1110, 1109, 0, 141), (1092, 1091, 0, 141), (719, 718, 0, 141), (722, 721, 0, 141), (659, 658, 0, 138), (932, 931, 0, 138), (0, 0, 0, 0)]
def mpl (k : Nat) : Nat × Nat × Nat × Nat := mplL.getD k (0, 0, 0, 0)
def chkM (mi : Nat) : Bool :=
  let r := mrow mi
  let y := r.1
  let q := mpl mi
  let C := cnm r.2.2.2.2.1
  decide (y.cls = C) && decide (C ≠ "java/lang/invoke/MethodHandle") && decide (C ≠ "java/lang/invoke/VarHandle") &&
  decide ((parseMethodDescriptor y.desc).map (fun d => d.parameters.length) = some r.2.2.2.2.2.1) && decide (plainName C = true) && decide (r.2.2.1 ≤ 40) &&
  decide (lw_tbl[q.1]? = some (.code y r.2.1 r.2.2.1 r.2.2.2.1)) && decide (lw_tbl[q.2.2.2]? = some (.initialized C)) &&
  (if r.2.2.2.2.2.2.1 = true then decide (lw_tbl[q.2.1]? = some (.static y)) else
    decide (lw_tbl[q.2.1]? = some (.instanceMethod y)) && decide (lw_tbl[q.2.2.1]? = some (.selects C y y)))
def brk (pc : Nat) (off : Int) (a : Nat) : Bool := decide ((pc : Int) + off = (a : Int))
def chkI (mi pc : Nat) (i : Ins) : Bool :=
  let r := mrow mi
  let C := cnm r.2.2.2.2.1
  let a := i.2.2.1
  let b := i.2.2.2.1
  let z := i.2.2.2.2
  decide (pc < i.2.1) && decide (decode r.2.1 pc = .ok (i.1, i.2.1 - pc)) &&
  (match i.1 with
  | .aload_n k => decide (k.val = a) | .iload_n k => decide (k.val = a) | .lload_n k => decide (k.val = a)
  | .astore_n k => decide (k.val = a) && decide (a < r.2.2.1) | .istore_n k => decide (k.val = a) && decide (a < r.2.2.1) | .lstore_n k => decide (k.val = a) && decide (a + 1 < r.2.2.1)
  | .aload k => decide (k = a) | .iload k => decide (k = a) | .lload k => decide (k = a)
  | .astore k => decide (k = a) && decide (a < r.2.2.1) | .istore k => decide (k = a) && decide (a < r.2.2.1) | .lstore k => decide (k = a) && decide (a + 1 < r.2.2.1)
  | .iinc k _ => decide (k = a) && decide (a < r.2.2.1)
  | .ifCond _ off => brk pc off a
  | .if_icmp _ off => brk pc off a
  | .goto off => brk pc off a
  | .getfield idx => decide (a < 13) && decide (b < (clss.getD a (RX0, TX0, 0)).2.2) && decide (lw_tbl[npv + z.toNat]? = some (.fieldLink C idx (tOf a b).1 (tOf a b).2.1 (tOf a b).2.2.1))
  | .putfield idx => decide (a < 13) && decide (b < (clss.getD a (RX0, TX0, 0)).2.2) && decide ((tOf a b).2.2.2 = false) && decide (lw_tbl[npv + z.toNat]? = some (.fieldLink C idx (tOf a b).1 (tOf a b).2.1 (tOf a b).2.2.1))
  | .invokevirtual idx => decide (9000 ≤ a) || (decide (a < 294) && decide (lw_tbl[npv + b]? = some (.methodLink C idx (mrow a).1)))
  | .invokestatic idx => decide (9000 ≤ a) || (decide (a < 294) && decide (lw_tbl[npv + b]? = some (.methodLink C idx (mrow a).1)))
  | .ldc idx => decide (a = 1002) || decide (lw_tbl[npv + b]? = some (.constant C idx (Int32.ofInt z)))
  | .ldc_w idx => decide (lw_tbl[npv + b]? = some (.constant C idx (Int32.ofInt z)))
  | .ldc2_w idx => decide (lw_tbl[npv + b]? = some (.constantLong C idx (Int64.ofInt z)))
  | _ => true)
end
section
set_option maxRecDepth 100000 in
theorem ok0 : mc0.all (fun q => chkI 0 q.1 q.2) = true := by decide +kernel
set_option maxRecDepth 100000 in
theorem okM0 : chkM 0 = true := by decide +kernel
set_option maxRecDepth 100000 in
theorem ok1 : mc1.all (fun q => chkI 1 q.1 q.2) = true := by decide +kernel
set_option maxRecDepth 100000 in
theorem okM1 : chkM 1 = true := by decide +kernel
set_option maxRecDepth 100000 in
theorem ok2 : mc2.all (fun q => chkI 2 q.1 q.2) = true := by decide +kernel
set_option maxRecDepth 100000 in
theorem okM2 : chkM 2 = true := by decide +kernel
set_option maxRecDepth 100000 in
theorem ok3 : mc3.all (fun q => chkI 3 q.1 q.2) = true := by decide +kernel
set_option maxRecDepth 100000 in
theorem okM3 : chkM 3 = true := by decide +kernel
set_option maxRecDepth 100000 in
theorem ok4 : mc4.all (fun q => chkI 4 q.1 q.2) = true := by decide +kernel
set_option maxRecDepth 100000 in
theorem okM4 : chkM 4 = true := by decide +kernel
set_option maxRecDepth 100000 in
theorem ok5 : mc5.all (fun q => chkI 5 q.1 q.2) = true := by decide +kernel
set_option maxRecDepth 100000 in
theorem okM5 : chkM 5 = true := by decide +kernel
set_option maxRecDepth 100000 in
theorem ok6 : mc6.all (fun q => chkI 6 q.1 q.2) = true := by decide +kernel
set_option maxRecDepth 100000 in
theorem okM6 : chkM 6 = true := by decide +kernel
set_option maxRecDepth 100000 in
theorem ok7 : mc7.all (fun q => chkI 7 q.1 q.2) = true := by decide +kernel
set_option maxRecDepth 100000 in
theorem okM7 : chkM 7 = true := by decide +kernel
set_option maxRecDepth 100000 in
theorem ok8 : mc8.all (fun q => chkI 8 q.1 q.2) = true := by decide +kernel
set_option maxRecDepth 100000 in
theorem okM8 : chkM 8 = true := by decide +kernel
set_option maxRecDepth 100000 in
theorem ok9 : mc9.all (fun q => chkI 9 q.1 q.2) = true := by decide +kernel
set_option maxRecDepth 100000 in
theorem okM9 : chkM 9 = true := by decide +kernel
set_option maxRecDepth 100000 in
theorem ok10 : mc10.all (fun q => chkI 10 q.1 q.2) = true := by decide +kernel
set_option maxRecDepth 100000 in
theorem okM10 : chkM 10 = true := by decide +kernel
set_option maxRecDepth 100000 in
theorem ok11 : mc11.all (fun q => chkI 11 q.1 q.2) = true := by decide +kernel
set_option maxRecDepth 100000 in
theorem okM11 : chkM 11 = true := by decide +kernel
set_option maxRecDepth 100000 in
theorem ok12 : mc12.all (fun q => chkI 12 q.1 q.2) = true := by decide +kernel
set_option maxRecDepth 100000 in
theorem okM12 : chkM 12 = true := by decide +kernel
set_option maxRecDepth 100000 in
theorem ok13 : mc13.all (fun q => chkI 13 q.1 q.2) = true := by decide +kernel
set_option maxRecDepth 100000 in
theorem okM13 : chkM 13 = true := by decide +kernel
set_option maxRecDepth 100000 in
theorem ok14 : mc14.all (fun q => chkI 14 q.1 q.2) = true := by decide +kernel
set_option maxRecDepth 100000 in
theorem okM14 : chkM 14 = true := by decide +kernel
set_option maxRecDepth 100000 in
theorem ok15 : mc15.all (fun q => chkI 15 q.1 q.2) = true := by decide +kernel
set_option maxRecDepth 100000 in
theorem okM15 : chkM 15 = true := by decide +kernel
set_option maxRecDepth 100000 in
theorem ok16 : mc16.all (fun q => chkI 16 q.1 q.2) = true := by decide +kernel
set_option maxRecDepth 100000 in
theorem okM16 : chkM 16 = true := by decide +kernel
set_option maxRecDepth 100000 in
theorem ok17 : mc17.all (fun q => chkI 17 q.1 q.2) = true := by decide +kernel
set_option maxRecDepth 100000 in
theorem okM17 : chkM 17 = true := by decide +kernel
set_option maxRecDepth 100000 in
theorem ok18 : mc18.all (fun q => chkI 18 q.1 q.2) = true := by decide +kernel
set_option maxRecDepth 100000 in
theorem okM18 : chkM 18 = true := by decide +kernel
set_option maxRecDepth 100000 in
theorem ok19 : mc19.all (fun q => chkI 19 q.1 q.2) = true := by decide +kernel
set_option maxRecDepth 100000 in
theorem okM19 : chkM 19 = true := by decide +kernel
set_option maxRecDepth 100000 in
theorem ok20 : mc20.all (fun q => chkI 20 q.1 q.2) = true := by decide +kernel
set_option maxRecDepth 100000 in
theorem okM20 : chkM 20 = true := by decide +kernel
set_option maxRecDepth 100000 in
theorem ok21 : mc21.all (fun q => chkI 21 q.1 q.2) = true := by decide +kernel
set_option maxRecDepth 100000 in
theorem okM21 : chkM 21 = true := by decide +kernel
set_option maxRecDepth 100000 in
theorem ok22 : mc22.all (fun q => chkI 22 q.1 q.2) = true := by decide +kernel
set_option maxRecDepth 100000 in
theorem okM22 : chkM 22 = true := by decide +kernel
set_option maxRecDepth 100000 in
theorem ok23 : mc23.all (fun q => chkI 23 q.1 q.2) = true := by decide +kernel
set_option maxRecDepth 100000 in
theorem okM23 : chkM 23 = true := by decide +kernel
set_option maxRecDepth 100000 in
theorem ok24 : mc24.all (fun q => chkI 24 q.1 q.2) = true := by decide +kernel
set_option maxRecDepth 100000 in
theorem okM24 : chkM 24 = true := by decide +kernel
set_option maxRecDepth 100000 in
theorem ok25 : mc25.all (fun q => chkI 25 q.1 q.2) = true := by decide +kernel
set_option maxRecDepth 100000 in
theorem okM25 : chkM 25 = true := by decide +kernel
set_option maxRecDepth 100000 in
theorem ok26 : mc26.all (fun q => chkI 26 q.1 q.2) = true := by decide +kernel
set_option maxRecDepth 100000 in
theorem okM26 : chkM 26 = true := by decide +kernel
set_option maxRecDepth 100000 in
theorem ok27 : mc27.all (fun q => chkI 27 q.1 q.2) = true := by decide +kernel
set_option maxRecDepth 100000 in
theorem okM27 : chkM 27 = true := by decide +kernel
set_option maxRecDepth 100000 in
theorem ok28 : mc28.all (fun q => chkI 28 q.1 q.2) = true := by decide +kernel
set_option maxRecDepth 100000 in
theorem okM28 : chkM 28 = true := by decide +kernel
set_option maxRecDepth 100000 in
theorem ok29 : mc29.all (fun q => chkI 29 q.1 q.2) = true := by decide +kernel
set_option maxRecDepth 100000 in
theorem okM29 : chkM 29 = true := by decide +kernel
set_option maxRecDepth 100000 in
theorem ok30 : mc30.all (fun q => chkI 30 q.1 q.2) = true := by decide +kernel
set_option maxRecDepth 100000 in
theorem okM30 : chkM 30 = true := by decide +kernel
set_option maxRecDepth 100000 in
theorem ok31 : mc31.all (fun q => chkI 31 q.1 q.2) = true := by decide +kernel
set_option maxRecDepth 100000 in
theorem okM31 : chkM 31 = true := by decide +kernel
set_option maxRecDepth 100000 in
theorem ok32 : mc32.all (fun q => chkI 32 q.1 q.2) = true := by decide +kernel
set_option maxRecDepth 100000 in
theorem okM32 : chkM 32 = true := by decide +kernel
set_option maxRecDepth 100000 in
theorem ok33 : mc33.all (fun q => chkI 33 q.1 q.2) = true := by decide +kernel
set_option maxRecDepth 100000 in
theorem okM33 : chkM 33 = true := by decide +kernel
set_option maxRecDepth 100000 in
theorem ok34 : mc34.all (fun q => chkI 34 q.1 q.2) = true := by decide +kernel
set_option maxRecDepth 100000 in
theorem okM34 : chkM 34 = true := by decide +kernel
set_option maxRecDepth 100000 in
theorem ok35 : mc35.all (fun q => chkI 35 q.1 q.2) = true := by decide +kernel
set_option maxRecDepth 100000 in
theorem okM35 : chkM 35 = true := by decide +kernel
set_option maxRecDepth 100000 in
theorem ok36 : mc36.all (fun q => chkI 36 q.1 q.2) = true := by decide +kernel
set_option maxRecDepth 100000 in
theorem okM36 : chkM 36 = true := by decide +kernel
set_option maxRecDepth 100000 in
theorem ok37 : mc37.all (fun q => chkI 37 q.1 q.2) = true := by decide +kernel
set_option maxRecDepth 100000 in
theorem okM37 : chkM 37 = true := by decide +kernel
set_option maxRecDepth 100000 in
theorem ok38 : mc38.all (fun q => chkI 38 q.1 q.2) = true := by decide +kernel
set_option maxRecDepth 100000 in
theorem okM38 : chkM 38 = true := by decide +kernel
set_option maxRecDepth 100000 in
theorem ok39 : mc39.all (fun q => chkI 39 q.1 q.2) = true := by decide +kernel
set_option maxRecDepth 100000 in
theorem okM39 : chkM 39 = true := by decide +kernel
set_option maxRecDepth 100000 in
theorem ok40 : mc40.all (fun q => chkI 40 q.1 q.2) = true := by decide +kernel
set_option maxRecDepth 100000 in
theorem okM40 : chkM 40 = true := by decide +kernel
set_option maxRecDepth 100000 in
theorem ok41 : mc41.all (fun q => chkI 41 q.1 q.2) = true := by decide +kernel
set_option maxRecDepth 100000 in
theorem okM41 : chkM 41 = true := by decide +kernel
set_option maxRecDepth 100000 in
theorem ok42 : mc42.all (fun q => chkI 42 q.1 q.2) = true := by decide +kernel
set_option maxRecDepth 100000 in
theorem okM42 : chkM 42 = true := by decide +kernel
set_option maxRecDepth 100000 in
theorem ok43 : mc43.all (fun q => chkI 43 q.1 q.2) = true := by decide +kernel
set_option maxRecDepth 100000 in
theorem okM43 : chkM 43 = true := by decide +kernel
set_option maxRecDepth 100000 in
theorem ok44 : mc44.all (fun q => chkI 44 q.1 q.2) = true := by decide +kernel
set_option maxRecDepth 100000 in
theorem okM44 : chkM 44 = true := by decide +kernel
set_option maxRecDepth 100000 in
theorem ok45 : mc45.all (fun q => chkI 45 q.1 q.2) = true := by decide +kernel
set_option maxRecDepth 100000 in
theorem okM45 : chkM 45 = true := by decide +kernel
set_option maxRecDepth 100000 in
theorem ok46 : mc46.all (fun q => chkI 46 q.1 q.2) = true := by decide +kernel
set_option maxRecDepth 100000 in
theorem okM46 : chkM 46 = true := by decide +kernel
set_option maxRecDepth 100000 in
theorem ok47 : mc47.all (fun q => chkI 47 q.1 q.2) = true := by decide +kernel
set_option maxRecDepth 100000 in
theorem okM47 : chkM 47 = true := by decide +kernel
set_option maxRecDepth 100000 in
theorem ok48 : mc48.all (fun q => chkI 48 q.1 q.2) = true := by decide +kernel
set_option maxRecDepth 100000 in
theorem okM48 : chkM 48 = true := by decide +kernel
set_option maxRecDepth 100000 in
theorem ok49 : mc49.all (fun q => chkI 49 q.1 q.2) = true := by decide +kernel
set_option maxRecDepth 100000 in
theorem okM49 : chkM 49 = true := by decide +kernel
set_option maxRecDepth 100000 in
theorem ok50 : mc50.all (fun q => chkI 50 q.1 q.2) = true := by decide +kernel
set_option maxRecDepth 100000 in
theorem okM50 : chkM 50 = true := by decide +kernel
set_option maxRecDepth 100000 in
theorem ok51 : mc51.all (fun q => chkI 51 q.1 q.2) = true := by decide +kernel
set_option maxRecDepth 100000 in
theorem okM51 : chkM 51 = true := by decide +kernel
set_option maxRecDepth 100000 in
theorem ok52 : mc52.all (fun q => chkI 52 q.1 q.2) = true := by decide +kernel
set_option maxRecDepth 100000 in
theorem okM52 : chkM 52 = true := by decide +kernel
set_option maxRecDepth 100000 in
theorem ok53 : mc53.all (fun q => chkI 53 q.1 q.2) = true := by decide +kernel
set_option maxRecDepth 100000 in
theorem okM53 : chkM 53 = true := by decide +kernel
set_option maxRecDepth 100000 in
theorem ok54 : mc54.all (fun q => chkI 54 q.1 q.2) = true := by decide +kernel
set_option maxRecDepth 100000 in
theorem okM54 : chkM 54 = true := by decide +kernel
set_option maxRecDepth 100000 in
theorem ok55 : mc55.all (fun q => chkI 55 q.1 q.2) = true := by decide +kernel
set_option maxRecDepth 100000 in
theorem okM55 : chkM 55 = true := by decide +kernel
set_option maxRecDepth 100000 in
theorem ok56 : mc56.all (fun q => chkI 56 q.1 q.2) = true := by decide +kernel
set_option maxRecDepth 100000 in
theorem okM56 : chkM 56 = true := by decide +kernel
set_option maxRecDepth 100000 in
theorem ok57 : mc57.all (fun q => chkI 57 q.1 q.2) = true := by decide +kernel
set_option maxRecDepth 100000 in
theorem okM57 : chkM 57 = true := by decide +kernel
set_option maxRecDepth 100000 in
theorem ok58 : mc58.all (fun q => chkI 58 q.1 q.2) = true := by decide +kernel
set_option maxRecDepth 100000 in
theorem okM58 : chkM 58 = true := by decide +kernel
set_option maxRecDepth 100000 in
theorem ok59 : mc59.all (fun q => chkI 59 q.1 q.2) = true := by decide +kernel
set_option maxRecDepth 100000 in
theorem okM59 : chkM 59 = true := by decide +kernel
set_option maxRecDepth 100000 in
theorem ok60 : mc60.all (fun q => chkI 60 q.1 q.2) = true := by decide +kernel
set_option maxRecDepth 100000 in
theorem okM60 : chkM 60 = true := by decide +kernel
set_option maxRecDepth 100000 in
theorem ok61 : mc61.all (fun q => chkI 61 q.1 q.2) = true := by decide +kernel
set_option maxRecDepth 100000 in
theorem okM61 : chkM 61 = true := by decide +kernel
set_option maxRecDepth 100000 in
theorem ok62 : mc62.all (fun q => chkI 62 q.1 q.2) = true := by decide +kernel
set_option maxRecDepth 100000 in
theorem okM62 : chkM 62 = true := by decide +kernel
set_option maxRecDepth 100000 in
theorem ok63 : mc63.all (fun q => chkI 63 q.1 q.2) = true := by decide +kernel
set_option maxRecDepth 100000 in
theorem okM63 : chkM 63 = true := by decide +kernel
set_option maxRecDepth 100000 in
theorem ok64 : mc64.all (fun q => chkI 64 q.1 q.2) = true := by decide +kernel
set_option maxRecDepth 100000 in
theorem okM64 : chkM 64 = true := by decide +kernel
set_option maxRecDepth 100000 in
theorem ok65 : mc65.all (fun q => chkI 65 q.1 q.2) = true := by decide +kernel
set_option maxRecDepth 100000 in
theorem okM65 : chkM 65 = true := by decide +kernel
set_option maxRecDepth 100000 in
theorem ok66 : mc66.all (fun q => chkI 66 q.1 q.2) = true := by decide +kernel
set_option maxRecDepth 100000 in
theorem okM66 : chkM 66 = true := by decide +kernel
set_option maxRecDepth 100000 in
theorem ok67 : mc67.all (fun q => chkI 67 q.1 q.2) = true := by decide +kernel
set_option maxRecDepth 100000 in
theorem okM67 : chkM 67 = true := by decide +kernel
set_option maxRecDepth 100000 in
theorem ok68 : mc68.all (fun q => chkI 68 q.1 q.2) = true := by decide +kernel
set_option maxRecDepth 100000 in
theorem okM68 : chkM 68 = true := by decide +kernel
set_option maxRecDepth 100000 in
theorem ok69 : mc69.all (fun q => chkI 69 q.1 q.2) = true := by decide +kernel
set_option maxRecDepth 100000 in
theorem okM69 : chkM 69 = true := by decide +kernel
set_option maxRecDepth 100000 in
theorem ok70 : mc70.all (fun q => chkI 70 q.1 q.2) = true := by decide +kernel
set_option maxRecDepth 100000 in
theorem okM70 : chkM 70 = true := by decide +kernel
set_option maxRecDepth 100000 in
theorem ok71 : mc71.all (fun q => chkI 71 q.1 q.2) = true := by decide +kernel
set_option maxRecDepth 100000 in
theorem okM71 : chkM 71 = true := by decide +kernel
set_option maxRecDepth 100000 in
theorem ok72 : mc72.all (fun q => chkI 72 q.1 q.2) = true := by decide +kernel
set_option maxRecDepth 100000 in
theorem okM72 : chkM 72 = true := by decide +kernel
set_option maxRecDepth 100000 in
theorem ok73 : mc73.all (fun q => chkI 73 q.1 q.2) = true := by decide +kernel
set_option maxRecDepth 100000 in
theorem okM73 : chkM 73 = true := by decide +kernel
set_option maxRecDepth 100000 in
theorem ok74 : mc74.all (fun q => chkI 74 q.1 q.2) = true := by decide +kernel
set_option maxRecDepth 100000 in
theorem okM74 : chkM 74 = true := by decide +kernel
set_option maxRecDepth 100000 in
theorem ok75 : mc75.all (fun q => chkI 75 q.1 q.2) = true := by decide +kernel
set_option maxRecDepth 100000 in
theorem okM75 : chkM 75 = true := by decide +kernel
end
section
set_option maxRecDepth 100000 in
theorem ok76 : mc76.all (fun q => chkI 76 q.1 q.2) = true := by decide +kernel
set_option maxRecDepth 100000 in
theorem okM76 : chkM 76 = true := by decide +kernel
set_option maxRecDepth 100000 in
theorem ok77 : mc77.all (fun q => chkI 77 q.1 q.2) = true := by decide +kernel
set_option maxRecDepth 100000 in
theorem okM77 : chkM 77 = true := by decide +kernel
set_option maxRecDepth 100000 in
theorem ok78 : mc78.all (fun q => chkI 78 q.1 q.2) = true := by decide +kernel
set_option maxRecDepth 100000 in
theorem okM78 : chkM 78 = true := by decide +kernel
set_option maxRecDepth 100000 in
theorem ok79 : mc79.all (fun q => chkI 79 q.1 q.2) = true := by decide +kernel
set_option maxRecDepth 100000 in
theorem okM79 : chkM 79 = true := by decide +kernel
set_option maxRecDepth 100000 in
theorem ok80 : mc80.all (fun q => chkI 80 q.1 q.2) = true := by decide +kernel
set_option maxRecDepth 100000 in
theorem okM80 : chkM 80 = true := by decide +kernel
set_option maxRecDepth 100000 in
theorem ok81 : mc81.all (fun q => chkI 81 q.1 q.2) = true := by decide +kernel
set_option maxRecDepth 100000 in
theorem okM81 : chkM 81 = true := by decide +kernel
set_option maxRecDepth 100000 in
theorem ok82 : mc82.all (fun q => chkI 82 q.1 q.2) = true := by decide +kernel
set_option maxRecDepth 100000 in
theorem okM82 : chkM 82 = true := by decide +kernel
set_option maxRecDepth 100000 in
theorem ok83 : mc83.all (fun q => chkI 83 q.1 q.2) = true := by decide +kernel
set_option maxRecDepth 100000 in
theorem okM83 : chkM 83 = true := by decide +kernel
set_option maxRecDepth 100000 in
theorem ok84 : mc84.all (fun q => chkI 84 q.1 q.2) = true := by decide +kernel
set_option maxRecDepth 100000 in
theorem okM84 : chkM 84 = true := by decide +kernel
set_option maxRecDepth 100000 in
theorem ok85 : mc85.all (fun q => chkI 85 q.1 q.2) = true := by decide +kernel
set_option maxRecDepth 100000 in
theorem okM85 : chkM 85 = true := by decide +kernel
set_option maxRecDepth 100000 in
theorem ok86 : mc86.all (fun q => chkI 86 q.1 q.2) = true := by decide +kernel
set_option maxRecDepth 100000 in
theorem okM86 : chkM 86 = true := by decide +kernel
set_option maxRecDepth 100000 in
theorem ok87 : mc87.all (fun q => chkI 87 q.1 q.2) = true := by decide +kernel
set_option maxRecDepth 100000 in
theorem okM87 : chkM 87 = true := by decide +kernel
set_option maxRecDepth 100000 in
theorem ok88 : mc88.all (fun q => chkI 88 q.1 q.2) = true := by decide +kernel
set_option maxRecDepth 100000 in
theorem okM88 : chkM 88 = true := by decide +kernel
set_option maxRecDepth 100000 in
theorem ok89 : mc89.all (fun q => chkI 89 q.1 q.2) = true := by decide +kernel
set_option maxRecDepth 100000 in
theorem okM89 : chkM 89 = true := by decide +kernel
set_option maxRecDepth 100000 in
theorem ok90 : mc90.all (fun q => chkI 90 q.1 q.2) = true := by decide +kernel
set_option maxRecDepth 100000 in
theorem okM90 : chkM 90 = true := by decide +kernel
set_option maxRecDepth 100000 in
theorem ok91 : mc91.all (fun q => chkI 91 q.1 q.2) = true := by decide +kernel
set_option maxRecDepth 100000 in
theorem okM91 : chkM 91 = true := by decide +kernel
set_option maxRecDepth 100000 in
theorem ok92 : mc92.all (fun q => chkI 92 q.1 q.2) = true := by decide +kernel
set_option maxRecDepth 100000 in
theorem okM92 : chkM 92 = true := by decide +kernel
set_option maxRecDepth 100000 in
theorem ok93 : mc93.all (fun q => chkI 93 q.1 q.2) = true := by decide +kernel
set_option maxRecDepth 100000 in
theorem okM93 : chkM 93 = true := by decide +kernel
set_option maxRecDepth 100000 in
theorem ok94 : mc94.all (fun q => chkI 94 q.1 q.2) = true := by decide +kernel
set_option maxRecDepth 100000 in
theorem okM94 : chkM 94 = true := by decide +kernel
set_option maxRecDepth 100000 in
theorem ok95 : mc95.all (fun q => chkI 95 q.1 q.2) = true := by decide +kernel
set_option maxRecDepth 100000 in
theorem okM95 : chkM 95 = true := by decide +kernel
set_option maxRecDepth 100000 in
theorem ok96 : mc96.all (fun q => chkI 96 q.1 q.2) = true := by decide +kernel
set_option maxRecDepth 100000 in
theorem okM96 : chkM 96 = true := by decide +kernel
set_option maxRecDepth 100000 in
theorem ok97 : mc97.all (fun q => chkI 97 q.1 q.2) = true := by decide +kernel
set_option maxRecDepth 100000 in
theorem okM97 : chkM 97 = true := by decide +kernel
set_option maxRecDepth 100000 in
theorem ok98 : mc98.all (fun q => chkI 98 q.1 q.2) = true := by decide +kernel
set_option maxRecDepth 100000 in
theorem okM98 : chkM 98 = true := by decide +kernel
set_option maxRecDepth 100000 in
theorem ok99 : mc99.all (fun q => chkI 99 q.1 q.2) = true := by decide +kernel
set_option maxRecDepth 100000 in
theorem okM99 : chkM 99 = true := by decide +kernel
set_option maxRecDepth 100000 in
theorem ok100 : mc100.all (fun q => chkI 100 q.1 q.2) = true := by decide +kernel
set_option maxRecDepth 100000 in
theorem okM100 : chkM 100 = true := by decide +kernel
set_option maxRecDepth 100000 in
theorem ok101 : mc101.all (fun q => chkI 101 q.1 q.2) = true := by decide +kernel
set_option maxRecDepth 100000 in
theorem okM101 : chkM 101 = true := by decide +kernel
set_option maxRecDepth 100000 in
theorem ok102 : mc102.all (fun q => chkI 102 q.1 q.2) = true := by decide +kernel
set_option maxRecDepth 100000 in
theorem okM102 : chkM 102 = true := by decide +kernel
set_option maxRecDepth 100000 in
theorem ok103 : mc103.all (fun q => chkI 103 q.1 q.2) = true := by decide +kernel
set_option maxRecDepth 100000 in
theorem okM103 : chkM 103 = true := by decide +kernel
set_option maxRecDepth 100000 in
theorem ok104 : mc104.all (fun q => chkI 104 q.1 q.2) = true := by decide +kernel
set_option maxRecDepth 100000 in
theorem okM104 : chkM 104 = true := by decide +kernel
set_option maxRecDepth 100000 in
theorem ok105 : mc105.all (fun q => chkI 105 q.1 q.2) = true := by decide +kernel
set_option maxRecDepth 100000 in
theorem okM105 : chkM 105 = true := by decide +kernel
set_option maxRecDepth 100000 in
theorem ok106 : mc106.all (fun q => chkI 106 q.1 q.2) = true := by decide +kernel
set_option maxRecDepth 100000 in
theorem okM106 : chkM 106 = true := by decide +kernel
set_option maxRecDepth 100000 in
theorem ok107 : mc107.all (fun q => chkI 107 q.1 q.2) = true := by decide +kernel
set_option maxRecDepth 100000 in
theorem okM107 : chkM 107 = true := by decide +kernel
set_option maxRecDepth 100000 in
theorem ok108 : mc108.all (fun q => chkI 108 q.1 q.2) = true := by decide +kernel
set_option maxRecDepth 100000 in
theorem okM108 : chkM 108 = true := by decide +kernel
set_option maxRecDepth 100000 in
theorem ok109 : mc109.all (fun q => chkI 109 q.1 q.2) = true := by decide +kernel
set_option maxRecDepth 100000 in
theorem okM109 : chkM 109 = true := by decide +kernel
set_option maxRecDepth 100000 in
theorem ok110 : mc110.all (fun q => chkI 110 q.1 q.2) = true := by decide +kernel
set_option maxRecDepth 100000 in
theorem okM110 : chkM 110 = true := by decide +kernel
set_option maxRecDepth 100000 in
theorem ok111 : mc111.all (fun q => chkI 111 q.1 q.2) = true := by decide +kernel
set_option maxRecDepth 100000 in
theorem okM111 : chkM 111 = true := by decide +kernel
set_option maxRecDepth 100000 in
theorem ok112 : mc112.all (fun q => chkI 112 q.1 q.2) = true := by decide +kernel
set_option maxRecDepth 100000 in
theorem okM112 : chkM 112 = true := by decide +kernel
set_option maxRecDepth 100000 in
theorem ok113 : mc113.all (fun q => chkI 113 q.1 q.2) = true := by decide +kernel
set_option maxRecDepth 100000 in
theorem okM113 : chkM 113 = true := by decide +kernel
set_option maxRecDepth 100000 in
theorem ok114 : mc114.all (fun q => chkI 114 q.1 q.2) = true := by decide +kernel
set_option maxRecDepth 100000 in
theorem okM114 : chkM 114 = true := by decide +kernel
set_option maxRecDepth 100000 in
theorem ok115 : mc115.all (fun q => chkI 115 q.1 q.2) = true := by decide +kernel
set_option maxRecDepth 100000 in
theorem okM115 : chkM 115 = true := by decide +kernel
set_option maxRecDepth 100000 in
theorem ok116 : mc116.all (fun q => chkI 116 q.1 q.2) = true := by decide +kernel
set_option maxRecDepth 100000 in
theorem okM116 : chkM 116 = true := by decide +kernel
set_option maxRecDepth 100000 in
theorem ok117 : mc117.all (fun q => chkI 117 q.1 q.2) = true := by decide +kernel
set_option maxRecDepth 100000 in
theorem okM117 : chkM 117 = true := by decide +kernel
set_option maxRecDepth 100000 in
theorem ok118 : mc118.all (fun q => chkI 118 q.1 q.2) = true := by decide +kernel
set_option maxRecDepth 100000 in
theorem okM118 : chkM 118 = true := by decide +kernel
set_option maxRecDepth 100000 in
theorem ok119 : mc119.all (fun q => chkI 119 q.1 q.2) = true := by decide +kernel
set_option maxRecDepth 100000 in
theorem okM119 : chkM 119 = true := by decide +kernel
set_option maxRecDepth 100000 in
theorem ok120 : mc120.all (fun q => chkI 120 q.1 q.2) = true := by decide +kernel
set_option maxRecDepth 100000 in
theorem okM120 : chkM 120 = true := by decide +kernel
set_option maxRecDepth 100000 in
theorem ok121 : mc121.all (fun q => chkI 121 q.1 q.2) = true := by decide +kernel
set_option maxRecDepth 100000 in
theorem okM121 : chkM 121 = true := by decide +kernel
set_option maxRecDepth 100000 in
theorem ok122 : mc122.all (fun q => chkI 122 q.1 q.2) = true := by decide +kernel
set_option maxRecDepth 100000 in
theorem okM122 : chkM 122 = true := by decide +kernel
set_option maxRecDepth 100000 in
theorem ok123 : mc123.all (fun q => chkI 123 q.1 q.2) = true := by decide +kernel
set_option maxRecDepth 100000 in
theorem okM123 : chkM 123 = true := by decide +kernel
set_option maxRecDepth 100000 in
theorem ok124 : mc124.all (fun q => chkI 124 q.1 q.2) = true := by decide +kernel
set_option maxRecDepth 100000 in
theorem okM124 : chkM 124 = true := by decide +kernel
set_option maxRecDepth 100000 in
theorem ok125 : mc125.all (fun q => chkI 125 q.1 q.2) = true := by decide +kernel
set_option maxRecDepth 100000 in
theorem okM125 : chkM 125 = true := by decide +kernel
set_option maxRecDepth 100000 in
theorem ok126 : mc126.all (fun q => chkI 126 q.1 q.2) = true := by decide +kernel
set_option maxRecDepth 100000 in
theorem okM126 : chkM 126 = true := by decide +kernel
set_option maxRecDepth 100000 in
theorem ok127 : mc127.all (fun q => chkI 127 q.1 q.2) = true := by decide +kernel
set_option maxRecDepth 100000 in
theorem okM127 : chkM 127 = true := by decide +kernel
set_option maxRecDepth 100000 in
theorem ok128 : mc128.all (fun q => chkI 128 q.1 q.2) = true := by decide +kernel
set_option maxRecDepth 100000 in
theorem okM128 : chkM 128 = true := by decide +kernel
set_option maxRecDepth 100000 in
theorem ok129 : mc129.all (fun q => chkI 129 q.1 q.2) = true := by decide +kernel
set_option maxRecDepth 100000 in
theorem okM129 : chkM 129 = true := by decide +kernel
set_option maxRecDepth 100000 in
theorem ok130 : mc130.all (fun q => chkI 130 q.1 q.2) = true := by decide +kernel
set_option maxRecDepth 100000 in
theorem okM130 : chkM 130 = true := by decide +kernel
set_option maxRecDepth 100000 in
theorem ok131 : mc131.all (fun q => chkI 131 q.1 q.2) = true := by decide +kernel
set_option maxRecDepth 100000 in
theorem okM131 : chkM 131 = true := by decide +kernel
set_option maxRecDepth 100000 in
theorem ok132 : mc132.all (fun q => chkI 132 q.1 q.2) = true := by decide +kernel
set_option maxRecDepth 100000 in
theorem okM132 : chkM 132 = true := by decide +kernel
set_option maxRecDepth 100000 in
theorem ok133 : mc133.all (fun q => chkI 133 q.1 q.2) = true := by decide +kernel
set_option maxRecDepth 100000 in
theorem okM133 : chkM 133 = true := by decide +kernel
set_option maxRecDepth 100000 in
theorem ok134 : mc134.all (fun q => chkI 134 q.1 q.2) = true := by decide +kernel
set_option maxRecDepth 100000 in
theorem okM134 : chkM 134 = true := by decide +kernel
set_option maxRecDepth 100000 in
theorem ok135 : mc135.all (fun q => chkI 135 q.1 q.2) = true := by decide +kernel
set_option maxRecDepth 100000 in
theorem okM135 : chkM 135 = true := by decide +kernel
set_option maxRecDepth 100000 in
theorem ok136 : mc136.all (fun q => chkI 136 q.1 q.2) = true := by decide +kernel
set_option maxRecDepth 100000 in
theorem okM136 : chkM 136 = true := by decide +kernel
set_option maxRecDepth 100000 in
theorem ok137 : mc137.all (fun q => chkI 137 q.1 q.2) = true := by decide +kernel
set_option maxRecDepth 100000 in
theorem okM137 : chkM 137 = true := by decide +kernel
set_option maxRecDepth 100000 in
theorem ok138 : mc138.all (fun q => chkI 138 q.1 q.2) = true := by decide +kernel
set_option maxRecDepth 100000 in
theorem okM138 : chkM 138 = true := by decide +kernel
set_option maxRecDepth 100000 in
theorem ok139 : mc139.all (fun q => chkI 139 q.1 q.2) = true := by decide +kernel
set_option maxRecDepth 100000 in
theorem okM139 : chkM 139 = true := by decide +kernel
set_option maxRecDepth 100000 in
theorem ok140 : mc140.all (fun q => chkI 140 q.1 q.2) = true := by decide +kernel
set_option maxRecDepth 100000 in
theorem okM140 : chkM 140 = true := by decide +kernel
set_option maxRecDepth 100000 in
theorem ok141 : mc141.all (fun q => chkI 141 q.1 q.2) = true := by decide +kernel
set_option maxRecDepth 100000 in
theorem okM141 : chkM 141 = true := by decide +kernel
set_option maxRecDepth 100000 in
theorem ok142 : mc142.all (fun q => chkI 142 q.1 q.2) = true := by decide +kernel
set_option maxRecDepth 100000 in
theorem okM142 : chkM 142 = true := by decide +kernel
set_option maxRecDepth 100000 in
theorem ok143 : mc143.all (fun q => chkI 143 q.1 q.2) = true := by decide +kernel
set_option maxRecDepth 100000 in
theorem okM143 : chkM 143 = true := by decide +kernel
set_option maxRecDepth 100000 in
theorem ok144 : mc144.all (fun q => chkI 144 q.1 q.2) = true := by decide +kernel
set_option maxRecDepth 100000 in
theorem okM144 : chkM 144 = true := by decide +kernel
set_option maxRecDepth 100000 in
theorem ok145 : mc145.all (fun q => chkI 145 q.1 q.2) = true := by decide +kernel
set_option maxRecDepth 100000 in
theorem okM145 : chkM 145 = true := by decide +kernel
set_option maxRecDepth 100000 in
theorem ok146 : mc146.all (fun q => chkI 146 q.1 q.2) = true := by decide +kernel
set_option maxRecDepth 100000 in
theorem okM146 : chkM 146 = true := by decide +kernel
set_option maxRecDepth 100000 in
theorem ok147 : mc147.all (fun q => chkI 147 q.1 q.2) = true := by decide +kernel
set_option maxRecDepth 100000 in
theorem okM147 : chkM 147 = true := by decide +kernel
set_option maxRecDepth 100000 in
theorem ok148 : mc148.all (fun q => chkI 148 q.1 q.2) = true := by decide +kernel
set_option maxRecDepth 100000 in
theorem okM148 : chkM 148 = true := by decide +kernel
set_option maxRecDepth 100000 in
theorem ok149 : mc149.all (fun q => chkI 149 q.1 q.2) = true := by decide +kernel
set_option maxRecDepth 100000 in
theorem okM149 : chkM 149 = true := by decide +kernel
set_option maxRecDepth 100000 in
theorem ok150 : mc150.all (fun q => chkI 150 q.1 q.2) = true := by decide +kernel
set_option maxRecDepth 100000 in
theorem okM150 : chkM 150 = true := by decide +kernel
set_option maxRecDepth 100000 in
theorem ok151 : mc151.all (fun q => chkI 151 q.1 q.2) = true := by decide +kernel
set_option maxRecDepth 100000 in
theorem okM151 : chkM 151 = true := by decide +kernel
set_option maxRecDepth 100000 in
theorem ok152 : mc152.all (fun q => chkI 152 q.1 q.2) = true := by decide +kernel
set_option maxRecDepth 100000 in
theorem okM152 : chkM 152 = true := by decide +kernel
set_option maxRecDepth 100000 in
theorem ok153 : mc153.all (fun q => chkI 153 q.1 q.2) = true := by decide +kernel
set_option maxRecDepth 100000 in
theorem okM153 : chkM 153 = true := by decide +kernel
set_option maxRecDepth 100000 in
theorem ok154 : mc154.all (fun q => chkI 154 q.1 q.2) = true := by decide +kernel
set_option maxRecDepth 100000 in
theorem okM154 : chkM 154 = true := by decide +kernel
set_option maxRecDepth 100000 in
theorem ok155 : mc155.all (fun q => chkI 155 q.1 q.2) = true := by decide +kernel
set_option maxRecDepth 100000 in
theorem okM155 : chkM 155 = true := by decide +kernel
set_option maxRecDepth 100000 in
theorem ok156 : mc156.all (fun q => chkI 156 q.1 q.2) = true := by decide +kernel
set_option maxRecDepth 100000 in
theorem okM156 : chkM 156 = true := by decide +kernel
set_option maxRecDepth 100000 in
theorem ok157 : mc157.all (fun q => chkI 157 q.1 q.2) = true := by decide +kernel
set_option maxRecDepth 100000 in
theorem okM157 : chkM 157 = true := by decide +kernel
set_option maxRecDepth 100000 in
theorem ok158 : mc158.all (fun q => chkI 158 q.1 q.2) = true := by decide +kernel
set_option maxRecDepth 100000 in
theorem okM158 : chkM 158 = true := by decide +kernel
set_option maxRecDepth 100000 in
theorem ok159 : mc159.all (fun q => chkI 159 q.1 q.2) = true := by decide +kernel
set_option maxRecDepth 100000 in
theorem okM159 : chkM 159 = true := by decide +kernel
set_option maxRecDepth 100000 in
theorem ok160 : mc160.all (fun q => chkI 160 q.1 q.2) = true := by decide +kernel
set_option maxRecDepth 100000 in
theorem okM160 : chkM 160 = true := by decide +kernel
set_option maxRecDepth 100000 in
theorem ok161 : mc161.all (fun q => chkI 161 q.1 q.2) = true := by decide +kernel
set_option maxRecDepth 100000 in
theorem okM161 : chkM 161 = true := by decide +kernel
set_option maxRecDepth 100000 in
theorem ok162 : mc162.all (fun q => chkI 162 q.1 q.2) = true := by decide +kernel
set_option maxRecDepth 100000 in
theorem okM162 : chkM 162 = true := by decide +kernel
set_option maxRecDepth 100000 in
theorem ok163 : mc163.all (fun q => chkI 163 q.1 q.2) = true := by decide +kernel
set_option maxRecDepth 100000 in
theorem okM163 : chkM 163 = true := by decide +kernel
set_option maxRecDepth 100000 in
theorem ok164 : mc164.all (fun q => chkI 164 q.1 q.2) = true := by decide +kernel
set_option maxRecDepth 100000 in
theorem okM164 : chkM 164 = true := by decide +kernel
set_option maxRecDepth 100000 in
theorem ok165 : mc165.all (fun q => chkI 165 q.1 q.2) = true := by decide +kernel
set_option maxRecDepth 100000 in
theorem okM165 : chkM 165 = true := by decide +kernel
end
section
set_option maxRecDepth 100000 in
theorem ok166 : mc166.all (fun q => chkI 166 q.1 q.2) = true := by decide +kernel
set_option maxRecDepth 100000 in
theorem okM166 : chkM 166 = true := by decide +kernel
set_option maxRecDepth 100000 in
theorem ok167 : mc167.all (fun q => chkI 167 q.1 q.2) = true := by decide +kernel
set_option maxRecDepth 100000 in
theorem okM167 : chkM 167 = true := by decide +kernel
set_option maxRecDepth 100000 in
theorem ok168 : mc168.all (fun q => chkI 168 q.1 q.2) = true := by decide +kernel
set_option maxRecDepth 100000 in
theorem okM168 : chkM 168 = true := by decide +kernel
set_option maxRecDepth 100000 in
theorem ok169 : mc169.all (fun q => chkI 169 q.1 q.2) = true := by decide +kernel
set_option maxRecDepth 100000 in
theorem okM169 : chkM 169 = true := by decide +kernel
set_option maxRecDepth 100000 in
theorem ok170 : mc170.all (fun q => chkI 170 q.1 q.2) = true := by decide +kernel
set_option maxRecDepth 100000 in
theorem okM170 : chkM 170 = true := by decide +kernel
set_option maxRecDepth 100000 in
theorem ok171 : mc171.all (fun q => chkI 171 q.1 q.2) = true := by decide +kernel
set_option maxRecDepth 100000 in
theorem okM171 : chkM 171 = true := by decide +kernel
set_option maxRecDepth 100000 in
theorem ok172 : mc172.all (fun q => chkI 172 q.1 q.2) = true := by decide +kernel
set_option maxRecDepth 100000 in
theorem okM172 : chkM 172 = true := by decide +kernel
set_option maxRecDepth 100000 in
theorem ok173 : mc173.all (fun q => chkI 173 q.1 q.2) = true := by decide +kernel
set_option maxRecDepth 100000 in
theorem okM173 : chkM 173 = true := by decide +kernel
set_option maxRecDepth 100000 in
theorem ok174 : mc174.all (fun q => chkI 174 q.1 q.2) = true := by decide +kernel
set_option maxRecDepth 100000 in
theorem okM174 : chkM 174 = true := by decide +kernel
set_option maxRecDepth 100000 in
theorem ok175 : mc175.all (fun q => chkI 175 q.1 q.2) = true := by decide +kernel
set_option maxRecDepth 100000 in
theorem okM175 : chkM 175 = true := by decide +kernel
set_option maxRecDepth 100000 in
theorem ok176 : mc176.all (fun q => chkI 176 q.1 q.2) = true := by decide +kernel
set_option maxRecDepth 100000 in
theorem okM176 : chkM 176 = true := by decide +kernel
set_option maxRecDepth 100000 in
theorem ok177 : mc177.all (fun q => chkI 177 q.1 q.2) = true := by decide +kernel
set_option maxRecDepth 100000 in
theorem okM177 : chkM 177 = true := by decide +kernel
set_option maxRecDepth 100000 in
theorem ok178 : mc178.all (fun q => chkI 178 q.1 q.2) = true := by decide +kernel
set_option maxRecDepth 100000 in
theorem okM178 : chkM 178 = true := by decide +kernel
set_option maxRecDepth 100000 in
theorem ok179 : mc179.all (fun q => chkI 179 q.1 q.2) = true := by decide +kernel
set_option maxRecDepth 100000 in
theorem okM179 : chkM 179 = true := by decide +kernel
set_option maxRecDepth 100000 in
theorem ok180 : mc180.all (fun q => chkI 180 q.1 q.2) = true := by decide +kernel
set_option maxRecDepth 100000 in
theorem okM180 : chkM 180 = true := by decide +kernel
set_option maxRecDepth 100000 in
theorem ok181 : mc181.all (fun q => chkI 181 q.1 q.2) = true := by decide +kernel
set_option maxRecDepth 100000 in
theorem okM181 : chkM 181 = true := by decide +kernel
set_option maxRecDepth 100000 in
theorem ok182 : mc182.all (fun q => chkI 182 q.1 q.2) = true := by decide +kernel
set_option maxRecDepth 100000 in
theorem okM182 : chkM 182 = true := by decide +kernel
set_option maxRecDepth 100000 in
theorem ok183 : mc183.all (fun q => chkI 183 q.1 q.2) = true := by decide +kernel
set_option maxRecDepth 100000 in
theorem okM183 : chkM 183 = true := by decide +kernel
set_option maxRecDepth 100000 in
theorem ok184 : mc184.all (fun q => chkI 184 q.1 q.2) = true := by decide +kernel
set_option maxRecDepth 100000 in
theorem okM184 : chkM 184 = true := by decide +kernel
set_option maxRecDepth 100000 in
theorem ok185 : mc185.all (fun q => chkI 185 q.1 q.2) = true := by decide +kernel
set_option maxRecDepth 100000 in
theorem okM185 : chkM 185 = true := by decide +kernel
set_option maxRecDepth 100000 in
theorem ok186 : mc186.all (fun q => chkI 186 q.1 q.2) = true := by decide +kernel
set_option maxRecDepth 100000 in
theorem okM186 : chkM 186 = true := by decide +kernel
set_option maxRecDepth 100000 in
theorem ok187 : mc187.all (fun q => chkI 187 q.1 q.2) = true := by decide +kernel
set_option maxRecDepth 100000 in
theorem okM187 : chkM 187 = true := by decide +kernel
set_option maxRecDepth 100000 in
theorem ok188 : mc188.all (fun q => chkI 188 q.1 q.2) = true := by decide +kernel
set_option maxRecDepth 100000 in
theorem okM188 : chkM 188 = true := by decide +kernel
set_option maxRecDepth 100000 in
theorem ok189 : mc189.all (fun q => chkI 189 q.1 q.2) = true := by decide +kernel
set_option maxRecDepth 100000 in
theorem okM189 : chkM 189 = true := by decide +kernel
set_option maxRecDepth 100000 in
theorem ok190 : mc190.all (fun q => chkI 190 q.1 q.2) = true := by decide +kernel
set_option maxRecDepth 100000 in
theorem okM190 : chkM 190 = true := by decide +kernel
set_option maxRecDepth 100000 in
theorem ok191 : mc191.all (fun q => chkI 191 q.1 q.2) = true := by decide +kernel
set_option maxRecDepth 100000 in
theorem okM191 : chkM 191 = true := by decide +kernel
set_option maxRecDepth 100000 in
theorem ok192 : mc192.all (fun q => chkI 192 q.1 q.2) = true := by decide +kernel
set_option maxRecDepth 100000 in
theorem okM192 : chkM 192 = true := by decide +kernel
set_option maxRecDepth 100000 in
theorem ok193 : mc193.all (fun q => chkI 193 q.1 q.2) = true := by decide +kernel
set_option maxRecDepth 100000 in
theorem okM193 : chkM 193 = true := by decide +kernel
set_option maxRecDepth 100000 in
theorem ok194 : mc194.all (fun q => chkI 194 q.1 q.2) = true := by decide +kernel
set_option maxRecDepth 100000 in
theorem okM194 : chkM 194 = true := by decide +kernel
set_option maxRecDepth 100000 in
theorem ok195 : mc195.all (fun q => chkI 195 q.1 q.2) = true := by decide +kernel
set_option maxRecDepth 100000 in
theorem okM195 : chkM 195 = true := by decide +kernel
set_option maxRecDepth 100000 in
theorem ok196 : mc196.all (fun q => chkI 196 q.1 q.2) = true := by decide +kernel
set_option maxRecDepth 100000 in
theorem okM196 : chkM 196 = true := by decide +kernel
set_option maxRecDepth 100000 in
theorem ok197 : mc197.all (fun q => chkI 197 q.1 q.2) = true := by decide +kernel
set_option maxRecDepth 100000 in
theorem okM197 : chkM 197 = true := by decide +kernel
set_option maxRecDepth 100000 in
theorem ok198 : mc198.all (fun q => chkI 198 q.1 q.2) = true := by decide +kernel
set_option maxRecDepth 100000 in
theorem okM198 : chkM 198 = true := by decide +kernel
set_option maxRecDepth 100000 in
theorem ok199 : mc199.all (fun q => chkI 199 q.1 q.2) = true := by decide +kernel
set_option maxRecDepth 100000 in
theorem okM199 : chkM 199 = true := by decide +kernel
set_option maxRecDepth 100000 in
theorem ok200 : mc200.all (fun q => chkI 200 q.1 q.2) = true := by decide +kernel
set_option maxRecDepth 100000 in
theorem okM200 : chkM 200 = true := by decide +kernel
set_option maxRecDepth 100000 in
theorem ok201 : mc201.all (fun q => chkI 201 q.1 q.2) = true := by decide +kernel
set_option maxRecDepth 100000 in
theorem okM201 : chkM 201 = true := by decide +kernel
set_option maxRecDepth 100000 in
theorem ok202 : mc202.all (fun q => chkI 202 q.1 q.2) = true := by decide +kernel
set_option maxRecDepth 100000 in
theorem okM202 : chkM 202 = true := by decide +kernel
set_option maxRecDepth 100000 in
theorem ok203 : mc203.all (fun q => chkI 203 q.1 q.2) = true := by decide +kernel
set_option maxRecDepth 100000 in
theorem okM203 : chkM 203 = true := by decide +kernel
set_option maxRecDepth 100000 in
theorem ok204 : mc204.all (fun q => chkI 204 q.1 q.2) = true := by decide +kernel
set_option maxRecDepth 100000 in
theorem okM204 : chkM 204 = true := by decide +kernel
set_option maxRecDepth 100000 in
theorem ok205 : mc205.all (fun q => chkI 205 q.1 q.2) = true := by decide +kernel
set_option maxRecDepth 100000 in
theorem okM205 : chkM 205 = true := by decide +kernel
set_option maxRecDepth 100000 in
theorem ok206 : mc206.all (fun q => chkI 206 q.1 q.2) = true := by decide +kernel
set_option maxRecDepth 100000 in
theorem okM206 : chkM 206 = true := by decide +kernel
set_option maxRecDepth 100000 in
theorem ok207 : mc207.all (fun q => chkI 207 q.1 q.2) = true := by decide +kernel
set_option maxRecDepth 100000 in
theorem okM207 : chkM 207 = true := by decide +kernel
set_option maxRecDepth 100000 in
theorem ok208 : mc208.all (fun q => chkI 208 q.1 q.2) = true := by decide +kernel
set_option maxRecDepth 100000 in
theorem okM208 : chkM 208 = true := by decide +kernel
set_option maxRecDepth 100000 in
theorem ok209 : mc209.all (fun q => chkI 209 q.1 q.2) = true := by decide +kernel
set_option maxRecDepth 100000 in
theorem okM209 : chkM 209 = true := by decide +kernel
set_option maxRecDepth 100000 in
theorem ok210 : mc210.all (fun q => chkI 210 q.1 q.2) = true := by decide +kernel
set_option maxRecDepth 100000 in
theorem okM210 : chkM 210 = true := by decide +kernel
set_option maxRecDepth 100000 in
theorem ok211 : mc211.all (fun q => chkI 211 q.1 q.2) = true := by decide +kernel
set_option maxRecDepth 100000 in
theorem okM211 : chkM 211 = true := by decide +kernel
set_option maxRecDepth 100000 in
theorem ok212 : mc212.all (fun q => chkI 212 q.1 q.2) = true := by decide +kernel
set_option maxRecDepth 100000 in
theorem okM212 : chkM 212 = true := by decide +kernel
set_option maxRecDepth 100000 in
theorem ok213 : mc213.all (fun q => chkI 213 q.1 q.2) = true := by decide +kernel
set_option maxRecDepth 100000 in
theorem okM213 : chkM 213 = true := by decide +kernel
set_option maxRecDepth 100000 in
theorem ok214 : mc214.all (fun q => chkI 214 q.1 q.2) = true := by decide +kernel
set_option maxRecDepth 100000 in
theorem okM214 : chkM 214 = true := by decide +kernel
set_option maxRecDepth 100000 in
theorem ok215 : mc215.all (fun q => chkI 215 q.1 q.2) = true := by decide +kernel
set_option maxRecDepth 100000 in
theorem okM215 : chkM 215 = true := by decide +kernel
set_option maxRecDepth 100000 in
theorem ok216 : mc216.all (fun q => chkI 216 q.1 q.2) = true := by decide +kernel
set_option maxRecDepth 100000 in
theorem okM216 : chkM 216 = true := by decide +kernel
set_option maxRecDepth 100000 in
theorem ok217 : mc217.all (fun q => chkI 217 q.1 q.2) = true := by decide +kernel
set_option maxRecDepth 100000 in
theorem okM217 : chkM 217 = true := by decide +kernel
set_option maxRecDepth 100000 in
theorem ok218 : mc218.all (fun q => chkI 218 q.1 q.2) = true := by decide +kernel
set_option maxRecDepth 100000 in
theorem okM218 : chkM 218 = true := by decide +kernel
set_option maxRecDepth 100000 in
theorem ok219 : mc219.all (fun q => chkI 219 q.1 q.2) = true := by decide +kernel
set_option maxRecDepth 100000 in
theorem okM219 : chkM 219 = true := by decide +kernel
set_option maxRecDepth 100000 in
theorem ok220 : mc220.all (fun q => chkI 220 q.1 q.2) = true := by decide +kernel
set_option maxRecDepth 100000 in
theorem okM220 : chkM 220 = true := by decide +kernel
set_option maxRecDepth 100000 in
theorem ok221 : mc221.all (fun q => chkI 221 q.1 q.2) = true := by decide +kernel
set_option maxRecDepth 100000 in
theorem okM221 : chkM 221 = true := by decide +kernel
set_option maxRecDepth 100000 in
theorem ok222 : mc222.all (fun q => chkI 222 q.1 q.2) = true := by decide +kernel
set_option maxRecDepth 100000 in
theorem okM222 : chkM 222 = true := by decide +kernel
set_option maxRecDepth 100000 in
theorem ok223 : mc223.all (fun q => chkI 223 q.1 q.2) = true := by decide +kernel
set_option maxRecDepth 100000 in
theorem okM223 : chkM 223 = true := by decide +kernel
set_option maxRecDepth 100000 in
theorem ok224 : mc224.all (fun q => chkI 224 q.1 q.2) = true := by decide +kernel
set_option maxRecDepth 100000 in
theorem okM224 : chkM 224 = true := by decide +kernel
set_option maxRecDepth 100000 in
theorem ok225 : mc225.all (fun q => chkI 225 q.1 q.2) = true := by decide +kernel
set_option maxRecDepth 100000 in
theorem okM225 : chkM 225 = true := by decide +kernel
set_option maxRecDepth 100000 in
theorem ok226 : mc226.all (fun q => chkI 226 q.1 q.2) = true := by decide +kernel
set_option maxRecDepth 100000 in
theorem okM226 : chkM 226 = true := by decide +kernel
set_option maxRecDepth 100000 in
theorem ok227 : mc227.all (fun q => chkI 227 q.1 q.2) = true := by decide +kernel
set_option maxRecDepth 100000 in
theorem okM227 : chkM 227 = true := by decide +kernel
set_option maxRecDepth 100000 in
theorem ok228 : mc228.all (fun q => chkI 228 q.1 q.2) = true := by decide +kernel
set_option maxRecDepth 100000 in
theorem okM228 : chkM 228 = true := by decide +kernel
set_option maxRecDepth 100000 in
theorem ok229 : mc229.all (fun q => chkI 229 q.1 q.2) = true := by decide +kernel
set_option maxRecDepth 100000 in
theorem okM229 : chkM 229 = true := by decide +kernel
set_option maxRecDepth 100000 in
theorem ok230 : mc230.all (fun q => chkI 230 q.1 q.2) = true := by decide +kernel
set_option maxRecDepth 100000 in
theorem okM230 : chkM 230 = true := by decide +kernel
set_option maxRecDepth 100000 in
theorem ok231 : mc231.all (fun q => chkI 231 q.1 q.2) = true := by decide +kernel
set_option maxRecDepth 100000 in
theorem okM231 : chkM 231 = true := by decide +kernel
end
section
set_option maxRecDepth 100000 in
theorem ok232 : mc232.all (fun q => chkI 232 q.1 q.2) = true := by decide +kernel
set_option maxRecDepth 100000 in
theorem okM232 : chkM 232 = true := by decide +kernel
set_option maxRecDepth 100000 in
theorem ok233 : mc233.all (fun q => chkI 233 q.1 q.2) = true := by decide +kernel
set_option maxRecDepth 100000 in
theorem okM233 : chkM 233 = true := by decide +kernel
set_option maxRecDepth 100000 in
theorem ok234 : mc234.all (fun q => chkI 234 q.1 q.2) = true := by decide +kernel
set_option maxRecDepth 100000 in
theorem okM234 : chkM 234 = true := by decide +kernel
set_option maxRecDepth 100000 in
theorem ok235 : mc235.all (fun q => chkI 235 q.1 q.2) = true := by decide +kernel
set_option maxRecDepth 100000 in
theorem okM235 : chkM 235 = true := by decide +kernel
set_option maxRecDepth 100000 in
theorem ok236 : mc236.all (fun q => chkI 236 q.1 q.2) = true := by decide +kernel
set_option maxRecDepth 100000 in
theorem okM236 : chkM 236 = true := by decide +kernel
set_option maxRecDepth 100000 in
theorem ok237 : mc237.all (fun q => chkI 237 q.1 q.2) = true := by decide +kernel
set_option maxRecDepth 100000 in
theorem okM237 : chkM 237 = true := by decide +kernel
set_option maxRecDepth 100000 in
theorem ok238 : mc238.all (fun q => chkI 238 q.1 q.2) = true := by decide +kernel
set_option maxRecDepth 100000 in
theorem okM238 : chkM 238 = true := by decide +kernel
set_option maxRecDepth 100000 in
theorem ok239 : mc239.all (fun q => chkI 239 q.1 q.2) = true := by decide +kernel
set_option maxRecDepth 100000 in
theorem okM239 : chkM 239 = true := by decide +kernel
set_option maxRecDepth 100000 in
theorem ok240 : mc240.all (fun q => chkI 240 q.1 q.2) = true := by decide +kernel
set_option maxRecDepth 100000 in
theorem okM240 : chkM 240 = true := by decide +kernel
set_option maxRecDepth 100000 in
theorem ok241 : mc241.all (fun q => chkI 241 q.1 q.2) = true := by decide +kernel
set_option maxRecDepth 100000 in
theorem okM241 : chkM 241 = true := by decide +kernel
set_option maxRecDepth 100000 in
theorem ok242 : mc242.all (fun q => chkI 242 q.1 q.2) = true := by decide +kernel
set_option maxRecDepth 100000 in
theorem okM242 : chkM 242 = true := by decide +kernel
set_option maxRecDepth 100000 in
theorem ok243 : mc243.all (fun q => chkI 243 q.1 q.2) = true := by decide +kernel
set_option maxRecDepth 100000 in
theorem okM243 : chkM 243 = true := by decide +kernel
set_option maxRecDepth 100000 in
theorem ok244 : mc244.all (fun q => chkI 244 q.1 q.2) = true := by decide +kernel
set_option maxRecDepth 100000 in
theorem okM244 : chkM 244 = true := by decide +kernel
set_option maxRecDepth 100000 in
theorem ok245 : mc245.all (fun q => chkI 245 q.1 q.2) = true := by decide +kernel
set_option maxRecDepth 100000 in
theorem okM245 : chkM 245 = true := by decide +kernel
set_option maxRecDepth 100000 in
theorem ok246 : mc246.all (fun q => chkI 246 q.1 q.2) = true := by decide +kernel
set_option maxRecDepth 100000 in
theorem okM246 : chkM 246 = true := by decide +kernel
set_option maxRecDepth 100000 in
theorem ok247 : mc247.all (fun q => chkI 247 q.1 q.2) = true := by decide +kernel
set_option maxRecDepth 100000 in
theorem okM247 : chkM 247 = true := by decide +kernel
set_option maxRecDepth 100000 in
theorem ok248 : mc248.all (fun q => chkI 248 q.1 q.2) = true := by decide +kernel
set_option maxRecDepth 100000 in
theorem okM248 : chkM 248 = true := by decide +kernel
set_option maxRecDepth 100000 in
theorem ok249 : mc249.all (fun q => chkI 249 q.1 q.2) = true := by decide +kernel
set_option maxRecDepth 100000 in
theorem okM249 : chkM 249 = true := by decide +kernel
set_option maxRecDepth 100000 in
theorem ok250 : mc250.all (fun q => chkI 250 q.1 q.2) = true := by decide +kernel
set_option maxRecDepth 100000 in
theorem okM250 : chkM 250 = true := by decide +kernel
set_option maxRecDepth 100000 in
theorem ok251 : mc251.all (fun q => chkI 251 q.1 q.2) = true := by decide +kernel
set_option maxRecDepth 100000 in
theorem okM251 : chkM 251 = true := by decide +kernel
set_option maxRecDepth 100000 in
theorem ok252 : mc252.all (fun q => chkI 252 q.1 q.2) = true := by decide +kernel
set_option maxRecDepth 100000 in
theorem okM252 : chkM 252 = true := by decide +kernel
set_option maxRecDepth 100000 in
theorem ok253 : mc253.all (fun q => chkI 253 q.1 q.2) = true := by decide +kernel
set_option maxRecDepth 100000 in
theorem okM253 : chkM 253 = true := by decide +kernel
set_option maxRecDepth 100000 in
theorem ok254 : mc254.all (fun q => chkI 254 q.1 q.2) = true := by decide +kernel
set_option maxRecDepth 100000 in
theorem okM254 : chkM 254 = true := by decide +kernel
set_option maxRecDepth 100000 in
theorem ok255 : mc255.all (fun q => chkI 255 q.1 q.2) = true := by decide +kernel
set_option maxRecDepth 100000 in
theorem okM255 : chkM 255 = true := by decide +kernel
set_option maxRecDepth 100000 in
theorem ok256 : mc256.all (fun q => chkI 256 q.1 q.2) = true := by decide +kernel
set_option maxRecDepth 100000 in
theorem okM256 : chkM 256 = true := by decide +kernel
set_option maxRecDepth 100000 in
theorem ok257 : mc257.all (fun q => chkI 257 q.1 q.2) = true := by decide +kernel
set_option maxRecDepth 100000 in
theorem okM257 : chkM 257 = true := by decide +kernel
set_option maxRecDepth 100000 in
theorem ok258 : mc258.all (fun q => chkI 258 q.1 q.2) = true := by decide +kernel
set_option maxRecDepth 100000 in
theorem okM258 : chkM 258 = true := by decide +kernel
set_option maxRecDepth 100000 in
theorem ok259 : mc259.all (fun q => chkI 259 q.1 q.2) = true := by decide +kernel
set_option maxRecDepth 100000 in
theorem okM259 : chkM 259 = true := by decide +kernel
set_option maxRecDepth 100000 in
theorem ok260 : mc260.all (fun q => chkI 260 q.1 q.2) = true := by decide +kernel
set_option maxRecDepth 100000 in
theorem okM260 : chkM 260 = true := by decide +kernel
set_option maxRecDepth 100000 in
theorem ok261 : mc261.all (fun q => chkI 261 q.1 q.2) = true := by decide +kernel
set_option maxRecDepth 100000 in
theorem okM261 : chkM 261 = true := by decide +kernel
set_option maxRecDepth 100000 in
theorem ok262 : mc262.all (fun q => chkI 262 q.1 q.2) = true := by decide +kernel
set_option maxRecDepth 100000 in
theorem okM262 : chkM 262 = true := by decide +kernel
set_option maxRecDepth 100000 in
theorem ok263 : mc263.all (fun q => chkI 263 q.1 q.2) = true := by decide +kernel
set_option maxRecDepth 100000 in
theorem okM263 : chkM 263 = true := by decide +kernel
set_option maxRecDepth 100000 in
theorem ok264 : mc264.all (fun q => chkI 264 q.1 q.2) = true := by decide +kernel
set_option maxRecDepth 100000 in
theorem okM264 : chkM 264 = true := by decide +kernel
set_option maxRecDepth 100000 in
theorem ok265 : mc265.all (fun q => chkI 265 q.1 q.2) = true := by decide +kernel
set_option maxRecDepth 100000 in
theorem okM265 : chkM 265 = true := by decide +kernel
set_option maxRecDepth 100000 in
theorem ok266 : mc266.all (fun q => chkI 266 q.1 q.2) = true := by decide +kernel
set_option maxRecDepth 100000 in
theorem okM266 : chkM 266 = true := by decide +kernel
set_option maxRecDepth 100000 in
theorem ok267 : mc267.all (fun q => chkI 267 q.1 q.2) = true := by decide +kernel
set_option maxRecDepth 100000 in
theorem okM267 : chkM 267 = true := by decide +kernel
set_option maxRecDepth 100000 in
theorem ok268 : mc268.all (fun q => chkI 268 q.1 q.2) = true := by decide +kernel
set_option maxRecDepth 100000 in
theorem okM268 : chkM 268 = true := by decide +kernel
set_option maxRecDepth 100000 in
theorem ok269 : mc269.all (fun q => chkI 269 q.1 q.2) = true := by decide +kernel
set_option maxRecDepth 100000 in
theorem okM269 : chkM 269 = true := by decide +kernel
set_option maxRecDepth 100000 in
theorem ok270 : mc270.all (fun q => chkI 270 q.1 q.2) = true := by decide +kernel
set_option maxRecDepth 100000 in
theorem okM270 : chkM 270 = true := by decide +kernel
set_option maxRecDepth 100000 in
theorem ok271 : mc271.all (fun q => chkI 271 q.1 q.2) = true := by decide +kernel
set_option maxRecDepth 100000 in
theorem okM271 : chkM 271 = true := by decide +kernel
set_option maxRecDepth 100000 in
theorem ok272 : mc272.all (fun q => chkI 272 q.1 q.2) = true := by decide +kernel
set_option maxRecDepth 100000 in
theorem okM272 : chkM 272 = true := by decide +kernel
set_option maxRecDepth 100000 in
theorem ok273 : mc273.all (fun q => chkI 273 q.1 q.2) = true := by decide +kernel
set_option maxRecDepth 100000 in
theorem okM273 : chkM 273 = true := by decide +kernel
set_option maxRecDepth 100000 in
theorem ok274 : mc274.all (fun q => chkI 274 q.1 q.2) = true := by decide +kernel
set_option maxRecDepth 100000 in
theorem okM274 : chkM 274 = true := by decide +kernel
set_option maxRecDepth 100000 in
theorem ok275 : mc275.all (fun q => chkI 275 q.1 q.2) = true := by decide +kernel
set_option maxRecDepth 100000 in
theorem okM275 : chkM 275 = true := by decide +kernel
set_option maxRecDepth 100000 in
theorem ok276 : mc276.all (fun q => chkI 276 q.1 q.2) = true := by decide +kernel
set_option maxRecDepth 100000 in
theorem okM276 : chkM 276 = true := by decide +kernel
set_option maxRecDepth 100000 in
theorem ok277 : mc277.all (fun q => chkI 277 q.1 q.2) = true := by decide +kernel
set_option maxRecDepth 100000 in
theorem okM277 : chkM 277 = true := by decide +kernel
set_option maxRecDepth 100000 in
theorem ok278 : mc278.all (fun q => chkI 278 q.1 q.2) = true := by decide +kernel
set_option maxRecDepth 100000 in
theorem okM278 : chkM 278 = true := by decide +kernel
set_option maxRecDepth 100000 in
theorem ok279 : mc279.all (fun q => chkI 279 q.1 q.2) = true := by decide +kernel
set_option maxRecDepth 100000 in
theorem okM279 : chkM 279 = true := by decide +kernel
set_option maxRecDepth 100000 in
theorem ok280 : mc280.all (fun q => chkI 280 q.1 q.2) = true := by decide +kernel
set_option maxRecDepth 100000 in
theorem okM280 : chkM 280 = true := by decide +kernel
set_option maxRecDepth 100000 in
theorem ok281 : mc281.all (fun q => chkI 281 q.1 q.2) = true := by decide +kernel
set_option maxRecDepth 100000 in
theorem okM281 : chkM 281 = true := by decide +kernel
set_option maxRecDepth 100000 in
theorem ok282 : mc282.all (fun q => chkI 282 q.1 q.2) = true := by decide +kernel
set_option maxRecDepth 100000 in
theorem okM282 : chkM 282 = true := by decide +kernel
set_option maxRecDepth 100000 in
theorem ok283 : mc283.all (fun q => chkI 283 q.1 q.2) = true := by decide +kernel
set_option maxRecDepth 100000 in
theorem okM283 : chkM 283 = true := by decide +kernel
set_option maxRecDepth 100000 in
theorem ok284 : mc284.all (fun q => chkI 284 q.1 q.2) = true := by decide +kernel
set_option maxRecDepth 100000 in
theorem okM284 : chkM 284 = true := by decide +kernel
set_option maxRecDepth 100000 in
theorem ok285 : mc285.all (fun q => chkI 285 q.1 q.2) = true := by decide +kernel
set_option maxRecDepth 100000 in
theorem okM285 : chkM 285 = true := by decide +kernel
set_option maxRecDepth 100000 in
theorem ok286 : mc286.all (fun q => chkI 286 q.1 q.2) = true := by decide +kernel
set_option maxRecDepth 100000 in
theorem okM286 : chkM 286 = true := by decide +kernel
set_option maxRecDepth 100000 in
theorem ok287 : mc287.all (fun q => chkI 287 q.1 q.2) = true := by decide +kernel
set_option maxRecDepth 100000 in
theorem okM287 : chkM 287 = true := by decide +kernel
set_option maxRecDepth 100000 in
theorem ok288 : mc288.all (fun q => chkI 288 q.1 q.2) = true := by decide +kernel
set_option maxRecDepth 100000 in
theorem ok289 : mc289.all (fun q => chkI 289 q.1 q.2) = true := by decide +kernel
set_option maxRecDepth 100000 in
theorem ok290 : mc290.all (fun q => chkI 290 q.1 q.2) = true := by decide +kernel
set_option maxRecDepth 100000 in
theorem ok291 : mc291.all (fun q => chkI 291 q.1 q.2) = true := by decide +kernel
set_option maxRecDepth 100000 in
theorem ok292 : mc292.all (fun q => chkI 292 q.1 q.2) = true := by decide +kernel
set_option maxRecDepth 100000 in
theorem okM292 : chkM 292 = true := by decide +kernel
set_option maxRecDepth 100000 in
theorem ok293 : mc293.all (fun q => chkI 293 q.1 q.2) = true := by decide +kernel
set_option maxRecDepth 100000 in
theorem okM293 : chkM 293 = true := by decide +kernel
end
section
def mcLaw_0 : List (Nat × Ins) := mc294_0.drop 10
set_option maxRecDepth 100000 in
theorem okLaw_0 : mcLaw_0.all (fun q => chkI 294 q.1 q.2) = true := by decide +kernel
set_option maxRecDepth 100000 in
theorem okLaw_1 : mc294_1.all (fun q => chkI 294 q.1 q.2) = true := by decide +kernel
set_option maxRecDepth 100000 in
theorem okLaw_2 : mc294_2.all (fun q => chkI 294 q.1 q.2) = true := by decide +kernel
set_option maxRecDepth 100000 in
theorem okLaw_3 : mc294_3.all (fun q => chkI 294 q.1 q.2) = true := by decide +kernel
set_option maxRecDepth 100000 in
theorem okLaw_4 : mc294_4.all (fun q => chkI 294 q.1 q.2) = true := by decide +kernel
set_option maxRecDepth 100000 in
theorem okLaw_5 : mc294_5.all (fun q => chkI 294 q.1 q.2) = true := by decide +kernel
set_option maxRecDepth 100000 in
theorem okLaw_6 : mc294_6.all (fun q => chkI 294 q.1 q.2) = true := by decide +kernel
set_option maxRecDepth 100000 in
theorem okLaw_7 : mc294_7.all (fun q => chkI 294 q.1 q.2) = true := by decide +kernel
set_option maxRecDepth 100000 in
theorem okLaw_8 : mc294_8.all (fun q => chkI 294 q.1 q.2) = true := by decide +kernel
set_option maxRecDepth 100000 in
theorem okLaw_9 : mc294_9.all (fun q => chkI 294 q.1 q.2) = true := by decide +kernel
set_option maxRecDepth 100000 in
theorem okLaw_10 : mc294_10.all (fun q => chkI 294 q.1 q.2) = true := by decide +kernel
set_option maxRecDepth 100000 in
theorem okLaw_11 : mc294_11.all (fun q => chkI 294 q.1 q.2) = true := by decide +kernel
end
section
set_option maxRecDepth 100000 in
theorem okLaw_12 : mc294_12.all (fun q => chkI 294 q.1 q.2) = true := by decide +kernel
set_option maxRecDepth 100000 in
theorem okLaw_13 : mc294_13.all (fun q => chkI 294 q.1 q.2) = true := by decide +kernel
set_option maxRecDepth 100000 in
theorem okLaw_14 : mc294_14.all (fun q => chkI 294 q.1 q.2) = true := by decide +kernel
set_option maxRecDepth 100000 in
theorem okLaw_15 : mc294_15.all (fun q => chkI 294 q.1 q.2) = true := by decide +kernel
set_option maxRecDepth 100000 in
theorem okLaw_16 : mc294_16.all (fun q => chkI 294 q.1 q.2) = true := by decide +kernel
set_option maxRecDepth 100000 in
theorem okLaw_17 : mc294_17.all (fun q => chkI 294 q.1 q.2) = true := by decide +kernel
set_option maxRecDepth 100000 in
theorem okLaw_18 : mc294_18.all (fun q => chkI 294 q.1 q.2) = true := by decide +kernel
set_option maxRecDepth 100000 in
theorem okLaw_19 : mc294_19.all (fun q => chkI 294 q.1 q.2) = true := by decide +kernel
set_option maxRecDepth 100000 in
theorem okLaw_20 : mc294_20.all (fun q => chkI 294 q.1 q.2) = true := by decide +kernel
set_option maxRecDepth 100000 in
theorem okLaw_21 : mc294_21.all (fun q => chkI 294 q.1 q.2) = true := by decide +kernel
set_option maxRecDepth 100000 in
theorem okLaw_22 : mc294_22.all (fun q => chkI 294 q.1 q.2) = true := by decide +kernel
set_option maxRecDepth 100000 in
theorem okLaw_23 : mc294_23.all (fun q => chkI 294 q.1 q.2) = true := by decide +kernel
def mcLaw : List (Nat × Ins) := mcLaw_0 ++ (mc294_1 ++ (mc294_2 ++ (mc294_3 ++ (mc294_4 ++ (mc294_5 ++ (mc294_6 ++ (mc294_7 ++ (mc294_8 ++ (mc294_9 ++ (mc294_10 ++ (mc294_11 ++ (mc294_12 ++ (mc294_13 ++ (mc294_14 ++ (mc294_15 ++ (mc294_16 ++ (mc294_17 ++ (mc294_18 ++ (mc294_19 ++ (mc294_20 ++ (mc294_21 ++ (mc294_22 ++ (mc294_23)))))))))))))))))))))))
theorem okLaw : mcLaw.all (fun q => chkI 294 q.1 q.2) = true := by
  simp only [mcLaw, List.all_append, Bool.and_eq_true]
  exact ⟨okLaw_0, okLaw_1, okLaw_2, okLaw_3, okLaw_4, okLaw_5, okLaw_6, okLaw_7, okLaw_8, okLaw_9, okLaw_10, okLaw_11, okLaw_12, okLaw_13, okLaw_14, okLaw_15, okLaw_16, okLaw_17, okLaw_18, okLaw_19, okLaw_20, okLaw_21, okLaw_22, okLaw_23⟩
end
section
/-- kind and size of each cell, in the order in which they are made: below 13 an object of that class; 20 int[], 21 long[], 22 byte[], 23 boolean[], 24 Book[] -/
def shqL : List (Nat × Nat) := [(11, 18), (10, 12), (22, 1300), (20, 1301), (20, 1301), (21, 1301), (8, 2), (20, 16), (20, 16), (2, 6), (21, 16), (20, 20), (1, 13), (21, 6), (20, 6), (20, 16), (20, 16), (20, 16), (20, 16), (20, 102), (20, 20), (20, 20), (1, 13), (21, 6), (20, 6), (20, 16), (20, 16), (20, 16), (20, 16), (20, 102), (20, 20), (20, 20), (6, 12), (20, 8), (20, 8), (20, 8), (20, 500), (20, 500), (20, 50), (6, 12), (20, 8), (20, 8), (20, 8), (20, 500), (20, 500), (20, 50), (24, 3), (1, 13), (21, 6), (20, 6), (20, 16), (20, 16), (20, 16), (20, 16), (20, 102), (20, 20), (20, 20), (1, 13), (21, 6), (20, 6), (20, 16), (20, 16), (20, 16), (20, 16), (20, 102), (20, 20), (20, 20), (1, 13), (21, 6), (20, 6), (20, 16), (20, 16), (20, 16), (20, 16), (20, 102), (20, 20), (20, 20), (23, 3), (0, 6), (20, 60), (20, 60), (20, 60), (20, 60), (8, 2), (20, 16), (20, 16), (4, 9), (20, 16), (20, 16), (20, 256), (20, 16), (20, 16), (7, 10), (20, 16), (21, 16), (21, 16), (5, 2), (20, 16), (20, 16), (20, 17), (5, 2), (7, 10), (20, 16), (21, 16), (21, 16), (5, 2), (20, 16), (20, 16), (20, 17), (5, 2), (3, 7), (20, 16), (20, 16), (20, 17), (9, 10), (5, 2), (20, 13), (20, 13), (20, 13), (21, 169), (21, 169), (20, 169), (5, 2), (5, 2), (12, 88), (20, 1300), (21, 6), (21, 16), (20, 6), (20, 96), (20, 16), (20, 16), (20, 16), (20, 16), (20, 20), (20, 20), (20, 20), (23, 6), (23, 6), (20, 6), (20, 96), (20, 16), (20, 16), (20, 16), (20, 16), (20, 20), (20, 20), (23, 6), (21, 6), (20, 16), (20, 16), (20, 65536), (20, 65536), (20, 65536), (21, 16), (21, 16), (20, 65536), (20, 16), (20, 13), (20, 13), (21, 13), (20, 600), (20, 600), (20, 9), (20, 8), (20, 8), (20, 600), (20, 600), (20, 9), (20, 8), (20, 8), (20, 600), (20, 60), (20, 6), (20, 60), (20, 60), (20, 60), (23, 3), (23, 18), (20, 3), (20, 288), (20, 48), (20, 48), (20, 48), (20, 48)]
def shq (k : Nat) : Nat × Nat := shqL.getD k (99, 0)
/-- kinds of fields: 0 int, 1 long, 2 boolean, 3 a reference that changes, 4 a final one to the cell so much behind, 5 a final one to that cell -/
def fkqL : List (List (Nat × Nat)) := [[(0, 0), (0, 0), (4, 1), (4, 2), (4, 3), (4, 4)],
  [(0, 0), (4, 1), (4, 2), (0, 0), (0, 0), (4, 3), (4, 4), (4, 5), (4, 6), (4, 7), (0, 0), (4, 8), (4, 9)],
  [(5, 1), (5, 6), (3, 0), (4, 1), (4, 2), (0, 0)],
  [(0, 0), (0, 0), (0, 0), (4, 1), (4, 2), (4, 3), (0, 0)],
  [(4, 1), (4, 2), (4, 3), (4, 4), (4, 5), (3, 0), (0, 0), (0, 0), (0, 0)],
  [(1, 0), (1, 0)],
  [(5, 1), (3, 0), (0, 0), (4, 1), (4, 2), (4, 3), (4, 4), (4, 5), (0, 0), (0, 0), (4, 6), (0, 0)],
  [(5, 86), (4, 1), (4, 2), (4, 3), (4, 4), (4, 5), (4, 6), (0, 0), (4, 7), (4, 8)],
  [(4, 1), (4, 2)],
  [(4, 1), (0, 0), (0, 0), (4, 2), (4, 3), (4, 4), (4, 5), (4, 6), (4, 7), (4, 8)],
  [(0, 0), (0, 0), (0, 0), (0, 0), (0, 0), (1, 0), (4, 1), (4, 2), (4, 3), (4, 4), (0, 0), (0, 0)],
  [(5, 1), (5, 9), (3, 0), (3, 0), (3, 0), (3, 0), (5, 46), (5, 77), (5, 78), (5, 83), (5, 6), (5, 92), (5, 101), (5, 110), (5, 114), (5, 123), (0, 0), (0, 0)],
  [(4, 1), (0, 0), (0, 0), (0, 0), (0, 0), (0, 0), (0, 0), (0, 0), (0, 0), (1, 0), (2, 0), (4, 2), (4, 3), (4, 4), (4, 5), (4, 6), (4, 7), (4, 8), (4, 9), (4, 10), (4, 11), (4, 12), (4, 13), (4, 14), (0, 0), (0, 0), (0, 0), (0, 0), (4, 15), (4, 16), (4, 17), (4, 18), (4, 19), (4, 20), (4, 21), (4, 22), (4, 23), (0, 0), (0, 0), (0, 0), (0, 0), (4, 24), (4, 25), (4, 26), (1, 0), (1, 0), (4, 27), (4, 28), (4, 29), (4, 30), (4, 31), (4, 32), (4, 33), (4, 34), (4, 35), (4, 36), (4, 37), (4, 38), (4, 39), (4, 40), (4, 41), (4, 42), (4, 43), (4, 44), (4, 45), (4, 46), (4, 47), (4, 48), (0, 0), (0, 0), (0, 0), (0, 0), (0, 0), (0, 0), (4, 49), (4, 50), (4, 51), (4, 52), (0, 0), (0, 0), (4, 53), (4, 54), (4, 55), (4, 56), (4, 57), (4, 58), (4, 59), (4, 60)]]
def fkq (ci k : Nat) : Nat × Nat := (fkqL.getD ci []).getD k (9, 0)
-- 0: x
-- 1: tape
-- 2: tape.bytes
-- 3: tape.kinds
-- 4: tape.places
-- 5: tape.values
-- 6: trialOrder
-- 7: trialOrder.under
-- 8: trialOrder.above
-- 9: reader
-- 10: reader.caseNames
-- 11: reader.toldPlaces
-- 12: bookA
-- 13: bookA.markNames
-- 14: bookA.tops
-- 15: bookA.judge
-- 16: bookA.year
-- 17: bookA.given
-- 18: bookA.weight
-- 19: bookA.steps
-- 20: bookA.toldOver
-- 21: bookA.toldUnder
-- 22: bookB
-- 23: bookB.markNames
-- 24: bookB.tops
-- 25: bookB.judge
-- 26: bookB.year
-- 27: bookB.given
-- 28: bookB.weight
-- 29: bookB.steps
-- 30: bookB.toldOver
-- 31: bookB.toldUnder
-- 32: lawsA
-- 33: lawsA.least
-- 34: lawsA.most
-- 35: lawsA.stops
-- 36: lawsA.signs
-- 37: lawsA.values
-- 38: lawsA.stack
-- 39: lawsB
-- 40: lawsB.least
-- 41: lawsB.most
-- 42: lawsB.stops
-- 43: lawsB.signs
-- 44: lawsB.values
-- 45: lawsB.stack
-- 46: boxes
-- 47: box0
-- 48: box0.markNames
-- 49: box0.tops
-- 50: box0.judge
-- 51: box0.year
-- 52: box0.given
-- 53: box0.weight
-- 54: box0.steps
-- 55: box0.toldOver
-- 56: box0.toldUnder
-- 57: box1
-- 58: box1.markNames
-- 59: box1.tops
-- 60: box1.judge
-- 61: box1.year
-- 62: box1.given
-- 63: box1.weight
-- 64: box1.steps
-- 65: box1.toldOver
-- 66: box1.toldUnder
-- 67: box2
-- 68: box2.markNames
-- 69: box2.tops
-- 70: box2.judge
-- 71: box2.year
-- 72: box2.given
-- 73: box2.weight
-- 74: box2.steps
-- 75: box2.toldOver
-- 76: box2.toldUnder
-- 77: boxFull
-- 78: acts
-- 79: acts.kinds
-- 80: acts.which
-- 81: acts.before
-- 82: acts.after
-- 83: order
-- 84: order.under
-- 85: order.above
-- 86: cut
-- 87: cut.worth
-- 88: cut.left
-- 89: cut.paid
-- 90: cut.cameFrom
-- 91: cut.queue
-- 92: nearest
-- 93: nearest.block
-- 94: nearest.up
-- 95: nearest.low
-- 96: nearest.total
-- 97: nearest.months
-- 98: nearest.share
-- 99: nearest.open
-- 100: nearest.mean
-- 101: trial
-- 102: trial.block
-- 103: trial.up
-- 104: trial.low
-- 105: trial.total
-- 106: trial.months
-- 107: trial.share
-- 108: trial.open
-- 109: trial.mean
-- 110: choices
-- 111: choices.foes
-- 112: choices.shares
-- 113: choices.sums
-- 114: parting
-- 115: parting.total
-- 116: parting.weights
-- 117: parting.sums
-- 118: parting.begin
-- 119: parting.gainUp
-- 120: parting.gainLow
-- 121: parting.bits
-- 122: parting.gain
-- 123: answer
-- 124: mdl
-- 125: mdl.tape
-- 126: mdl.nMark
-- 127: mdl.nCase
-- 128: mdl.nTo
-- 129: mdl.nSteps
-- 130: mdl.nJudge
-- 131: mdl.nYear
-- 132: mdl.nGiven
-- 133: mdl.nWeight
-- 134: mdl.nFirst
-- 135: mdl.nSecond
-- 136: mdl.nPlace
-- 137: mdl.nNever
-- 138: mdl.nHas
-- 139: mdl.to
-- 140: mdl.steps
-- 141: mdl.judge
-- 142: mdl.year
-- 143: mdl.given
-- 144: mdl.weight
-- 145: mdl.firstOf
-- 146: mdl.secondOf
-- 147: mdl.counts
-- 148: mdl.names
-- 149: mdl.down
-- 150: mdl.up
-- 151: mdl.closed
-- 152: mdl.weights
-- 153: mdl.sums
-- 154: mdl.keptTop
-- 155: mdl.keptLow
-- 156: mdl.raised
-- 157: mdl.keptGap
-- 158: mdl.runWeight
-- 159: mdl.runSum
-- 160: mdl.runSquare
-- 161: mdl.nWhat
-- 162: mdl.nNumber
-- 163: mdl.nBegin
-- 164: mdl.nLeast
-- 165: mdl.nMost
-- 166: mdl.whats
-- 167: mdl.numbers
-- 168: mdl.begin
-- 169: mdl.leasts
-- 170: mdl.mosts
-- 171: mdl.waits
-- 172: mdl.pile
-- 173: mdl.news
-- 174: mdl.actKind
-- 175: mdl.actOf
-- 176: mdl.actOther
-- 177: mdl.hasBox
-- 178: mdl.boxCounts
-- 179: mdl.boxCases
-- 180: mdl.boxSteps
-- 181: mdl.boxJudge
-- 182: mdl.boxYear
-- 183: mdl.boxGiven
-- 184: mdl.boxWeight
end
section
/-! THE LOGIC. A memory (Mem) says what the cells hold; G: the machine, at a method's place with these locals and this stack, returns with Q; Cm: a method's contract -/
abbrev Mem : Type := (Nat → Nat → Int32) × (Nat → Nat → Int64) × (Nat → Nat → Nat)
abbrev Th : Type := Launch × va_G × (Nat → Nat) × (Nat → ClassId) × Nat × (Nat → Int32)
abbrev Lc : Type := List (Option Value)
abbrev Po : Type := Option Value → Mem → Prop
def vv (Θ : Th) (v : Value) : Value := match v with
  | .ref k => .ref (Θ.2.2.1 k)
  | w => w
theorem vv_cat (Θ : Th) (v : Value) : (vv Θ v).category = v.category := by cases v <;> rfl
theorem vv_map_cat (Θ : Th) (S : List Value) : ((S.map (vv Θ)).map fun v => v.category) = S.map fun v => v.category := by
  rw [List.map_map]; apply List.map_congr_left; intro a _; exact vv_cat Θ a
def fld (Θ : Th) (σ : Mem) (o ci j : Nat) : Value :=
  if (fkq ci j).1 = 0 then .int (σ.1 o j) else if (fkq ci j).1 = 1 then .long (σ.2.1 o j) else if (fkq ci j).1 = 2 then .int (σ.1 o j)
  else if (fkq ci j).1 = 3 then (if σ.2.2 o j = 0 then .null else .ref (Θ.2.2.1 (σ.2.2 o j))) else if (fkq ci j).1 = 4 then .ref (Θ.2.2.1 (o + (fkq ci j).2)) else .ref (Θ.2.2.1 (fkq ci j).2)
def ent (Θ : Th) (σ : Mem) (k : Nat) : va_E :=
  if (shq k).1 = 20 then .inl (Θ.2.2.2.1 0, (shq k).2, .inl (σ.1 k))
  else if (shq k).1 = 21 then .inl (Θ.2.2.2.1 1, (shq k).2, .inr (.inl (σ.2.1 k)))
  else if (shq k).1 = 22 then .inl (Θ.2.2.2.1 2, (shq k).2, .inl (σ.1 k))
  else if (shq k).1 = 23 then .inl (Θ.2.2.2.1 3, (shq k).2, .inl (σ.1 k))
  else if (shq k).1 = 24 then .inl (Θ.2.2.2.1 4, (shq k).2, .inr (.inr (.inr (.inr (fun i => some (Θ.2.2.1 (47 + 10 * i)))))))
  else .inr ((shq k).1, (List.range (shq k).2).map (fld Θ σ k (shq k).1))
def NLab : Nat := 185
def cel (Θ : Th) (σ : Mem) : va_W := (List.range NLab).map (fun k => (Θ.2.2.1 k, ent Θ σ k))
/-- what may be written: all cells from the first one on -/
def AA (Θ : Th) : Nat → Prop := fun q => Θ.2.2.1 2000 ≤ q
def tysT (Θ : Th) : List (ClassId × FieldType) := [(Θ.2.2.2.1 0, .int), (Θ.2.2.2.1 1, .long), (Θ.2.2.2.1 2, .byte), (Θ.2.2.2.1 3, .boolean), (Θ.2.2.2.1 4, .object "LikeYears$Book")]
theorem cel_at (Θ : Th) (σ : Mem) {k : Nat} (h : k < NLab) : (cel Θ σ)[k]? = some (Θ.2.2.1 k, ent Θ σ k) := by simp [cel, h]
theorem cel_lt {Θ : Th} {σ : Mem} {k : Nat} {q : Nat × va_E} (h : (cel Θ σ)[k]? = some q) : k < NLab ∧ q = (Θ.2.2.1 k, ent Θ σ k) := by
  rcases Nat.lt_or_ge k NLab with hk | hk
  · rw [cel_at Θ σ hk] at h; exact ⟨hk, (Option.some.inj h).symm⟩
  · rw [List.getElem?_eq_none (by simp [cel, hk])] at h; cases h
theorem shL_len : shqL.length = 185 := by decide +kernel
theorem shp_lt {k : Nat} (h : (shq k).1 ≠ 99) : k < NLab := by
  rcases Nat.lt_or_ge k NLab with hk | hk
  · exact hk
  · exact absurd (by rw [shq, List.getD_eq_getElem?_getD, List.getElem?_eq_none (by rw [shL_len]; exact hk)]; rfl) h
/-- the cells are apart, and new -/
def Lin (Θ : Th) : Prop := (∀ i j, i < NLab → j < NLab → Θ.2.2.1 i = Θ.2.2.1 j → i = j) ∧ ∀ k, k < NLab → Θ.2.2.1 2000 ≤ Θ.2.2.1 k
theorem cel_D {Θ : Th} (hI : Lin Θ) (σ : Mem) : va_D (AA Θ) (cel Θ σ) := by
  refine ⟨fun i j p q hi hj e => ?_, fun k q hk => ?_⟩
  · obtain ⟨h1, rfl⟩ := cel_lt hi
    obtain ⟨h2, rfl⟩ := cel_lt hj
    exact hI.1 i j h1 h2 e
  · obtain ⟨h1, rfl⟩ := cel_lt hk
    exact hI.2 k h1
theorem cel_set {Θ : Th} {σ σ' : Mem} {k : Nat} {e : va_E} (hk : k < NLab) (he : ent Θ σ' k = e) (ho : ∀ j, j ≠ k → ent Θ σ' j = ent Θ σ j) : (cel Θ σ).set k (Θ.2.2.1 k, e) = cel Θ σ' := by
  apply List.ext_getElem?
  intro i
  rw [List.getElem?_set]
  by_cases hik : k = i
  · subst hik
    rw [if_pos rfl, if_pos (by simp [cel, hk]), cel_at Θ σ' hk, he]
  · rw [if_neg hik]
    rcases Nat.lt_or_ge i NLab with hi | hi
    · rw [cel_at Θ σ hi, cel_at Θ σ' hi, ho i (fun h => hik h.symm)]
    · rw [List.getElem?_eq_none (by simp [cel, hi]), List.getElem?_eq_none (by simp [cel, hi])]
/-! writes -/
def sI (σ : Mem) (o k : Nat) (v : Int32) : Mem := (fun a b => if a = o ∧ b = k then v else σ.1 a b, σ.2.1, σ.2.2)
def sL (σ : Mem) (o k : Nat) (v : Int64) : Mem := (σ.1, fun a b => if a = o ∧ b = k then v else σ.2.1 a b, σ.2.2)
def sR (σ : Mem) (o k : Nat) (v : Nat) : Mem := (σ.1, σ.2.1, fun a b => if a = o ∧ b = k then v else σ.2.2 a b)
theorem sI_ne {σ : Mem} {o k j : Nat} {v : Int32} (h : j ≠ o) : (sI σ o k v).1 j = σ.1 j := by funext b; simp [sI, h]
theorem sL_ne {σ : Mem} {o k j : Nat} {v : Int64} (h : j ≠ o) : (sL σ o k v).2.1 j = σ.2.1 j := by funext b; simp [sL, h]
theorem sR_ne {σ : Mem} {o k j : Nat} {v : Nat} (h : j ≠ o) : (sR σ o k v).2.2 j = σ.2.2 j := by funext b; simp [sR, h]
theorem ent_I {Θ : Th} {σ : Mem} {o k j : Nat} {v : Int32} (h : j ≠ o) : ent Θ (sI σ o k v) j = ent Θ σ j := by
  have h1 : (sI σ o k v).1 j = σ.1 j := sI_ne h
  have h2 : fld Θ (sI σ o k v) j (shq j).1 = fld Θ σ j (shq j).1 := by funext q; simp only [fld, h1]; rfl
  simp only [ent, h1, h2]; rfl
theorem ent_L {Θ : Th} {σ : Mem} {o k j : Nat} {v : Int64} (h : j ≠ o) : ent Θ (sL σ o k v) j = ent Θ σ j := by
  have h1 : (sL σ o k v).2.1 j = σ.2.1 j := sL_ne h
  have h2 : fld Θ (sL σ o k v) j (shq j).1 = fld Θ σ j (shq j).1 := by funext q; simp only [fld, h1]; rfl
  simp only [ent, h1, h2]; rfl
theorem ent_R {Θ : Th} {σ : Mem} {o k j : Nat} {v : Nat} (h : j ≠ o) : ent Θ (sR σ o k v) j = ent Θ σ j := by
  have h1 : (sR σ o k v).2.2 j = σ.2.2 j := sR_ne h
  have h2 : fld Θ (sR σ o k v) j (shq j).1 = fld Θ σ j (shq j).1 := by funext q; simp only [fld, h1]; rfl
  simp only [ent, h2]; rfl
/-! what a state must have beside the cells: the tables' words of classes and arrays, the script, the static array of words that are no names -/
def nnL : List Int64 := [0x6D61726B, 0x746F, 0x6E65766572, 0x63617365, 0x6A75646765, 0x696E, 0x676976656E, 0x776569676874, 0x746F6C64, 0x6F766572, 0x7768656E, 0x6C65617374, 0x6D6F7374, 0x6F72, 0x616E64, 0x6E6F74]
def nnV (i : Nat) : Int64 := nnL.getD i 0
def gt : List Cond := lw_tbl.filter goodWord
theorem in_gt {w : Cond} (h : w ∈ lw_tbl) (hg : goodWord w = true) : w ∈ gt := List.mem_filter.mpr ⟨h, hg⟩
theorem gt_in {w : Cond} (h : w ∈ gt) : w ∈ lw_tbl := (List.mem_filter.mp h).1
theorem gt_at {i : Nat} {w : Cond} (h : lw_tbl[i]? = some w) (hg : goodWord w = true) : w ∈ gt := in_gt (List.mem_of_getElem? h) hg
def Wx (Θ : Th) (s : State) : Prop := vk_R "LikeYears$Tape" 77 "()<>=+-*" (Θ.2.2.1 1002) s ∧ va_Nw (.fieldLinkNest "LikeYears$Tape" 88 "LikeYears" "NO_NAMES" "[J" "LikeYears") s
def Ws (Θ : Th) (s : State) : Prop :=
  va_K Θ.2.1 clss (tysT Θ) s ∧ Lin Θ ∧ (va_X (Θ.2.2.1 1000) Θ.2.2.2.2.1 Θ.2.2.2.2.2 s s.heap ∧ Θ.2.2.1 1000 < s.heap.size ∧ ¬ AA Θ (Θ.2.2.1 1000)) ∧
  va_Z "LikeYears" "NO_NAMES" "[J" (.ref (Θ.2.2.1 1001)) (AA Θ) s s.heap ∧ va_T .long (Θ.2.2.1 1001) 16 (fun i => .long (nnV i)) (AA Θ) s s.heap ∧
  Wx Θ s ∧ vk_S 1 [8] [[40, 41, 60, 62, 61, 43, 45, 42]] (fun _ => Θ.2.2.1 1002) (fun _ => Θ.2.2.1 1003) (AA Θ) s s.heap ∧ va_Z "java/lang/String" "COMPACT_STRINGS" "Z" (.int 1) (AA Θ) s s.heap
/-! locals -/
def lget : Lc → Nat → Option Value
  | [], _ => none
  | x :: _, 0 => x
  | _ :: t, k + 1 => lget t k
def clr (x : Option Value) : Option Value := match x with
  | some (.long _) => none
  | some (.double _) => none
  | y => y
def lst1 : Lc → Nat → Value → Lc
  | [], _, _ => []
  | _ :: t, 0, v => some v :: t
  | x :: t, 1, v => clr x :: lst1 t 0 v
  | x :: t, k + 2, v => x :: lst1 t (k + 1) v
def lcl : Lc → Lc
  | [] => []
  | _ :: t => none :: t
def lst2 : Lc → Nat → Value → Lc
  | [], _, _ => []
  | _ :: t, 0, v => some v :: lcl t
  | x :: t, 1, v => clr x :: lst2 t 0 v
  | x :: t, k + 2, v => x :: lst2 t (k + 1) v
def LE : Lc → Lc → Prop
  | [], _ => True
  | none :: t, _ :: t' => LE t t'
  | some v :: t, w :: t' => w = some v ∧ LE t t'
  | _ :: _, [] => False
theorem LE_get : ∀ (A B : Lc), LE A B → ∀ i v, lget A i = some v → lget B i = some v
  | [], _, _, i, v, h => by cases h
  | none :: t, _ :: t', hl, 0, v, h => by cases h
  | none :: t, _ :: t', hl, i + 1, v, h => LE_get t t' hl i v h
  | some a :: t, w :: t', hl, 0, v, h => by rw [show lget (w :: t') 0 = w from rfl, hl.1]; exact h
  | some a :: t, w :: t', hl, i + 1, v, h => LE_get t t' hl.2 i v h
  | none :: _, [], hl, _, _, _ => False.elim hl
  | some _ :: _, [], hl, _, _, _ => False.elim hl
theorem clr_some {x : Option Value} {w : Value} (h : clr x = some w) : x = some w ∧ w.category ≠ 2 := by
  cases x with
  | none => cases h
  | some v => cases v <;> first | (cases h; done) | (cases h; exact ⟨rfl, by simp [Value.category]⟩)
theorem lst1_get : ∀ (L : Lc) (i : Nat) (v : Value) (j : Nat) (w : Value), lget (lst1 L i v) j = some w → (j = i ∧ w = v) ∨ (j ≠ i ∧ lget L j = some w ∧ ¬ (j + 1 = i ∧ w.category = 2))
  | [], _, _, _, _, h => by cases h
  | x :: t, 0, v, 0, w, h => Or.inl ⟨rfl, by cases h; rfl⟩
  | x :: t, 0, v, j + 1, w, h => Or.inr ⟨by omega, h, fun q => by omega⟩
  | x :: t, 1, v, 0, w, h => Or.inr ⟨by omega, (clr_some h).1, fun q => (clr_some h).2 q.2⟩
  | x :: t, 1, v, j + 1, w, h => by
    rcases lst1_get t 0 v j w h with ⟨a, b⟩ | ⟨a, b, c⟩
    · exact Or.inl ⟨by omega, b⟩
    · exact Or.inr ⟨by omega, b, fun q => by omega⟩
  | x :: t, k + 2, v, 0, w, h => Or.inr ⟨by omega, h, fun q => by omega⟩
  | x :: t, k + 2, v, j + 1, w, h => by
    rcases lst1_get t (k + 1) v j w h with ⟨a, b⟩ | ⟨a, b, c⟩
    · exact Or.inl ⟨by omega, b⟩
    · exact Or.inr ⟨by omega, b, fun q => c ⟨by omega, q.2⟩⟩
theorem lst2_get : ∀ (L : Lc) (i : Nat) (v : Value) (j : Nat) (w : Value), lget (lst2 L i v) j = some w → (j = i ∧ w = v) ∨ (j ≠ i ∧ j ≠ i + 1 ∧ lget L j = some w ∧ ¬ (j + 1 = i ∧ w.category = 2))
  | [], _, _, _, _, h => by cases h
  | x :: t, 0, v, 0, w, h => Or.inl ⟨rfl, by cases h; rfl⟩
  | x :: [], 0, v, j + 1, w, h => by cases h
  | x :: y :: t, 0, v, 1, w, h => by cases h
  | x :: y :: t, 0, v, j + 2, w, h => Or.inr ⟨by omega, by omega, h, fun q => by omega⟩
  | x :: t, 1, v, 0, w, h => Or.inr ⟨by omega, by omega, (clr_some h).1, fun q => (clr_some h).2 q.2⟩
  | x :: t, 1, v, j + 1, w, h => by
    rcases lst2_get t 0 v j w h with ⟨a, b⟩ | ⟨a, a', b, c⟩
    · exact Or.inl ⟨by omega, b⟩
    · exact Or.inr ⟨by omega, by omega, b, fun q => by omega⟩
  | x :: t, k + 2, v, 0, w, h => Or.inr ⟨by omega, by omega, h, fun q => by omega⟩
  | x :: t, k + 2, v, j + 1, w, h => by
    rcases lst2_get t (k + 1) v j w h with ⟨a, b⟩ | ⟨a, a', b, c⟩
    · exact Or.inl ⟨by omega, b⟩
    · exact Or.inr ⟨by omega, by omega, b, fun q => c ⟨by omega, q.2⟩⟩
def LR (Θ : Th) (n : Nat) (L : Lc) (ls : Array Slot) : Prop := ls.size = n ∧ lv_wf ls ∧ ∀ i v, lget L i = some v → ls[i]? = some (.val (vv Θ v))
def lvL (Θ : Th) (n : Nat) (L : Lc) : List (Nat × Value) := (List.range n).filterMap fun j => (lget L j).map fun w => (j, vv Θ w)
theorem lvL_has {Θ : Th} {n : Nat} {L : Lc} {ls : Array Slot} (h : LR Θ n L ls) : lv_has ls n (lvL Θ n L) := by
  refine ⟨h.1, h.2.1, fun q hq => ?_⟩
  obtain ⟨j, -, hj⟩ := List.mem_filterMap.mp hq
  cases hg : lget L j with
  | none => rw [hg] at hj; cases hj
  | some w => rw [hg] at hj; cases hj; exact h.2.2 j w hg
theorem lvL_in {Θ : Th} {n : Nat} {L : Lc} {ls : Array Slot} (h : LR Θ n L ls) {j : Nat} {w : Value} (hg : lget L j = some w) : (j, vv Θ w) ∈ lvL Θ n L := by
  have hj : j < n := by
    have := h.2.2 j w hg
    rw [← h.1]; exact (Array.getElem?_eq_some_iff.mp this).1
  exact List.mem_filterMap.mpr ⟨j, List.mem_range.mpr hj, by rw [hg]; rfl⟩
theorem LR_st1 {Θ : Th} {n : Nat} {L : Lc} {ls ls' : Array Slot} (h : LR Θ n L ls) {i : Nat} {v : Value} (h' : lv_has ls' n ((i, vv Θ v) :: (lvL Θ n L).filter (fun q => !(q.1 == i) && !(q.1 + 1 == i && q.2.category == 2)))) : LR Θ n (lst1 L i v) ls' := by
  refine ⟨h'.1, h'.2.1, fun j w hg => ?_⟩
  rcases lst1_get L i v j w hg with ⟨rfl, rfl⟩ | ⟨a, b, c⟩
  · exact h'.2.2 (j, vv Θ w) List.mem_cons_self
  · refine h'.2.2 (j, vv Θ w) (List.mem_cons_of_mem _ (List.mem_filter.mpr ⟨lvL_in h b, ?_⟩))
    have e1 : (j == i) = false := by simp [a]
    rw [Bool.and_eq_true]
    refine ⟨by simp [a], ?_⟩
    rw [Bool.not_eq_true']
    rw [Bool.and_eq_false_iff]
    by_cases hj : j + 1 = i
    · refine Or.inr ?_
      have : (vv Θ w).category ≠ 2 := fun q => c ⟨hj, by rw [← vv_cat Θ w]; exact q⟩
      simp [this]
    · exact Or.inl (by simp [hj])
theorem LR_st2 {Θ : Th} {n : Nat} {L : Lc} {ls ls' : Array Slot} (h : LR Θ n L ls) {i : Nat} {v : Value} (h' : lv_has ls' n ((i, vv Θ v) :: (lvL Θ n L).filter (fun q => !(q.1 == i) && (!(q.1 == i + 1) && !(q.1 + 1 == i && q.2.category == 2))))) : LR Θ n (lst2 L i v) ls' := by
  refine ⟨h'.1, h'.2.1, fun j w hg => ?_⟩
  rcases lst2_get L i v j w hg with ⟨rfl, rfl⟩ | ⟨a, a', b, c⟩
  · exact h'.2.2 (j, vv Θ w) List.mem_cons_self
  · refine h'.2.2 (j, vv Θ w) (List.mem_cons_of_mem _ (List.mem_filter.mpr ⟨lvL_in h b, ?_⟩))
    rw [Bool.and_eq_true]
    refine ⟨by simp [a], ?_⟩
    rw [Bool.and_eq_true]
    refine ⟨by simp [a'], ?_⟩
    rw [Bool.not_eq_true']
    rw [Bool.and_eq_false_iff]
    by_cases hj : j + 1 = i
    · refine Or.inr ?_
      have : (vv Θ w).category ≠ 2 := fun q => c ⟨hj, by rw [← vv_cat Θ w]; exact q⟩
      simp [this]
    · exact Or.inl (by simp [hj])
end
section
/-! G and Cm -/
def mby (mi : Nat) : ByteArray := (mrow mi).2.1
def mml (mi : Nat) : Nat := (mrow mi).2.2.1
def mrt (mi : Nat) : Option FieldType := (mrow mi).2.2.2.1
def moc (mi : Nat) : Nat := (mrow mi).2.2.2.2.1
def mnp (mi : Nat) : Nat := (mrow mi).2.2.2.2.2.1
def mst (mi : Nat) : Bool := (mrow mi).2.2.2.2.2.2.1
def Cx (d mi : Nat) (p : Program) (R : Room) (s : State) (m : MethodId) (args : Array Value) (c : Code) : Prop :=
  p.tables.exec = Jvm.exec ∧ c.code = mby mi ∧ c.maxLocals = mml mi ∧ s.vm.findClass (cnm (moc mi)) = some m.cls ∧ (∀ w ∈ gt, w.before args s = true) ∧ d ≤ R.frames ∧ 64 * d ≤ R.locals
def RetAt (mi pc : Nat) (r : Option Value) : Prop :=
  (∃ v, r = some (.int v) ∧ decode (mby mi) pc = .ok (.ireturn, 1) ∧ (mrt mi = some .int ∨ (mrt mi = some .boolean ∧ (v = 0 ∨ v = 1)))) ∨
  (∃ v, r = some (.long v) ∧ decode (mby mi) pc = .ok (.lreturn, 1) ∧ mrt mi = some .long) ∨
  (∃ k n, r = some (.ref k) ∧ decode (mby mi) pc = .ok (.areturn, 1) ∧ mrt mi = some (.object n)) ∨
  (r = none ∧ decode (mby mi) pc = .ok (.return_, 1) ∧ mrt mi = none)
def G (Θ : Th) (d mi pc : Nat) (L : Lc) (S : List Value) (σ : Mem) (Q : Po) : Prop :=
  ∀ (p : Program) (e : Env) (R : Room) (s : State) (m : MethodId) (args : Array Value) (below : List Frame) (meth : Method) (c : Code) (H : Heap) (locs : List Loc) (cells slots : Nat) (QQ : State → Prop) (ls : Array Slot),
    Cx d mi p R s m args c → cells ≤ R.cells ∧ slots ≤ R.slots → Ws Θ s → va_P Θ.2.1 clss (cel Θ σ) H → va_S (AA Θ) s.heap H locs → LR Θ (mml mi) L ls →
    (∀ (pc' : Nat) (ls' : Array Slot) (H' : Heap) (locs' : List Loc) (r : Option Value) (σ' : Mem), Q r σ' → va_P Θ.2.1 clss (cel Θ σ') H' → va_S (AA Θ) s.heap H' locs' → RetAt mi pc' r →
      W p Θ.1 e R s m args below meth c H' locs' cells slots QQ (F0 m pc' ls' ((r.map (vv Θ)).toList))) →
    W p Θ.1 e R s m args below meth c H locs cells slots QQ (F0 m pc ls (S.map (vv Θ)))
def wds (mi : Nat) : List Cond := Cond.code (mrow mi).1 (mby mi) (mml mi) (mrt mi) :: gt
def rmd (d : Nat) : Room := { frames := d, cells := 0, slots := 0, locals := 64 * d }
def Cm (Θ : Th) (d mi : Nat) (as : List Value) (σ : Mem) (Q : Po) : Prop :=
  Met Θ.1 (mrow mi).1 (wds mi) (rmd d) (va_Pc (as.map (vv Θ)) (fun U => Ws Θ U ∧ va_P Θ.2.1 clss (cel Θ σ) U.heap))
    (fun _ st oc t => ∃ (r : Option Value) (σ' : Mem), oc = .returned (r.map (vv Θ)) ∧ Q r σ' ∧ va_P Θ.2.1 clss (cel Θ σ') t.heap ∧ va_F (AA Θ) st t) 0 0 (AA Θ)
theorem Met_mono {l : Launch} {y : MethodName} {ws : List Cond} {rm : Room} {Pc : Array Value → State → Prop} {Qc Qc' : Array Value → State → Outcome → State → Prop} {mc ms : Nat} {free : Addr → Prop} (h : Met l y ws rm Pc Qc mc ms free) (hq : ∀ a st o t, Qc a st o t → Qc' a st o t) : Met l y ws rm Pc Qc' mc ms free := by
  intro p e ha hc hk s m args below hf happ hP hT
  obtain ⟨k, o, h1, h2, h3, h4, h5⟩ := h p e ha hc hk s m args below hf happ hP hT
  exact ⟨k, o, h1, h2, h3, hq _ _ _ _ h4, h5⟩
theorem Cm.mono {Θ : Th} {d mi : Nat} {as : List Value} {σ : Mem} {Q Q' : Po} (h : Cm Θ d mi as σ Q) (hq : ∀ r σ', Q r σ' → Q' r σ') : Cm Θ d mi as σ Q' :=
  Met_mono h (fun a st o t ⟨r, σ', h1, h2, h3⟩ => ⟨r, σ', h1, hq r σ' h2, h3⟩)
theorem G.mono {Θ : Th} {d mi pc : Nat} {L : Lc} {S : List Value} {σ : Mem} {Q Q' : Po} (h : G Θ d mi pc L S σ Q) (hq : ∀ r σ', Q r σ' → Q' r σ') : G Θ d mi pc L S σ Q' := by
  intro p e R s m args below meth c H locs cells slots QQ ls hC hroom hw hP hS hl hret
  exact h p e R s m args below meth c H locs cells slots QQ ls hC hroom hw hP hS hl (fun pc' ls' H' locs' r σ' q => hret pc' ls' H' locs' r σ' (hq r σ' q))
theorem G.weak {Θ : Th} {d mi pc : Nat} {L L' : Lc} {S : List Value} {σ : Mem} {Q : Po} (hL : LE L' L) (h : G Θ d mi pc L' S σ Q) : G Θ d mi pc L S σ Q := by
  intro p e R s m args below meth c H locs cells slots QQ ls hC hroom hw hP hS hl hret
  exact h p e R s m args below meth c H locs cells slots QQ ls hC hroom hw hP hS ⟨hl.1, hl.2.1, fun i v hg => hl.2.2 i v (LE_get L' L hL i v hg)⟩ hret
/-! words of the tables -/
theorem chk_at {mi : Nat} {mc : List (Nat × Ins)} (hok : mc.all (fun q => chkI mi q.1 q.2) = true) {j : Nat} {q : Nat × Ins} (hi : mc[j]? = some q) : chkI mi q.1 q.2 = true :=
  List.all_eq_true.mp hok q (List.mem_of_getElem? hi)
theorem dec_at {mi : Nat} {mc : List (Nat × Ins)} (hok : mc.all (fun q => chkI mi q.1 q.2) = true) {j pc nx n : Nat} {i : Instr} {u : Nat × Nat × Int} (hi : mc[j]? = some (pc, i, nx, u)) (hn : pc + n = nx) : decode (mby mi) pc = .ok (i, n) := by
  have h := chk_at hok hi
  simp only [chkI, Bool.and_eq_true, decide_eq_true_eq] at h
  have h2 := h.1.2
  rw [← hn, Nat.add_sub_cancel_left] at h2
  exact h2
end
section
/-! ROWS of the logic: an instruction each -/
section rows
variable {Θ : Th} {d mi pc nx : Nat} {mc : List (Nat × Ins)} {L : Lc} {S : List Value} {σ : Mem} {Q : Po} {u : Nat × Nat × Int}
theorem r_iconst {n : Int} {v : Int32} (hok : mc.all (fun q => chkI mi q.1 q.2) = true) (j : Nat) (hi : mc[j]? = some (pc, .iconst n, nx, u)) (hn : pc + 1 = nx) (hv : Int32.ofInt n = v) (k : G Θ d mi nx L (.int v :: S) σ Q) : G Θ d mi pc L (S) σ Q := by
  intro p e R s m args below meth c H locs cells slots QQ ls hC hroom hw hP hS hl hret
  have hd := dec_at hok hi hn
  subst hn
  exact lv_iconst hC.1 hC.2.1 hd hv (k p e R s m args below meth c H locs cells slots QQ ls hC hroom hw hP hS hl hret)
theorem r_bipush {n : Int} {v : Int32} (hok : mc.all (fun q => chkI mi q.1 q.2) = true) (j : Nat) (hi : mc[j]? = some (pc, .bipush n, nx, u)) (hn : pc + 2 = nx) (hv : (Int8.ofInt n).toInt32 = v) (k : G Θ d mi nx L (.int v :: S) σ Q) : G Θ d mi pc L (S) σ Q := by
  intro p e R s m args below meth c H locs cells slots QQ ls hC hroom hw hP hS hl hret
  have hd := dec_at hok hi hn
  subst hn
  exact lv_bipush hC.1 hC.2.1 hd hv (k p e R s m args below meth c H locs cells slots QQ ls hC hroom hw hP hS hl hret)
theorem r_sipush {n : Int} {v : Int32} (hok : mc.all (fun q => chkI mi q.1 q.2) = true) (j : Nat) (hi : mc[j]? = some (pc, .sipush n, nx, u)) (hn : pc + 3 = nx) (hv : (Int16.ofInt n).toInt32 = v) (k : G Θ d mi nx L (.int v :: S) σ Q) : G Θ d mi pc L (S) σ Q := by
  intro p e R s m args below meth c H locs cells slots QQ ls hC hroom hw hP hS hl hret
  have hd := dec_at hok hi hn
  subst hn
  exact lv_sipush hC.1 hC.2.1 hd hv (k p e R s m args below meth c H locs cells slots QQ ls hC hroom hw hP hS hl hret)
theorem r_lconst {n : Fin 2} {v : Int64} (hok : mc.all (fun q => chkI mi q.1 q.2) = true) (j : Nat) (hi : mc[j]? = some (pc, .lconst n, nx, u)) (hn : pc + 1 = nx) (hv : Int64.ofNat (n : Nat) = v) (k : G Θ d mi nx L (.long v :: S) σ Q) : G Θ d mi pc L (S) σ Q := by
  intro p e R s m args below meth c H locs cells slots QQ ls hC hroom hw hP hS hl hret
  have hd := dec_at hok hi hn
  subst hn
  exact lv_lconst hC.1 hC.2.1 hd hv (k p e R s m args below meth c H locs cells slots QQ ls hC hroom hw hP hS hl hret)
theorem r_iadd {x y : Int32} (hok : mc.all (fun q => chkI mi q.1 q.2) = true) (j : Nat) (hi : mc[j]? = some (pc, .iadd, nx, u)) (hn : pc + 1 = nx) (k : G Θ d mi nx L (.int (x + y) :: S) σ Q) : G Θ d mi pc L (.int y :: .int x :: S) σ Q := by
  intro p e R s m args below meth c H locs cells slots QQ ls hC hroom hw hP hS hl hret
  have hd := dec_at hok hi hn
  subst hn
  exact lv_iadd hC.1 hC.2.1 hd (k p e R s m args below meth c H locs cells slots QQ ls hC hroom hw hP hS hl hret)
theorem r_isub {x y : Int32} (hok : mc.all (fun q => chkI mi q.1 q.2) = true) (j : Nat) (hi : mc[j]? = some (pc, .isub, nx, u)) (hn : pc + 1 = nx) (k : G Θ d mi nx L (.int (x - y) :: S) σ Q) : G Θ d mi pc L (.int y :: .int x :: S) σ Q := by
  intro p e R s m args below meth c H locs cells slots QQ ls hC hroom hw hP hS hl hret
  have hd := dec_at hok hi hn
  subst hn
  exact lv_isub hC.1 hC.2.1 hd (k p e R s m args below meth c H locs cells slots QQ ls hC hroom hw hP hS hl hret)
theorem r_imul {x y : Int32} (hok : mc.all (fun q => chkI mi q.1 q.2) = true) (j : Nat) (hi : mc[j]? = some (pc, .imul, nx, u)) (hn : pc + 1 = nx) (k : G Θ d mi nx L (.int (x * y) :: S) σ Q) : G Θ d mi pc L (.int y :: .int x :: S) σ Q := by
  intro p e R s m args below meth c H locs cells slots QQ ls hC hroom hw hP hS hl hret
  have hd := dec_at hok hi hn
  subst hn
  exact lv_imul hC.1 hC.2.1 hd (k p e R s m args below meth c H locs cells slots QQ ls hC hroom hw hP hS hl hret)
theorem r_iand {x y : Int32} (hok : mc.all (fun q => chkI mi q.1 q.2) = true) (j : Nat) (hi : mc[j]? = some (pc, .iand, nx, u)) (hn : pc + 1 = nx) (k : G Θ d mi nx L (.int (x &&& y) :: S) σ Q) : G Θ d mi pc L (.int y :: .int x :: S) σ Q := by
  intro p e R s m args below meth c H locs cells slots QQ ls hC hroom hw hP hS hl hret
  have hd := dec_at hok hi hn
  subst hn
  exact lv_iand hC.1 hC.2.1 hd (k p e R s m args below meth c H locs cells slots QQ ls hC hroom hw hP hS hl hret)
theorem r_ior {x y : Int32} (hok : mc.all (fun q => chkI mi q.1 q.2) = true) (j : Nat) (hi : mc[j]? = some (pc, .ior, nx, u)) (hn : pc + 1 = nx) (k : G Θ d mi nx L (.int (x ||| y) :: S) σ Q) : G Θ d mi pc L (.int y :: .int x :: S) σ Q := by
  intro p e R s m args below meth c H locs cells slots QQ ls hC hroom hw hP hS hl hret
  have hd := dec_at hok hi hn
  subst hn
  exact lv_ior hC.1 hC.2.1 hd (k p e R s m args below meth c H locs cells slots QQ ls hC hroom hw hP hS hl hret)
theorem r_ixor {x y : Int32} (hok : mc.all (fun q => chkI mi q.1 q.2) = true) (j : Nat) (hi : mc[j]? = some (pc, .ixor, nx, u)) (hn : pc + 1 = nx) (k : G Θ d mi nx L (.int (x ^^^ y) :: S) σ Q) : G Θ d mi pc L (.int y :: .int x :: S) σ Q := by
  intro p e R s m args below meth c H locs cells slots QQ ls hC hroom hw hP hS hl hret
  have hd := dec_at hok hi hn
  subst hn
  exact lv_ixor hC.1 hC.2.1 hd (k p e R s m args below meth c H locs cells slots QQ ls hC hroom hw hP hS hl hret)
theorem r_ishl {x y : Int32} (hok : mc.all (fun q => chkI mi q.1 q.2) = true) (j : Nat) (hi : mc[j]? = some (pc, .ishl, nx, u)) (hn : pc + 1 = nx) (k : G Θ d mi nx L (.int (x <<< (y &&& 31)) :: S) σ Q) : G Θ d mi pc L (.int y :: .int x :: S) σ Q := by
  intro p e R s m args below meth c H locs cells slots QQ ls hC hroom hw hP hS hl hret
  have hd := dec_at hok hi hn
  subst hn
  exact lv_ishl hC.1 hC.2.1 hd (k p e R s m args below meth c H locs cells slots QQ ls hC hroom hw hP hS hl hret)
theorem r_ishr {x y : Int32} (hok : mc.all (fun q => chkI mi q.1 q.2) = true) (j : Nat) (hi : mc[j]? = some (pc, .ishr, nx, u)) (hn : pc + 1 = nx) (k : G Θ d mi nx L (.int (x >>> (y &&& 31)) :: S) σ Q) : G Θ d mi pc L (.int y :: .int x :: S) σ Q := by
  intro p e R s m args below meth c H locs cells slots QQ ls hC hroom hw hP hS hl hret
  have hd := dec_at hok hi hn
  subst hn
  exact lv_ishr hC.1 hC.2.1 hd (k p e R s m args below meth c H locs cells slots QQ ls hC hroom hw hP hS hl hret)
theorem r_ladd {x y : Int64} (hok : mc.all (fun q => chkI mi q.1 q.2) = true) (j : Nat) (hi : mc[j]? = some (pc, .ladd, nx, u)) (hn : pc + 1 = nx) (k : G Θ d mi nx L (.long (x + y) :: S) σ Q) : G Θ d mi pc L (.long y :: .long x :: S) σ Q := by
  intro p e R s m args below meth c H locs cells slots QQ ls hC hroom hw hP hS hl hret
  have hd := dec_at hok hi hn
  subst hn
  exact lv_ladd hC.1 hC.2.1 hd (k p e R s m args below meth c H locs cells slots QQ ls hC hroom hw hP hS hl hret)
theorem r_lsub {x y : Int64} (hok : mc.all (fun q => chkI mi q.1 q.2) = true) (j : Nat) (hi : mc[j]? = some (pc, .lsub, nx, u)) (hn : pc + 1 = nx) (k : G Θ d mi nx L (.long (x - y) :: S) σ Q) : G Θ d mi pc L (.long y :: .long x :: S) σ Q := by
  intro p e R s m args below meth c H locs cells slots QQ ls hC hroom hw hP hS hl hret
  have hd := dec_at hok hi hn
  subst hn
  exact lv_lsub hC.1 hC.2.1 hd (k p e R s m args below meth c H locs cells slots QQ ls hC hroom hw hP hS hl hret)
theorem r_lmul {x y : Int64} (hok : mc.all (fun q => chkI mi q.1 q.2) = true) (j : Nat) (hi : mc[j]? = some (pc, .lmul, nx, u)) (hn : pc + 1 = nx) (k : G Θ d mi nx L (.long (x * y) :: S) σ Q) : G Θ d mi pc L (.long y :: .long x :: S) σ Q := by
  intro p e R s m args below meth c H locs cells slots QQ ls hC hroom hw hP hS hl hret
  have hd := dec_at hok hi hn
  subst hn
  exact lv_lmul hC.1 hC.2.1 hd (k p e R s m args below meth c H locs cells slots QQ ls hC hroom hw hP hS hl hret)
theorem r_lor {x y : Int64} (hok : mc.all (fun q => chkI mi q.1 q.2) = true) (j : Nat) (hi : mc[j]? = some (pc, .lor, nx, u)) (hn : pc + 1 = nx) (k : G Θ d mi nx L (.long (x ||| y) :: S) σ Q) : G Θ d mi pc L (.long y :: .long x :: S) σ Q := by
  intro p e R s m args below meth c H locs cells slots QQ ls hC hroom hw hP hS hl hret
  have hd := dec_at hok hi hn
  subst hn
  exact lv_lor hC.1 hC.2.1 hd (k p e R s m args below meth c H locs cells slots QQ ls hC hroom hw hP hS hl hret)
theorem r_idiv {x y : Int32} (hok : mc.all (fun q => chkI mi q.1 q.2) = true) (j : Nat) (hi : mc[j]? = some (pc, .idiv, nx, u)) (hn : pc + 1 = nx) (hne : ¬ y = 0) (k : G Θ d mi nx L (.int (x / y) :: S) σ Q) : G Θ d mi pc L (.int y :: .int x :: S) σ Q := by
  intro p e R s m args below meth c H locs cells slots QQ ls hC hroom hw hP hS hl hret
  have hd := dec_at hok hi hn
  subst hn
  exact lv_idiv hC.1 hC.2.1 hd hne (k p e R s m args below meth c H locs cells slots QQ ls hC hroom hw hP hS hl hret)
theorem r_ldiv {x y : Int64} (hok : mc.all (fun q => chkI mi q.1 q.2) = true) (j : Nat) (hi : mc[j]? = some (pc, .ldiv, nx, u)) (hn : pc + 1 = nx) (hne : ¬ y = 0) (k : G Θ d mi nx L (.long (x / y) :: S) σ Q) : G Θ d mi pc L (.long y :: .long x :: S) σ Q := by
  intro p e R s m args below meth c H locs cells slots QQ ls hC hroom hw hP hS hl hret
  have hd := dec_at hok hi hn
  subst hn
  exact lv_ldiv hC.1 hC.2.1 hd hne (k p e R s m args below meth c H locs cells slots QQ ls hC hroom hw hP hS hl hret)
theorem r_lrem {x y : Int64} (hok : mc.all (fun q => chkI mi q.1 q.2) = true) (j : Nat) (hi : mc[j]? = some (pc, .lrem, nx, u)) (hn : pc + 1 = nx) (hne : ¬ y = 0) (k : G Θ d mi nx L (.long (x - x / y * y) :: S) σ Q) : G Θ d mi pc L (.long y :: .long x :: S) σ Q := by
  intro p e R s m args below meth c H locs cells slots QQ ls hC hroom hw hP hS hl hret
  have hd := dec_at hok hi hn
  subst hn
  exact lv_lrem hC.1 hC.2.1 hd hne (k p e R s m args below meth c H locs cells slots QQ ls hC hroom hw hP hS hl hret)
theorem r_ineg {x : Int32} (hok : mc.all (fun q => chkI mi q.1 q.2) = true) (j : Nat) (hi : mc[j]? = some (pc, .ineg, nx, u)) (hn : pc + 1 = nx) (k : G Θ d mi nx L (.int (-x) :: S) σ Q) : G Θ d mi pc L (.int x :: S) σ Q := by
  intro p e R s m args below meth c H locs cells slots QQ ls hC hroom hw hP hS hl hret
  have hd := dec_at hok hi hn
  subst hn
  exact lv_ineg hC.1 hC.2.1 hd (k p e R s m args below meth c H locs cells slots QQ ls hC hroom hw hP hS hl hret)
theorem r_lneg {x : Int64} (hok : mc.all (fun q => chkI mi q.1 q.2) = true) (j : Nat) (hi : mc[j]? = some (pc, .lneg, nx, u)) (hn : pc + 1 = nx) (k : G Θ d mi nx L (.long (-x) :: S) σ Q) : G Θ d mi pc L (.long x :: S) σ Q := by
  intro p e R s m args below meth c H locs cells slots QQ ls hC hroom hw hP hS hl hret
  have hd := dec_at hok hi hn
  subst hn
  exact lv_lneg hC.1 hC.2.1 hd (k p e R s m args below meth c H locs cells slots QQ ls hC hroom hw hP hS hl hret)
theorem r_iushr {x y : Int32} (hok : mc.all (fun q => chkI mi q.1 q.2) = true) (j : Nat) (hi : mc[j]? = some (pc, .iushr, nx, u)) (hn : pc + 1 = nx) (k : G Θ d mi nx L (.int ((x.toUInt32 >>> (y.toUInt32 &&& Int32.toUInt32 31)).toInt32) :: S) σ Q) : G Θ d mi pc L (.int y :: .int x :: S) σ Q := by
  intro p e R s m args below meth c H locs cells slots QQ ls hC hroom hw hP hS hl hret
  have hd := dec_at hok hi hn
  subst hn
  exact lv_iushr hC.1 hC.2.1 hd rfl (k p e R s m args below meth c H locs cells slots QQ ls hC hroom hw hP hS hl hret)
theorem r_lshl {x : Int64} {y : Int32} (hok : mc.all (fun q => chkI mi q.1 q.2) = true) (j : Nat) (hi : mc[j]? = some (pc, .lshl, nx, u)) (hn : pc + 1 = nx) (k : G Θ d mi nx L (.long (x <<< (y.toInt64 &&& 63)) :: S) σ Q) : G Θ d mi pc L (.int y :: .long x :: S) σ Q := by
  intro p e R s m args below meth c H locs cells slots QQ ls hC hroom hw hP hS hl hret
  have hd := dec_at hok hi hn
  subst hn
  exact lv_lshl hC.1 hC.2.1 hd rfl (k p e R s m args below meth c H locs cells slots QQ ls hC hroom hw hP hS hl hret)
theorem r_i2l {x : Int32} (hok : mc.all (fun q => chkI mi q.1 q.2) = true) (j : Nat) (hi : mc[j]? = some (pc, .i2l, nx, u)) (hn : pc + 1 = nx) (k : G Θ d mi nx L (.long x.toInt64 :: S) σ Q) : G Θ d mi pc L (.int x :: S) σ Q := by
  intro p e R s m args below meth c H locs cells slots QQ ls hC hroom hw hP hS hl hret
  have hd := dec_at hok hi hn
  subst hn
  exact lv_i2l hC.1 hC.2.1 hd rfl (k p e R s m args below meth c H locs cells slots QQ ls hC hroom hw hP hS hl hret)
theorem r_l2i {x : Int64} (hok : mc.all (fun q => chkI mi q.1 q.2) = true) (j : Nat) (hi : mc[j]? = some (pc, .l2i, nx, u)) (hn : pc + 1 = nx) (k : G Θ d mi nx L (.int x.toInt32 :: S) σ Q) : G Θ d mi pc L (.long x :: S) σ Q := by
  intro p e R s m args below meth c H locs cells slots QQ ls hC hroom hw hP hS hl hret
  have hd := dec_at hok hi hn
  subst hn
  exact lv_l2i hC.1 hC.2.1 hd rfl (k p e R s m args below meth c H locs cells slots QQ ls hC hroom hw hP hS hl hret)
theorem r_i2b {x : Int32} (hok : mc.all (fun q => chkI mi q.1 q.2) = true) (j : Nat) (hi : mc[j]? = some (pc, .i2b, nx, u)) (hn : pc + 1 = nx) (k : G Θ d mi nx L (.int x.toInt8.toInt32 :: S) σ Q) : G Θ d mi pc L (.int x :: S) σ Q := by
  intro p e R s m args below meth c H locs cells slots QQ ls hC hroom hw hP hS hl hret
  have hd := dec_at hok hi hn
  subst hn
  exact lv_i2b hC.1 hC.2.1 hd rfl (k p e R s m args below meth c H locs cells slots QQ ls hC hroom hw hP hS hl hret)
theorem r_i2c {x : Int32} (hok : mc.all (fun q => chkI mi q.1 q.2) = true) (j : Nat) (hi : mc[j]? = some (pc, .i2c, nx, u)) (hn : pc + 1 = nx) (k : G Θ d mi nx L (.int (x.toUInt32 % 65536).toInt32 :: S) σ Q) : G Θ d mi pc L (.int x :: S) σ Q := by
  intro p e R s m args below meth c H locs cells slots QQ ls hC hroom hw hP hS hl hret
  have hd := dec_at hok hi hn
  subst hn
  exact lv_i2c hC.1 hC.2.1 hd rfl (k p e R s m args below meth c H locs cells slots QQ ls hC hroom hw hP hS hl hret)
theorem r_lcmp {x y : Int64} (hok : mc.all (fun q => chkI mi q.1 q.2) = true) (j : Nat) (hi : mc[j]? = some (pc, .lcmp, nx, u)) (hn : pc + 1 = nx) (k : G Θ d mi nx L (.int (lg_cmp x y) :: S) σ Q) : G Θ d mi pc L (.long y :: .long x :: S) σ Q := by
  intro p e R s m args below meth c H locs cells slots QQ ls hC hroom hw hP hS hl hret
  have hd := dec_at hok hi hn
  subst hn
  exact W.lcmp hC.1 hC.2.1 hd (k p e R s m args below meth c H locs cells slots QQ ls hC hroom hw hP hS hl hret)
theorem r_dup {v : Value} (hok : mc.all (fun q => chkI mi q.1 q.2) = true) (j : Nat) (hi : mc[j]? = some (pc, .dup, nx, u)) (hn : pc + 1 = nx) (hv : v.category = 1) (k : G Θ d mi nx L (v :: v :: S) σ Q) : G Θ d mi pc L (v :: S) σ Q := by
  intro p e R s m args below meth c H locs cells slots QQ ls hC hroom hw hP hS hl hret
  have hd := dec_at hok hi hn
  subst hn
  exact lv_dup hC.1 hC.2.1 hd (by rw [vv_cat]; exact hv) (k p e R s m args below meth c H locs cells slots QQ ls hC hroom hw hP hS hl hret)
theorem r_pop {v : Value} (hok : mc.all (fun q => chkI mi q.1 q.2) = true) (j : Nat) (hi : mc[j]? = some (pc, .pop, nx, u)) (hn : pc + 1 = nx) (hv : v.category = 1) (k : G Θ d mi nx L (S) σ Q) : G Θ d mi pc L (v :: S) σ Q := by
  intro p e R s m args below meth c H locs cells slots QQ ls hC hroom hw hP hS hl hret
  have hd := dec_at hok hi hn
  subst hn
  exact lv_pop hC.1 hC.2.1 hd (by rw [vv_cat]; exact hv) (k p e R s m args below meth c H locs cells slots QQ ls hC hroom hw hP hS hl hret)
theorem r_dup2a {v w : Value} (hok : mc.all (fun q => chkI mi q.1 q.2) = true) (j : Nat) (hi : mc[j]? = some (pc, .dup2, nx, u)) (hn : pc + 1 = nx) (hv : v.category = 1) (hw2 : w.category = 1) (k : G Θ d mi nx L (v :: w :: v :: w :: S) σ Q) : G Θ d mi pc L (v :: w :: S) σ Q := by
  intro p e R s m args below meth c H locs cells slots QQ ls hC hroom hw hP hS hl hret
  have hd := dec_at hok hi hn
  subst hn
  exact lv_dup2_11 hC.1 hC.2.1 hd (by rw [vv_cat]; exact hv) (by rw [vv_cat]; exact hw2) (k p e R s m args below meth c H locs cells slots QQ ls hC hroom hw hP hS hl hret)
theorem r_dup2b {v : Value} (hok : mc.all (fun q => chkI mi q.1 q.2) = true) (j : Nat) (hi : mc[j]? = some (pc, .dup2, nx, u)) (hn : pc + 1 = nx) (hv : v.category = 2) (k : G Θ d mi nx L (v :: v :: S) σ Q) : G Θ d mi pc L (v :: S) σ Q := by
  intro p e R s m args below meth c H locs cells slots QQ ls hC hroom hw hP hS hl hret
  have hd := dec_at hok hi hn
  subst hn
  exact lv_dup2_2 hC.1 hC.2.1 hd (by rw [vv_cat]; exact hv) (k p e R s m args below meth c H locs cells slots QQ ls hC hroom hw hP hS hl hret)
theorem r_ldc {idx a b : Nat} {z : Int} {v : Int32} (hok : mc.all (fun q => chkI mi q.1 q.2) = true) (j : Nat) (hi : mc[j]? = some (pc, .ldc idx, nx, a, b, z)) (hn : pc + 2 = nx) (ha : a ≠ 1002) (hv : Int32.ofInt z = v) (k : G Θ d mi nx L (.int v :: S) σ Q) : G Θ d mi pc L S σ Q := by
  intro p e R s m args below meth c H locs cells slots QQ ls hC hroom hw hP hS hl hret
  have hd := dec_at hok hi hn
  have hc := chk_at hok hi
  simp only [chkI, Bool.and_eq_true, decide_eq_true_eq, brk, Bool.or_eq_true] at hc
  subst hn
  subst hv
  have hm := hc.2.resolve_left ha
  exact lv_ldc hC.1 hC.2.1 hC.2.2.2.1 (hC.2.2.2.2.1 _ (gt_at hm rfl)) hd (k p e R s m args below meth c H locs cells slots QQ ls hC hroom hw hP hS hl hret)
theorem r_ldc_w {idx a b : Nat} {z : Int} {v : Int32} (hok : mc.all (fun q => chkI mi q.1 q.2) = true) (j : Nat) (hi : mc[j]? = some (pc, .ldc_w idx, nx, a, b, z)) (hn : pc + 3 = nx) (hv : Int32.ofInt z = v) (k : G Θ d mi nx L (.int v :: S) σ Q) : G Θ d mi pc L S σ Q := by
  intro p e R s m args below meth c H locs cells slots QQ ls hC hroom hw hP hS hl hret
  have hd := dec_at hok hi hn
  have hc := chk_at hok hi
  simp only [chkI, Bool.and_eq_true, decide_eq_true_eq, brk] at hc
  subst hn
  subst hv
  have hm := hc.2
  exact lv_ldcw hC.1 hC.2.1 hC.2.2.2.1 (hC.2.2.2.2.1 _ (gt_at hm rfl)) hd (k p e R s m args below meth c H locs cells slots QQ ls hC hroom hw hP hS hl hret)
theorem r_ldc2_w {idx a b : Nat} {z : Int} {v : Int64} (hok : mc.all (fun q => chkI mi q.1 q.2) = true) (j : Nat) (hi : mc[j]? = some (pc, .ldc2_w idx, nx, a, b, z)) (hn : pc + 3 = nx) (hv : Int64.ofInt z = v) (k : G Θ d mi nx L (.long v :: S) σ Q) : G Θ d mi pc L S σ Q := by
  intro p e R s m args below meth c H locs cells slots QQ ls hC hroom hw hP hS hl hret
  have hd := dec_at hok hi hn
  have hc := chk_at hok hi
  simp only [chkI, Bool.and_eq_true, decide_eq_true_eq, brk] at hc
  subst hn
  subst hv
  have hm := hc.2
  exact lv_ldc2 hC.1 hC.2.1 hC.2.2.2.1 (hC.2.2.2.2.1 _ (gt_at hm rfl)) hd (k p e R s m args below meth c H locs cells slots QQ ls hC hroom hw hP hS hl hret)
theorem r_iload_n {x : Int32} {kk : Fin 4} {a : Nat} {u : Nat × Int} (hok : mc.all (fun q => chkI mi q.1 q.2) = true) (j : Nat) (hi : mc[j]? = some (pc, .iload_n kk, nx, a, u)) (hn : pc + 1 = nx) (hg : lget L a = some (.int x)) (k : G Θ d mi nx L (.int x :: S) σ Q) : G Θ d mi pc L S σ Q := by
  intro p e R s m args below meth c H locs cells slots QQ ls hC hroom hw hP hS hl hret
  have hd := dec_at hok hi hn
  have hc := chk_at hok hi
  simp only [chkI, Bool.and_eq_true, decide_eq_true_eq, brk] at hc
  subst hn
  exact lv_iload_n hC.1 hC.2.1 hd hc.2 (hl.2.2 a _ hg) (k p e R s m args below meth c H locs cells slots QQ ls hC hroom hw hP hS hl hret)
theorem r_istore_n {x : Int32} {kk : Fin 4} {a : Nat} {u : Nat × Int} (hok : mc.all (fun q => chkI mi q.1 q.2) = true) (j : Nat) (hi : mc[j]? = some (pc, .istore_n kk, nx, a, u)) (hn : pc + 1 = nx) (k : G Θ d mi nx (lst1 L a (.int x)) S σ Q) : G Θ d mi pc L (.int x :: S) σ Q := by
  intro p e R s m args below meth c H locs cells slots QQ ls hC hroom hw hP hS hl hret
  have hd := dec_at hok hi hn
  have hc := chk_at hok hi
  simp only [chkI, Bool.and_eq_true, decide_eq_true_eq, brk] at hc
  subst hn
  exact lv_istore_n hC.1 hC.2.1 hd hc.2.1 (lvL_has hl) hc.2.2 rfl (fun ls' h' => k p e R s m args below meth c H locs cells slots QQ ls' hC hroom hw hP hS (LR_st1 hl h') hret)
theorem r_iload {x : Int32} {kk : Nat} {a : Nat} {u : Nat × Int} (hok : mc.all (fun q => chkI mi q.1 q.2) = true) (j : Nat) (hi : mc[j]? = some (pc, .iload kk, nx, a, u)) (hn : pc + 2 = nx) (hg : lget L a = some (.int x)) (k : G Θ d mi nx L (.int x :: S) σ Q) : G Θ d mi pc L S σ Q := by
  intro p e R s m args below meth c H locs cells slots QQ ls hC hroom hw hP hS hl hret
  have hd := dec_at hok hi hn
  have hc := chk_at hok hi
  simp only [chkI, Bool.and_eq_true, decide_eq_true_eq, brk] at hc
  have hk : kk = a := hc.2
  subst hk
  subst hn
  exact lv_iload hC.1 hC.2.1 hd (hl.2.2 _ _ hg) (k p e R s m args below meth c H locs cells slots QQ ls hC hroom hw hP hS hl hret)
theorem r_istore {x : Int32} {kk : Nat} {a : Nat} {u : Nat × Int} (hok : mc.all (fun q => chkI mi q.1 q.2) = true) (j : Nat) (hi : mc[j]? = some (pc, .istore kk, nx, a, u)) (hn : pc + 2 = nx) (k : G Θ d mi nx (lst1 L a (.int x)) S σ Q) : G Θ d mi pc L (.int x :: S) σ Q := by
  intro p e R s m args below meth c H locs cells slots QQ ls hC hroom hw hP hS hl hret
  have hd := dec_at hok hi hn
  have hc := chk_at hok hi
  simp only [chkI, Bool.and_eq_true, decide_eq_true_eq, brk] at hc
  have hk : kk = a := hc.2.1
  subst hk
  subst hn
  exact lv_istore hC.1 hC.2.1 hd (lvL_has hl) hc.2.2 rfl (fun ls' h' => k p e R s m args below meth c H locs cells slots QQ ls' hC hroom hw hP hS (LR_st1 hl h') hret)
theorem r_lload_n {x : Int64} {kk : Fin 4} {a : Nat} {u : Nat × Int} (hok : mc.all (fun q => chkI mi q.1 q.2) = true) (j : Nat) (hi : mc[j]? = some (pc, .lload_n kk, nx, a, u)) (hn : pc + 1 = nx) (hg : lget L a = some (.long x)) (k : G Θ d mi nx L (.long x :: S) σ Q) : G Θ d mi pc L S σ Q := by
  intro p e R s m args below meth c H locs cells slots QQ ls hC hroom hw hP hS hl hret
  have hd := dec_at hok hi hn
  have hc := chk_at hok hi
  simp only [chkI, Bool.and_eq_true, decide_eq_true_eq, brk] at hc
  subst hn
  exact lv_lload_n hC.1 hC.2.1 hd hc.2 (hl.2.2 a _ hg) (k p e R s m args below meth c H locs cells slots QQ ls hC hroom hw hP hS hl hret)
theorem r_lstore_n {x : Int64} {kk : Fin 4} {a : Nat} {u : Nat × Int} (hok : mc.all (fun q => chkI mi q.1 q.2) = true) (j : Nat) (hi : mc[j]? = some (pc, .lstore_n kk, nx, a, u)) (hn : pc + 1 = nx) (k : G Θ d mi nx (lst2 L a (.long x)) S σ Q) : G Θ d mi pc L (.long x :: S) σ Q := by
  intro p e R s m args below meth c H locs cells slots QQ ls hC hroom hw hP hS hl hret
  have hd := dec_at hok hi hn
  have hc := chk_at hok hi
  simp only [chkI, Bool.and_eq_true, decide_eq_true_eq, brk] at hc
  subst hn
  exact lv_lstore_n hC.1 hC.2.1 hd hc.2.1 (lvL_has hl) hc.2.2 rfl (fun ls' h' => k p e R s m args below meth c H locs cells slots QQ ls' hC hroom hw hP hS (LR_st2 hl h') hret)
theorem r_lload {x : Int64} {kk : Nat} {a : Nat} {u : Nat × Int} (hok : mc.all (fun q => chkI mi q.1 q.2) = true) (j : Nat) (hi : mc[j]? = some (pc, .lload kk, nx, a, u)) (hn : pc + 2 = nx) (hg : lget L a = some (.long x)) (k : G Θ d mi nx L (.long x :: S) σ Q) : G Θ d mi pc L S σ Q := by
  intro p e R s m args below meth c H locs cells slots QQ ls hC hroom hw hP hS hl hret
  have hd := dec_at hok hi hn
  have hc := chk_at hok hi
  simp only [chkI, Bool.and_eq_true, decide_eq_true_eq, brk] at hc
  have hk : kk = a := hc.2
  subst hk
  subst hn
  exact lv_lload hC.1 hC.2.1 hd (hl.2.2 _ _ hg) (k p e R s m args below meth c H locs cells slots QQ ls hC hroom hw hP hS hl hret)
theorem r_lstore {x : Int64} {kk : Nat} {a : Nat} {u : Nat × Int} (hok : mc.all (fun q => chkI mi q.1 q.2) = true) (j : Nat) (hi : mc[j]? = some (pc, .lstore kk, nx, a, u)) (hn : pc + 2 = nx) (k : G Θ d mi nx (lst2 L a (.long x)) S σ Q) : G Θ d mi pc L (.long x :: S) σ Q := by
  intro p e R s m args below meth c H locs cells slots QQ ls hC hroom hw hP hS hl hret
  have hd := dec_at hok hi hn
  have hc := chk_at hok hi
  simp only [chkI, Bool.and_eq_true, decide_eq_true_eq, brk] at hc
  have hk : kk = a := hc.2.1
  subst hk
  subst hn
  exact lv_lstore hC.1 hC.2.1 hd (lvL_has hl) hc.2.2 rfl (fun ls' h' => k p e R s m args below meth c H locs cells slots QQ ls' hC hroom hw hP hS (LR_st2 hl h') hret)
theorem r_aload_n {r : Nat} {kk : Fin 4} {a : Nat} {u : Nat × Int} (hok : mc.all (fun q => chkI mi q.1 q.2) = true) (j : Nat) (hi : mc[j]? = some (pc, .aload_n kk, nx, a, u)) (hn : pc + 1 = nx) (hg : lget L a = some (.ref r)) (k : G Θ d mi nx L (.ref r :: S) σ Q) : G Θ d mi pc L S σ Q := by
  intro p e R s m args below meth c H locs cells slots QQ ls hC hroom hw hP hS hl hret
  have hd := dec_at hok hi hn
  have hc := chk_at hok hi
  simp only [chkI, Bool.and_eq_true, decide_eq_true_eq, brk] at hc
  subst hn
  exact lv_aload_n hC.1 hC.2.1 hd hc.2 (hl.2.2 a _ hg) (k p e R s m args below meth c H locs cells slots QQ ls hC hroom hw hP hS hl hret)
theorem r_astore_n {r : Nat} {kk : Fin 4} {a : Nat} {u : Nat × Int} (hok : mc.all (fun q => chkI mi q.1 q.2) = true) (j : Nat) (hi : mc[j]? = some (pc, .astore_n kk, nx, a, u)) (hn : pc + 1 = nx) (k : G Θ d mi nx (lst1 L a (.ref r)) S σ Q) : G Θ d mi pc L (.ref r :: S) σ Q := by
  intro p e R s m args below meth c H locs cells slots QQ ls hC hroom hw hP hS hl hret
  have hd := dec_at hok hi hn
  have hc := chk_at hok hi
  simp only [chkI, Bool.and_eq_true, decide_eq_true_eq, brk] at hc
  subst hn
  exact lv_astore_n hC.1 hC.2.1 hd hc.2.1 (lvL_has hl) hc.2.2 rfl (fun ls' h' => k p e R s m args below meth c H locs cells slots QQ ls' hC hroom hw hP hS (LR_st1 (v := .ref r) hl h') hret)
theorem r_aload {r : Nat} {kk : Nat} {a : Nat} {u : Nat × Int} (hok : mc.all (fun q => chkI mi q.1 q.2) = true) (j : Nat) (hi : mc[j]? = some (pc, .aload kk, nx, a, u)) (hn : pc + 2 = nx) (hg : lget L a = some (.ref r)) (k : G Θ d mi nx L (.ref r :: S) σ Q) : G Θ d mi pc L S σ Q := by
  intro p e R s m args below meth c H locs cells slots QQ ls hC hroom hw hP hS hl hret
  have hd := dec_at hok hi hn
  have hc := chk_at hok hi
  simp only [chkI, Bool.and_eq_true, decide_eq_true_eq, brk] at hc
  have hk : kk = a := hc.2
  subst hk
  subst hn
  exact lv_aload hC.1 hC.2.1 hd (hl.2.2 _ _ hg) (k p e R s m args below meth c H locs cells slots QQ ls hC hroom hw hP hS hl hret)
theorem r_astore {r : Nat} {kk : Nat} {a : Nat} {u : Nat × Int} (hok : mc.all (fun q => chkI mi q.1 q.2) = true) (j : Nat) (hi : mc[j]? = some (pc, .astore kk, nx, a, u)) (hn : pc + 2 = nx) (k : G Θ d mi nx (lst1 L a (.ref r)) S σ Q) : G Θ d mi pc L (.ref r :: S) σ Q := by
  intro p e R s m args below meth c H locs cells slots QQ ls hC hroom hw hP hS hl hret
  have hd := dec_at hok hi hn
  have hc := chk_at hok hi
  simp only [chkI, Bool.and_eq_true, decide_eq_true_eq, brk] at hc
  have hk : kk = a := hc.2.1
  subst hk
  subst hn
  exact lv_astore hC.1 hC.2.1 hd (lvL_has hl) hc.2.2 rfl (fun ls' h' => k p e R s m args below meth c H locs cells slots QQ ls' hC hroom hw hP hS (LR_st1 (v := .ref r) hl h') hret)
theorem r_iinc {x v : Int32} {kk a : Nat} {n : Int} {u : Nat × Int} (hok : mc.all (fun q => chkI mi q.1 q.2) = true) (j : Nat) (hi : mc[j]? = some (pc, .iinc kk n, nx, a, u)) (hn : pc + 3 = nx) (hg : lget L a = some (.int x)) (hv : x + Int32.ofInt n = v) (k : G Θ d mi nx (lst1 L a (.int v)) S σ Q) : G Θ d mi pc L S σ Q := by
  intro p e R s m args below meth c H locs cells slots QQ ls hC hroom hw hP hS hl hret
  have hd := dec_at hok hi hn
  have hc := chk_at hok hi
  simp only [chkI, Bool.and_eq_true, decide_eq_true_eq, brk] at hc
  have hk : kk = a := hc.2.1
  subst hk
  subst hn
  obtain ⟨q, hq⟩ := List.getElem?_of_mem (lvL_in hl hg)
  exact lv_iinc hC.1 hC.2.1 hd (lvL_has hl) hq hv hc.2.2 rfl (fun ls' h' => k p e R s m args below meth c H locs cells slots QQ ls' hC hroom hw hP hS (LR_st1 (v := .int v) hl h') hret)
theorem r_if_eq {x : Int32} {off : Int} {a : Nat} {u : Nat × Int} (hok : mc.all (fun q => chkI mi q.1 q.2) = true) (j : Nat) (hi : mc[j]? = some (pc, .ifCond .eq off, nx, a, u)) (hn : pc + 3 = nx) (kt : x = 0 → G Θ d mi a L S σ Q) (kf : ¬ x = 0 → G Θ d mi nx L S σ Q) : G Θ d mi pc L (.int x :: S) σ Q := by
  intro p e R s m args below meth c H locs cells slots QQ ls hC hroom hw hP hS hl hret
  have hd := dec_at hok hi hn
  have hc := chk_at hok hi
  simp only [chkI, Bool.and_eq_true, decide_eq_true_eq, brk] at hc
  subst hn
  exact lv_if_eq hC.1 hC.2.1 hd hc.2 (fun q => kt q p e R s m args below meth c H locs cells slots QQ ls hC hroom hw hP hS hl hret) (fun q => kf q p e R s m args below meth c H locs cells slots QQ ls hC hroom hw hP hS hl hret)
theorem r_icmp_eq {x y : Int32} {off : Int} {a : Nat} {u : Nat × Int} (hok : mc.all (fun q => chkI mi q.1 q.2) = true) (j : Nat) (hi : mc[j]? = some (pc, .if_icmp .eq off, nx, a, u)) (hn : pc + 3 = nx) (kt : x = y → G Θ d mi a L S σ Q) (kf : ¬ x = y → G Θ d mi nx L S σ Q) : G Θ d mi pc L (.int y :: .int x :: S) σ Q := by
  intro p e R s m args below meth c H locs cells slots QQ ls hC hroom hw hP hS hl hret
  have hd := dec_at hok hi hn
  have hc := chk_at hok hi
  simp only [chkI, Bool.and_eq_true, decide_eq_true_eq, brk] at hc
  subst hn
  exact lv_icmp_eq hC.1 hC.2.1 hd hc.2 (fun q => kt q p e R s m args below meth c H locs cells slots QQ ls hC hroom hw hP hS hl hret) (fun q => kf q p e R s m args below meth c H locs cells slots QQ ls hC hroom hw hP hS hl hret)
theorem r_if_ne {x : Int32} {off : Int} {a : Nat} {u : Nat × Int} (hok : mc.all (fun q => chkI mi q.1 q.2) = true) (j : Nat) (hi : mc[j]? = some (pc, .ifCond .ne off, nx, a, u)) (hn : pc + 3 = nx) (kt : ¬ x = 0 → G Θ d mi a L S σ Q) (kf : x = 0 → G Θ d mi nx L S σ Q) : G Θ d mi pc L (.int x :: S) σ Q := by
  intro p e R s m args below meth c H locs cells slots QQ ls hC hroom hw hP hS hl hret
  have hd := dec_at hok hi hn
  have hc := chk_at hok hi
  simp only [chkI, Bool.and_eq_true, decide_eq_true_eq, brk] at hc
  subst hn
  exact lv_if_ne hC.1 hC.2.1 hd hc.2 (fun q => kt q p e R s m args below meth c H locs cells slots QQ ls hC hroom hw hP hS hl hret) (fun q => kf q p e R s m args below meth c H locs cells slots QQ ls hC hroom hw hP hS hl hret)
theorem r_icmp_ne {x y : Int32} {off : Int} {a : Nat} {u : Nat × Int} (hok : mc.all (fun q => chkI mi q.1 q.2) = true) (j : Nat) (hi : mc[j]? = some (pc, .if_icmp .ne off, nx, a, u)) (hn : pc + 3 = nx) (kt : ¬ x = y → G Θ d mi a L S σ Q) (kf : x = y → G Θ d mi nx L S σ Q) : G Θ d mi pc L (.int y :: .int x :: S) σ Q := by
  intro p e R s m args below meth c H locs cells slots QQ ls hC hroom hw hP hS hl hret
  have hd := dec_at hok hi hn
  have hc := chk_at hok hi
  simp only [chkI, Bool.and_eq_true, decide_eq_true_eq, brk] at hc
  subst hn
  exact lv_icmp_ne hC.1 hC.2.1 hd hc.2 (fun q => kt q p e R s m args below meth c H locs cells slots QQ ls hC hroom hw hP hS hl hret) (fun q => kf q p e R s m args below meth c H locs cells slots QQ ls hC hroom hw hP hS hl hret)
theorem r_if_lt {x : Int32} {off : Int} {a : Nat} {u : Nat × Int} (hok : mc.all (fun q => chkI mi q.1 q.2) = true) (j : Nat) (hi : mc[j]? = some (pc, .ifCond .lt off, nx, a, u)) (hn : pc + 3 = nx) (kt : x < 0 → G Θ d mi a L S σ Q) (kf : ¬ x < 0 → G Θ d mi nx L S σ Q) : G Θ d mi pc L (.int x :: S) σ Q := by
  intro p e R s m args below meth c H locs cells slots QQ ls hC hroom hw hP hS hl hret
  have hd := dec_at hok hi hn
  have hc := chk_at hok hi
  simp only [chkI, Bool.and_eq_true, decide_eq_true_eq, brk] at hc
  subst hn
  exact lv_if_lt hC.1 hC.2.1 hd hc.2 (fun q => kt q p e R s m args below meth c H locs cells slots QQ ls hC hroom hw hP hS hl hret) (fun q => kf q p e R s m args below meth c H locs cells slots QQ ls hC hroom hw hP hS hl hret)
theorem r_icmp_lt {x y : Int32} {off : Int} {a : Nat} {u : Nat × Int} (hok : mc.all (fun q => chkI mi q.1 q.2) = true) (j : Nat) (hi : mc[j]? = some (pc, .if_icmp .lt off, nx, a, u)) (hn : pc + 3 = nx) (kt : x < y → G Θ d mi a L S σ Q) (kf : ¬ x < y → G Θ d mi nx L S σ Q) : G Θ d mi pc L (.int y :: .int x :: S) σ Q := by
  intro p e R s m args below meth c H locs cells slots QQ ls hC hroom hw hP hS hl hret
  have hd := dec_at hok hi hn
  have hc := chk_at hok hi
  simp only [chkI, Bool.and_eq_true, decide_eq_true_eq, brk] at hc
  subst hn
  exact lv_icmp_lt hC.1 hC.2.1 hd hc.2 (fun q => kt q p e R s m args below meth c H locs cells slots QQ ls hC hroom hw hP hS hl hret) (fun q => kf q p e R s m args below meth c H locs cells slots QQ ls hC hroom hw hP hS hl hret)
theorem r_if_ge {x : Int32} {off : Int} {a : Nat} {u : Nat × Int} (hok : mc.all (fun q => chkI mi q.1 q.2) = true) (j : Nat) (hi : mc[j]? = some (pc, .ifCond .ge off, nx, a, u)) (hn : pc + 3 = nx) (kt : 0 ≤ x → G Θ d mi a L S σ Q) (kf : ¬ 0 ≤ x → G Θ d mi nx L S σ Q) : G Θ d mi pc L (.int x :: S) σ Q := by
  intro p e R s m args below meth c H locs cells slots QQ ls hC hroom hw hP hS hl hret
  have hd := dec_at hok hi hn
  have hc := chk_at hok hi
  simp only [chkI, Bool.and_eq_true, decide_eq_true_eq, brk] at hc
  subst hn
  exact lv_if_ge hC.1 hC.2.1 hd hc.2 (fun q => kt q p e R s m args below meth c H locs cells slots QQ ls hC hroom hw hP hS hl hret) (fun q => kf q p e R s m args below meth c H locs cells slots QQ ls hC hroom hw hP hS hl hret)
theorem r_icmp_ge {x y : Int32} {off : Int} {a : Nat} {u : Nat × Int} (hok : mc.all (fun q => chkI mi q.1 q.2) = true) (j : Nat) (hi : mc[j]? = some (pc, .if_icmp .ge off, nx, a, u)) (hn : pc + 3 = nx) (kt : y ≤ x → G Θ d mi a L S σ Q) (kf : ¬ y ≤ x → G Θ d mi nx L S σ Q) : G Θ d mi pc L (.int y :: .int x :: S) σ Q := by
  intro p e R s m args below meth c H locs cells slots QQ ls hC hroom hw hP hS hl hret
  have hd := dec_at hok hi hn
  have hc := chk_at hok hi
  simp only [chkI, Bool.and_eq_true, decide_eq_true_eq, brk] at hc
  subst hn
  exact lv_icmp_ge hC.1 hC.2.1 hd hc.2 (fun q => kt q p e R s m args below meth c H locs cells slots QQ ls hC hroom hw hP hS hl hret) (fun q => kf q p e R s m args below meth c H locs cells slots QQ ls hC hroom hw hP hS hl hret)
theorem r_if_gt {x : Int32} {off : Int} {a : Nat} {u : Nat × Int} (hok : mc.all (fun q => chkI mi q.1 q.2) = true) (j : Nat) (hi : mc[j]? = some (pc, .ifCond .gt off, nx, a, u)) (hn : pc + 3 = nx) (kt : 0 < x → G Θ d mi a L S σ Q) (kf : ¬ 0 < x → G Θ d mi nx L S σ Q) : G Θ d mi pc L (.int x :: S) σ Q := by
  intro p e R s m args below meth c H locs cells slots QQ ls hC hroom hw hP hS hl hret
  have hd := dec_at hok hi hn
  have hc := chk_at hok hi
  simp only [chkI, Bool.and_eq_true, decide_eq_true_eq, brk] at hc
  subst hn
  exact lv_if_gt hC.1 hC.2.1 hd hc.2 (fun q => kt q p e R s m args below meth c H locs cells slots QQ ls hC hroom hw hP hS hl hret) (fun q => kf q p e R s m args below meth c H locs cells slots QQ ls hC hroom hw hP hS hl hret)
theorem r_icmp_gt {x y : Int32} {off : Int} {a : Nat} {u : Nat × Int} (hok : mc.all (fun q => chkI mi q.1 q.2) = true) (j : Nat) (hi : mc[j]? = some (pc, .if_icmp .gt off, nx, a, u)) (hn : pc + 3 = nx) (kt : y < x → G Θ d mi a L S σ Q) (kf : ¬ y < x → G Θ d mi nx L S σ Q) : G Θ d mi pc L (.int y :: .int x :: S) σ Q := by
  intro p e R s m args below meth c H locs cells slots QQ ls hC hroom hw hP hS hl hret
  have hd := dec_at hok hi hn
  have hc := chk_at hok hi
  simp only [chkI, Bool.and_eq_true, decide_eq_true_eq, brk] at hc
  subst hn
  exact lv_icmp_gt hC.1 hC.2.1 hd hc.2 (fun q => kt q p e R s m args below meth c H locs cells slots QQ ls hC hroom hw hP hS hl hret) (fun q => kf q p e R s m args below meth c H locs cells slots QQ ls hC hroom hw hP hS hl hret)
theorem r_if_le {x : Int32} {off : Int} {a : Nat} {u : Nat × Int} (hok : mc.all (fun q => chkI mi q.1 q.2) = true) (j : Nat) (hi : mc[j]? = some (pc, .ifCond .le off, nx, a, u)) (hn : pc + 3 = nx) (kt : x ≤ 0 → G Θ d mi a L S σ Q) (kf : ¬ x ≤ 0 → G Θ d mi nx L S σ Q) : G Θ d mi pc L (.int x :: S) σ Q := by
  intro p e R s m args below meth c H locs cells slots QQ ls hC hroom hw hP hS hl hret
  have hd := dec_at hok hi hn
  have hc := chk_at hok hi
  simp only [chkI, Bool.and_eq_true, decide_eq_true_eq, brk] at hc
  subst hn
  exact lv_if_le hC.1 hC.2.1 hd hc.2 (fun q => kt q p e R s m args below meth c H locs cells slots QQ ls hC hroom hw hP hS hl hret) (fun q => kf q p e R s m args below meth c H locs cells slots QQ ls hC hroom hw hP hS hl hret)
theorem r_icmp_le {x y : Int32} {off : Int} {a : Nat} {u : Nat × Int} (hok : mc.all (fun q => chkI mi q.1 q.2) = true) (j : Nat) (hi : mc[j]? = some (pc, .if_icmp .le off, nx, a, u)) (hn : pc + 3 = nx) (kt : x ≤ y → G Θ d mi a L S σ Q) (kf : ¬ x ≤ y → G Θ d mi nx L S σ Q) : G Θ d mi pc L (.int y :: .int x :: S) σ Q := by
  intro p e R s m args below meth c H locs cells slots QQ ls hC hroom hw hP hS hl hret
  have hd := dec_at hok hi hn
  have hc := chk_at hok hi
  simp only [chkI, Bool.and_eq_true, decide_eq_true_eq, brk] at hc
  subst hn
  exact lv_icmp_le hC.1 hC.2.1 hd hc.2 (fun q => kt q p e R s m args below meth c H locs cells slots QQ ls hC hroom hw hP hS hl hret) (fun q => kf q p e R s m args below meth c H locs cells slots QQ ls hC hroom hw hP hS hl hret)
theorem r_goto {off : Int} {a : Nat} {u : Nat × Int} (hok : mc.all (fun q => chkI mi q.1 q.2) = true) (j : Nat) (hi : mc[j]? = some (pc, .goto off, nx, a, u)) (hn : pc + 3 = nx) (k : G Θ d mi a L S σ Q) : G Θ d mi pc L S σ Q := by
  intro p e R s m args below meth c H locs cells slots QQ ls hC hroom hw hP hS hl hret
  have hd := dec_at hok hi hn
  have hc := chk_at hok hi
  simp only [chkI, Bool.and_eq_true, decide_eq_true_eq, brk] at hc
  subst hn
  exact lv_goto hC.1 hC.2.1 hd hc.2 (k p e R s m args below meth c H locs cells slots QQ ls hC hroom hw hP hS hl hret)
theorem r_iret {v : Int32} (hok : mc.all (fun q => chkI mi q.1 q.2) = true) (j : Nat) (hi : mc[j]? = some (pc, .ireturn, nx, u)) (hn : pc + 1 = nx) (hr : mrt mi = some .int) (k : Q (some (.int v)) σ) : G Θ d mi pc L [.int v] σ Q := by
  intro p e R s m args below meth c H locs cells slots QQ ls hC hroom hw hP hS hl hret
  have hd := dec_at hok hi hn
  exact hret pc ls H locs (some (.int v)) σ k hP hS (Or.inl ⟨v, rfl, hd, Or.inl hr⟩)
theorem r_lret {v : Int64} (hok : mc.all (fun q => chkI mi q.1 q.2) = true) (j : Nat) (hi : mc[j]? = some (pc, .lreturn, nx, u)) (hn : pc + 1 = nx) (hr : mrt mi = some .long) (k : Q (some (.long v)) σ) : G Θ d mi pc L [.long v] σ Q := by
  intro p e R s m args below meth c H locs cells slots QQ ls hC hroom hw hP hS hl hret
  have hd := dec_at hok hi hn
  exact hret pc ls H locs (some (.long v)) σ k hP hS (Or.inr (Or.inl ⟨v, rfl, hd, hr⟩))
theorem r_zret {v : Int32} (hok : mc.all (fun q => chkI mi q.1 q.2) = true) (j : Nat) (hi : mc[j]? = some (pc, .ireturn, nx, u)) (hn : pc + 1 = nx) (hr : mrt mi = some .boolean) (hv : v = 0 ∨ v = 1) (k : Q (some (.int v)) σ) : G Θ d mi pc L [.int v] σ Q := by
  intro p e R s m args below meth c H locs cells slots QQ ls hC hroom hw hP hS hl hret
  have hd := dec_at hok hi hn
  exact hret pc ls H locs (some (.int v)) σ k hP hS (Or.inl ⟨v, rfl, hd, Or.inr ⟨hr, hv⟩⟩)
theorem r_aret {v : Nat} {cn : String} (hok : mc.all (fun q => chkI mi q.1 q.2) = true) (j : Nat) (hi : mc[j]? = some (pc, .areturn, nx, u)) (hn : pc + 1 = nx) (hr : mrt mi = some (.object cn)) (k : Q (some (.ref v)) σ) : G Θ d mi pc L [.ref v] σ Q := by
  intro p e R s m args below meth c H locs cells slots QQ ls hC hroom hw hP hS hl hret
  have hd := dec_at hok hi hn
  exact hret pc ls H locs (some (.ref v)) σ k hP hS (Or.inr (Or.inr (Or.inl ⟨v, cn, rfl, hd, hr⟩)))
theorem r_ret (hok : mc.all (fun q => chkI mi q.1 q.2) = true) (j : Nat) (hi : mc[j]? = some (pc, .return_, nx, u)) (hn : pc + 1 = nx) (hr : mrt mi = none) (k : Q none σ) : G Θ d mi pc L [] σ Q := by
  intro p e R s m args below meth c H locs cells slots QQ ls hC hroom hw hP hS hl hret
  have hd := dec_at hok hi hn
  exact hret pc ls H locs none σ k hP hS (Or.inr (Or.inr (Or.inr ⟨rfl, hd, hr⟩)))
end rows
end
section
/-! ROWS of the logic: fields and arrays -/
theorem cls_at {ci : Nat} (h : ci < 13) : clss[ci]? = some ((clss.getD ci (RX0, TX0, 0)).1, tOf ci, (clss.getD ci (RX0, TX0, 0)).2.2) := by
  match ci, h with
  | 0, _ => rfl
  | 1, _ => rfl
  | 2, _ => rfl
  | 3, _ => rfl
  | 4, _ => rfl
  | 5, _ => rfl
  | 6, _ => rfl
  | 7, _ => rfl
  | 8, _ => rfl
  | 9, _ => rfl
  | 10, _ => rfl
  | 11, _ => rfl
  | 12, _ => rfl
  | n + 13, h => exact absurd h (by omega)
def layP : List (List Nat) := [[268, 270, 272, 274, 276, 278],
  [181, 183, 185, 187, 189, 191, 193, 195, 197, 199, 201, 203, 205],
  [115, 117, 119, 121, 123, 125],
  [396, 398, 400, 402, 404, 406, 408],
  [298, 300, 302, 304, 306, 308, 310, 312, 314],
  [337, 339],
  [229, 231, 233, 235, 237, 239, 241, 243, 245, 247, 249, 251],
  [359, 361, 363, 365, 367, 369, 371, 373, 375, 377],
  [97, 99],
  [431, 433, 435, 437, 439, 441, 443, 445, 447, 449],
  [60, 62, 64, 66, 68, 70, 72, 74, 76, 78, 80, 82],
  [472, 474, 476, 478, 480, 482, 484, 486, 488, 490, 492, 494, 496, 498, 500, 502, 504, 506],
  [1453, 1455, 1457, 1459, 1461, 1463, 1465, 1467, 1469, 1471, 1473, 1475, 1477, 1479, 1481, 1483, 1485, 1487, 1489, 1491, 1493, 1495, 1497, 1499, 1501, 1503, 1505, 1507, 1509, 1511, 1513, 1515, 1517, 1519, 1521, 1523, 1525, 1527, 1529, 1531, 1533, 1535, 1537, 1539, 1541, 1543, 1545, 1547, 1549, 1551, 1553, 1555, 1557, 1559, 1561, 1563, 1565, 1567, 1569, 1571, 1573, 1575, 1577, 1579, 1581, 1583, 1585, 1587, 1589, 1591, 1593, 1595, 1597, 1599, 1601, 1603, 1605, 1607, 1609, 1611, 1613, 1615, 1617, 1619, 1621, 1623, 1625, 1627]]
def wsB (ci : Nat) : Bool := (List.range (clss.getD ci (RX0, TX0, 0)).2.2).all fun k => decide (lw_tbl[npv + (layP.getD ci []).getD k 0]? = some (u_lay (clss.getD ci (RX0, TX0, 0)).1 (tOf ci) k)) && goodWord (u_lay (clss.getD ci (RX0, TX0, 0)).1 (tOf ci) k)
set_option maxRecDepth 100000 in
theorem wsB_0 : wsB 0 = true := by decide +kernel
set_option maxRecDepth 100000 in
theorem wsB_1 : wsB 1 = true := by decide +kernel
set_option maxRecDepth 100000 in
theorem wsB_2 : wsB 2 = true := by decide +kernel
set_option maxRecDepth 100000 in
theorem wsB_3 : wsB 3 = true := by decide +kernel
set_option maxRecDepth 100000 in
theorem wsB_4 : wsB 4 = true := by decide +kernel
set_option maxRecDepth 100000 in
theorem wsB_5 : wsB 5 = true := by decide +kernel
set_option maxRecDepth 100000 in
theorem wsB_6 : wsB 6 = true := by decide +kernel
set_option maxRecDepth 100000 in
theorem wsB_7 : wsB 7 = true := by decide +kernel
set_option maxRecDepth 100000 in
theorem wsB_8 : wsB 8 = true := by decide +kernel
set_option maxRecDepth 100000 in
theorem wsB_9 : wsB 9 = true := by decide +kernel
set_option maxRecDepth 100000 in
theorem wsB_10 : wsB 10 = true := by decide +kernel
set_option maxRecDepth 100000 in
theorem wsB_11 : wsB 11 = true := by decide +kernel
set_option maxRecDepth 100000 in
theorem wsB_12 : wsB 12 = true := by decide +kernel
theorem wsB_ok {ci : Nat} (h : ci < 13) : wsB ci = true := by
  match ci, h with
  | 0, _ => exact wsB_0
  | 1, _ => exact wsB_1
  | 2, _ => exact wsB_2
  | 3, _ => exact wsB_3
  | 4, _ => exact wsB_4
  | 5, _ => exact wsB_5
  | 6, _ => exact wsB_6
  | 7, _ => exact wsB_7
  | 8, _ => exact wsB_8
  | 9, _ => exact wsB_9
  | 10, _ => exact wsB_10
  | 11, _ => exact wsB_11
  | 12, _ => exact wsB_12
  | n + 13, h => exact absurd h (by omega)
theorem cls_ws {ci : Nat} (h : ci < 13) : ∀ w ∈ u_ws (clss.getD ci (RX0, TX0, 0)).1 (tOf ci) (clss.getD ci (RX0, TX0, 0)).2.2, w ∈ gt := by
  intro w hw
  obtain ⟨k, hk, rfl⟩ := List.mem_map.mp hw
  have h2 := List.all_eq_true.mp (wsB_ok h) k hk
  simp only [Bool.and_eq_true, decide_eq_true_eq] at h2
  exact gt_at h2.1 h2.2
theorem cls_ty {ci : Nat} (h : ci < 13) : ∀ k, k < (clss.getD ci (RX0, TX0, 0)).2.2 → parseFieldDescriptor (tOf ci k).2.2.1 = some (tyOf ci k) := by
  match ci, h with
  | 0, _ => exact tyX0_ok
  | 1, _ => exact tyX1_ok
  | 2, _ => exact tyX2_ok
  | 3, _ => exact tyX3_ok
  | 4, _ => exact tyX4_ok
  | 5, _ => exact tyX5_ok
  | 6, _ => exact tyX6_ok
  | 7, _ => exact tyX7_ok
  | 8, _ => exact tyX8_ok
  | 9, _ => exact tyX9_ok
  | 10, _ => exact tyX10_ok
  | 11, _ => exact tyX11_ok
  | 12, _ => exact tyX12_ok
  | n + 13, h => exact absurd h (by omega)
theorem cls_nm {ci : Nat} (h : ci < 13) : ∀ a, a < (clss.getD ci (RX0, TX0, 0)).2.2 → ∀ b, b < (clss.getD ci (RX0, TX0, 0)).2.2 → a ≠ b → (tOf ci a).2.1 ≠ (tOf ci b).2.1 := by
  match ci, h with
  | 0, _ => exact nmX0
  | 1, _ => exact nmX1
  | 2, _ => exact nmX2
  | 3, _ => exact nmX3
  | 4, _ => exact nmX4
  | 5, _ => exact nmX5
  | 6, _ => exact nmX6
  | 7, _ => exact nmX7
  | 8, _ => exact nmX8
  | 9, _ => exact nmX9
  | 10, _ => exact nmX10
  | 11, _ => exact nmX11
  | 12, _ => exact nmX12
  | n + 13, h => exact absurd h (by omega)
def szB (k : Nat) : Bool := decide ((shq k).1 < 13 → (shq k).2 = (clss.getD (shq k).1 (RX0, TX0, 0)).2.2)
theorem szB_ok : (List.range 185).all szB = true := by decide +kernel
theorem shp_sz {o ci : Nat} (h : (shq o).1 = ci) (hci : ci < 13) : (shq o).2 = (clss.getD ci (RX0, TX0, 0)).2.2 := by
  have hl : o < NLab := shp_lt (by rw [h]; omega)
  have h1 := List.all_eq_true.mp szB_ok o (List.mem_range.mpr hl)
  simp only [szB, decide_eq_true_eq] at h1
  rw [h] at h1
  exact h1 hci
def fkB (q : Nat × Nat) : Bool := decide (((fkq q.1 q.2).1 = 0 → tyOf q.1 q.2 = .int) ∧ ((fkq q.1 q.2).1 = 1 → tyOf q.1 q.2 = .long) ∧ ((fkq q.1 q.2).1 = 2 → tyOf q.1 q.2 = .boolean)) && (if (fkq q.1 q.2).1 = 3 then (match tyOf q.1 q.2 with | .object _ => true | .array _ => true | _ => false) else true)
def fkP : List (Nat × Nat) := (List.range 13).flatMap fun ci => (List.range (clss.getD ci (RX0, TX0, 0)).2.2).map fun k => (ci, k)
set_option maxRecDepth 100000 in
theorem fkB_ok : fkP.all fkB = true := by decide +kernel
theorem fk_ty {ci k : Nat} (hci : ci < 13) (hk : k < (clss.getD ci (RX0, TX0, 0)).2.2) : fkB (ci, k) = true :=
  List.all_eq_true.mp fkB_ok (ci, k) (List.mem_flatMap.mpr ⟨ci, List.mem_range.mpr hci, List.mem_map.mpr ⟨k, List.mem_range.mpr hk, rfl⟩⟩)
theorem ent_obj {Θ : Th} {σ : Mem} {o ci : Nat} (h : (shq o).1 = ci) (hci : ci < 13) : ent Θ σ o = .inr (ci, (List.range (shq o).2).map (fld Θ σ o ci)) := by
  unfold ent
  rw [h, if_neg (by omega), if_neg (by omega), if_neg (by omega), if_neg (by omega), if_neg (by omega)]
theorem obj_at {Θ : Th} {σ : Mem} {o ci : Nat} (h : (shq o).1 = ci) (hci : ci < 13) : (cel Θ σ)[o]? = some (Θ.2.2.1 o, .inr (ci, (List.range (shq o).2).map (fld Θ σ o ci))) := by
  rw [cel_at Θ σ (shp_lt (by rw [h]; omega)), ent_obj h hci]
theorem fld_set {Θ : Th} {σ σ' : Mem} {o ci n k : Nat} {v : Value} (hk : fld Θ σ' o ci k = v) (ho : ∀ j, j ≠ k → fld Θ σ' o ci j = fld Θ σ o ci j) : ((List.range n).map (fld Θ σ o ci)).set k v = (List.range n).map (fld Θ σ' o ci) := by
  apply List.ext_getElem?
  intro i
  rw [List.getElem?_set]
  by_cases hik : k = i
  · subst hik
    rw [if_pos rfl]
    by_cases hn : k < n
    · simp [hn, hk]
    · simp [hn]
  · rw [if_neg hik]
    simp only [List.getElem?_map]
    by_cases hn : i < n
    · simp [hn, ho i (fun h => hik h.symm)]
    · simp [hn]
theorem fld_neI {Θ : Th} {σ : Mem} {o k ci q : Nat} {v : Int32} (hq : q ≠ k) : fld Θ (sI σ o k v) o ci q = fld Θ σ o ci q := by
  have h1 : (sI σ o k v).1 o q = σ.1 o q := by simp [sI, hq]
  simp only [fld, h1]; rfl
theorem fld_neL {Θ : Th} {σ : Mem} {o k ci q : Nat} {v : Int64} (hq : q ≠ k) : fld Θ (sL σ o k v) o ci q = fld Θ σ o ci q := by
  have h1 : (sL σ o k v).2.1 o q = σ.2.1 o q := by simp [sL, hq]
  simp only [fld, h1]; rfl
theorem fld_neR {Θ : Th} {σ : Mem} {o k ci q : Nat} {v : Nat} (hq : q ≠ k) : fld Θ (sR σ o k v) o ci q = fld Θ σ o ci q := by
  have h1 : (sR σ o k v).2.2 o q = σ.2.2 o q := by simp [sR, hq]
  simp only [fld, h1]; rfl
section rows
variable {Θ : Th} {d mi pc nx : Nat} {mc : List (Nat × Ins)} {L : Lc} {S : List Value} {σ : Mem} {Q : Po} {u : Nat × Nat × Int}
theorem r_get {idx ci k o : Nat} {z : Int} {v : Value} (hok : mc.all (fun q => chkI mi q.1 q.2) = true) (j : Nat) (hi : mc[j]? = some (pc, .getfield idx, nx, ci, k, z)) (hn : pc + 3 = nx) (hs : (shq o).1 = ci) (hf : fld Θ σ o ci k = vv Θ v) (kk : G Θ d mi nx L (v :: S) σ Q) : G Θ d mi pc L (.ref o :: S) σ Q := by
  intro p e R s m args below meth c H locs cells slots QQ ls hC hroom hw hP hS hl hret
  have hd := dec_at hok hi hn
  have hc := chk_at hok hi
  simp only [chkI, Bool.and_eq_true, decide_eq_true_eq] at hc
  obtain ⟨-, ⟨hci, hk⟩, hlw⟩ := hc
  subst hn
  have hsz := shp_sz hs hci
  exact va_get hC.1 hC.2.1 hC.2.2.2.2.1 (cls_ws hci) hC.2.2.2.1 hw.1 hP o (obj_at hs hci) (cls_at hci) k hk (hC.2.2.2.2.1 _ (gt_at hlw rfl)) (fun x h => h)
    (v := vv Θ v) (by rw [List.getElem?_map, List.getElem?_range (by rw [hsz]; exact hk)]; exact congrArg some hf) hd (kk p e R s m args below meth c H locs cells slots QQ ls hC hroom hw hP hS hl hret)
theorem r_getI {idx ci k o : Nat} {z : Int} (hok : mc.all (fun q => chkI mi q.1 q.2) = true) (j : Nat) (hi : mc[j]? = some (pc, .getfield idx, nx, ci, k, z)) (hn : pc + 3 = nx) (hs : (shq o).1 = ci) (hf : (fkq ci k).1 = 0) (kk : G Θ d mi nx L (.int (σ.1 o k) :: S) σ Q) : G Θ d mi pc L (.ref o :: S) σ Q :=
  r_get hok j hi hn hs (v := .int (σ.1 o k)) (by simp only [fld, hf]; rfl) kk
theorem r_getZ {idx ci k o : Nat} {z : Int} (hok : mc.all (fun q => chkI mi q.1 q.2) = true) (j : Nat) (hi : mc[j]? = some (pc, .getfield idx, nx, ci, k, z)) (hn : pc + 3 = nx) (hs : (shq o).1 = ci) (hf : (fkq ci k).1 = 2) (kk : G Θ d mi nx L (.int (σ.1 o k) :: S) σ Q) : G Θ d mi pc L (.ref o :: S) σ Q :=
  r_get hok j hi hn hs (v := .int (σ.1 o k)) (by simp only [fld, hf]; rfl) kk
theorem r_getL {idx ci k o : Nat} {z : Int} (hok : mc.all (fun q => chkI mi q.1 q.2) = true) (j : Nat) (hi : mc[j]? = some (pc, .getfield idx, nx, ci, k, z)) (hn : pc + 3 = nx) (hs : (shq o).1 = ci) (hf : (fkq ci k).1 = 1) (kk : G Θ d mi nx L (.long (σ.2.1 o k) :: S) σ Q) : G Θ d mi pc L (.ref o :: S) σ Q :=
  r_get hok j hi hn hs (v := .long (σ.2.1 o k)) (by simp only [fld, hf]; rfl) kk
theorem r_getR {idx ci k o : Nat} {z : Int} (hok : mc.all (fun q => chkI mi q.1 q.2) = true) (j : Nat) (hi : mc[j]? = some (pc, .getfield idx, nx, ci, k, z)) (hn : pc + 3 = nx) (hs : (shq o).1 = ci) (hf : (fkq ci k).1 = 3) (h0 : σ.2.2 o k ≠ 0) (kk : G Θ d mi nx L (.ref (σ.2.2 o k) :: S) σ Q) : G Θ d mi pc L (.ref o :: S) σ Q :=
  r_get hok j hi hn hs (v := .ref (σ.2.2 o k)) (by simp only [fld, hf]; simp [h0, vv]) kk
theorem r_getF {idx ci k o w : Nat} {z : Int} (hok : mc.all (fun q => chkI mi q.1 q.2) = true) (j : Nat) (hi : mc[j]? = some (pc, .getfield idx, nx, ci, k, z)) (hn : pc + 3 = nx) (hs : (shq o).1 = ci) (hf : fkq ci k = (4, w)) (kk : G Θ d mi nx L (.ref (o + w) :: S) σ Q) : G Θ d mi pc L (.ref o :: S) σ Q :=
  r_get hok j hi hn hs (v := .ref (o + w)) (by simp only [fld, hf]; rfl) kk
theorem r_getA {idx ci k o w : Nat} {z : Int} (hok : mc.all (fun q => chkI mi q.1 q.2) = true) (j : Nat) (hi : mc[j]? = some (pc, .getfield idx, nx, ci, k, z)) (hn : pc + 3 = nx) (hs : (shq o).1 = ci) (hf : fkq ci k = (5, w)) (kk : G Θ d mi nx L (.ref w :: S) σ Q) : G Θ d mi pc L (.ref o :: S) σ Q :=
  r_get hok j hi hn hs (v := .ref w) (by simp only [fld, hf]; rfl) kk
theorem r_put {idx ci k o : Nat} {z : Int} {v : Value} {σ' : Mem} (hok : mc.all (fun q => chkI mi q.1 q.2) = true) (j : Nat) (hi : mc[j]? = some (pc, .putfield idx, nx, ci, k, z)) (hn : pc + 3 = nx) (hs : (shq o).1 = ci)
    (hnar : ci < 13 → k < (clss.getD ci (RX0, TX0, 0)).2.2 → narrow (tyOf ci k) (vv Θ v) = vv Θ v ∧ fits (tyOf ci k) (vv Θ v) = true) (hf : fld Θ σ' o ci k = vv Θ v) (hf2 : ∀ j, j ≠ k → fld Θ σ' o ci j = fld Θ σ o ci j) (hf3 : ∀ j, j ≠ o → ent Θ σ' j = ent Θ σ j)
    (kk : G Θ d mi nx L S σ' Q) : G Θ d mi pc L (v :: .ref o :: S) σ Q := by
  intro p e R s m args below meth c H locs cells slots QQ ls hC hroom hw hP hS hl hret
  have hd := dec_at hok hi hn
  have hc := chk_at hok hi
  simp only [chkI, Bool.and_eq_true, decide_eq_true_eq] at hc
  obtain ⟨-, ⟨⟨hci, hk⟩, hfin⟩, hlw⟩ := hc
  subst hn
  have hsz := shp_sz hs hci
  refine va_put hC.1 hC.2.1 hC.2.2.2.2.1 (cls_ws hci) (tyOf ci) (cls_ty hci) (cls_nm hci) hC.2.2.2.1 hw.1 hP (cel_D hw.2.1 σ) hS o (obj_at hs hci) (cls_at hci) k hk (hC.2.2.2.2.1 _ (gt_at hlw rfl)) (fun x h => h) hfin (cls_ty hci k hk) (hnar hci hk).1 (hnar hci hk).2
    (by rw [List.length_map, List.length_range, hsz]; exact hk) hd (fun H1 locs1 hP1 hD1 hS1 => ?_)
  have he : (cel Θ σ).set o (Θ.2.2.1 o, .inr (ci, ((List.range (shq o).2).map (fld Θ σ o ci)).set k (vv Θ v))) = cel Θ σ' :=
    cel_set (shp_lt (by rw [hs]; omega)) (by rw [ent_obj hs hci, fld_set hf hf2]) hf3
  rw [he] at hP1
  exact kk p e R s m args below meth c H1 locs1 cells slots QQ ls hC hroom hw hP1 hS1 hl hret
theorem r_putI {idx ci k o : Nat} {z : Int} {x : Int32} (hok : mc.all (fun q => chkI mi q.1 q.2) = true) (j : Nat) (hi : mc[j]? = some (pc, .putfield idx, nx, ci, k, z)) (hn : pc + 3 = nx) (hs : (shq o).1 = ci) (hf : (fkq ci k).1 = 0) (kk : G Θ d mi nx L S (sI σ o k x) Q) : G Θ d mi pc L (.int x :: .ref o :: S) σ Q :=
  r_put hok j hi hn hs (v := .int x) (fun h1 h2 => by
    have h := fk_ty h1 h2
    simp only [fkB, Bool.and_eq_true, decide_eq_true_eq] at h
    rw [h.1.1 hf]; exact ⟨rfl, rfl⟩) (by simp only [fld, hf, sI]; simp [vv]) (fun q hq => fld_neI hq) (fun q hq => ent_I hq) kk
theorem r_putZ {idx ci k o : Nat} {z : Int} {x : Int32} (hok : mc.all (fun q => chkI mi q.1 q.2) = true) (j : Nat) (hi : mc[j]? = some (pc, .putfield idx, nx, ci, k, z)) (hn : pc + 3 = nx) (hs : (shq o).1 = ci) (hf : (fkq ci k).1 = 2) (hx : x = 0 ∨ x = 1) (kk : G Θ d mi nx L S (sI σ o k x) Q) : G Θ d mi pc L (.int x :: .ref o :: S) σ Q :=
  r_put hok j hi hn hs (v := .int x) (fun h1 h2 => by
    have h := fk_ty h1 h2
    simp only [fkB, Bool.and_eq_true, decide_eq_true_eq] at h
    rw [h.1.2.2 hf]; rcases hx with rfl | rfl <;> exact ⟨rfl, rfl⟩) (by simp only [fld, hf, sI]; simp [vv]) (fun q hq => fld_neI hq) (fun q hq => ent_I hq) kk
theorem r_putL {idx ci k o : Nat} {z : Int} {x : Int64} (hok : mc.all (fun q => chkI mi q.1 q.2) = true) (j : Nat) (hi : mc[j]? = some (pc, .putfield idx, nx, ci, k, z)) (hn : pc + 3 = nx) (hs : (shq o).1 = ci) (hf : (fkq ci k).1 = 1) (kk : G Θ d mi nx L S (sL σ o k x) Q) : G Θ d mi pc L (.long x :: .ref o :: S) σ Q :=
  r_put hok j hi hn hs (v := .long x) (fun h1 h2 => by
    have h := fk_ty h1 h2
    simp only [fkB, Bool.and_eq_true, decide_eq_true_eq] at h
    rw [h.1.2.1 hf]; exact ⟨rfl, rfl⟩) (by simp only [fld, hf, sL]; simp [vv]) (fun q hq => fld_neL hq) (fun q hq => ent_L hq) kk
theorem r_putR {idx ci k o r : Nat} {z : Int} (hok : mc.all (fun q => chkI mi q.1 q.2) = true) (j : Nat) (hi : mc[j]? = some (pc, .putfield idx, nx, ci, k, z)) (hn : pc + 3 = nx) (hs : (shq o).1 = ci) (hf : (fkq ci k).1 = 3) (hr : r ≠ 0) (kk : G Θ d mi nx L S (sR σ o k r) Q) : G Θ d mi pc L (.ref r :: .ref o :: S) σ Q :=
  r_put hok j hi hn hs (v := .ref r) (fun h1 h2 => by
    have h := fk_ty h1 h2
    simp only [fkB, Bool.and_eq_true, decide_eq_true_eq, hf, if_true] at h
    have h2 := h.2
    revert h2
    cases tyOf ci k <;> intro h2 <;> first | (cases h2; done) | exact ⟨rfl, rfl⟩) (by simp only [fld, hf, sR]; simp [vv, hr]) (fun q hq => fld_neR hq) (fun q hq => ent_R hq) kk
/-! arrays -/
theorem ent20 {o n : Nat} (h : shq o = (20, n)) : ent Θ σ o = .inl (Θ.2.2.2.1 0, n, .inl (σ.1 o)) := by simp [ent, h]
theorem ent21 {o n : Nat} (h : shq o = (21, n)) : ent Θ σ o = .inl (Θ.2.2.2.1 1, n, .inr (.inl (σ.2.1 o))) := by simp [ent, h]
theorem ent22 {o n : Nat} (h : shq o = (22, n)) : ent Θ σ o = .inl (Θ.2.2.2.1 2, n, .inl (σ.1 o)) := by simp [ent, h]
theorem ent23 {o n : Nat} (h : shq o = (23, n)) : ent Θ σ o = .inl (Θ.2.2.2.1 3, n, .inl (σ.1 o)) := by simp [ent, h]
theorem ent24 {o n : Nat} (h : shq o = (24, n)) : ent Θ σ o = .inl (Θ.2.2.2.1 4, n, .inr (.inr (.inr (.inr (fun i => some (Θ.2.2.1 (47 + 10 * i))))))) := by simp [ent, h]
theorem shp_l {o a n : Nat} (h : shq o = (a, n)) (ha : a ≠ 99) : o < NLab := shp_lt (by rw [h]; exact ha)
theorem r_iald {o n : Nat} {i : Int32} (hok : mc.all (fun q => chkI mi q.1 q.2) = true) (j : Nat) (hi : mc[j]? = some (pc, .iaload, nx, u)) (hn : pc + 1 = nx) (hs : shq o = (20, n)) (hin : vp_in i n) (k : G Θ d mi nx L (.int (σ.1 o i.toNatClampNeg) :: S) σ Q) : G Θ d mi pc L (.int i :: .ref o :: S) σ Q := by
  intro p e R s m args below meth c H locs cells slots QQ ls hC hroom hw hP hS hl hret
  have hd := dec_at hok hi hn
  subst hn
  exact va_iald hC.1 hC.2.1 hw.1 hP o 0 (by rw [cel_at Θ σ (shp_l hs (by decide)), ent20 hs]) rfl hin hd (k p e R s m args below meth c H locs cells slots QQ ls hC hroom hw hP hS hl hret)
theorem r_lald {o n : Nat} {i : Int32} (hok : mc.all (fun q => chkI mi q.1 q.2) = true) (j : Nat) (hi : mc[j]? = some (pc, .laload, nx, u)) (hn : pc + 1 = nx) (hs : shq o = (21, n)) (hin : vp_in i n) (k : G Θ d mi nx L (.long (σ.2.1 o i.toNatClampNeg) :: S) σ Q) : G Θ d mi pc L (.int i :: .ref o :: S) σ Q := by
  intro p e R s m args below meth c H locs cells slots QQ ls hC hroom hw hP hS hl hret
  have hd := dec_at hok hi hn
  subst hn
  exact va_lald hC.1 hC.2.1 hw.1 hP o 1 (by rw [cel_at Θ σ (shp_l hs (by decide)), ent21 hs]) rfl hin hd (k p e R s m args below meth c H locs cells slots QQ ls hC hroom hw hP hS hl hret)
theorem r_bald {o n : Nat} {i : Int32} (hok : mc.all (fun q => chkI mi q.1 q.2) = true) (j : Nat) (hi : mc[j]? = some (pc, .baload, nx, u)) (hn : pc + 1 = nx) (hs : shq o = (22, n)) (hin : vp_in i n) (k : G Θ d mi nx L (.int (σ.1 o i.toNatClampNeg) :: S) σ Q) : G Θ d mi pc L (.int i :: .ref o :: S) σ Q := by
  intro p e R s m args below meth c H locs cells slots QQ ls hC hroom hw hP hS hl hret
  have hd := dec_at hok hi hn
  subst hn
  exact va_bald hC.1 hC.2.1 hw.1 hP o 2 (by rw [cel_at Θ σ (shp_l hs (by decide)), ent22 hs]) rfl hin hd (k p e R s m args below meth c H locs cells slots QQ ls hC hroom hw hP hS hl hret)
theorem r_zald {o n : Nat} {i : Int32} (hok : mc.all (fun q => chkI mi q.1 q.2) = true) (j : Nat) (hi : mc[j]? = some (pc, .baload, nx, u)) (hn : pc + 1 = nx) (hs : shq o = (23, n)) (hin : vp_in i n) (k : G Θ d mi nx L (.int (σ.1 o i.toNatClampNeg) :: S) σ Q) : G Θ d mi pc L (.int i :: .ref o :: S) σ Q := by
  intro p e R s m args below meth c H locs cells slots QQ ls hC hroom hw hP hS hl hret
  have hd := dec_at hok hi hn
  subst hn
  exact va_zald hC.1 hC.2.1 hw.1 hP o 3 (by rw [cel_at Θ σ (shp_l hs (by decide)), ent23 hs]) rfl hin hd (k p e R s m args below meth c H locs cells slots QQ ls hC hroom hw hP hS hl hret)
theorem r_aald {o n : Nat} {i : Int32} (hok : mc.all (fun q => chkI mi q.1 q.2) = true) (j : Nat) (hi : mc[j]? = some (pc, .aaload, nx, u)) (hn : pc + 1 = nx) (hs : shq o = (24, n)) (hin : vp_in i n) (k : G Θ d mi nx L (.ref (47 + 10 * i.toNatClampNeg) :: S) σ Q) : G Θ d mi pc L (.int i :: .ref o :: S) σ Q := by
  intro p e R s m args below meth c H locs cells slots QQ ls hC hroom hw hP hS hl hret
  have hd := dec_at hok hi hn
  subst hn
  exact va_aldq (f := fun i => some (Θ.2.2.1 (47 + 10 * i))) hC.1 hC.2.1 hw.1 hP o 4 (by rw [cel_at Θ σ (shp_l hs (by decide)), ent24 hs]) rfl hin hd (k p e R s m args below meth c H locs cells slots QQ ls hC hroom hw hP hS hl hret)
theorem r_iast {o n : Nat} {i x : Int32} (hok : mc.all (fun q => chkI mi q.1 q.2) = true) (j : Nat) (hi : mc[j]? = some (pc, .iastore, nx, u)) (hn : pc + 1 = nx) (hs : shq o = (20, n)) (hin : vp_in i n) (k : G Θ d mi nx L S (sI σ o i.toNatClampNeg x) Q) : G Θ d mi pc L (.int x :: .int i :: .ref o :: S) σ Q := by
  intro p e R s m args below meth c H locs cells slots QQ ls hC hroom hw hP hS hl hret
  have hd := dec_at hok hi hn
  subst hn
  refine va_iast hC.1 hC.2.1 hw.1 hP (cel_D hw.2.1 σ) hS o 0 (by rw [cel_at Θ σ (shp_l hs (by decide)), ent20 hs]) rfl hin hd (fun H1 locs1 hP1 hD1 hS1 => ?_)
  have he : (cel Θ σ).set o (Θ.2.2.1 o, .inl (Θ.2.2.2.1 0, n, .inl (upd (σ.1 o) i.toNatClampNeg x))) = cel Θ (sI σ o i.toNatClampNeg x) :=
    cel_set (shp_l hs (by decide)) (by rw [ent20 hs]; congr 4; funext q; simp [sI, upd]) (fun q hq => ent_I hq)
  rw [he] at hP1
  exact k p e R s m args below meth c H1 locs1 cells slots QQ ls hC hroom hw hP1 hS1 hl hret
theorem r_bast {o n : Nat} {i x : Int32} (hok : mc.all (fun q => chkI mi q.1 q.2) = true) (j : Nat) (hi : mc[j]? = some (pc, .bastore, nx, u)) (hn : pc + 1 = nx) (hs : shq o = (22, n)) (hin : vp_in i n) (k : G Θ d mi nx L S (sI σ o i.toNatClampNeg (vp_nar .byte x)) Q) : G Θ d mi pc L (.int x :: .int i :: .ref o :: S) σ Q := by
  intro p e R s m args below meth c H locs cells slots QQ ls hC hroom hw hP hS hl hret
  have hd := dec_at hok hi hn
  subst hn
  refine va_bast hC.1 hC.2.1 hw.1 hP (cel_D hw.2.1 σ) hS o 2 (by rw [cel_at Θ σ (shp_l hs (by decide)), ent22 hs]) rfl hin hd (fun H1 locs1 hP1 hD1 hS1 => ?_)
  have he : (cel Θ σ).set o (Θ.2.2.1 o, .inl (Θ.2.2.2.1 2, n, .inl (upd (σ.1 o) i.toNatClampNeg (vp_nar .byte x)))) = cel Θ (sI σ o i.toNatClampNeg (vp_nar .byte x)) :=
    cel_set (shp_l hs (by decide)) (by rw [ent22 hs]; congr 4; funext q; simp [sI, upd]) (fun q hq => ent_I hq)
  rw [he] at hP1
  exact k p e R s m args below meth c H1 locs1 cells slots QQ ls hC hroom hw hP1 hS1 hl hret
theorem r_zast {o n : Nat} {i x : Int32} (hok : mc.all (fun q => chkI mi q.1 q.2) = true) (j : Nat) (hi : mc[j]? = some (pc, .bastore, nx, u)) (hn : pc + 1 = nx) (hs : shq o = (23, n)) (hin : vp_in i n) (k : G Θ d mi nx L S (sI σ o i.toNatClampNeg (vp_nar .boolean x)) Q) : G Θ d mi pc L (.int x :: .int i :: .ref o :: S) σ Q := by
  intro p e R s m args below meth c H locs cells slots QQ ls hC hroom hw hP hS hl hret
  have hd := dec_at hok hi hn
  subst hn
  refine va_zast hC.1 hC.2.1 hw.1 hP (cel_D hw.2.1 σ) hS o 3 (by rw [cel_at Θ σ (shp_l hs (by decide)), ent23 hs]) rfl hin hd (fun H1 locs1 hP1 hD1 hS1 => ?_)
  have he : (cel Θ σ).set o (Θ.2.2.1 o, .inl (Θ.2.2.2.1 3, n, .inl (upd (σ.1 o) i.toNatClampNeg (vp_nar .boolean x)))) = cel Θ (sI σ o i.toNatClampNeg (vp_nar .boolean x)) :=
    cel_set (shp_l hs (by decide)) (by rw [ent23 hs]; congr 4; funext q; simp [sI, upd]) (fun q hq => ent_I hq)
  rw [he] at hP1
  exact k p e R s m args below meth c H1 locs1 cells slots QQ ls hC hroom hw hP1 hS1 hl hret
theorem r_last {o n : Nat} {i : Int32} {x : Int64} (hok : mc.all (fun q => chkI mi q.1 q.2) = true) (j : Nat) (hi : mc[j]? = some (pc, .lastore, nx, u)) (hn : pc + 1 = nx) (hs : shq o = (21, n)) (hin : vp_in i n) (k : G Θ d mi nx L S (sL σ o i.toNatClampNeg x) Q) : G Θ d mi pc L (.long x :: .int i :: .ref o :: S) σ Q := by
  intro p e R s m args below meth c H locs cells slots QQ ls hC hroom hw hP hS hl hret
  have hd := dec_at hok hi hn
  subst hn
  refine va_last hC.1 hC.2.1 hw.1 hP (cel_D hw.2.1 σ) hS o 1 (by rw [cel_at Θ σ (shp_l hs (by decide)), ent21 hs]) rfl hin hd (fun H1 locs1 hP1 hD1 hS1 => ?_)
  have he : (cel Θ σ).set o (Θ.2.2.1 o, .inl (Θ.2.2.2.1 1, n, .inr (.inl (vp_updL (σ.2.1 o) i.toNatClampNeg x)))) = cel Θ (sL σ o i.toNatClampNeg x) :=
    cel_set (shp_l hs (by decide)) (by rw [ent21 hs]; congr 5; funext q; simp [sL, vp_updL]) (fun q hq => ent_L hq)
  rw [he] at hP1
  exact k p e R s m args below meth c H1 locs1 cells slots QQ ls hC hroom hw hP1 hS1 hl hret
theorem r_alen20 {o n : Nat} {v : Int32} (hok : mc.all (fun q => chkI mi q.1 q.2) = true) (j : Nat) (hi : mc[j]? = some (pc, .arraylength, nx, u)) (hn : pc + 1 = nx) (hs : shq o = (20, n)) (hv : Int32.ofNat n = v) (k : G Θ d mi nx L (.int v :: S) σ Q) : G Θ d mi pc L (.ref o :: S) σ Q := by
  intro p e R s m args below meth c H locs cells slots QQ ls hC hroom hw hP hS hl hret
  have hd := dec_at hok hi hn
  subst hn
  exact va_alen hC.1 hC.2.1 hw.1 hP o 0 (by rw [cel_at Θ σ (shp_l hs (by decide)), ent20 hs]) rfl hv hd (k p e R s m args below meth c H locs cells slots QQ ls hC hroom hw hP hS hl hret)
theorem r_alen23 {o n : Nat} {v : Int32} (hok : mc.all (fun q => chkI mi q.1 q.2) = true) (j : Nat) (hi : mc[j]? = some (pc, .arraylength, nx, u)) (hn : pc + 1 = nx) (hs : shq o = (23, n)) (hv : Int32.ofNat n = v) (k : G Θ d mi nx L (.int v :: S) σ Q) : G Θ d mi pc L (.ref o :: S) σ Q := by
  intro p e R s m args below meth c H locs cells slots QQ ls hC hroom hw hP hS hl hret
  have hd := dec_at hok hi hn
  subst hn
  exact va_alen hC.1 hC.2.1 hw.1 hP o 3 (by rw [cel_at Θ σ (shp_l hs (by decide)), ent23 hs]) rfl hv hd (k p e R s m args below meth c H locs cells slots QQ ls hC hroom hw hP hS hl hret)
/-! the script, the words that are no names -/
theorem r_sld {i : Int32} (hok : mc.all (fun q => chkI mi q.1 q.2) = true) (j : Nat) (hi : mc[j]? = some (pc, .iaload, nx, u)) (hn : pc + 1 = nx) (hin : vp_in i Θ.2.2.2.2.1) (k : G Θ d mi nx L (.int (Θ.2.2.2.2.2 i.toNatClampNeg) :: S) σ Q) : G Θ d mi pc L (.int i :: .ref 1000 :: S) σ Q := by
  intro p e R s m args below meth c H locs cells slots QQ ls hC hroom hw hP hS hl hret
  have hd := dec_at hok hi hn
  subst hn
  exact va_sld hC.1 hC.2.1 hw.2.2.1.1 hw.2.2.1.2.1 hw.2.2.1.2.2 hS hin hd (k p e R s m args below meth c H locs cells slots QQ ls hC hroom hw hP hS hl hret)
theorem r_slen (hok : mc.all (fun q => chkI mi q.1 q.2) = true) (j : Nat) (hi : mc[j]? = some (pc, .arraylength, nx, u)) (hn : pc + 1 = nx) (k : G Θ d mi nx L (.int (Int32.ofNat Θ.2.2.2.2.1) :: S) σ Q) : G Θ d mi pc L (.ref 1000 :: S) σ Q := by
  intro p e R s m args below meth c H locs cells slots QQ ls hC hroom hw hP hS hl hret
  have hd := dec_at hok hi hn
  subst hn
  exact va_slen hC.1 hC.2.1 hw.2.2.1.1 hw.2.2.1.2.1 hw.2.2.1.2.2 hS hd (k p e R s m args below meth c H locs cells slots QQ ls hC hroom hw hP hS hl hret)
theorem r_nald {i : Int32} (hok : mc.all (fun q => chkI mi q.1 q.2) = true) (j : Nat) (hi : mc[j]? = some (pc, .laload, nx, u)) (hn : pc + 1 = nx) (hin : vp_in i 16) (k : G Θ d mi nx L (.long (nnV i.toNatClampNeg) :: S) σ Q) : G Θ d mi pc L (.int i :: .ref 1001 :: S) σ Q := by
  intro p e R s m args below meth c H locs cells slots QQ ls hC hroom hw hP hS hl hret
  have hd := dec_at hok hi hn
  subst hn
  exact va_tl hC.1 hC.2.1 hw.2.2.2.2.1 hS hin rfl hd (k p e R s m args below meth c H locs cells slots QQ ls hC hroom hw hP hS hl hret)
theorem r_nlen (hok : mc.all (fun q => chkI mi q.1 q.2) = true) (j : Nat) (hi : mc[j]? = some (pc, .arraylength, nx, u)) (hn : pc + 1 = nx) (k : G Θ d mi nx L (.int 16 :: S) σ Q) : G Θ d mi pc L (.ref 1001 :: S) σ Q := by
  intro p e R s m args below meth c H locs cells slots QQ ls hC hroom hw hP hS hl hret
  have hd := dec_at hok hi hn
  subst hn
  exact va_tlen hC.1 hC.2.1 hw.2.2.2.2.1 hS rfl hd (k p e R s m args below meth c H locs cells slots QQ ls hC hroom hw hP hS hl hret)
end rows
end
section
/-! ROWS of the logic: a method's contract out of its body; calls; copies -/
theorem Ws_moved {Θ : Th} {s U : State} {H : Heap} {locs : List Loc} (hw : Ws Θ s) (hS : va_S (AA Θ) s.heap H locs) (hU : U.heap = H) (hvm : s.vm.Alike U.vm) (hR : Wx Θ s → Wx Θ U) : Ws Θ U := by
  obtain ⟨hK, hI, ⟨hX, hb, hA⟩, hZ, hT, hV, hW, hY⟩ := hw
  have hk : ∀ a : Nat, a < s.heap.size → ¬ AA Θ a → H[a]? = s.heap[a]? := hS.2.1
  refine ⟨va_K.moved hvm hK, hI, ⟨?_, ?_, hA⟩, ?_, ?_, hR hV, ?_, ?_⟩
  · rw [hU]; exact va_X.moved hvm (hX.kept (hk _ hb hA))
  · rw [hU]; exact Nat.lt_of_lt_of_le hb hS.1
  · rw [hU]; exact va_Z.moved hvm (hZ.kept hk)
  · rw [hU]; exact va_T.moved hvm (hT.kept hk)
  · rw [hU]; exact vk_S.moved hvm (hW.kept hk)
  · rw [hU]; exact va_Z.moved hvm (hY.kept hk)
def entA : List Value → Lc
  | [] => []
  | v :: t => if v.category = 2 then some v :: none :: entA t else some v :: entA t
def entL (as : List Value) (n : Nat) : Lc := entA as ++ List.replicate (n - (entA as).length) none
theorem lget_app : ∀ (A B : Lc) (i : Nat) (v : Value), lget (A ++ B) i = some v → lget A i = some v ∨ ∃ k, lget B k = some v
  | [], B, i, v, h => Or.inr ⟨i, h⟩
  | x :: t, B, 0, v, h => Or.inl h
  | x :: t, B, i + 1, v, h => lget_app t B i v h
theorem lget_none : ∀ (n i : Nat) (v : Value), lget (List.replicate n none) i ≠ some v
  | 0, _, _ => fun h => by cases h
  | n + 1, 0, _ => fun h => by cases h
  | n + 1, i + 1, v => lget_none n i v
theorem entA_get (Θ : Th) : ∀ (as : List Value) (i j : Nat) (v : Value), lget (entA as) i = some v → (j + i, vv Θ v) ∈ lv_args j (as.map (vv Θ))
  | [], i, j, v, h => by cases h
  | w :: t, i, j, v, h => by
    rw [entA] at h
    show (j + i, vv Θ v) ∈ (j, vv Θ w) :: lv_args (if (vv Θ w).category = 2 then j + 2 else j + 1) (t.map (vv Θ))
    rw [vv_cat]
    by_cases hc : w.category = 2
    · rw [if_pos hc] at h ⊢
      match i, h with
      | 0, h => cases h; exact List.mem_cons_self
      | 1, h => cases h
      | i + 2, h =>
        have := entA_get Θ t i (j + 2) v h
        rw [show j + (i + 2) = j + 2 + i by omega]
        exact List.mem_cons_of_mem _ this
    · rw [if_neg hc] at h ⊢
      match i, h with
      | 0, h => cases h; exact List.mem_cons_self
      | i + 1, h =>
        have := entA_get Θ t i (j + 1) v h
        rw [show j + (i + 1) = j + 1 + i by omega]
        exact List.mem_cons_of_mem _ this
theorem entA_len (Θ : Th) : ∀ as : List Value, (lg_sl (as.map (vv Θ))).length = (entA as).length
  | [] => rfl
  | w :: t => by
    have ih := entA_len Θ t
    rw [lg_sl] at ih ⊢
    rw [List.map_cons, List.flatMap_cons, List.length_append, ih, entA, vv_cat]
    by_cases hc : w.category = 2
    · rw [if_pos hc, if_pos hc]; simp only [List.length_cons, List.length_nil]; omega
    · rw [if_neg hc, if_neg hc]; simp only [List.length_cons, List.length_nil]; omega
theorem chkM_of {mi : Nat} (hM : chkM mi = true) : (mrow mi).1.cls = cnm (moc mi) ∧ cnm (moc mi) ≠ "java/lang/invoke/MethodHandle" ∧ cnm (moc mi) ≠ "java/lang/invoke/VarHandle" ∧ (parseMethodDescriptor (mrow mi).1.desc).map (fun d => d.parameters.length) = some (mnp mi) ∧ plainName (cnm (moc mi)) = true ∧ mml mi ≤ 40 ∧
    Cond.code (mrow mi).1 (mby mi) (mml mi) (mrt mi) ∈ gt ∧ Cond.initialized (cnm (moc mi)) ∈ gt ∧ (if mst mi = true then Cond.static (mrow mi).1 ∈ gt else Cond.instanceMethod (mrow mi).1 ∈ gt ∧ Cond.selects (cnm (moc mi)) (mrow mi).1 (mrow mi).1 ∈ gt) := by
  simp only [chkM, Bool.and_eq_true, decide_eq_true_eq] at hM
  obtain ⟨⟨⟨⟨⟨⟨⟨⟨h1, h2⟩, h3⟩, h4⟩, h5⟩, h6⟩, h7⟩, h8⟩, h9⟩ := hM
  refine ⟨h1, h2, h3, h4, h5, h6, gt_at h7 rfl, gt_at h8 rfl, ?_⟩
  by_cases hs : mst mi = true
  · rw [if_pos hs]
    rw [if_pos (show (mrow mi).2.2.2.2.2.2.1 = true from hs), decide_eq_true_eq] at h9
    exact gt_at h9 rfl
  · rw [if_neg hs]
    rw [if_neg (show ¬ (mrow mi).2.2.2.2.2.2.1 = true from hs), Bool.and_eq_true, decide_eq_true_eq, decide_eq_true_eq] at h9
    exact ⟨gt_at h9.1 rfl, gt_at h9.2 rfl⟩
theorem C_of_G {Θ : Th} {d mi : Nat} {as : List Value} {σ : Mem} {Q : Po} {L0 : Lc} (hM : chkM mi = true) (hlen : (entA as).length ≤ mml mi) (hL : entL as (mml mi) = L0) (h : G Θ d mi 0 L0 [] σ Q) : Cm Θ d mi as σ Q := by
  obtain ⟨h1, h2, h3, h4, h5, h6, h7, h8, h9⟩ := chkM_of hM
  refine Met.ofW (cc := mby mi) (maxL := mml mi) (ret := mrt mi) (by rw [h1]; exact h5) rfl ?_
  intro p e s m args below meth c s₁ B hml hv
  obtain ⟨rfl, hw, hP⟩ := hv
  have hts0 : ∀ w ∈ wds mi, w.before (as.map (vv Θ)).toArray s = true := atoms_spec (ws := wds mi) B.pre
  have hts : ∀ w ∈ gt, w.before (as.map (vv Θ)).toArray s = true := fun w hw => hts0 w (List.mem_cons_of_mem _ hw)
  have hown : s.vm.findClass (cnm (moc mi)) = some m.cls := by rw [← h1]; exact findClass_of_methodNamed B.named
  have hlocks := B.notSynchronized
  have hr := B.returns
  have hl := lv_entry (as.map (vv Θ)) (n := mml mi) (by rw [entA_len]; exact hlen)
  rw [lg_entry_eq]
  generalize (lg_sl (as.map (vv Θ)) ++ List.replicate (mml mi - (lg_sl (as.map (vv Θ))).length) Slot.unset).toArray = ls at hl ⊢
  refine h p e (rmd d) s m _ below meth c s.heap [] 0 0 _ ls ⟨B.exec, B.bytes, hml, hown, hts, Nat.le_refl _, Nat.le_refl _⟩ ⟨Nat.le_refl _, Nat.le_refl _⟩ hw hP va_S.rf ⟨hl.1, hl.2.1, fun i v hg => ?_⟩ ?_
  · rw [← hL, entL] at hg
    rcases lget_app _ _ i v hg with h | ⟨k, h⟩
    · have := entA_get Θ as i 0 v h
      rw [Nat.zero_add] at this
      exact hl.2.2 _ this
    · exact absurd h (lget_none _ _ _)
  · intro pc' ls' H' locs' r σ' hq hP' hS' hra
    have hQ : ∀ t : State, t.heap = H' → s.WarmedH t.vm → ∃ (r' : Option Value) (σ'' : Mem), Outcome.returned (r.map (vv Θ)) = .returned (r'.map (vv Θ)) ∧ Q r' σ'' ∧ va_P Θ.2.1 clss (cel Θ σ'') t.heap ∧ va_F (AA Θ) s t := fun t ht _ => ⟨r, σ', rfl, hq, by rw [ht]; exact hP', hS'.F ht⟩
    rcases hra with ⟨v, rfl, hdec, hrt⟩ | ⟨v, rfl, hdec, hrt⟩ | ⟨k, n, rfl, hdec, hrt⟩ | ⟨rfl, hdec, hrt⟩
    · rcases hrt with hrt | ⟨hrt, hv⟩
      · exact W.iret B.exec B.bytes (by rw [hr, hrt]) hQ hS'.2.2 hdec hlocks
      · exact W.zret (ty := .boolean) B.exec B.bytes (by rw [hr, hrt]) (by rcases hv with rfl | rfl <;> rfl) hQ hS'.2.2 hdec hlocks
    · exact W.lret B.exec B.bytes (by rw [hr, hrt]) hQ hS'.2.2 hdec hlocks
    · exact W.aret (rt := .object n) B.exec B.bytes (by rw [hr, hrt]) (Or.inl ⟨n, rfl⟩) (Or.inr ⟨_, rfl⟩) hQ hS'.2.2 hdec hlocks
    · exact W.vret B.exec B.bytes (by rw [hr, hrt]) hQ hS'.2.2 hdec hlocks
section calls
variable {Θ : Th} {d mi pc nx : Nat} {mc : List (Nat × Ins)} {L : Lc} {S S0 : List Value} {σ : Mem} {Q : Po} {u : Nat × Nat × Int}
theorem call_any {p : Program} {e : Env} {R : Room} {s : State} {m : MethodId} {args : Array Value} {below : List Frame} {meth : Method} {c : Code} {H : Heap} {locs : List Loc} {cells slots : Nat} {QQ : State → Prop} {ls : Array Slot} {a : Array Value} {st0 : List Value} {q : Po}
    (hr : va_Run p Θ.1 e R s m args below meth c H locs cells slots 0 0 (F0 m pc ls st0) (S.map (vv Θ)) ((fun (_ : Array Value) (st : State) (oc : Outcome) (t : State) => ∃ (r : Option Value) (σ' : Mem), oc = .returned (r.map (vv Θ)) ∧ q r σ' ∧ va_P Θ.2.1 clss (cel Θ σ') t.heap ∧ va_F (AA Θ) st t) a) (AA Θ))
    (hS : va_S (AA Θ) s.heap H locs)
    (kk : ∀ (r : Option Value) (σ' : Mem) (H1 : Heap) (locs1 : List Loc), q r σ' → va_P Θ.2.1 clss (cel Θ σ') H1 → va_S (AA Θ) s.heap H1 locs1 → W p Θ.1 e R s m args below meth c H1 locs1 cells slots QQ (F0 m (pc + 3) ls ((r.toList ++ S).map (vv Θ)))) :
    W p Θ.1 e R s m args below meth c H locs cells slots QQ (F0 m pc ls st0) := by
  intro T hT X
  obtain ⟨v, st₀, t, T', L', h0, X', hL, e1, e2, ⟨r, σ', hv, hq, hP1, hz, hk⟩, st⟩ := hr T hT X
  cases hv
  rw [h0] at hz hk
  have hS1 : va_S (AA Θ) s.heap T'.heap (locs ++ L') := ⟨Nat.le_trans hS.1 (by rw [e1]; exact hz), fun q h1 h2 => by rw [e1, hk q (Nat.lt_of_lt_of_le h1 hS.1) h2]; exact hS.2.1 q h1 h2, fun q hq => by
    rcases List.mem_append.mp hq with h | h
    · exact hS.2.2 q h
    · exact hL q h⟩
  obtain ⟨t2, a1, b1⟩ := kk r σ' T'.heap (locs ++ L') hq (by rw [e1]; exact hP1) hS1 T' rfl X'
  refine ⟨t2, st t2 ?_, b1⟩
  rw [show (Option.map (vv Θ) r).toList ++ S.map (vv Θ) = (r.toList ++ S).map (vv Θ) by cases r <;> simp]
  exact a1
theorem Pc_blind {as : List Value} : FrameBlind (va_Pc (as.map (vv Θ)) (fun U => Ws Θ U ∧ va_P Θ.2.1 clss (cel Θ σ) U.heap)) := by
  intro a U g mk q
  obtain ⟨q0, q1, q2⟩ := q
  exact ⟨q0, Ws_moved (H := U.heap) (locs := []) q1 va_S.rf rfl (Vm.Alike.refl U.vm) (fun h => ⟨vk_R.same (u := U) rfl h.1, va_Nw.same (u := U) rfl rfl h.2⟩), q2⟩
theorem r_invV {idx mj b o : Nat} {z : Int} {as : List Value} {q : Po} (hok : mc.all (fun q => chkI mi q.1 q.2) = true) (j : Nat) (hi : mc[j]? = some (pc, .invokevirtual idx, nx, mj, b, z)) (hn : pc + 3 = nx) (h9 : mj < 9000) (hM : chkM mj = true) (hst : mst mj = false) (hso : (shq o).1 = moc mj) (hco : moc mj < 13) (hcn : (clss.getD (moc mj) (RX0, TX0, 0)).1 = cnm (moc mj)) (hlen : as.length = mnp mj) (hcat : (S.map fun v => v.category).sum ≤ 8) (hS0 : S0 = as.reverse ++ .ref o :: S)
    (h : Cm Θ d mj (.ref o :: as) σ q) (kk : ∀ r σ', q r σ' → G Θ (d + 1) mi nx L (r.toList ++ S) σ' Q) : G Θ (d + 1) mi pc L S0 σ Q := by
  intro p e R s m args below meth c H locs cells slots QQ ls hC hroom hw hP hS hl hret
  have hd := dec_at hok hi hn
  have hc := chk_at hok hi
  simp only [chkI, Bool.and_eq_true, Bool.or_eq_true, decide_eq_true_eq] at hc
  have hlw := (hc.2.resolve_left (by omega)).2
  subst hn
  obtain ⟨h1, h2, h3, h4, h5, h6, h7, h8, h10⟩ := chkM_of hM
  rw [if_neg (by rw [hst]; decide)] at h10
  have hts := hC.2.2.2.2.1
  have hG : GoodIn gt (wds mj) := fun w hw => by
    rcases List.mem_cons.mp hw with rfl | hw
    · exact ⟨h7, good_of_word (List.mem_filter.mp h7).2⟩
    · exact ⟨hw, good_of_word (List.mem_filter.mp hw).2⟩
  have hfr : (rmd d).frames + 1 ≤ R.frames := hC.2.2.2.2.2.1
  have hlo : 8 + (mml mj + 11) + (rmd d).locals ≤ R.locals := by
    have := hC.2.2.2.2.2.2
    show 8 + (mml mj + 11) + 64 * d ≤ R.locals
    omega
  have cb := callB_of (R := R) (mnp mj) hts hG rfl (rm := rmd d) (mc := 0) (ms := 0) rfl rfl (by rw [h1]; exact hts _ h8) (hts _ (gt_at hlw rfl)) ⟨by rw [h1]; exact h2, by rw [h1]; exact h3, h4⟩ ⟨hfr, hlo⟩
  have hrecv := va_recv hw.1 hP (cls_at hco) (obj_at hso hco)
  simp only at hrecv
  rw [hcn] at hrecv
  subst hS0
  refine call_any (a := (Value.ref (Θ.2.2.1 o) :: as.map (vv Θ)).toArray) (va_runV (As := as.map (vv Θ)) (rest := S.map (vv Θ)) (C := cnm (moc mj)) ⟨hC.1, hC.2.1, hC.2.2.1, hC.2.2.2.1, hts⟩ h ⟨cb, hts _ h10.1, hts _ h10.2⟩ ⟨Pc_blind (as := .ref o :: as), hrecv, fun U hU hW => ⟨rfl, Ws_moved hw hS hU hW.alike (fun h => ⟨vk_R.warm hW h.1, va_Nw.warmF hW h.2⟩), by rw [hU]; exact hP⟩⟩ rfl (by rw [List.length_map]; exact hlen) hl.1 ?_ (lv_room (by rw [vv_map_cat]; exact hcat)) hd ⟨hroom.1, hroom.2⟩) hS (fun r σ' H1 locs1 hq hP1 hS1 => ?_)
  · show List.map (vv Θ) (as.reverse ++ .ref o :: S) = (as.map (vv Θ)).reverse ++ .ref (Θ.2.2.1 o) :: S.map (vv Θ)
    rw [List.map_append, List.map_reverse]; rfl
  · exact kk r σ' hq p e R s m args below meth c H1 locs1 cells slots QQ ls hC hroom hw hP1 hS1 hl hret
theorem r_invS {idx mj b : Nat} {z : Int} {as : List Value} {q : Po} (hok : mc.all (fun q => chkI mi q.1 q.2) = true) (j : Nat) (hi : mc[j]? = some (pc, .invokestatic idx, nx, mj, b, z)) (hn : pc + 3 = nx) (h9 : mj < 9000) (hM : chkM mj = true) (hst : mst mj = true) (hlen : as.length = mnp mj) (hcat : (S.map fun v => v.category).sum ≤ 8) (hS0 : S0 = as.reverse ++ S)
    (h : Cm Θ d mj as σ q) (kk : ∀ r σ', q r σ' → G Θ (d + 1) mi nx L (r.toList ++ S) σ' Q) : G Θ (d + 1) mi pc L S0 σ Q := by
  intro p e R s m args below meth c H locs cells slots QQ ls hC hroom hw hP hS hl hret
  have hd := dec_at hok hi hn
  have hc := chk_at hok hi
  simp only [chkI, Bool.and_eq_true, Bool.or_eq_true, decide_eq_true_eq] at hc
  have hlw := (hc.2.resolve_left (by omega)).2
  subst hn
  obtain ⟨h1, h2, h3, h4, h5, h6, h7, h8, h10⟩ := chkM_of hM
  rw [if_pos hst] at h10
  have hts := hC.2.2.2.2.1
  have hG : GoodIn gt (wds mj) := fun w hw => by
    rcases List.mem_cons.mp hw with rfl | hw
    · exact ⟨h7, good_of_word (List.mem_filter.mp h7).2⟩
    · exact ⟨hw, good_of_word (List.mem_filter.mp hw).2⟩
  have hfr : (rmd d).frames + 1 ≤ R.frames := hC.2.2.2.2.2.1
  have hlo : 8 + (mml mj + 11) + (rmd d).locals ≤ R.locals := by
    have := hC.2.2.2.2.2.2
    show 8 + (mml mj + 11) + 64 * d ≤ R.locals
    omega
  have cb := callB_of (R := R) (mnp mj) hts hG rfl (rm := rmd d) (mc := 0) (ms := 0) rfl rfl (by rw [h1]; exact hts _ h8) (hts _ (gt_at hlw rfl)) ⟨by rw [h1]; exact h2, by rw [h1]; exact h3, h4⟩ ⟨hfr, hlo⟩
  subst hS0
  refine call_any (a := (as.map (vv Θ)).toArray) (va_runS (As := as.map (vv Θ)) (rest := S.map (vv Θ)) ⟨hC.1, hC.2.1, hC.2.2.1, hC.2.2.2.1, hts⟩ h ⟨cb, hts _ h10⟩ ⟨Pc_blind, fun U hU hW => ⟨rfl, Ws_moved hw hS hU hW.alike (fun h => ⟨vk_R.warm hW h.1, va_Nw.warmF hW h.2⟩), by rw [hU]; exact hP⟩⟩ rfl (by rw [List.length_map]; exact hlen) hl.1 ?_ (lv_room (by rw [vv_map_cat]; exact hcat)) hd ⟨hroom.1, hroom.2⟩) hS (fun r σ' H1 locs1 hq hP1 hS1 => ?_)
  · show List.map (vv Θ) (as.reverse ++ S) = (as.map (vv Θ)).reverse ++ S.map (vv Θ)
    rw [List.map_append, List.map_reverse]
  · exact kk r σ' hq p e R s m args below meth c H1 locs1 cells slots QQ ls hC hroom hw hP1 hS1 hl hret
end calls
/-! typed contracts -/
def Ci (Θ : Th) (d mi : Nat) (as : List Value) (σ : Mem) (q : Int32 → Mem → Prop) : Prop := Cm Θ d mi as σ (fun r σ' => ∃ x, r = some (.int x) ∧ q x σ')
def Cl (Θ : Th) (d mi : Nat) (as : List Value) (σ : Mem) (q : Int64 → Mem → Prop) : Prop := Cm Θ d mi as σ (fun r σ' => ∃ x, r = some (.long x) ∧ q x σ')
def Cr (Θ : Th) (d mi : Nat) (as : List Value) (σ : Mem) (q : Nat → Mem → Prop) : Prop := Cm Θ d mi as σ (fun r σ' => ∃ x, r = some (.ref x) ∧ q x σ')
def Cv (Θ : Th) (d mi : Nat) (as : List Value) (σ : Mem) (q : Mem → Prop) : Prop := Cm Θ d mi as σ (fun r σ' => r = none ∧ q σ')
def Pi (q : Int32 → Mem → Prop) : Po := fun r σ' => ∃ x, r = some (.int x) ∧ q x σ'
def Pl (q : Int64 → Mem → Prop) : Po := fun r σ' => ∃ x, r = some (.long x) ∧ q x σ'
def Pr (q : Nat → Mem → Prop) : Po := fun r σ' => ∃ x, r = some (.ref x) ∧ q x σ'
def Pv (q : Mem → Prop) : Po := fun r σ' => r = none ∧ q σ'
theorem Ci.mono {Θ : Th} {d mi : Nat} {as : List Value} {σ : Mem} {q q' : Int32 → Mem → Prop} (h : Ci Θ d mi as σ q) (hq : ∀ x σ', q x σ' → q' x σ') : Ci Θ d mi as σ q' := Cm.mono h (fun r σ' ⟨x, h1, h2⟩ => ⟨x, h1, hq x σ' h2⟩)
theorem Cl.mono {Θ : Th} {d mi : Nat} {as : List Value} {σ : Mem} {q q' : Int64 → Mem → Prop} (h : Cl Θ d mi as σ q) (hq : ∀ x σ', q x σ' → q' x σ') : Cl Θ d mi as σ q' := Cm.mono h (fun r σ' ⟨x, h1, h2⟩ => ⟨x, h1, hq x σ' h2⟩)
theorem Cr.mono {Θ : Th} {d mi : Nat} {as : List Value} {σ : Mem} {q q' : Nat → Mem → Prop} (h : Cr Θ d mi as σ q) (hq : ∀ x σ', q x σ' → q' x σ') : Cr Θ d mi as σ q' := Cm.mono h (fun r σ' ⟨x, h1, h2⟩ => ⟨x, h1, hq x σ' h2⟩)
theorem Cv.mono {Θ : Th} {d mi : Nat} {as : List Value} {σ : Mem} {q q' : Mem → Prop} (h : Cv Θ d mi as σ q) (hq : ∀ σ', q σ' → q' σ') : Cv Θ d mi as σ q' := Cm.mono h (fun r σ' ⟨h1, h2⟩ => ⟨h1, hq σ' h2⟩)
end
section
/-! ROWS of the logic: switches, the static array, copies, typed calls -/
def TS (P : Nat → Prop) (x : Int) : Int → List Nat → Prop
  | _, [] => True
  | lo, [t] => (x = lo → P t)
  | lo, t :: t2 :: ts => (x = lo → P t) ∧ TS P x (lo + 1) (t2 :: ts)
theorem TS_at (P : Nat → Prop) (x : Int) : ∀ (tl : List Nat) (lo : Int), TS P x lo tl → ∀ (q t : Nat), tl[q]? = some t → x = lo + q → P t
  | [], _, _, q, t, h, _ => by simp at h
  | [a], lo, hT, q, t, h, hx => by
    match q, h with
    | 0, h => cases h; exact hT (by rw [hx]; simp)
    | q + 1, h => simp at h
  | a :: b :: tl, lo, hT, q, t, h, hx => by
    match q, h with
    | 0, h => cases h; exact hT.1 (by rw [hx]; simp)
    | q + 1, h => exact TS_at P x (b :: tl) (lo + 1) hT.2 q t h (by rw [hx]; push_cast; omega)
section more
variable {Θ : Th} {d mi pc nx : Nat} {mc : List (Nat × Ins)} {L : Lc} {S S0 : List Value} {σ : Mem} {Q : Po} {u : Nat × Nat × Int}
theorem r_tsw {dflt lo hi' : Int} {offs : Array Int} {x : Int32} {t0 : Nat} {tl : List Nat} (hok : mc.all (fun q => chkI mi q.1 q.2) = true) (j : Nat) (hi : mc[j]? = some (pc, .tableswitch dflt lo hi' offs, nx, u)) (ht0 : (pc : Int) + dflt = (t0 : Int)) (htl : offs.toList.map (fun o => (pc : Int) + o) = tl.map (fun (t : Nat) => (t : Int))) (hsz : hi' - lo + 1 = (tl.length : Int))
    (kd : (x.toInt < lo ∨ hi' < x.toInt) → G Θ d mi t0 L S σ Q) (k : TS (fun t => G Θ d mi t L S σ Q) x.toInt lo tl) : G Θ d mi pc L (.int x :: S) σ Q := by
  intro p e R s m args below meth c H locs cells slots QQ ls hC hroom hw hP hS hl hret
  have hc := chk_at hok hi
  simp only [chkI, Bool.and_eq_true, decide_eq_true_eq] at hc
  have hd := hc.1.2
  by_cases hx : x.toInt < lo ∨ hi' < x.toInt
  · exact lv_tableOut hC.1 hC.2.1 hd hx ht0 (kd hx p e R s m args below meth c H locs cells slots QQ ls hC hroom hw hP hS hl hret)
  · have h1 : ¬ x.toInt < lo := fun h => hx (Or.inl h)
    have h2 : ¬ hi' < x.toInt := fun h => hx (Or.inr h)
    have hq : (x.toInt - lo).toNat < tl.length := by omega
    have hlen : offs.toList.length = tl.length := by
      have := congrArg List.length htl
      simpa using this
    have hqo : (x.toInt - lo).toNat < offs.toList.length := by rw [hlen]; exact hq
    have hg : (pc : Int) + offs.toList[(x.toInt - lo).toNat] = (tl[(x.toInt - lo).toNat] : Int) := by
      have h3 : (offs.toList.map (fun o => (pc : Int) + o))[(x.toInt - lo).toNat]? = (tl.map (fun (t : Nat) => (t : Int)))[(x.toInt - lo).toNat]? := by rw [htl]
      rw [List.getElem?_map, List.getElem?_map, List.getElem?_eq_getElem hqo, List.getElem?_eq_getElem hq] at h3
      exact Option.some.inj h3
    refine lv_tableIn hC.1 hC.2.1 hd h1 h2 (off := offs.toList[(x.toInt - lo).toNat]) (tgt := tl[(x.toInt - lo).toNat]) (by rw [← Array.getElem?_toList, List.getElem?_eq_getElem hqo]) hg ?_
    exact TS_at _ _ tl lo k _ _ (List.getElem?_eq_getElem hq) (by omega) p e R s m args below meth c H locs cells slots QQ ls hC hroom hw hP hS hl hret
theorem r_lsw2 {dflt k0 k1 o0 o1 : Int} {x : Int32} {t0 t1 t2 : Nat} (hok : mc.all (fun q => chkI mi q.1 q.2) = true) (j : Nat) (hi : mc[j]? = some (pc, .lookupswitch dflt #[(k0, o0), (k1, o1)], nx, u)) (hk : k0 < k1) (ht0 : (pc : Int) + o0 = (t0 : Int)) (ht1 : (pc : Int) + o1 = (t1 : Int)) (ht2 : (pc : Int) + dflt = (t2 : Int))
    (ka : x.toInt = k0 → G Θ d mi t0 L S σ Q) (kb : x.toInt = k1 → G Θ d mi t1 L S σ Q) (kc : ¬ x.toInt = k0 → ¬ x.toInt = k1 → G Θ d mi t2 L S σ Q) : G Θ d mi pc L (.int x :: S) σ Q := by
  intro p e R s m args below meth c H locs cells slots QQ ls hC hroom hw hP hS hl hret
  have hc := chk_at hok hi
  simp only [chkI, Bool.and_eq_true, decide_eq_true_eq] at hc
  have hd := hc.1.2
  have hp : ((#[(k0, o0), (k1, o1)] : Array (Int × Int)).toList.zip ((#[(k0, o0), (k1, o1)] : Array (Int × Int)).toList.drop 1)).all (fun (a, next) => a.1 < next.1) = true := by simp [hk]
  by_cases h0 : x.toInt = k0
  · exact lv_lookup hC.1 hC.2.1 hd hp (off := o0) (by rw [h0]; simp [Op.lookupswitch.offset]) ht0 (ka h0 p e R s m args below meth c H locs cells slots QQ ls hC hroom hw hP hS hl hret)
  · by_cases h1 : x.toInt = k1
    · exact lv_lookup hC.1 hC.2.1 hd hp (off := o1) (by rw [h1]; have : ¬ k0 = k1 := by omega
                                                        simp [Op.lookupswitch.offset, this]) ht1 (kb h1 p e R s m args below meth c H locs cells slots QQ ls hC hroom hw hP hS hl hret)
    · exact lv_lookup hC.1 hC.2.1 hd hp (off := dflt) (by have e0 : ¬ k0 = x.toInt := fun q => h0 q.symm
                                                          have e1 : ¬ k1 = x.toInt := fun q => h1 q.symm
                                                          simp [Op.lookupswitch.offset, e0, e1]) ht2 (kc h0 h1 p e R s m args below meth c H locs cells slots QQ ls hC hroom hw hP hS hl hret)
theorem r_gets (hok : mc.all (fun q => chkI mi q.1 q.2) = true) (j : Nat) (hi : mc[j]? = some (pc, .getstatic 88, nx, u)) (hn : pc + 3 = nx) (hT : cnm (moc mi) = "LikeYears$Tape") (k : G Θ d mi nx L (.ref 1001 :: S) σ Q) : G Θ d mi pc L S σ Q := by
  intro p e R s m args below meth c H locs cells slots QQ ls hC hroom hw hP hS hl hret
  have hd := dec_at hok hi hn
  subst hn
  have hown := hC.2.2.2.1
  rw [hT] at hown
  exact va_getsN hC.1 hC.2.1 hw.2.2.2.1 hS hown (va_Nw.use rfl hw.2.2.2.2.2.1.2) (fun x h => h) hd (k p e R s m args below meth c H locs cells slots QQ ls hC hroom hw hP hS hl hret)
def cpI (σ : Mem) (src : Nat) (sp : Int32) (dst : Nat) (dp n : Int32) : Mem :=
  (fun a b => if a = dst then va_cpy (σ.1 src) (σ.1 dst) sp.toNatClampNeg dp.toNatClampNeg n.toNatClampNeg b else σ.1 a b, σ.2.1, σ.2.2)
theorem ent_cp {src dst : Nat} {sp dp n : Int32} {j : Nat} (h : j ≠ dst) : ent Θ (cpI σ src sp dst dp n) j = ent Θ σ j := by
  have h1 : (cpI σ src sp dst dp n).1 j = σ.1 j := by funext b; simp [cpI, h]
  have h2 : fld Θ (cpI σ src sp dst dp n) j (shq j).1 = fld Θ σ j (shq j).1 := by funext q; simp only [fld, h1]; rfl
  simp only [ent, h1, h2]; rfl
theorem r_copy {idx b src dst n0 n1 : Nat} {z : Int} {sp dp n : Int32} (hok : mc.all (fun q => chkI mi q.1 q.2) = true) (j : Nat) (hi : mc[j]? = some (pc, .invokestatic idx, nx, 9000, b, z)) (hn : pc + 3 = nx) (hs : shq src = (20, n0)) (hs' : shq dst = (20, n1))
    (hlw : lw_tbl[npv + b]? = some (.methodLink (cnm (moc mi)) idx arraycopyName)) (hb : ¬ sp < 0 ∧ ¬ dp < 0 ∧ ¬ n < 0 ∧ sp.toNatClampNeg + n.toNatClampNeg ≤ n0 ∧ dp.toNatClampNeg + n.toNatClampNeg ≤ n1) (hcat : (S.map fun v => v.category).sum ≤ 8)
    (hw1 : Cond.native arraycopyName ∈ gt) (hw2 : Cond.static arraycopyName ∈ gt) (hw3 : Cond.initialized "java/lang/System" ∈ gt)
    (k : G Θ (d + 1) mi nx L S (cpI σ src sp dst dp n) Q) : G Θ (d + 1) mi pc L (.int n :: .int dp :: .ref dst :: .int sp :: .ref src :: S) σ Q := by
  intro p e R s m args below meth c H locs cells slots QQ ls hC hroom hw hP hS hl hret
  have hd := dec_at hok hi hn
  subst hn
  have hts := hC.2.2.2.2.1
  have hnf : nativeFrameWords "java/lang/System" "arraycopy" 5 = 7 := by decide +kernel
  refine va_copyi hC.1 hC.2.1 (by rw [hC.2.2.1, hl.1]) hC.2.2.2.1 (hts _ (gt_at hlw rfl)) (hts _ hw1) (hts _ hw2) (hts _ hw3) hw.1 hP (cel_D hw.2.1 σ) hS src dst 0 0 (by rw [cel_at Θ σ (shp_l hs (by decide)), ent20 hs]) (by rw [cel_at Θ σ (shp_l hs' (by decide)), ent20 hs']) rfl rfl rfl hb.1 hb.2.1 hb.2.2.1 hb.2.2.2.1 hb.2.2.2.2 (fun _ _ => rfl)
    (by have := hC.2.2.2.2.2.1; omega) (by rw [vv_map_cat, hnf]; have := hC.2.2.2.2.2.2; omega) hd (fun H1 locs1 hP1 hD1 hS1 => ?_)
  have he : (cel Θ σ).set dst (Θ.2.2.1 dst, .inl (Θ.2.2.2.1 0, n1, .inl (va_cpy (σ.1 src) (σ.1 dst) sp.toNatClampNeg dp.toNatClampNeg n.toNatClampNeg))) = cel Θ (cpI σ src sp dst dp n) :=
    cel_set (shp_l hs' (by decide)) (by rw [ent20 hs']; congr 4; funext q; simp [cpI]) (fun q hq => ent_cp hq)
  rw [he] at hP1
  exact k p e R s m args below meth c H1 locs1 cells slots QQ ls hC hroom hw hP1 hS1 hl hret
/-- the facts of a callee -/
def MFv (mj ci np : Nat) : Prop := mj < 9000 ∧ chkM mj = true ∧ mst mj = false ∧ moc mj = ci ∧ ci < 13 ∧ (clss.getD ci (RX0, TX0, 0)).1 = cnm ci ∧ mnp mj = np
def MFs (mj np : Nat) : Prop := mj < 9000 ∧ chkM mj = true ∧ mst mj = true ∧ mnp mj = np
theorem r_invVc {idx mj b o ci np : Nat} {z : Int} {as : List Value} {q : Po} (hok : mc.all (fun q => chkI mi q.1 q.2) = true) (j : Nat) (hi : mc[j]? = some (pc, .invokevirtual idx, nx, mj, b, z)) (hn : pc + 3 = nx) (mf : MFv mj ci np) (hso : (shq o).1 = ci) (hlen : as.length = np) (hcat : (S.map fun v => v.category).sum ≤ 8) (hS0 : S0 = as.reverse ++ .ref o :: S)
    (h : Cm Θ d mj (.ref o :: as) σ q) (kk : ∀ r σ', q r σ' → G Θ (d + 1) mi nx L (r.toList ++ S) σ' Q) : G Θ (d + 1) mi pc L S0 σ Q := by
  obtain ⟨m1, m2, m3, m4, m5, m6, m7⟩ := mf
  subst m4
  exact r_invV hok j hi hn m1 m2 m3 hso m5 m6 (by rw [hlen, m7]) hcat hS0 h kk
theorem r_invVi {idx mj b o ci np : Nat} {z : Int} {as : List Value} {q : Int32 → Mem → Prop} (hok : mc.all (fun q => chkI mi q.1 q.2) = true) (j : Nat) (hi : mc[j]? = some (pc, .invokevirtual idx, nx, mj, b, z)) (hn : pc + 3 = nx) (mf : MFv mj ci np) (hso : (shq o).1 = ci) (hlen : as.length = np) (hcat : (S.map fun v => v.category).sum ≤ 8) (hS0 : S0 = as.reverse ++ .ref o :: S)
    (h : Ci Θ d mj (.ref o :: as) σ q) (kk : ∀ x σ', q x σ' → G Θ (d + 1) mi nx L (.int x :: S) σ' Q) : G Θ (d + 1) mi pc L S0 σ Q :=
  r_invVc hok j hi hn mf hso hlen hcat hS0 h (fun r σ' ⟨x, h1, h2⟩ => by subst h1; exact kk x σ' h2)
theorem r_invVl {idx mj b o ci np : Nat} {z : Int} {as : List Value} {q : Int64 → Mem → Prop} (hok : mc.all (fun q => chkI mi q.1 q.2) = true) (j : Nat) (hi : mc[j]? = some (pc, .invokevirtual idx, nx, mj, b, z)) (hn : pc + 3 = nx) (mf : MFv mj ci np) (hso : (shq o).1 = ci) (hlen : as.length = np) (hcat : (S.map fun v => v.category).sum ≤ 8) (hS0 : S0 = as.reverse ++ .ref o :: S)
    (h : Cl Θ d mj (.ref o :: as) σ q) (kk : ∀ x σ', q x σ' → G Θ (d + 1) mi nx L (.long x :: S) σ' Q) : G Θ (d + 1) mi pc L S0 σ Q :=
  r_invVc hok j hi hn mf hso hlen hcat hS0 h (fun r σ' ⟨x, h1, h2⟩ => by subst h1; exact kk x σ' h2)
theorem r_invVr {idx mj b o ci np : Nat} {z : Int} {as : List Value} {q : Nat → Mem → Prop} (hok : mc.all (fun q => chkI mi q.1 q.2) = true) (j : Nat) (hi : mc[j]? = some (pc, .invokevirtual idx, nx, mj, b, z)) (hn : pc + 3 = nx) (mf : MFv mj ci np) (hso : (shq o).1 = ci) (hlen : as.length = np) (hcat : (S.map fun v => v.category).sum ≤ 8) (hS0 : S0 = as.reverse ++ .ref o :: S)
    (h : Cr Θ d mj (.ref o :: as) σ q) (kk : ∀ x σ', q x σ' → G Θ (d + 1) mi nx L (.ref x :: S) σ' Q) : G Θ (d + 1) mi pc L S0 σ Q :=
  r_invVc hok j hi hn mf hso hlen hcat hS0 h (fun r σ' ⟨x, h1, h2⟩ => by subst h1; exact kk x σ' h2)
theorem r_invVv {idx mj b o ci np : Nat} {z : Int} {as : List Value} {q : Mem → Prop} (hok : mc.all (fun q => chkI mi q.1 q.2) = true) (j : Nat) (hi : mc[j]? = some (pc, .invokevirtual idx, nx, mj, b, z)) (hn : pc + 3 = nx) (mf : MFv mj ci np) (hso : (shq o).1 = ci) (hlen : as.length = np) (hcat : (S.map fun v => v.category).sum ≤ 8) (hS0 : S0 = as.reverse ++ .ref o :: S)
    (h : Cv Θ d mj (.ref o :: as) σ q) (kk : ∀ σ', q σ' → G Θ (d + 1) mi nx L S σ' Q) : G Θ (d + 1) mi pc L S0 σ Q :=
  r_invVc hok j hi hn mf hso hlen hcat hS0 h (fun r σ' ⟨h1, h2⟩ => by subst h1; exact kk σ' h2)
theorem r_invSi {idx mj b np : Nat} {z : Int} {as : List Value} {q : Int32 → Mem → Prop} (hok : mc.all (fun q => chkI mi q.1 q.2) = true) (j : Nat) (hi : mc[j]? = some (pc, .invokestatic idx, nx, mj, b, z)) (hn : pc + 3 = nx) (mf : MFs mj np) (hlen : as.length = np) (hcat : (S.map fun v => v.category).sum ≤ 8) (hS0 : S0 = as.reverse ++ S)
    (h : Ci Θ d mj as σ q) (kk : ∀ x σ', q x σ' → G Θ (d + 1) mi nx L (.int x :: S) σ' Q) : G Θ (d + 1) mi pc L S0 σ Q :=
  r_invS hok j hi hn mf.1 mf.2.1 mf.2.2.1 (by rw [hlen, mf.2.2.2]) hcat hS0 h (fun r σ' ⟨x, h1, h2⟩ => by subst h1; exact kk x σ' h2)
theorem r_invSl {idx mj b np : Nat} {z : Int} {as : List Value} {q : Int64 → Mem → Prop} (hok : mc.all (fun q => chkI mi q.1 q.2) = true) (j : Nat) (hi : mc[j]? = some (pc, .invokestatic idx, nx, mj, b, z)) (hn : pc + 3 = nx) (mf : MFs mj np) (hlen : as.length = np) (hcat : (S.map fun v => v.category).sum ≤ 8) (hS0 : S0 = as.reverse ++ S)
    (h : Cl Θ d mj as σ q) (kk : ∀ x σ', q x σ' → G Θ (d + 1) mi nx L (.long x :: S) σ' Q) : G Θ (d + 1) mi pc L S0 σ Q :=
  r_invS hok j hi hn mf.1 mf.2.1 mf.2.2.1 (by rw [hlen, mf.2.2.2]) hcat hS0 h (fun r σ' ⟨x, h1, h2⟩ => by subst h1; exact kk x σ' h2)
theorem r_invSv {idx mj b np : Nat} {z : Int} {as : List Value} {q : Mem → Prop} (hok : mc.all (fun q => chkI mi q.1 q.2) = true) (j : Nat) (hi : mc[j]? = some (pc, .invokestatic idx, nx, mj, b, z)) (hn : pc + 3 = nx) (mf : MFs mj np) (hlen : as.length = np) (hcat : (S.map fun v => v.category).sum ≤ 8) (hS0 : S0 = as.reverse ++ S)
    (h : Cv Θ d mj as σ q) (kk : ∀ σ', q σ' → G Θ (d + 1) mi nx L S σ' Q) : G Θ (d + 1) mi pc L S0 σ Q :=
  r_invS hok j hi hn mf.1 mf.2.1 mf.2.2.1 (by rw [hlen, mf.2.2.2]) hcat hS0 h (fun r σ' ⟨h1, h2⟩ => by subst h1; exact kk σ' h2)
end more
section mathrows
variable {Θ : Th} {d mi pc nx : Nat} {mc : List (Nat × Ins)} {L : Lc} {S : List Value} {σ : Mem} {Q : Po}
def MW (y : MethodName) (cd : ByteArray) (n : Nat) (rt : Option FieldType) : Prop := Cond.static y ∈ gt ∧ Cond.initialized "java/lang/Math" ∈ gt ∧ Cond.code y cd n rt ∈ gt
theorem r_mmax {idx mj b : Nat} {z : Int} {x y : Int32} (hok : mc.all (fun q => chkI mi q.1 q.2) = true) (j : Nat) (hi : mc[j]? = some (pc, .invokestatic idx, nx, mj, b, z)) (hn : pc + 3 = nx) (hy : (mrow mj).1 = Lib.Math.max.name) (h9 : mj < 9000) (hw : MW Lib.Math.max.name Lib.Math.max.code 2 (some .int)) (hcat : (S.map fun v => v.category).sum ≤ 8 := by exact Nat.le_of_ble_eq_true rfl)
    (k : G Θ (d + 1) mi nx L (.int (if x < y then y else x) :: S) σ Q) : G Θ (d + 1) mi pc L (.int y :: .int x :: S) σ Q := by
  intro p e R s m args below meth c H locs cells slots QQ ls hC hroom hw' hP hS hl hret
  have hd := dec_at hok hi hn
  have hc := chk_at hok hi
  simp only [chkI, Bool.and_eq_true, Bool.or_eq_true, decide_eq_true_eq] at hc
  have hlw := (hc.2.resolve_left (by omega)).2
  rw [hy] at hlw
  subst hn
  have hts := hC.2.2.2.2.1
  exact va_mmax hC.1 hC.2.1 (by rw [hC.2.2.1, hl.1]) hC.2.2.2.1 (hts _ (gt_at hlw rfl)) (hts _ hw.1) (hts _ hw.2.1) (hts _ hw.2.2) (by have := hC.2.2.2.2.2.1; omega) (by rw [vv_map_cat]; have := hC.2.2.2.2.2.2; omega) hroom.1 hroom.2 hd (k p e R s m args below meth c H locs cells slots QQ ls hC hroom hw' hP hS hl hret)
theorem r_mmin {idx mj b : Nat} {z : Int} {x y : Int32} (hok : mc.all (fun q => chkI mi q.1 q.2) = true) (j : Nat) (hi : mc[j]? = some (pc, .invokestatic idx, nx, mj, b, z)) (hn : pc + 3 = nx) (hy : (mrow mj).1 = Lib.Math.min.name) (h9 : mj < 9000) (hw : MW Lib.Math.min.name Lib.Math.min.code 2 (some .int)) (hcat : (S.map fun v => v.category).sum ≤ 8 := by exact Nat.le_of_ble_eq_true rfl)
    (k : G Θ (d + 1) mi nx L (.int (if y < x then y else x) :: S) σ Q) : G Θ (d + 1) mi pc L (.int y :: .int x :: S) σ Q := by
  intro p e R s m args below meth c H locs cells slots QQ ls hC hroom hw' hP hS hl hret
  have hd := dec_at hok hi hn
  have hc := chk_at hok hi
  simp only [chkI, Bool.and_eq_true, Bool.or_eq_true, decide_eq_true_eq] at hc
  have hlw := (hc.2.resolve_left (by omega)).2
  rw [hy] at hlw
  subst hn
  have hts := hC.2.2.2.2.1
  exact va_mmin hC.1 hC.2.1 (by rw [hC.2.2.1, hl.1]) hC.2.2.2.1 (hts _ (gt_at hlw rfl)) (hts _ hw.1) (hts _ hw.2.1) (hts _ hw.2.2) (by have := hC.2.2.2.2.2.1; omega) (by rw [vv_map_cat]; have := hC.2.2.2.2.2.2; omega) hroom.1 hroom.2 hd (k p e R s m args below meth c H locs cells slots QQ ls hC hroom hw' hP hS hl hret)
theorem r_mabs {idx mj b : Nat} {z : Int} {x : Int32} (hok : mc.all (fun q => chkI mi q.1 q.2) = true) (j : Nat) (hi : mc[j]? = some (pc, .invokestatic idx, nx, mj, b, z)) (hn : pc + 3 = nx) (hy : (mrow mj).1 = Lib.Math.abs.name) (h9 : mj < 9000) (hw : MW Lib.Math.abs.name Lib.Math.abs.code 1 (some .int)) (hcat : (S.map fun v => v.category).sum ≤ 8 := by exact Nat.le_of_ble_eq_true rfl)
    (k : G Θ (d + 1) mi nx L (.int (if 0 ≤ x then x else 0 - x) :: S) σ Q) : G Θ (d + 1) mi pc L (.int x :: S) σ Q := by
  intro p e R s m args below meth c H locs cells slots QQ ls hC hroom hw' hP hS hl hret
  have hd := dec_at hok hi hn
  have hc := chk_at hok hi
  simp only [chkI, Bool.and_eq_true, Bool.or_eq_true, decide_eq_true_eq] at hc
  have hlw := (hc.2.resolve_left (by omega)).2
  rw [hy] at hlw
  subst hn
  have hts := hC.2.2.2.2.1
  exact va_mabs hC.1 hC.2.1 (by rw [hC.2.2.1, hl.1]) hC.2.2.2.1 (hts _ (gt_at hlw rfl)) (hts _ hw.1) (hts _ hw.2.1) (hts _ hw.2.2) (by have := hC.2.2.2.2.2.1; omega) (by rw [vv_map_cat]; have := hC.2.2.2.2.2.2; omega) hroom.1 hroom.2 hd (k p e R s m args below meth c H locs cells slots QQ ls hC hroom hw' hP hS hl hret)
theorem r_mlabs {idx mj b : Nat} {z : Int} {x : Int64} (hok : mc.all (fun q => chkI mi q.1 q.2) = true) (j : Nat) (hi : mc[j]? = some (pc, .invokestatic idx, nx, mj, b, z)) (hn : pc + 3 = nx) (hy : (mrow mj).1 = Lib.MathLoose.abs_long.x) (h9 : mj < 9000) (hw : MW Lib.MathLoose.abs_long.x Lib.MathLoose.abs_long.code 2 (some .long)) (hcat : (S.map fun v => v.category).sum ≤ 8 := by exact Nat.le_of_ble_eq_true rfl)
    (k : G Θ (d + 1) mi nx L (.long (if 0 < x then x else -x) :: S) σ Q) : G Θ (d + 1) mi pc L (.long x :: S) σ Q := by
  intro p e R s m args below meth c H locs cells slots QQ ls hC hroom hw' hP hS hl hret
  have hd := dec_at hok hi hn
  have hc := chk_at hok hi
  simp only [chkI, Bool.and_eq_true, Bool.or_eq_true, decide_eq_true_eq] at hc
  have hlw := (hc.2.resolve_left (by omega)).2
  rw [hy] at hlw
  subst hn
  have hts := hC.2.2.2.2.1
  exact va_mabs_long hC.1 hC.2.1 (by rw [hC.2.2.1, hl.1]) hC.2.2.2.1 (hts _ (gt_at hlw rfl)) (hts _ hw.1) (hts _ hw.2.1) (hts _ hw.2.2) (by have := hC.2.2.2.2.2.1; omega) (by rw [vv_map_cat]; have := hC.2.2.2.2.2.2; omega) hroom.1 hroom.2 hd (k p e R s m args below meth c H locs cells slots QQ ls hC hroom hw' hP hS hl hret)
end mathrows
end
section
/-! FACTS of callees, of cells behind objects -/
theorem mf0 : MFv 0 0 0 := ⟨Nat.le_of_ble_eq_true rfl, okM0, rfl, rfl, Nat.le_of_ble_eq_true rfl, rfl, rfl⟩
theorem mf1 : MFv 1 0 4 := ⟨Nat.le_of_ble_eq_true rfl, okM1, rfl, rfl, Nat.le_of_ble_eq_true rfl, rfl, rfl⟩
theorem mf2 : MFs 2 1 := ⟨Nat.le_of_ble_eq_true rfl, okM2, rfl, rfl⟩
theorem mf3 : MFv 3 0 1 := ⟨Nat.le_of_ble_eq_true rfl, okM3, rfl, rfl, Nat.le_of_ble_eq_true rfl, rfl, rfl⟩
theorem mf4 : MFv 4 0 1 := ⟨Nat.le_of_ble_eq_true rfl, okM4, rfl, rfl, Nat.le_of_ble_eq_true rfl, rfl, rfl⟩
theorem mf5 : MFs 5 4 := ⟨Nat.le_of_ble_eq_true rfl, okM5, rfl, rfl⟩
theorem mf6 : MFv 6 1 0 := ⟨Nat.le_of_ble_eq_true rfl, okM6, rfl, rfl, Nat.le_of_ble_eq_true rfl, rfl, rfl⟩
theorem mf7 : MFv 7 1 2 := ⟨Nat.le_of_ble_eq_true rfl, okM7, rfl, rfl, Nat.le_of_ble_eq_true rfl, rfl, rfl⟩
theorem mf8 : MFv 8 1 2 := ⟨Nat.le_of_ble_eq_true rfl, okM8, rfl, rfl, Nat.le_of_ble_eq_true rfl, rfl, rfl⟩
theorem mf9 : MFv 9 1 5 := ⟨Nat.le_of_ble_eq_true rfl, okM9, rfl, rfl, Nat.le_of_ble_eq_true rfl, rfl, rfl⟩
theorem mf10 : MFv 10 1 1 := ⟨Nat.le_of_ble_eq_true rfl, okM10, rfl, rfl, Nat.le_of_ble_eq_true rfl, rfl, rfl⟩
theorem mf11 : MFv 11 1 1 := ⟨Nat.le_of_ble_eq_true rfl, okM11, rfl, rfl, Nat.le_of_ble_eq_true rfl, rfl, rfl⟩
theorem mf12 : MFv 12 1 1 := ⟨Nat.le_of_ble_eq_true rfl, okM12, rfl, rfl, Nat.le_of_ble_eq_true rfl, rfl, rfl⟩
theorem mf13 : MFv 13 1 2 := ⟨Nat.le_of_ble_eq_true rfl, okM13, rfl, rfl, Nat.le_of_ble_eq_true rfl, rfl, rfl⟩
theorem mf14 : MFv 14 1 1 := ⟨Nat.le_of_ble_eq_true rfl, okM14, rfl, rfl, Nat.le_of_ble_eq_true rfl, rfl, rfl⟩
theorem mf15 : MFv 15 1 2 := ⟨Nat.le_of_ble_eq_true rfl, okM15, rfl, rfl, Nat.le_of_ble_eq_true rfl, rfl, rfl⟩
theorem mf16 : MFv 16 1 3 := ⟨Nat.le_of_ble_eq_true rfl, okM16, rfl, rfl, Nat.le_of_ble_eq_true rfl, rfl, rfl⟩
theorem mf17 : MFv 17 1 0 := ⟨Nat.le_of_ble_eq_true rfl, okM17, rfl, rfl, Nat.le_of_ble_eq_true rfl, rfl, rfl⟩
theorem mf18 : MFv 18 1 3 := ⟨Nat.le_of_ble_eq_true rfl, okM18, rfl, rfl, Nat.le_of_ble_eq_true rfl, rfl, rfl⟩
theorem mf19 : MFv 19 1 1 := ⟨Nat.le_of_ble_eq_true rfl, okM19, rfl, rfl, Nat.le_of_ble_eq_true rfl, rfl, rfl⟩
theorem mf20 : MFv 20 2 1 := ⟨Nat.le_of_ble_eq_true rfl, okM20, rfl, rfl, Nat.le_of_ble_eq_true rfl, rfl, rfl⟩
theorem mf21 : MFv 21 2 0 := ⟨Nat.le_of_ble_eq_true rfl, okM21, rfl, rfl, Nat.le_of_ble_eq_true rfl, rfl, rfl⟩
theorem mf22 : MFv 22 2 0 := ⟨Nat.le_of_ble_eq_true rfl, okM22, rfl, rfl, Nat.le_of_ble_eq_true rfl, rfl, rfl⟩
theorem mf23 : MFv 23 2 0 := ⟨Nat.le_of_ble_eq_true rfl, okM23, rfl, rfl, Nat.le_of_ble_eq_true rfl, rfl, rfl⟩
theorem mf24 : MFv 24 2 0 := ⟨Nat.le_of_ble_eq_true rfl, okM24, rfl, rfl, Nat.le_of_ble_eq_true rfl, rfl, rfl⟩
theorem mf25 : MFv 25 2 0 := ⟨Nat.le_of_ble_eq_true rfl, okM25, rfl, rfl, Nat.le_of_ble_eq_true rfl, rfl, rfl⟩
theorem mf26 : MFv 26 2 0 := ⟨Nat.le_of_ble_eq_true rfl, okM26, rfl, rfl, Nat.le_of_ble_eq_true rfl, rfl, rfl⟩
theorem mf27 : MFv 27 2 0 := ⟨Nat.le_of_ble_eq_true rfl, okM27, rfl, rfl, Nat.le_of_ble_eq_true rfl, rfl, rfl⟩
theorem mf28 : MFv 28 2 0 := ⟨Nat.le_of_ble_eq_true rfl, okM28, rfl, rfl, Nat.le_of_ble_eq_true rfl, rfl, rfl⟩
theorem mf29 : MFv 29 2 0 := ⟨Nat.le_of_ble_eq_true rfl, okM29, rfl, rfl, Nat.le_of_ble_eq_true rfl, rfl, rfl⟩
theorem mf30 : MFv 30 2 0 := ⟨Nat.le_of_ble_eq_true rfl, okM30, rfl, rfl, Nat.le_of_ble_eq_true rfl, rfl, rfl⟩
theorem mf31 : MFv 31 2 1 := ⟨Nat.le_of_ble_eq_true rfl, okM31, rfl, rfl, Nat.le_of_ble_eq_true rfl, rfl, rfl⟩
theorem mf32 : MFv 32 2 0 := ⟨Nat.le_of_ble_eq_true rfl, okM32, rfl, rfl, Nat.le_of_ble_eq_true rfl, rfl, rfl⟩
theorem mf33 : MFv 33 3 2 := ⟨Nat.le_of_ble_eq_true rfl, okM33, rfl, rfl, Nat.le_of_ble_eq_true rfl, rfl, rfl⟩
theorem mf34 : MFv 34 3 2 := ⟨Nat.le_of_ble_eq_true rfl, okM34, rfl, rfl, Nat.le_of_ble_eq_true rfl, rfl, rfl⟩
theorem mf35 : MFv 35 3 1 := ⟨Nat.le_of_ble_eq_true rfl, okM35, rfl, rfl, Nat.le_of_ble_eq_true rfl, rfl, rfl⟩
theorem mf36 : MFv 36 3 2 := ⟨Nat.le_of_ble_eq_true rfl, okM36, rfl, rfl, Nat.le_of_ble_eq_true rfl, rfl, rfl⟩
theorem mf37 : MFv 37 3 4 := ⟨Nat.le_of_ble_eq_true rfl, okM37, rfl, rfl, Nat.le_of_ble_eq_true rfl, rfl, rfl⟩
theorem mf38 : MFv 38 3 3 := ⟨Nat.le_of_ble_eq_true rfl, okM38, rfl, rfl, Nat.le_of_ble_eq_true rfl, rfl, rfl⟩
theorem mf39 : MFs 39 2 := ⟨Nat.le_of_ble_eq_true rfl, okM39, rfl, rfl⟩
theorem mf40 : MFv 40 4 2 := ⟨Nat.le_of_ble_eq_true rfl, okM40, rfl, rfl, Nat.le_of_ble_eq_true rfl, rfl, rfl⟩
theorem mf41 : MFv 41 4 1 := ⟨Nat.le_of_ble_eq_true rfl, okM41, rfl, rfl, Nat.le_of_ble_eq_true rfl, rfl, rfl⟩
theorem mf42 : MFv 42 4 0 := ⟨Nat.le_of_ble_eq_true rfl, okM42, rfl, rfl, Nat.le_of_ble_eq_true rfl, rfl, rfl⟩
theorem mf43 : MFv 43 4 0 := ⟨Nat.le_of_ble_eq_true rfl, okM43, rfl, rfl, Nat.le_of_ble_eq_true rfl, rfl, rfl⟩
theorem mf44 : MFv 44 4 0 := ⟨Nat.le_of_ble_eq_true rfl, okM44, rfl, rfl, Nat.le_of_ble_eq_true rfl, rfl, rfl⟩
theorem mf45 : MFv 45 4 2 := ⟨Nat.le_of_ble_eq_true rfl, okM45, rfl, rfl, Nat.le_of_ble_eq_true rfl, rfl, rfl⟩
theorem mf46 : MFv 46 4 1 := ⟨Nat.le_of_ble_eq_true rfl, okM46, rfl, rfl, Nat.le_of_ble_eq_true rfl, rfl, rfl⟩
theorem mf47 : MFv 47 5 2 := ⟨Nat.le_of_ble_eq_true rfl, okM47, rfl, rfl, Nat.le_of_ble_eq_true rfl, rfl, rfl⟩
theorem mf48 : MFv 48 5 2 := ⟨Nat.le_of_ble_eq_true rfl, okM48, rfl, rfl, Nat.le_of_ble_eq_true rfl, rfl, rfl⟩
theorem mf49 : MFv 49 5 1 := ⟨Nat.le_of_ble_eq_true rfl, okM49, rfl, rfl, Nat.le_of_ble_eq_true rfl, rfl, rfl⟩
theorem mf50 : MFs 50 2 := ⟨Nat.le_of_ble_eq_true rfl, okM50, rfl, rfl⟩
theorem mf51 : MFs 51 4 := ⟨Nat.le_of_ble_eq_true rfl, okM51, rfl, rfl⟩
theorem mf52 : MFv 52 6 1 := ⟨Nat.le_of_ble_eq_true rfl, okM52, rfl, rfl, Nat.le_of_ble_eq_true rfl, rfl, rfl⟩
theorem mf53 : MFv 53 6 0 := ⟨Nat.le_of_ble_eq_true rfl, okM53, rfl, rfl, Nat.le_of_ble_eq_true rfl, rfl, rfl⟩
theorem mf54 : MFv 54 6 2 := ⟨Nat.le_of_ble_eq_true rfl, okM54, rfl, rfl, Nat.le_of_ble_eq_true rfl, rfl, rfl⟩
theorem mf55 : MFv 55 6 1 := ⟨Nat.le_of_ble_eq_true rfl, okM55, rfl, rfl, Nat.le_of_ble_eq_true rfl, rfl, rfl⟩
theorem mf56 : MFv 56 6 0 := ⟨Nat.le_of_ble_eq_true rfl, okM56, rfl, rfl, Nat.le_of_ble_eq_true rfl, rfl, rfl⟩
theorem mf57 : MFv 57 6 1 := ⟨Nat.le_of_ble_eq_true rfl, okM57, rfl, rfl, Nat.le_of_ble_eq_true rfl, rfl, rfl⟩
theorem mf58 : MFv 58 6 0 := ⟨Nat.le_of_ble_eq_true rfl, okM58, rfl, rfl, Nat.le_of_ble_eq_true rfl, rfl, rfl⟩
theorem mf59 : MFv 59 6 0 := ⟨Nat.le_of_ble_eq_true rfl, okM59, rfl, rfl, Nat.le_of_ble_eq_true rfl, rfl, rfl⟩
theorem mf60 : MFv 60 6 2 := ⟨Nat.le_of_ble_eq_true rfl, okM60, rfl, rfl, Nat.le_of_ble_eq_true rfl, rfl, rfl⟩
theorem mf61 : MFv 61 6 2 := ⟨Nat.le_of_ble_eq_true rfl, okM61, rfl, rfl, Nat.le_of_ble_eq_true rfl, rfl, rfl⟩
theorem mf62 : MFv 62 6 4 := ⟨Nat.le_of_ble_eq_true rfl, okM62, rfl, rfl, Nat.le_of_ble_eq_true rfl, rfl, rfl⟩
theorem mf63 : MFv 63 6 1 := ⟨Nat.le_of_ble_eq_true rfl, okM63, rfl, rfl, Nat.le_of_ble_eq_true rfl, rfl, rfl⟩
theorem mf64 : MFv 64 6 0 := ⟨Nat.le_of_ble_eq_true rfl, okM64, rfl, rfl, Nat.le_of_ble_eq_true rfl, rfl, rfl⟩
theorem mf65 : MFs 65 4 := ⟨Nat.le_of_ble_eq_true rfl, okM65, rfl, rfl⟩
theorem mf66 : MFs 66 3 := ⟨Nat.le_of_ble_eq_true rfl, okM66, rfl, rfl⟩
theorem mf67 : MFs 67 3 := ⟨Nat.le_of_ble_eq_true rfl, okM67, rfl, rfl⟩
theorem mf68 : MFv 68 7 3 := ⟨Nat.le_of_ble_eq_true rfl, okM68, rfl, rfl, Nat.le_of_ble_eq_true rfl, rfl, rfl⟩
theorem mf69 : MFv 69 7 3 := ⟨Nat.le_of_ble_eq_true rfl, okM69, rfl, rfl, Nat.le_of_ble_eq_true rfl, rfl, rfl⟩
theorem mf70 : MFv 70 7 2 := ⟨Nat.le_of_ble_eq_true rfl, okM70, rfl, rfl, Nat.le_of_ble_eq_true rfl, rfl, rfl⟩
theorem mf71 : MFv 71 7 2 := ⟨Nat.le_of_ble_eq_true rfl, okM71, rfl, rfl, Nat.le_of_ble_eq_true rfl, rfl, rfl⟩
theorem mf72 : MFv 72 7 3 := ⟨Nat.le_of_ble_eq_true rfl, okM72, rfl, rfl, Nat.le_of_ble_eq_true rfl, rfl, rfl⟩
theorem mf73 : MFv 73 7 2 := ⟨Nat.le_of_ble_eq_true rfl, okM73, rfl, rfl, Nat.le_of_ble_eq_true rfl, rfl, rfl⟩
theorem mf74 : MFs 74 3 := ⟨Nat.le_of_ble_eq_true rfl, okM74, rfl, rfl⟩
theorem mf75 : MFv 75 7 1 := ⟨Nat.le_of_ble_eq_true rfl, okM75, rfl, rfl, Nat.le_of_ble_eq_true rfl, rfl, rfl⟩
theorem mf76 : MFv 76 8 2 := ⟨Nat.le_of_ble_eq_true rfl, okM76, rfl, rfl, Nat.le_of_ble_eq_true rfl, rfl, rfl⟩
theorem mf77 : MFv 77 8 1 := ⟨Nat.le_of_ble_eq_true rfl, okM77, rfl, rfl, Nat.le_of_ble_eq_true rfl, rfl, rfl⟩
theorem mf78 : MFv 78 8 2 := ⟨Nat.le_of_ble_eq_true rfl, okM78, rfl, rfl, Nat.le_of_ble_eq_true rfl, rfl, rfl⟩
theorem mf79 : MFv 79 8 2 := ⟨Nat.le_of_ble_eq_true rfl, okM79, rfl, rfl, Nat.le_of_ble_eq_true rfl, rfl, rfl⟩
theorem mf80 : MFv 80 8 3 := ⟨Nat.le_of_ble_eq_true rfl, okM80, rfl, rfl, Nat.le_of_ble_eq_true rfl, rfl, rfl⟩
theorem mf81 : MFv 81 8 2 := ⟨Nat.le_of_ble_eq_true rfl, okM81, rfl, rfl, Nat.le_of_ble_eq_true rfl, rfl, rfl⟩
theorem mf82 : MFv 82 8 2 := ⟨Nat.le_of_ble_eq_true rfl, okM82, rfl, rfl, Nat.le_of_ble_eq_true rfl, rfl, rfl⟩
theorem mf83 : MFv 83 8 2 := ⟨Nat.le_of_ble_eq_true rfl, okM83, rfl, rfl, Nat.le_of_ble_eq_true rfl, rfl, rfl⟩
theorem mf84 : MFv 84 8 1 := ⟨Nat.le_of_ble_eq_true rfl, okM84, rfl, rfl, Nat.le_of_ble_eq_true rfl, rfl, rfl⟩
theorem mf85 : MFv 85 8 1 := ⟨Nat.le_of_ble_eq_true rfl, okM85, rfl, rfl, Nat.le_of_ble_eq_true rfl, rfl, rfl⟩
theorem mf86 : MFv 86 8 1 := ⟨Nat.le_of_ble_eq_true rfl, okM86, rfl, rfl, Nat.le_of_ble_eq_true rfl, rfl, rfl⟩
theorem mf87 : MFv 87 8 2 := ⟨Nat.le_of_ble_eq_true rfl, okM87, rfl, rfl, Nat.le_of_ble_eq_true rfl, rfl, rfl⟩
theorem mf88 : MFv 88 8 2 := ⟨Nat.le_of_ble_eq_true rfl, okM88, rfl, rfl, Nat.le_of_ble_eq_true rfl, rfl, rfl⟩
theorem mf89 : MFv 89 8 1 := ⟨Nat.le_of_ble_eq_true rfl, okM89, rfl, rfl, Nat.le_of_ble_eq_true rfl, rfl, rfl⟩
theorem mf90 : MFv 90 8 1 := ⟨Nat.le_of_ble_eq_true rfl, okM90, rfl, rfl, Nat.le_of_ble_eq_true rfl, rfl, rfl⟩
theorem mf91 : MFv 91 8 1 := ⟨Nat.le_of_ble_eq_true rfl, okM91, rfl, rfl, Nat.le_of_ble_eq_true rfl, rfl, rfl⟩
theorem mf92 : MFv 92 9 3 := ⟨Nat.le_of_ble_eq_true rfl, okM92, rfl, rfl, Nat.le_of_ble_eq_true rfl, rfl, rfl⟩
theorem mf93 : MFs 93 1 := ⟨Nat.le_of_ble_eq_true rfl, okM93, rfl, rfl⟩
theorem mf94 : MFv 94 9 2 := ⟨Nat.le_of_ble_eq_true rfl, okM94, rfl, rfl, Nat.le_of_ble_eq_true rfl, rfl, rfl⟩
theorem mf95 : MFv 95 9 0 := ⟨Nat.le_of_ble_eq_true rfl, okM95, rfl, rfl, Nat.le_of_ble_eq_true rfl, rfl, rfl⟩
theorem mf96 : MFv 96 9 0 := ⟨Nat.le_of_ble_eq_true rfl, okM96, rfl, rfl, Nat.le_of_ble_eq_true rfl, rfl, rfl⟩
theorem mf97 : MFv 97 9 2 := ⟨Nat.le_of_ble_eq_true rfl, okM97, rfl, rfl, Nat.le_of_ble_eq_true rfl, rfl, rfl⟩
theorem mf98 : MFv 98 9 2 := ⟨Nat.le_of_ble_eq_true rfl, okM98, rfl, rfl, Nat.le_of_ble_eq_true rfl, rfl, rfl⟩
theorem mf99 : MFv 99 9 2 := ⟨Nat.le_of_ble_eq_true rfl, okM99, rfl, rfl, Nat.le_of_ble_eq_true rfl, rfl, rfl⟩
theorem mf100 : MFv 100 10 1 := ⟨Nat.le_of_ble_eq_true rfl, okM100, rfl, rfl, Nat.le_of_ble_eq_true rfl, rfl, rfl⟩
theorem mf101 : MFv 101 10 1 := ⟨Nat.le_of_ble_eq_true rfl, okM101, rfl, rfl, Nat.le_of_ble_eq_true rfl, rfl, rfl⟩
theorem mf102 : MFv 102 10 0 := ⟨Nat.le_of_ble_eq_true rfl, okM102, rfl, rfl, Nat.le_of_ble_eq_true rfl, rfl, rfl⟩
theorem mf103 : MFv 103 10 3 := ⟨Nat.le_of_ble_eq_true rfl, okM103, rfl, rfl, Nat.le_of_ble_eq_true rfl, rfl, rfl⟩
theorem mf104 : MFv 104 10 2 := ⟨Nat.le_of_ble_eq_true rfl, okM104, rfl, rfl, Nat.le_of_ble_eq_true rfl, rfl, rfl⟩
theorem mf105 : MFs 105 1 := ⟨Nat.le_of_ble_eq_true rfl, okM105, rfl, rfl⟩
theorem mf106 : MFs 106 1 := ⟨Nat.le_of_ble_eq_true rfl, okM106, rfl, rfl⟩
theorem mf107 : MFv 107 10 1 := ⟨Nat.le_of_ble_eq_true rfl, okM107, rfl, rfl, Nat.le_of_ble_eq_true rfl, rfl, rfl⟩
theorem mf108 : MFv 108 10 1 := ⟨Nat.le_of_ble_eq_true rfl, okM108, rfl, rfl, Nat.le_of_ble_eq_true rfl, rfl, rfl⟩
theorem mf109 : MFv 109 10 1 := ⟨Nat.le_of_ble_eq_true rfl, okM109, rfl, rfl, Nat.le_of_ble_eq_true rfl, rfl, rfl⟩
theorem mf110 : MFv 110 10 1 := ⟨Nat.le_of_ble_eq_true rfl, okM110, rfl, rfl, Nat.le_of_ble_eq_true rfl, rfl, rfl⟩
theorem mf111 : MFv 111 10 1 := ⟨Nat.le_of_ble_eq_true rfl, okM111, rfl, rfl, Nat.le_of_ble_eq_true rfl, rfl, rfl⟩
theorem mf112 : MFv 112 10 0 := ⟨Nat.le_of_ble_eq_true rfl, okM112, rfl, rfl, Nat.le_of_ble_eq_true rfl, rfl, rfl⟩
theorem mf113 : MFv 113 10 1 := ⟨Nat.le_of_ble_eq_true rfl, okM113, rfl, rfl, Nat.le_of_ble_eq_true rfl, rfl, rfl⟩
theorem mf114 : MFv 114 10 1 := ⟨Nat.le_of_ble_eq_true rfl, okM114, rfl, rfl, Nat.le_of_ble_eq_true rfl, rfl, rfl⟩
theorem mf115 : MFv 115 10 2 := ⟨Nat.le_of_ble_eq_true rfl, okM115, rfl, rfl, Nat.le_of_ble_eq_true rfl, rfl, rfl⟩
theorem mf116 : MFv 116 10 3 := ⟨Nat.le_of_ble_eq_true rfl, okM116, rfl, rfl, Nat.le_of_ble_eq_true rfl, rfl, rfl⟩
theorem mf117 : MFv 117 11 5 := ⟨Nat.le_of_ble_eq_true rfl, okM117, rfl, rfl, Nat.le_of_ble_eq_true rfl, rfl, rfl⟩
theorem mf118 : MFv 118 11 1 := ⟨Nat.le_of_ble_eq_true rfl, okM118, rfl, rfl, Nat.le_of_ble_eq_true rfl, rfl, rfl⟩
theorem mf119 : MFv 119 11 0 := ⟨Nat.le_of_ble_eq_true rfl, okM119, rfl, rfl, Nat.le_of_ble_eq_true rfl, rfl, rfl⟩
theorem mf120 : MFv 120 11 0 := ⟨Nat.le_of_ble_eq_true rfl, okM120, rfl, rfl, Nat.le_of_ble_eq_true rfl, rfl, rfl⟩
theorem mf121 : MFv 121 11 1 := ⟨Nat.le_of_ble_eq_true rfl, okM121, rfl, rfl, Nat.le_of_ble_eq_true rfl, rfl, rfl⟩
theorem mf122 : MFv 122 11 2 := ⟨Nat.le_of_ble_eq_true rfl, okM122, rfl, rfl, Nat.le_of_ble_eq_true rfl, rfl, rfl⟩
theorem mf123 : MFv 123 11 1 := ⟨Nat.le_of_ble_eq_true rfl, okM123, rfl, rfl, Nat.le_of_ble_eq_true rfl, rfl, rfl⟩
theorem mf124 : MFv 124 11 1 := ⟨Nat.le_of_ble_eq_true rfl, okM124, rfl, rfl, Nat.le_of_ble_eq_true rfl, rfl, rfl⟩
theorem mf125 : MFv 125 11 1 := ⟨Nat.le_of_ble_eq_true rfl, okM125, rfl, rfl, Nat.le_of_ble_eq_true rfl, rfl, rfl⟩
theorem mf126 : MFv 126 11 3 := ⟨Nat.le_of_ble_eq_true rfl, okM126, rfl, rfl, Nat.le_of_ble_eq_true rfl, rfl, rfl⟩
theorem mf127 : MFv 127 11 2 := ⟨Nat.le_of_ble_eq_true rfl, okM127, rfl, rfl, Nat.le_of_ble_eq_true rfl, rfl, rfl⟩
theorem mf128 : MFv 128 11 1 := ⟨Nat.le_of_ble_eq_true rfl, okM128, rfl, rfl, Nat.le_of_ble_eq_true rfl, rfl, rfl⟩
theorem mf129 : MFv 129 11 1 := ⟨Nat.le_of_ble_eq_true rfl, okM129, rfl, rfl, Nat.le_of_ble_eq_true rfl, rfl, rfl⟩
theorem mf130 : MFv 130 11 3 := ⟨Nat.le_of_ble_eq_true rfl, okM130, rfl, rfl, Nat.le_of_ble_eq_true rfl, rfl, rfl⟩
theorem mf131 : MFv 131 11 3 := ⟨Nat.le_of_ble_eq_true rfl, okM131, rfl, rfl, Nat.le_of_ble_eq_true rfl, rfl, rfl⟩
theorem mf132 : MFv 132 11 0 := ⟨Nat.le_of_ble_eq_true rfl, okM132, rfl, rfl, Nat.le_of_ble_eq_true rfl, rfl, rfl⟩
theorem mf133 : MFv 133 11 3 := ⟨Nat.le_of_ble_eq_true rfl, okM133, rfl, rfl, Nat.le_of_ble_eq_true rfl, rfl, rfl⟩
theorem mf134 : MFv 134 11 2 := ⟨Nat.le_of_ble_eq_true rfl, okM134, rfl, rfl, Nat.le_of_ble_eq_true rfl, rfl, rfl⟩
theorem mf135 : MFv 135 11 1 := ⟨Nat.le_of_ble_eq_true rfl, okM135, rfl, rfl, Nat.le_of_ble_eq_true rfl, rfl, rfl⟩
theorem mf136 : MFv 136 11 2 := ⟨Nat.le_of_ble_eq_true rfl, okM136, rfl, rfl, Nat.le_of_ble_eq_true rfl, rfl, rfl⟩
theorem mf137 : MFv 137 11 2 := ⟨Nat.le_of_ble_eq_true rfl, okM137, rfl, rfl, Nat.le_of_ble_eq_true rfl, rfl, rfl⟩
theorem mf138 : MFv 138 11 2 := ⟨Nat.le_of_ble_eq_true rfl, okM138, rfl, rfl, Nat.le_of_ble_eq_true rfl, rfl, rfl⟩
theorem mf139 : MFv 139 11 0 := ⟨Nat.le_of_ble_eq_true rfl, okM139, rfl, rfl, Nat.le_of_ble_eq_true rfl, rfl, rfl⟩
theorem mf140 : MFv 140 11 5 := ⟨Nat.le_of_ble_eq_true rfl, okM140, rfl, rfl, Nat.le_of_ble_eq_true rfl, rfl, rfl⟩
theorem mf141 : MFv 141 11 1 := ⟨Nat.le_of_ble_eq_true rfl, okM141, rfl, rfl, Nat.le_of_ble_eq_true rfl, rfl, rfl⟩
theorem mf142 : MFv 142 11 1 := ⟨Nat.le_of_ble_eq_true rfl, okM142, rfl, rfl, Nat.le_of_ble_eq_true rfl, rfl, rfl⟩
theorem mf143 : MFv 143 11 1 := ⟨Nat.le_of_ble_eq_true rfl, okM143, rfl, rfl, Nat.le_of_ble_eq_true rfl, rfl, rfl⟩
theorem mf144 : MFv 144 11 2 := ⟨Nat.le_of_ble_eq_true rfl, okM144, rfl, rfl, Nat.le_of_ble_eq_true rfl, rfl, rfl⟩
theorem mf145 : MFv 145 11 2 := ⟨Nat.le_of_ble_eq_true rfl, okM145, rfl, rfl, Nat.le_of_ble_eq_true rfl, rfl, rfl⟩
theorem mf146 : MFv 146 11 1 := ⟨Nat.le_of_ble_eq_true rfl, okM146, rfl, rfl, Nat.le_of_ble_eq_true rfl, rfl, rfl⟩
theorem mf147 : MFv 147 11 4 := ⟨Nat.le_of_ble_eq_true rfl, okM147, rfl, rfl, Nat.le_of_ble_eq_true rfl, rfl, rfl⟩
theorem mf148 : MFv 148 11 2 := ⟨Nat.le_of_ble_eq_true rfl, okM148, rfl, rfl, Nat.le_of_ble_eq_true rfl, rfl, rfl⟩
theorem mf149 : MFv 149 11 2 := ⟨Nat.le_of_ble_eq_true rfl, okM149, rfl, rfl, Nat.le_of_ble_eq_true rfl, rfl, rfl⟩
theorem mf150 : MFv 150 11 0 := ⟨Nat.le_of_ble_eq_true rfl, okM150, rfl, rfl, Nat.le_of_ble_eq_true rfl, rfl, rfl⟩
theorem mf151 : MFv 151 11 0 := ⟨Nat.le_of_ble_eq_true rfl, okM151, rfl, rfl, Nat.le_of_ble_eq_true rfl, rfl, rfl⟩
theorem mf152 : MFv 152 11 1 := ⟨Nat.le_of_ble_eq_true rfl, okM152, rfl, rfl, Nat.le_of_ble_eq_true rfl, rfl, rfl⟩
theorem mf153 : MFv 153 11 1 := ⟨Nat.le_of_ble_eq_true rfl, okM153, rfl, rfl, Nat.le_of_ble_eq_true rfl, rfl, rfl⟩
theorem mf154 : MFv 154 11 1 := ⟨Nat.le_of_ble_eq_true rfl, okM154, rfl, rfl, Nat.le_of_ble_eq_true rfl, rfl, rfl⟩
theorem mf155 : MFs 155 1 := ⟨Nat.le_of_ble_eq_true rfl, okM155, rfl, rfl⟩
theorem mf156 : MFs 156 1 := ⟨Nat.le_of_ble_eq_true rfl, okM156, rfl, rfl⟩
theorem mf157 : MFs 157 1 := ⟨Nat.le_of_ble_eq_true rfl, okM157, rfl, rfl⟩
theorem mf158 : MFv 158 11 2 := ⟨Nat.le_of_ble_eq_true rfl, okM158, rfl, rfl, Nat.le_of_ble_eq_true rfl, rfl, rfl⟩
theorem mf159 : MFv 159 11 2 := ⟨Nat.le_of_ble_eq_true rfl, okM159, rfl, rfl, Nat.le_of_ble_eq_true rfl, rfl, rfl⟩
theorem mf160 : MFv 160 11 0 := ⟨Nat.le_of_ble_eq_true rfl, okM160, rfl, rfl, Nat.le_of_ble_eq_true rfl, rfl, rfl⟩
theorem mf161 : MFv 161 11 0 := ⟨Nat.le_of_ble_eq_true rfl, okM161, rfl, rfl, Nat.le_of_ble_eq_true rfl, rfl, rfl⟩
theorem mf162 : MFv 162 11 0 := ⟨Nat.le_of_ble_eq_true rfl, okM162, rfl, rfl, Nat.le_of_ble_eq_true rfl, rfl, rfl⟩
theorem mf163 : MFv 163 11 2 := ⟨Nat.le_of_ble_eq_true rfl, okM163, rfl, rfl, Nat.le_of_ble_eq_true rfl, rfl, rfl⟩
theorem mf164 : MFv 164 11 0 := ⟨Nat.le_of_ble_eq_true rfl, okM164, rfl, rfl, Nat.le_of_ble_eq_true rfl, rfl, rfl⟩
theorem mf165 : MFs 165 3 := ⟨Nat.le_of_ble_eq_true rfl, okM165, rfl, rfl⟩
theorem mf166 : MFv 166 11 1 := ⟨Nat.le_of_ble_eq_true rfl, okM166, rfl, rfl, Nat.le_of_ble_eq_true rfl, rfl, rfl⟩
theorem mf167 : MFv 167 11 4 := ⟨Nat.le_of_ble_eq_true rfl, okM167, rfl, rfl, Nat.le_of_ble_eq_true rfl, rfl, rfl⟩
theorem mf168 : MFv 168 12 5 := ⟨Nat.le_of_ble_eq_true rfl, okM168, rfl, rfl, Nat.le_of_ble_eq_true rfl, rfl, rfl⟩
theorem mf169 : MFv 169 12 1 := ⟨Nat.le_of_ble_eq_true rfl, okM169, rfl, rfl, Nat.le_of_ble_eq_true rfl, rfl, rfl⟩
theorem mf170 : MFv 170 12 1 := ⟨Nat.le_of_ble_eq_true rfl, okM170, rfl, rfl, Nat.le_of_ble_eq_true rfl, rfl, rfl⟩
theorem mf171 : MFv 171 12 1 := ⟨Nat.le_of_ble_eq_true rfl, okM171, rfl, rfl, Nat.le_of_ble_eq_true rfl, rfl, rfl⟩
theorem mf172 : MFs 172 1 := ⟨Nat.le_of_ble_eq_true rfl, okM172, rfl, rfl⟩
theorem mf173 : MFs 173 1 := ⟨Nat.le_of_ble_eq_true rfl, okM173, rfl, rfl⟩
theorem mf174 : MFs 174 1 := ⟨Nat.le_of_ble_eq_true rfl, okM174, rfl, rfl⟩
theorem mf175 : MFv 175 12 0 := ⟨Nat.le_of_ble_eq_true rfl, okM175, rfl, rfl, Nat.le_of_ble_eq_true rfl, rfl, rfl⟩
theorem mf176 : MFv 176 12 1 := ⟨Nat.le_of_ble_eq_true rfl, okM176, rfl, rfl, Nat.le_of_ble_eq_true rfl, rfl, rfl⟩
theorem mf177 : MFv 177 12 1 := ⟨Nat.le_of_ble_eq_true rfl, okM177, rfl, rfl, Nat.le_of_ble_eq_true rfl, rfl, rfl⟩
theorem mf178 : MFv 178 12 0 := ⟨Nat.le_of_ble_eq_true rfl, okM178, rfl, rfl, Nat.le_of_ble_eq_true rfl, rfl, rfl⟩
theorem mf179 : MFv 179 12 0 := ⟨Nat.le_of_ble_eq_true rfl, okM179, rfl, rfl, Nat.le_of_ble_eq_true rfl, rfl, rfl⟩
theorem mf180 : MFv 180 12 1 := ⟨Nat.le_of_ble_eq_true rfl, okM180, rfl, rfl, Nat.le_of_ble_eq_true rfl, rfl, rfl⟩
theorem mf181 : MFv 181 12 2 := ⟨Nat.le_of_ble_eq_true rfl, okM181, rfl, rfl, Nat.le_of_ble_eq_true rfl, rfl, rfl⟩
theorem mf182 : MFv 182 12 1 := ⟨Nat.le_of_ble_eq_true rfl, okM182, rfl, rfl, Nat.le_of_ble_eq_true rfl, rfl, rfl⟩
theorem mf183 : MFv 183 12 1 := ⟨Nat.le_of_ble_eq_true rfl, okM183, rfl, rfl, Nat.le_of_ble_eq_true rfl, rfl, rfl⟩
theorem mf184 : MFv 184 12 0 := ⟨Nat.le_of_ble_eq_true rfl, okM184, rfl, rfl, Nat.le_of_ble_eq_true rfl, rfl, rfl⟩
theorem mf185 : MFv 185 12 1 := ⟨Nat.le_of_ble_eq_true rfl, okM185, rfl, rfl, Nat.le_of_ble_eq_true rfl, rfl, rfl⟩
theorem mf186 : MFv 186 12 0 := ⟨Nat.le_of_ble_eq_true rfl, okM186, rfl, rfl, Nat.le_of_ble_eq_true rfl, rfl, rfl⟩
theorem mf187 : MFv 187 12 0 := ⟨Nat.le_of_ble_eq_true rfl, okM187, rfl, rfl, Nat.le_of_ble_eq_true rfl, rfl, rfl⟩
theorem mf188 : MFv 188 12 0 := ⟨Nat.le_of_ble_eq_true rfl, okM188, rfl, rfl, Nat.le_of_ble_eq_true rfl, rfl, rfl⟩
theorem mf189 : MFv 189 12 0 := ⟨Nat.le_of_ble_eq_true rfl, okM189, rfl, rfl, Nat.le_of_ble_eq_true rfl, rfl, rfl⟩
theorem mf190 : MFv 190 12 0 := ⟨Nat.le_of_ble_eq_true rfl, okM190, rfl, rfl, Nat.le_of_ble_eq_true rfl, rfl, rfl⟩
theorem mf191 : MFv 191 12 0 := ⟨Nat.le_of_ble_eq_true rfl, okM191, rfl, rfl, Nat.le_of_ble_eq_true rfl, rfl, rfl⟩
theorem mf192 : MFv 192 12 1 := ⟨Nat.le_of_ble_eq_true rfl, okM192, rfl, rfl, Nat.le_of_ble_eq_true rfl, rfl, rfl⟩
theorem mf193 : MFs 193 2 := ⟨Nat.le_of_ble_eq_true rfl, okM193, rfl, rfl⟩
theorem mf194 : MFv 194 12 0 := ⟨Nat.le_of_ble_eq_true rfl, okM194, rfl, rfl, Nat.le_of_ble_eq_true rfl, rfl, rfl⟩
theorem mf195 : MFv 195 12 3 := ⟨Nat.le_of_ble_eq_true rfl, okM195, rfl, rfl, Nat.le_of_ble_eq_true rfl, rfl, rfl⟩
theorem mf196 : MFv 196 12 0 := ⟨Nat.le_of_ble_eq_true rfl, okM196, rfl, rfl, Nat.le_of_ble_eq_true rfl, rfl, rfl⟩
theorem mf197 : MFv 197 12 2 := ⟨Nat.le_of_ble_eq_true rfl, okM197, rfl, rfl, Nat.le_of_ble_eq_true rfl, rfl, rfl⟩
theorem mf198 : MFv 198 12 0 := ⟨Nat.le_of_ble_eq_true rfl, okM198, rfl, rfl, Nat.le_of_ble_eq_true rfl, rfl, rfl⟩
theorem mf199 : MFv 199 12 1 := ⟨Nat.le_of_ble_eq_true rfl, okM199, rfl, rfl, Nat.le_of_ble_eq_true rfl, rfl, rfl⟩
theorem mf200 : MFv 200 12 1 := ⟨Nat.le_of_ble_eq_true rfl, okM200, rfl, rfl, Nat.le_of_ble_eq_true rfl, rfl, rfl⟩
theorem mf201 : MFv 201 12 1 := ⟨Nat.le_of_ble_eq_true rfl, okM201, rfl, rfl, Nat.le_of_ble_eq_true rfl, rfl, rfl⟩
theorem mf202 : MFv 202 12 2 := ⟨Nat.le_of_ble_eq_true rfl, okM202, rfl, rfl, Nat.le_of_ble_eq_true rfl, rfl, rfl⟩
theorem mf203 : MFv 203 12 2 := ⟨Nat.le_of_ble_eq_true rfl, okM203, rfl, rfl, Nat.le_of_ble_eq_true rfl, rfl, rfl⟩
theorem mf204 : MFv 204 12 2 := ⟨Nat.le_of_ble_eq_true rfl, okM204, rfl, rfl, Nat.le_of_ble_eq_true rfl, rfl, rfl⟩
theorem mf205 : MFv 205 12 2 := ⟨Nat.le_of_ble_eq_true rfl, okM205, rfl, rfl, Nat.le_of_ble_eq_true rfl, rfl, rfl⟩
theorem mf206 : MFv 206 12 0 := ⟨Nat.le_of_ble_eq_true rfl, okM206, rfl, rfl, Nat.le_of_ble_eq_true rfl, rfl, rfl⟩
theorem mf207 : MFv 207 12 1 := ⟨Nat.le_of_ble_eq_true rfl, okM207, rfl, rfl, Nat.le_of_ble_eq_true rfl, rfl, rfl⟩
theorem mf208 : MFv 208 12 1 := ⟨Nat.le_of_ble_eq_true rfl, okM208, rfl, rfl, Nat.le_of_ble_eq_true rfl, rfl, rfl⟩
theorem mf209 : MFv 209 12 1 := ⟨Nat.le_of_ble_eq_true rfl, okM209, rfl, rfl, Nat.le_of_ble_eq_true rfl, rfl, rfl⟩
theorem mf210 : MFs 210 2 := ⟨Nat.le_of_ble_eq_true rfl, okM210, rfl, rfl⟩
theorem mf211 : MFv 211 12 2 := ⟨Nat.le_of_ble_eq_true rfl, okM211, rfl, rfl, Nat.le_of_ble_eq_true rfl, rfl, rfl⟩
theorem mf212 : MFv 212 12 2 := ⟨Nat.le_of_ble_eq_true rfl, okM212, rfl, rfl, Nat.le_of_ble_eq_true rfl, rfl, rfl⟩
theorem mf213 : MFs 213 1 := ⟨Nat.le_of_ble_eq_true rfl, okM213, rfl, rfl⟩
theorem mf214 : MFv 214 12 1 := ⟨Nat.le_of_ble_eq_true rfl, okM214, rfl, rfl, Nat.le_of_ble_eq_true rfl, rfl, rfl⟩
theorem mf215 : MFs 215 1 := ⟨Nat.le_of_ble_eq_true rfl, okM215, rfl, rfl⟩
theorem mf216 : MFv 216 12 0 := ⟨Nat.le_of_ble_eq_true rfl, okM216, rfl, rfl, Nat.le_of_ble_eq_true rfl, rfl, rfl⟩
theorem mf217 : MFv 217 12 1 := ⟨Nat.le_of_ble_eq_true rfl, okM217, rfl, rfl, Nat.le_of_ble_eq_true rfl, rfl, rfl⟩
theorem mf218 : MFv 218 12 1 := ⟨Nat.le_of_ble_eq_true rfl, okM218, rfl, rfl, Nat.le_of_ble_eq_true rfl, rfl, rfl⟩
theorem mf219 : MFv 219 12 0 := ⟨Nat.le_of_ble_eq_true rfl, okM219, rfl, rfl, Nat.le_of_ble_eq_true rfl, rfl, rfl⟩
theorem mf220 : MFv 220 12 1 := ⟨Nat.le_of_ble_eq_true rfl, okM220, rfl, rfl, Nat.le_of_ble_eq_true rfl, rfl, rfl⟩
theorem mf221 : MFv 221 12 0 := ⟨Nat.le_of_ble_eq_true rfl, okM221, rfl, rfl, Nat.le_of_ble_eq_true rfl, rfl, rfl⟩
theorem mf222 : MFv 222 12 0 := ⟨Nat.le_of_ble_eq_true rfl, okM222, rfl, rfl, Nat.le_of_ble_eq_true rfl, rfl, rfl⟩
theorem mf223 : MFv 223 12 1 := ⟨Nat.le_of_ble_eq_true rfl, okM223, rfl, rfl, Nat.le_of_ble_eq_true rfl, rfl, rfl⟩
theorem mf224 : MFv 224 12 1 := ⟨Nat.le_of_ble_eq_true rfl, okM224, rfl, rfl, Nat.le_of_ble_eq_true rfl, rfl, rfl⟩
theorem mf225 : MFv 225 12 1 := ⟨Nat.le_of_ble_eq_true rfl, okM225, rfl, rfl, Nat.le_of_ble_eq_true rfl, rfl, rfl⟩
theorem mf226 : MFv 226 12 1 := ⟨Nat.le_of_ble_eq_true rfl, okM226, rfl, rfl, Nat.le_of_ble_eq_true rfl, rfl, rfl⟩
theorem mf227 : MFv 227 12 1 := ⟨Nat.le_of_ble_eq_true rfl, okM227, rfl, rfl, Nat.le_of_ble_eq_true rfl, rfl, rfl⟩
theorem mf228 : MFv 228 12 3 := ⟨Nat.le_of_ble_eq_true rfl, okM228, rfl, rfl, Nat.le_of_ble_eq_true rfl, rfl, rfl⟩
theorem mf229 : MFv 229 12 2 := ⟨Nat.le_of_ble_eq_true rfl, okM229, rfl, rfl, Nat.le_of_ble_eq_true rfl, rfl, rfl⟩
theorem mf230 : MFs 230 1 := ⟨Nat.le_of_ble_eq_true rfl, okM230, rfl, rfl⟩
theorem mf231 : MFv 231 12 1 := ⟨Nat.le_of_ble_eq_true rfl, okM231, rfl, rfl, Nat.le_of_ble_eq_true rfl, rfl, rfl⟩
theorem mf232 : MFv 232 12 2 := ⟨Nat.le_of_ble_eq_true rfl, okM232, rfl, rfl, Nat.le_of_ble_eq_true rfl, rfl, rfl⟩
theorem mf233 : MFv 233 12 3 := ⟨Nat.le_of_ble_eq_true rfl, okM233, rfl, rfl, Nat.le_of_ble_eq_true rfl, rfl, rfl⟩
theorem mf234 : MFv 234 12 3 := ⟨Nat.le_of_ble_eq_true rfl, okM234, rfl, rfl, Nat.le_of_ble_eq_true rfl, rfl, rfl⟩
theorem mf235 : MFv 235 12 0 := ⟨Nat.le_of_ble_eq_true rfl, okM235, rfl, rfl, Nat.le_of_ble_eq_true rfl, rfl, rfl⟩
theorem mf236 : MFv 236 12 2 := ⟨Nat.le_of_ble_eq_true rfl, okM236, rfl, rfl, Nat.le_of_ble_eq_true rfl, rfl, rfl⟩
theorem mf237 : MFv 237 12 2 := ⟨Nat.le_of_ble_eq_true rfl, okM237, rfl, rfl, Nat.le_of_ble_eq_true rfl, rfl, rfl⟩
theorem mf238 : MFv 238 12 2 := ⟨Nat.le_of_ble_eq_true rfl, okM238, rfl, rfl, Nat.le_of_ble_eq_true rfl, rfl, rfl⟩
theorem mf239 : MFv 239 12 3 := ⟨Nat.le_of_ble_eq_true rfl, okM239, rfl, rfl, Nat.le_of_ble_eq_true rfl, rfl, rfl⟩
theorem mf240 : MFv 240 12 2 := ⟨Nat.le_of_ble_eq_true rfl, okM240, rfl, rfl, Nat.le_of_ble_eq_true rfl, rfl, rfl⟩
theorem mf241 : MFs 241 1 := ⟨Nat.le_of_ble_eq_true rfl, okM241, rfl, rfl⟩
theorem mf242 : MFv 242 12 1 := ⟨Nat.le_of_ble_eq_true rfl, okM242, rfl, rfl, Nat.le_of_ble_eq_true rfl, rfl, rfl⟩
theorem mf243 : MFv 243 12 1 := ⟨Nat.le_of_ble_eq_true rfl, okM243, rfl, rfl, Nat.le_of_ble_eq_true rfl, rfl, rfl⟩
theorem mf244 : MFv 244 12 2 := ⟨Nat.le_of_ble_eq_true rfl, okM244, rfl, rfl, Nat.le_of_ble_eq_true rfl, rfl, rfl⟩
theorem mf245 : MFv 245 12 2 := ⟨Nat.le_of_ble_eq_true rfl, okM245, rfl, rfl, Nat.le_of_ble_eq_true rfl, rfl, rfl⟩
theorem mf246 : MFv 246 12 0 := ⟨Nat.le_of_ble_eq_true rfl, okM246, rfl, rfl, Nat.le_of_ble_eq_true rfl, rfl, rfl⟩
theorem mf247 : MFv 247 12 2 := ⟨Nat.le_of_ble_eq_true rfl, okM247, rfl, rfl, Nat.le_of_ble_eq_true rfl, rfl, rfl⟩
theorem mf248 : MFs 248 1 := ⟨Nat.le_of_ble_eq_true rfl, okM248, rfl, rfl⟩
theorem mf249 : MFv 249 12 5 := ⟨Nat.le_of_ble_eq_true rfl, okM249, rfl, rfl, Nat.le_of_ble_eq_true rfl, rfl, rfl⟩
theorem mf250 : MFv 250 12 1 := ⟨Nat.le_of_ble_eq_true rfl, okM250, rfl, rfl, Nat.le_of_ble_eq_true rfl, rfl, rfl⟩
theorem mf251 : MFv 251 12 2 := ⟨Nat.le_of_ble_eq_true rfl, okM251, rfl, rfl, Nat.le_of_ble_eq_true rfl, rfl, rfl⟩
theorem mf252 : MFv 252 12 0 := ⟨Nat.le_of_ble_eq_true rfl, okM252, rfl, rfl, Nat.le_of_ble_eq_true rfl, rfl, rfl⟩
theorem mf253 : MFv 253 12 1 := ⟨Nat.le_of_ble_eq_true rfl, okM253, rfl, rfl, Nat.le_of_ble_eq_true rfl, rfl, rfl⟩
theorem mf254 : MFv 254 12 0 := ⟨Nat.le_of_ble_eq_true rfl, okM254, rfl, rfl, Nat.le_of_ble_eq_true rfl, rfl, rfl⟩
theorem mf255 : MFv 255 12 1 := ⟨Nat.le_of_ble_eq_true rfl, okM255, rfl, rfl, Nat.le_of_ble_eq_true rfl, rfl, rfl⟩
theorem mf256 : MFv 256 12 0 := ⟨Nat.le_of_ble_eq_true rfl, okM256, rfl, rfl, Nat.le_of_ble_eq_true rfl, rfl, rfl⟩
theorem mf257 : MFs 257 1 := ⟨Nat.le_of_ble_eq_true rfl, okM257, rfl, rfl⟩
theorem mf258 : MFv 258 12 0 := ⟨Nat.le_of_ble_eq_true rfl, okM258, rfl, rfl, Nat.le_of_ble_eq_true rfl, rfl, rfl⟩
theorem mf259 : MFv 259 12 0 := ⟨Nat.le_of_ble_eq_true rfl, okM259, rfl, rfl, Nat.le_of_ble_eq_true rfl, rfl, rfl⟩
theorem mf260 : MFv 260 12 1 := ⟨Nat.le_of_ble_eq_true rfl, okM260, rfl, rfl, Nat.le_of_ble_eq_true rfl, rfl, rfl⟩
theorem mf261 : MFv 261 12 0 := ⟨Nat.le_of_ble_eq_true rfl, okM261, rfl, rfl, Nat.le_of_ble_eq_true rfl, rfl, rfl⟩
theorem mf262 : MFv 262 12 0 := ⟨Nat.le_of_ble_eq_true rfl, okM262, rfl, rfl, Nat.le_of_ble_eq_true rfl, rfl, rfl⟩
theorem mf263 : MFv 263 12 0 := ⟨Nat.le_of_ble_eq_true rfl, okM263, rfl, rfl, Nat.le_of_ble_eq_true rfl, rfl, rfl⟩
theorem mf264 : MFs 264 3 := ⟨Nat.le_of_ble_eq_true rfl, okM264, rfl, rfl⟩
theorem mf265 : MFv 265 12 2 := ⟨Nat.le_of_ble_eq_true rfl, okM265, rfl, rfl, Nat.le_of_ble_eq_true rfl, rfl, rfl⟩
theorem mf266 : MFv 266 12 2 := ⟨Nat.le_of_ble_eq_true rfl, okM266, rfl, rfl, Nat.le_of_ble_eq_true rfl, rfl, rfl⟩
theorem mf267 : MFv 267 12 1 := ⟨Nat.le_of_ble_eq_true rfl, okM267, rfl, rfl, Nat.le_of_ble_eq_true rfl, rfl, rfl⟩
theorem mf268 : MFv 268 12 1 := ⟨Nat.le_of_ble_eq_true rfl, okM268, rfl, rfl, Nat.le_of_ble_eq_true rfl, rfl, rfl⟩
theorem mf269 : MFv 269 12 1 := ⟨Nat.le_of_ble_eq_true rfl, okM269, rfl, rfl, Nat.le_of_ble_eq_true rfl, rfl, rfl⟩
theorem mf270 : MFv 270 12 1 := ⟨Nat.le_of_ble_eq_true rfl, okM270, rfl, rfl, Nat.le_of_ble_eq_true rfl, rfl, rfl⟩
theorem mf271 : MFv 271 12 2 := ⟨Nat.le_of_ble_eq_true rfl, okM271, rfl, rfl, Nat.le_of_ble_eq_true rfl, rfl, rfl⟩
theorem mf272 : MFv 272 12 1 := ⟨Nat.le_of_ble_eq_true rfl, okM272, rfl, rfl, Nat.le_of_ble_eq_true rfl, rfl, rfl⟩
theorem mf273 : MFv 273 12 2 := ⟨Nat.le_of_ble_eq_true rfl, okM273, rfl, rfl, Nat.le_of_ble_eq_true rfl, rfl, rfl⟩
theorem mf274 : MFv 274 12 1 := ⟨Nat.le_of_ble_eq_true rfl, okM274, rfl, rfl, Nat.le_of_ble_eq_true rfl, rfl, rfl⟩
theorem mf275 : MFv 275 12 3 := ⟨Nat.le_of_ble_eq_true rfl, okM275, rfl, rfl, Nat.le_of_ble_eq_true rfl, rfl, rfl⟩
theorem mf276 : MFv 276 12 2 := ⟨Nat.le_of_ble_eq_true rfl, okM276, rfl, rfl, Nat.le_of_ble_eq_true rfl, rfl, rfl⟩
theorem mf277 : MFv 277 12 4 := ⟨Nat.le_of_ble_eq_true rfl, okM277, rfl, rfl, Nat.le_of_ble_eq_true rfl, rfl, rfl⟩
theorem mf278 : MFv 278 12 2 := ⟨Nat.le_of_ble_eq_true rfl, okM278, rfl, rfl, Nat.le_of_ble_eq_true rfl, rfl, rfl⟩
theorem mf279 : MFv 279 12 2 := ⟨Nat.le_of_ble_eq_true rfl, okM279, rfl, rfl, Nat.le_of_ble_eq_true rfl, rfl, rfl⟩
theorem mf280 : MFv 280 12 0 := ⟨Nat.le_of_ble_eq_true rfl, okM280, rfl, rfl, Nat.le_of_ble_eq_true rfl, rfl, rfl⟩
theorem mf281 : MFv 281 12 0 := ⟨Nat.le_of_ble_eq_true rfl, okM281, rfl, rfl, Nat.le_of_ble_eq_true rfl, rfl, rfl⟩
theorem mf282 : MFs 282 1 := ⟨Nat.le_of_ble_eq_true rfl, okM282, rfl, rfl⟩
theorem mf283 : MFv 283 12 1 := ⟨Nat.le_of_ble_eq_true rfl, okM283, rfl, rfl, Nat.le_of_ble_eq_true rfl, rfl, rfl⟩
theorem mf284 : MFv 284 12 1 := ⟨Nat.le_of_ble_eq_true rfl, okM284, rfl, rfl, Nat.le_of_ble_eq_true rfl, rfl, rfl⟩
theorem mf285 : MFv 285 12 1 := ⟨Nat.le_of_ble_eq_true rfl, okM285, rfl, rfl, Nat.le_of_ble_eq_true rfl, rfl, rfl⟩
theorem mf286 : MFs 286 1 := ⟨Nat.le_of_ble_eq_true rfl, okM286, rfl, rfl⟩
theorem mf287 : MFs 287 2 := ⟨Nat.le_of_ble_eq_true rfl, okM287, rfl, rfl⟩
theorem mf292 : MFs 292 2 := ⟨Nat.le_of_ble_eq_true rfl, okM292, rfl, rfl⟩
theorem mf293 : MFs 293 2 := ⟨Nat.le_of_ble_eq_true rfl, okM293, rfl, rfl⟩
def relL : List (Nat × Nat × Nat × Nat) := [(0, 1, 20, 60), (0, 2, 20, 60), (0, 3, 20, 60), (0, 4, 20, 60), (1, 1, 21, 6), (1, 2, 20, 6), (1, 3, 20, 16), (1, 4, 20, 16), (1, 5, 20, 16), (1, 6, 20, 16), (1, 7, 20, 102), (1, 8, 20, 20), (1, 9, 20, 20), (2, 1, 21, 16), (2, 2, 20, 20), (3, 1, 20, 16), (3, 2, 20, 16), (3, 3, 20, 17), (4, 1, 20, 16), (4, 2, 20, 16), (4, 3, 20, 256), (4, 4, 20, 16), (4, 5, 20, 16), (6, 1, 20, 8), (6, 2, 20, 8), (6, 3, 20, 8), (6, 4, 20, 500), (6, 5, 20, 500), (6, 6, 20, 50), (7, 1, 20, 16), (7, 2, 21, 16), (7, 3, 21, 16), (7, 4, 5, 2), (7, 5, 20, 16), (7, 6, 20, 16), (7, 7, 20, 17), (7, 8, 5, 2), (8, 1, 20, 16), (8, 2, 20, 16), (9, 1, 5, 2), (9, 2, 20, 13), (9, 3, 20, 13), (9, 4, 20, 13), (9, 5, 21, 169), (9, 6, 21, 169), (9, 7, 20, 169), (9, 8, 5, 2), (10, 1, 22, 1300), (10, 2, 20, 1301), (10, 3, 20, 1301), (10, 4, 21, 1301), (12, 1, 20, 1300), (12, 2, 21, 6), (12, 3, 21, 16), (12, 4, 20, 6), (12, 5, 20, 96), (12, 6, 20, 16), (12, 7, 20, 16), (12, 8, 20, 16), (12, 9, 20, 16), (12, 10, 20, 20), (12, 11, 20, 20), (12, 12, 20, 20), (12, 13, 23, 6), (12, 14, 23, 6), (12, 15, 20, 6), (12, 16, 20, 96), (12, 17, 20, 16), (12, 18, 20, 16), (12, 19, 20, 16), (12, 20, 20, 16), (12, 21, 20, 20), (12, 22, 20, 20), (12, 23, 23, 6), (12, 24, 21, 6), (12, 25, 20, 16), (12, 26, 20, 16), (12, 27, 20, 65536), (12, 28, 20, 65536), (12, 29, 20, 65536), (12, 30, 21, 16), (12, 31, 21, 16), (12, 32, 20, 65536), (12, 33, 20, 16), (12, 34, 20, 13), (12, 35, 20, 13), (12, 36, 21, 13), (12, 37, 20, 600), (12, 38, 20, 600), (12, 39, 20, 9), (12, 40, 20, 8), (12, 41, 20, 8), (12, 42, 20, 600), (12, 43, 20, 600), (12, 44, 20, 9), (12, 45, 20, 8), (12, 46, 20, 8), (12, 47, 20, 600), (12, 48, 20, 60), (12, 49, 20, 6), (12, 50, 20, 60), (12, 51, 20, 60), (12, 52, 20, 60), (12, 53, 23, 3), (12, 54, 23, 18), (12, 55, 20, 3), (12, 56, 20, 288), (12, 57, 20, 48), (12, 58, 20, 48), (12, 59, 20, 48), (12, 60, 20, 48)]
set_option maxRecDepth 100000 in
theorem rel_ok : (List.range 185).all (fun o => relL.all (fun r => decide (r.1 < 13) && decide ((shq o).1 = r.1 → shq (o + r.2.1) = (r.2.2.1, r.2.2.2)))) = true := by decide +kernel
theorem rel_shp {o ci off k n i : Nat} (h : (shq o).1 = ci) (hr : relL[i]? = some (ci, off, k, n)) : shq (o + off) = (k, n) := by
  have h0 := List.all_eq_true.mp rel_ok 0 (List.mem_range.mpr (by decide))
  have h1 := List.all_eq_true.mp h0 _ (List.mem_of_getElem? hr)
  simp only [Bool.and_eq_true, decide_eq_true_eq] at h1
  have hl : o < NLab := shp_lt (by rw [h]; have := h1.1; omega)
  have h2 := List.all_eq_true.mp (List.all_eq_true.mp rel_ok o (List.mem_range.mpr hl)) _ (List.mem_of_getElem? hr)
  simp only [Bool.and_eq_true, decide_eq_true_eq] at h2
  exact h2.2 h
theorem box_shp {i : Int32} (h : vp_in i 3) : (shq (47 + 10 * i.toNatClampNeg)).1 = 1 := by
  have h1 : i.toNatClampNeg < 3 := by
    rcases Nat.lt_or_ge i.toNatClampNeg 3 with q | q
    · exact q
    · exact absurd (Or.inr q) h
  rcases (show i.toNatClampNeg = 0 ∨ i.toNatClampNeg = 1 ∨ i.toNatClampNeg = 2 by omega) with q | q | q <;> rw [q] <;> rfl
theorem w_arraycopy : Cond.native arraycopyName ∈ gt ∧ Cond.static arraycopyName ∈ gt ∧ Cond.initialized "java/lang/System" ∈ gt := ⟨gt_at (i := npv + 1312) (by decide +kernel) rfl, gt_at (i := npv + 1311) (by decide +kernel) rfl, gt_at (i := npv + 23) (by decide +kernel) rfl⟩
theorem w_max : MW Lib.Math.max.name Lib.Math.max.code 2 (some .int) := ⟨gt_at (i := npv + 594) (by decide +kernel) rfl, gt_at (i := npv + 17) (by decide +kernel) rfl, gt_at (i := npv + 595) (by decide +kernel) rfl⟩
theorem w_min : MW Lib.Math.min.name Lib.Math.min.code 2 (some .int) := ⟨gt_at (i := npv + 597) (by decide +kernel) rfl, gt_at (i := npv + 17) (by decide +kernel) rfl, gt_at (i := npv + 598) (by decide +kernel) rfl⟩
theorem w_abs : MW Lib.Math.abs.name Lib.Math.abs.code 1 (some .int) := ⟨gt_at (i := npv + 985) (by decide +kernel) rfl, gt_at (i := npv + 17) (by decide +kernel) rfl, gt_at (i := npv + 986) (by decide +kernel) rfl⟩
theorem w_labs : MW Lib.MathLoose.abs_long.x Lib.MathLoose.abs_long.code 2 (some .long) := ⟨gt_at (i := npv + 967) (by decide +kernel) rfl, gt_at (i := npv + 17) (by decide +kernel) rfl, gt_at (i := npv + 968) (by decide +kernel) rfl⟩
end
section
-- 286: java/lang/Integer.bitCount(I)I
set_option maxRecDepth 100000 in
set_option maxHeartbeats 4000000 in
theorem B286_0 {Θ : Th} {d : Nat} {σ : Mem} {Q : Po} {x0 : Int32} 
    (h : Q (some (.int ((((((((x0 - (((x0.toUInt32 >>> ((1 : Int32).toUInt32 &&& Int32.toUInt32 31)).toInt32) &&& 1431655765)) &&& 858993459) + ((((x0 - (((x0.toUInt32 >>> ((1 : Int32).toUInt32 &&& Int32.toUInt32 31)).toInt32) &&& 1431655765)).toUInt32 >>> ((2 : Int32).toUInt32 &&& Int32.toUInt32 31)).toInt32) &&& 858993459)) + (((((x0 - (((x0.toUInt32 >>> ((1 : Int32).toUInt32 &&& Int32.toUInt32 31)).toInt32) &&& 1431655765)) &&& 858993459) + ((((x0 - (((x0.toUInt32 >>> ((1 : Int32).toUInt32 &&& Int32.toUInt32 31)).toInt32) &&& 1431655765)).toUInt32 >>> ((2 : Int32).toUInt32 &&& Int32.toUInt32 31)).toInt32) &&& 858993459)).toUInt32 >>> ((4 : Int32).toUInt32 &&& Int32.toUInt32 31)).toInt32)) &&& 252645135) + (((((((x0 - (((x0.toUInt32 >>> ((1 : Int32).toUInt32 &&& Int32.toUInt32 31)).toInt32) &&& 1431655765)) &&& 858993459) + ((((x0 - (((x0.toUInt32 >>> ((1 : Int32).toUInt32 &&& Int32.toUInt32 31)).toInt32) &&& 1431655765)).toUInt32 >>> ((2 : Int32).toUInt32 &&& Int32.toUInt32 31)).toInt32) &&& 858993459)) + (((((x0 - (((x0.toUInt32 >>> ((1 : Int32).toUInt32 &&& Int32.toUInt32 31)).toInt32) &&& 1431655765)) &&& 858993459) + ((((x0 - (((x0.toUInt32 >>> ((1 : Int32).toUInt32 &&& Int32.toUInt32 31)).toInt32) &&& 1431655765)).toUInt32 >>> ((2 : Int32).toUInt32 &&& Int32.toUInt32 31)).toInt32) &&& 858993459)).toUInt32 >>> ((4 : Int32).toUInt32 &&& Int32.toUInt32 31)).toInt32)) &&& 252645135).toUInt32 >>> ((8 : Int32).toUInt32 &&& Int32.toUInt32 31)).toInt32)) + ((((((((x0 - (((x0.toUInt32 >>> ((1 : Int32).toUInt32 &&& Int32.toUInt32 31)).toInt32) &&& 1431655765)) &&& 858993459) + ((((x0 - (((x0.toUInt32 >>> ((1 : Int32).toUInt32 &&& Int32.toUInt32 31)).toInt32) &&& 1431655765)).toUInt32 >>> ((2 : Int32).toUInt32 &&& Int32.toUInt32 31)).toInt32) &&& 858993459)) + (((((x0 - (((x0.toUInt32 >>> ((1 : Int32).toUInt32 &&& Int32.toUInt32 31)).toInt32) &&& 1431655765)) &&& 858993459) + ((((x0 - (((x0.toUInt32 >>> ((1 : Int32).toUInt32 &&& Int32.toUInt32 31)).toInt32) &&& 1431655765)).toUInt32 >>> ((2 : Int32).toUInt32 &&& Int32.toUInt32 31)).toInt32) &&& 858993459)).toUInt32 >>> ((4 : Int32).toUInt32 &&& Int32.toUInt32 31)).toInt32)) &&& 252645135) + (((((((x0 - (((x0.toUInt32 >>> ((1 : Int32).toUInt32 &&& Int32.toUInt32 31)).toInt32) &&& 1431655765)) &&& 858993459) + ((((x0 - (((x0.toUInt32 >>> ((1 : Int32).toUInt32 &&& Int32.toUInt32 31)).toInt32) &&& 1431655765)).toUInt32 >>> ((2 : Int32).toUInt32 &&& Int32.toUInt32 31)).toInt32) &&& 858993459)) + (((((x0 - (((x0.toUInt32 >>> ((1 : Int32).toUInt32 &&& Int32.toUInt32 31)).toInt32) &&& 1431655765)) &&& 858993459) + ((((x0 - (((x0.toUInt32 >>> ((1 : Int32).toUInt32 &&& Int32.toUInt32 31)).toInt32) &&& 1431655765)).toUInt32 >>> ((2 : Int32).toUInt32 &&& Int32.toUInt32 31)).toInt32) &&& 858993459)).toUInt32 >>> ((4 : Int32).toUInt32 &&& Int32.toUInt32 31)).toInt32)) &&& 252645135).toUInt32 >>> ((8 : Int32).toUInt32 &&& Int32.toUInt32 31)).toInt32)).toUInt32 >>> ((16 : Int32).toUInt32 &&& Int32.toUInt32 31)).toInt32)) &&& 63))) σ) :
    G Θ d 286 0 [some (.int x0)] [] σ Q := by
  refine r_iload_n ok286 0 rfl rfl rfl ?_
  refine r_iload_n ok286 1 rfl rfl rfl ?_
  refine r_iconst (v := 1) ok286 2 rfl rfl rfl ?_
  refine r_iushr ok286 3 rfl rfl ?_
  refine r_ldc_w (v := 1431655765) ok286 4 rfl rfl rfl ?_
  refine r_iand ok286 5 rfl rfl ?_
  refine r_isub ok286 6 rfl rfl ?_
  refine r_istore_n ok286 7 rfl rfl ?_
  refine r_iload_n ok286 8 rfl rfl rfl ?_
  refine r_ldc_w (v := 858993459) ok286 9 rfl rfl rfl ?_
  refine r_iand ok286 10 rfl rfl ?_
  refine r_iload_n ok286 11 rfl rfl rfl ?_
  refine r_iconst (v := 2) ok286 12 rfl rfl rfl ?_
  refine r_iushr ok286 13 rfl rfl ?_
  refine r_ldc_w (v := 858993459) ok286 14 rfl rfl rfl ?_
  refine r_iand ok286 15 rfl rfl ?_
  refine r_iadd ok286 16 rfl rfl ?_
  refine r_istore_n ok286 17 rfl rfl ?_
  refine r_iload_n ok286 18 rfl rfl rfl ?_
  refine r_iload_n ok286 19 rfl rfl rfl ?_
  refine r_iconst (v := 4) ok286 20 rfl rfl rfl ?_
  refine r_iushr ok286 21 rfl rfl ?_
  refine r_iadd ok286 22 rfl rfl ?_
  refine r_ldc_w (v := 252645135) ok286 23 rfl rfl rfl ?_
  refine r_iand ok286 24 rfl rfl ?_
  refine r_istore_n ok286 25 rfl rfl ?_
  refine r_iload_n ok286 26 rfl rfl rfl ?_
  refine r_iload_n ok286 27 rfl rfl rfl ?_
  refine r_bipush (v := 8) ok286 28 rfl rfl rfl ?_
  refine r_iushr ok286 29 rfl rfl ?_
  refine r_iadd ok286 30 rfl rfl ?_
  refine r_istore_n ok286 31 rfl rfl ?_
  refine r_iload_n ok286 32 rfl rfl rfl ?_
  refine r_iload_n ok286 33 rfl rfl rfl ?_
  refine r_bipush (v := 16) ok286 34 rfl rfl rfl ?_
  refine r_iushr ok286 35 rfl rfl ?_
  refine r_iadd ok286 36 rfl rfl ?_
  refine r_istore_n ok286 37 rfl rfl ?_
  refine r_iload_n ok286 38 rfl rfl rfl ?_
  refine r_bipush (v := 63) ok286 39 rfl rfl rfl ?_
  refine r_iand ok286 40 rfl rfl ?_
  exact r_iret ok286 41 rfl rfl rfl h

theorem K286 {Θ : Th} {d : Nat} {σ : Mem} {Q : Po} {x0 : Int32} (h : G Θ d 286 0 [some (.int x0)] [] σ Q) : Cm Θ d 286 [.int x0] σ Q :=
  C_of_G okM286 (Nat.le_of_ble_eq_true rfl) rfl h

-- 287: java/lang/Long.compare(JJ)I
set_option maxRecDepth 100000 in
set_option maxHeartbeats 4000000 in
theorem B287_0 {Θ : Th} {d : Nat} {σ : Mem} {Q : Po} {x0 : Int64} {x2 : Int64} 
    (h : ((0 ≤ (lg_cmp x0 x2) → ((¬ (lg_cmp x0 x2) = 0 → Q (some (.int 1)) σ) ∧ ((lg_cmp x0 x2) = 0 → Q (some (.int 0)) σ))) ∧ (¬ 0 ≤ (lg_cmp x0 x2) → Q (some (.int (-1))) σ))) :
    G Θ d 287 0 [some (.long x0), none, some (.long x2), none] [] σ Q := by
  refine r_lload_n ok287 0 rfl rfl rfl ?_
  refine r_lload_n ok287 1 rfl rfl rfl ?_
  refine r_lcmp ok287 2 rfl rfl ?_
  refine r_if_ge ok287 3 rfl rfl (fun c1 => ?_) (fun c1 => ?_)
  · have h1 := h.1 c1
    refine r_lload_n ok287 6 rfl rfl rfl ?_
    refine r_lload_n ok287 7 rfl rfl rfl ?_
    refine r_lcmp ok287 8 rfl rfl ?_
    refine r_if_ne ok287 9 rfl rfl (fun c2 => ?_) (fun c2 => ?_)
    · have h2 := h1.1 c2
      refine r_iconst (v := 1) ok287 12 rfl rfl rfl ?_
      exact r_iret ok287 13 rfl rfl rfl h2
    · have h2 := h1.2 c2
      refine r_iconst (v := 0) ok287 10 rfl rfl rfl ?_
      refine r_goto ok287 11 rfl rfl ?_
      exact r_iret ok287 13 rfl rfl rfl h2
  · have h1 := h.2 c1
    refine r_iconst (v := (-1)) ok287 4 rfl rfl rfl ?_
    refine r_goto ok287 5 rfl rfl ?_
    exact r_iret ok287 13 rfl rfl rfl h1

theorem K287 {Θ : Th} {d : Nat} {σ : Mem} {Q : Po} {x0 : Int64} {x2 : Int64} (h : G Θ d 287 0 [some (.long x0), none, some (.long x2), none] [] σ Q) : Cm Θ d 287 [.long x0, .long x2] σ Q :=
  C_of_G okM287 (Nat.le_of_ble_eq_true rfl) rfl h

-- 292: java/util/Arrays.fill([II)V
set_option maxRecDepth 100000 in
set_option maxHeartbeats 4000000 in
theorem B292_0 {Θ : Th} {d : Nat} {σ : Mem} {Q : Po} {r0 n0 : Nat} {x1 : Int32} (h0 : shq r0 = (20, n0))
    (h : G Θ d 292 5 [some (.ref r0), some (.int x1), some (.int 0), some (.int (Int32.ofNat n0))] [] σ Q) :
    G Θ d 292 0 [some (.ref r0), some (.int x1), none, none] [] σ Q := by
  refine r_iconst (v := 0) ok292 0 rfl rfl rfl ?_
  refine r_istore_n ok292 1 rfl rfl ?_
  refine r_aload_n ok292 2 rfl rfl rfl ?_
  refine r_alen20 (v := Int32.ofNat n0) ok292 3 rfl rfl h0 rfl ?_
  refine r_istore_n ok292 4 rfl rfl ?_
  exact h

set_option maxRecDepth 100000 in
set_option maxHeartbeats 4000000 in
theorem B292_5 {Θ : Th} {d : Nat} {σ : Mem} {Q : Po} {r0 n0 : Nat} {x1 : Int32} {x2 : Int32} {x3 : Int32} (h0 : shq r0 = (20, n0))
    (h : ((x3 ≤ x2 → Q none σ) ∧ (¬ x3 ≤ x2 → (vp_in x2 n0 ∧ G Θ d 292 5 [some (.ref r0), some (.int x1), some (.int (x2 + 1)), some (.int x3)] [] (sI σ r0 (x2.toNatClampNeg) x1) Q)))) :
    G Θ d 292 5 [some (.ref r0), some (.int x1), some (.int x2), some (.int x3)] [] σ Q := by
  refine r_iload_n ok292 5 rfl rfl rfl ?_
  refine r_iload_n ok292 6 rfl rfl rfl ?_
  refine r_icmp_ge ok292 7 rfl rfl (fun c1 => ?_) (fun c1 => ?_)
  · have h1 := h.1 c1
    exact r_ret ok292 14 rfl rfl rfl h1
  · have h1 := h.2 c1
    refine r_aload_n ok292 8 rfl rfl rfl ?_
    refine r_iload_n ok292 9 rfl rfl rfl ?_
    refine r_iload_n ok292 10 rfl rfl rfl ?_
    obtain ⟨c2, h2⟩ := h1
    refine r_iast ok292 11 rfl rfl h0 c2 ?_
    refine r_iinc (v := x2 + 1) ok292 12 rfl rfl rfl rfl ?_
    refine r_goto ok292 13 rfl rfl ?_
    exact h2

theorem K292 {Θ : Th} {d : Nat} {σ : Mem} {Q : Po} {r0 n0 : Nat} {x1 : Int32} (h : G Θ d 292 0 [some (.ref r0), some (.int x1), none, none] [] σ Q) : Cm Θ d 292 [.ref r0, .int x1] σ Q :=
  C_of_G okM292 (Nat.le_of_ble_eq_true rfl) rfl h

-- 293: java/util/Arrays.fill([ZZ)V
set_option maxRecDepth 100000 in
set_option maxHeartbeats 4000000 in
theorem B293_0 {Θ : Th} {d : Nat} {σ : Mem} {Q : Po} {r0 n0 : Nat} {x1 : Int32} (h0 : shq r0 = (23, n0))
    (h : G Θ d 293 5 [some (.ref r0), some (.int x1), some (.int 0), some (.int (Int32.ofNat n0))] [] σ Q) :
    G Θ d 293 0 [some (.ref r0), some (.int x1), none, none] [] σ Q := by
  refine r_iconst (v := 0) ok293 0 rfl rfl rfl ?_
  refine r_istore_n ok293 1 rfl rfl ?_
  refine r_aload_n ok293 2 rfl rfl rfl ?_
  refine r_alen23 (v := Int32.ofNat n0) ok293 3 rfl rfl h0 rfl ?_
  refine r_istore_n ok293 4 rfl rfl ?_
  exact h

set_option maxRecDepth 100000 in
set_option maxHeartbeats 4000000 in
theorem B293_5 {Θ : Th} {d : Nat} {σ : Mem} {Q : Po} {r0 n0 : Nat} {x1 : Int32} {x2 : Int32} {x3 : Int32} (h0 : shq r0 = (23, n0))
    (h : ((x3 ≤ x2 → Q none σ) ∧ (¬ x3 ≤ x2 → (vp_in x2 n0 ∧ G Θ d 293 5 [some (.ref r0), some (.int x1), some (.int (x2 + 1)), some (.int x3)] [] (sI σ r0 (x2.toNatClampNeg) (vp_nar .boolean x1)) Q)))) :
    G Θ d 293 5 [some (.ref r0), some (.int x1), some (.int x2), some (.int x3)] [] σ Q := by
  refine r_iload_n ok293 5 rfl rfl rfl ?_
  refine r_iload_n ok293 6 rfl rfl rfl ?_
  refine r_icmp_ge ok293 7 rfl rfl (fun c1 => ?_) (fun c1 => ?_)
  · have h1 := h.1 c1
    exact r_ret ok293 14 rfl rfl rfl h1
  · have h1 := h.2 c1
    refine r_aload_n ok293 8 rfl rfl rfl ?_
    refine r_iload_n ok293 9 rfl rfl rfl ?_
    refine r_iload_n ok293 10 rfl rfl rfl ?_
    obtain ⟨c2, h2⟩ := h1
    refine r_zast ok293 11 rfl rfl h0 c2 ?_
    refine r_iinc (v := x2 + 1) ok293 12 rfl rfl rfl rfl ?_
    refine r_goto ok293 13 rfl rfl ?_
    exact h2

theorem K293 {Θ : Th} {d : Nat} {σ : Mem} {Q : Po} {r0 n0 : Nat} {x1 : Int32} (h : G Θ d 293 0 [some (.ref r0), some (.int x1), none, none] [] σ Q) : Cm Θ d 293 [.ref r0, .int x1] σ Q :=
  C_of_G okM293 (Nat.le_of_ble_eq_true rfl) rfl h
end
