-- ===== PART A: goes FIRST, ahead of the names: the tables' words, and 'selects' of the private methods out of them =====
/-- a private method of a class that the tables say can be made, by its rows of tables_1 -/
def lw_okq (q : MethodName × Nat) : Prop := (q.1.cls ≠ "java/lang/invoke/MethodHandle" ∧ q.1.cls ≠ "java/lang/invoke/VarHandle") ∧ Cond.instantiable q.1.cls q.2 ∈ tables_1 ∧ Cond.privateMethod q.1 ∈ tables_1 ∧ Cond.instanceMethod q.1 ∈ tables_1
theorem lw_p0 : lw_okq (⟨"LikeYears$Tape", "scanToken", "(IZ)I"⟩, 12) := ⟨⟨by decide +kernel, by decide +kernel⟩, List.mem_of_getElem? (i := 33) (by decide +kernel), List.mem_of_getElem? (i := 541) (by decide +kernel), List.mem_of_getElem? (i := 542) (by decide +kernel)⟩
theorem lw_p1 : lw_okq (⟨"LikeYears$Tape", "scanWord", "(I)I"⟩, 12) := ⟨⟨by decide +kernel, by decide +kernel⟩, List.mem_of_getElem? (i := 33) (by decide +kernel), List.mem_of_getElem? (i := 548) (by decide +kernel), List.mem_of_getElem? (i := 549) (by decide +kernel)⟩
theorem lw_p2 : lw_okq (⟨"LikeYears$Tape", "note", "(IIJ)V"⟩, 12) := ⟨⟨by decide +kernel, by decide +kernel⟩, List.mem_of_getElem? (i := 33) (by decide +kernel), List.mem_of_getElem? (i := 552) (by decide +kernel), List.mem_of_getElem? (i := 553) (by decide +kernel)⟩
theorem lw_p3 : lw_okq (⟨"LikeYears$Tape", "scanNumber", "(I)I"⟩, 12) := ⟨⟨by decide +kernel, by decide +kernel⟩, List.mem_of_getElem? (i := 33) (by decide +kernel), List.mem_of_getElem? (i := 559) (by decide +kernel), List.mem_of_getElem? (i := 560) (by decide +kernel)⟩
theorem lw_p4 : lw_okq (⟨"LikeYears$BookReader", "readLine", "()Z"⟩, 6) := ⟨⟨by decide +kernel, by decide +kernel⟩, List.mem_of_getElem? (i := 103) (by decide +kernel), List.mem_of_getElem? (i := 656) (by decide +kernel), List.mem_of_getElem? (i := 657) (by decide +kernel)⟩
theorem lw_p5 : lw_okq (⟨"LikeYears$BookReader", "readMark", "()Z"⟩, 6) := ⟨⟨by decide +kernel, by decide +kernel⟩, List.mem_of_getElem? (i := 103) (by decide +kernel), List.mem_of_getElem? (i := 665) (by decide +kernel), List.mem_of_getElem? (i := 666) (by decide +kernel)⟩
theorem lw_p6 : lw_okq (⟨"LikeYears$BookReader", "passNewName", "()J"⟩, 6) := ⟨⟨by decide +kernel, by decide +kernel⟩, List.mem_of_getElem? (i := 103) (by decide +kernel), List.mem_of_getElem? (i := 674) (by decide +kernel), List.mem_of_getElem? (i := 675) (by decide +kernel)⟩
theorem lw_p7 : lw_okq (⟨"LikeYears$BookReader", "caseNamed", "(J)I"⟩, 6) := ⟨⟨by decide +kernel, by decide +kernel⟩, List.mem_of_getElem? (i := 103) (by decide +kernel), List.mem_of_getElem? (i := 688) (by decide +kernel), List.mem_of_getElem? (i := 689) (by decide +kernel)⟩
theorem lw_p8 : lw_okq (⟨"LikeYears$BookReader", "readNever", "()Z"⟩, 6) := ⟨⟨by decide +kernel, by decide +kernel⟩, List.mem_of_getElem? (i := 103) (by decide +kernel), List.mem_of_getElem? (i := 720) (by decide +kernel), List.mem_of_getElem? (i := 721) (by decide +kernel)⟩
theorem lw_p9 : lw_okq (⟨"LikeYears$BookReader", "markHere", "()I"⟩, 6) := ⟨⟨by decide +kernel, by decide +kernel⟩, List.mem_of_getElem? (i := 103) (by decide +kernel), List.mem_of_getElem? (i := 724) (by decide +kernel), List.mem_of_getElem? (i := 725) (by decide +kernel)⟩
theorem lw_p10 : lw_okq (⟨"LikeYears$BookReader", "readCase", "()Z"⟩, 6) := ⟨⟨by decide +kernel, by decide +kernel⟩, List.mem_of_getElem? (i := 103) (by decide +kernel), List.mem_of_getElem? (i := 733) (by decide +kernel), List.mem_of_getElem? (i := 734) (by decide +kernel)⟩
theorem lw_p11 : lw_okq (⟨"LikeYears$BookReader", "readFacts", "()Z"⟩, 6) := ⟨⟨by decide +kernel, by decide +kernel⟩, List.mem_of_getElem? (i := 103) (by decide +kernel), List.mem_of_getElem? (i := 737) (by decide +kernel), List.mem_of_getElem? (i := 738) (by decide +kernel)⟩
theorem lw_p12 : lw_okq (⟨"LikeYears$BookReader", "readSteps", "()Z"⟩, 6) := ⟨⟨by decide +kernel, by decide +kernel⟩, List.mem_of_getElem? (i := 103) (by decide +kernel), List.mem_of_getElem? (i := 749) (by decide +kernel), List.mem_of_getElem? (i := 750) (by decide +kernel)⟩
theorem lw_p13 : lw_okq (⟨"LikeYears$BookReader", "readTold", "()Z"⟩, 6) := ⟨⟨by decide +kernel, by decide +kernel⟩, List.mem_of_getElem? (i := 103) (by decide +kernel), List.mem_of_getElem? (i := 760) (by decide +kernel), List.mem_of_getElem? (i := 761) (by decide +kernel)⟩
theorem lw_p14 : lw_okq (⟨"LikeYears$BookReader", "passCase", "()I"⟩, 6) := ⟨⟨by decide +kernel, by decide +kernel⟩, List.mem_of_getElem? (i := 103) (by decide +kernel), List.mem_of_getElem? (i := 764) (by decide +kernel), List.mem_of_getElem? (i := 765) (by decide +kernel)⟩
theorem lw_p15 : lw_okq (⟨"LikeYears$BookReader", "toldHolds", "()Z"⟩, 6) := ⟨⟨by decide +kernel, by decide +kernel⟩, List.mem_of_getElem? (i := 103) (by decide +kernel), List.mem_of_getElem? (i := 774) (by decide +kernel), List.mem_of_getElem? (i := 775) (by decide +kernel)⟩
def lw_privs_1 : List (MethodName × Nat) := [(⟨"LikeYears$Tape", "scanToken", "(IZ)I"⟩, 12), (⟨"LikeYears$Tape", "scanWord", "(I)I"⟩, 12), (⟨"LikeYears$Tape", "note", "(IIJ)V"⟩, 12), (⟨"LikeYears$Tape", "scanNumber", "(I)I"⟩, 12), (⟨"LikeYears$BookReader", "readLine", "()Z"⟩, 6), (⟨"LikeYears$BookReader", "readMark", "()Z"⟩, 6), (⟨"LikeYears$BookReader", "passNewName", "()J"⟩, 6), (⟨"LikeYears$BookReader", "caseNamed", "(J)I"⟩, 6), (⟨"LikeYears$BookReader", "readNever", "()Z"⟩, 6), (⟨"LikeYears$BookReader", "markHere", "()I"⟩, 6), (⟨"LikeYears$BookReader", "readCase", "()Z"⟩, 6), (⟨"LikeYears$BookReader", "readFacts", "()Z"⟩, 6), (⟨"LikeYears$BookReader", "readSteps", "()Z"⟩, 6), (⟨"LikeYears$BookReader", "readTold", "()Z"⟩, 6), (⟨"LikeYears$BookReader", "passCase", "()I"⟩, 6), (⟨"LikeYears$BookReader", "toldHolds", "()Z"⟩, 6)]
theorem lw_r1 : ∀ q ∈ lw_privs_1, lw_okq q := List.forall_mem_cons.mpr ⟨lw_p0, List.forall_mem_cons.mpr ⟨lw_p1, List.forall_mem_cons.mpr ⟨lw_p2, List.forall_mem_cons.mpr ⟨lw_p3, List.forall_mem_cons.mpr ⟨lw_p4, List.forall_mem_cons.mpr ⟨lw_p5, List.forall_mem_cons.mpr ⟨lw_p6, List.forall_mem_cons.mpr ⟨lw_p7, List.forall_mem_cons.mpr ⟨lw_p8, List.forall_mem_cons.mpr ⟨lw_p9, List.forall_mem_cons.mpr ⟨lw_p10, List.forall_mem_cons.mpr ⟨lw_p11, List.forall_mem_cons.mpr ⟨lw_p12, List.forall_mem_cons.mpr ⟨lw_p13, List.forall_mem_cons.mpr ⟨lw_p14, List.forall_mem_cons.mpr ⟨lw_p15, fun _ h => absurd h List.not_mem_nil⟩⟩⟩⟩⟩⟩⟩⟩⟩⟩⟩⟩⟩⟩⟩⟩
theorem lw_p16 : lw_okq (⟨"LikeYears$Order", "tell", "(II)V"⟩, 2) := ⟨⟨by decide +kernel, by decide +kernel⟩, List.mem_of_getElem? (i := 89) (by decide +kernel), List.mem_of_getElem? (i := 799) (by decide +kernel), List.mem_of_getElem? (i := 800) (by decide +kernel)⟩
theorem lw_p17 : lw_okq (⟨"LikeYears$Laws", "readLine", "()Z"⟩, 12) := ⟨⟨by decide +kernel, by decide +kernel⟩, List.mem_of_getElem? (i := 209) (by decide +kernel), List.mem_of_getElem? (i := 816) (by decide +kernel), List.mem_of_getElem? (i := 817) (by decide +kernel)⟩
theorem lw_p18 : lw_okq (⟨"LikeYears$Laws", "readLevel", "(II)Z"⟩, 12) := ⟨⟨by decide +kernel, by decide +kernel⟩, List.mem_of_getElem? (i := 209) (by decide +kernel), List.mem_of_getElem? (i := 823) (by decide +kernel), List.mem_of_getElem? (i := 824) (by decide +kernel)⟩
theorem lw_p19 : lw_okq (⟨"LikeYears$Laws", "readUnit", "(I)Z"⟩, 12) := ⟨⟨by decide +kernel, by decide +kernel⟩, List.mem_of_getElem? (i := 209) (by decide +kernel), List.mem_of_getElem? (i := 827) (by decide +kernel), List.mem_of_getElem? (i := 828) (by decide +kernel)⟩
theorem lw_p20 : lw_okq (⟨"LikeYears$Laws", "readPlainUnit", "()Z"⟩, 12) := ⟨⟨by decide +kernel, by decide +kernel⟩, List.mem_of_getElem? (i := 209) (by decide +kernel), List.mem_of_getElem? (i := 834) (by decide +kernel), List.mem_of_getElem? (i := 835) (by decide +kernel)⟩
theorem lw_p21 : lw_okq (⟨"LikeYears$Laws", "write", "(II)Z"⟩, 12) := ⟨⟨by decide +kernel, by decide +kernel⟩, List.mem_of_getElem? (i := 209) (by decide +kernel), List.mem_of_getElem? (i := 838) (by decide +kernel), List.mem_of_getElem? (i := 839) (by decide +kernel)⟩
theorem lw_p22 : lw_okq (⟨"LikeYears$Laws", "factHere", "()I"⟩, 12) := ⟨⟨by decide +kernel, by decide +kernel⟩, List.mem_of_getElem? (i := 209) (by decide +kernel), List.mem_of_getElem? (i := 844) (by decide +kernel), List.mem_of_getElem? (i := 845) (by decide +kernel)⟩
theorem lw_p23 : lw_okq (⟨"LikeYears$Laws", "signHere", "(I)I"⟩, 12) := ⟨⟨by decide +kernel, by decide +kernel⟩, List.mem_of_getElem? (i := 209) (by decide +kernel), List.mem_of_getElem? (i := 854) (by decide +kernel), List.mem_of_getElem? (i := 855) (by decide +kernel)⟩
theorem lw_p24 : lw_okq (⟨"LikeYears$Laws", "relationHere", "()I"⟩, 12) := ⟨⟨by decide +kernel, by decide +kernel⟩, List.mem_of_getElem? (i := 209) (by decide +kernel), List.mem_of_getElem? (i := 860) (by decide +kernel), List.mem_of_getElem? (i := 861) (by decide +kernel)⟩
theorem lw_p25 : lw_okq (⟨"LikeYears", "knownOrder", "()LLikeYears$Order;"⟩, 18) := ⟨⟨by decide +kernel, by decide +kernel⟩, List.mem_of_getElem? (i := 25) (by decide +kernel), List.mem_of_getElem? (i := 879) (by decide +kernel), List.mem_of_getElem? (i := 880) (by decide +kernel)⟩
theorem lw_p26 : lw_okq (⟨"LikeYears$Order", "gap", "(LLikeYears$Book;II)I"⟩, 2) := ⟨⟨by decide +kernel, by decide +kernel⟩, List.mem_of_getElem? (i := 89) (by decide +kernel), List.mem_of_getElem? (i := 894) (by decide +kernel), List.mem_of_getElem? (i := 895) (by decide +kernel)⟩
theorem lw_p27 : lw_okq (⟨"LikeYears", "knownSquares", "()LLikeYears$Nearest;"⟩, 18) := ⟨⟨by decide +kernel, by decide +kernel⟩, List.mem_of_getElem? (i := 25) (by decide +kernel), List.mem_of_getElem? (i := 948) (by decide +kernel), List.mem_of_getElem? (i := 949) (by decide +kernel)⟩
theorem lw_p28 : lw_okq (⟨"LikeYears$Nearest", "upperPart", "(LLikeYears$Book;[II)I"⟩, 10) := ⟨⟨by decide +kernel, by decide +kernel⟩, List.mem_of_getElem? (i := 318) (by decide +kernel), List.mem_of_getElem? (i := 970) (by decide +kernel), List.mem_of_getElem? (i := 971) (by decide +kernel)⟩
theorem lw_p29 : lw_okq (⟨"LikeYears$Cut", "prepare", "(I)V"⟩, 9) := ⟨⟨by decide +kernel, by decide +kernel⟩, List.mem_of_getElem? (i := 283) (by decide +kernel), List.mem_of_getElem? (i := 978) (by decide +kernel), List.mem_of_getElem? (i := 979) (by decide +kernel)⟩
theorem lw_p30 : lw_okq (⟨"LikeYears$Cut", "findOpenOwer", "()I"⟩, 9) := ⟨⟨by decide +kernel, by decide +kernel⟩, List.mem_of_getElem? (i := 283) (by decide +kernel), List.mem_of_getElem? (i := 986) (by decide +kernel), List.mem_of_getElem? (i := 987) (by decide +kernel)⟩
theorem lw_p31 : lw_okq (⟨"LikeYears$Cut", "startQueue", "()I"⟩, 9) := ⟨⟨by decide +kernel, by decide +kernel⟩, List.mem_of_getElem? (i := 283) (by decide +kernel), List.mem_of_getElem? (i := 990) (by decide +kernel), List.mem_of_getElem? (i := 991) (by decide +kernel)⟩
def lw_privs_2 : List (MethodName × Nat) := [(⟨"LikeYears$Order", "tell", "(II)V"⟩, 2), (⟨"LikeYears$Laws", "readLine", "()Z"⟩, 12), (⟨"LikeYears$Laws", "readLevel", "(II)Z"⟩, 12), (⟨"LikeYears$Laws", "readUnit", "(I)Z"⟩, 12), (⟨"LikeYears$Laws", "readPlainUnit", "()Z"⟩, 12), (⟨"LikeYears$Laws", "write", "(II)Z"⟩, 12), (⟨"LikeYears$Laws", "factHere", "()I"⟩, 12), (⟨"LikeYears$Laws", "signHere", "(I)I"⟩, 12), (⟨"LikeYears$Laws", "relationHere", "()I"⟩, 12), (⟨"LikeYears", "knownOrder", "()LLikeYears$Order;"⟩, 18), (⟨"LikeYears$Order", "gap", "(LLikeYears$Book;II)I"⟩, 2), (⟨"LikeYears", "knownSquares", "()LLikeYears$Nearest;"⟩, 18), (⟨"LikeYears$Nearest", "upperPart", "(LLikeYears$Book;[II)I"⟩, 10), (⟨"LikeYears$Cut", "prepare", "(I)V"⟩, 9), (⟨"LikeYears$Cut", "findOpenOwer", "()I"⟩, 9), (⟨"LikeYears$Cut", "startQueue", "()I"⟩, 9)]
theorem lw_r2 : ∀ q ∈ lw_privs_2, lw_okq q := List.forall_mem_cons.mpr ⟨lw_p16, List.forall_mem_cons.mpr ⟨lw_p17, List.forall_mem_cons.mpr ⟨lw_p18, List.forall_mem_cons.mpr ⟨lw_p19, List.forall_mem_cons.mpr ⟨lw_p20, List.forall_mem_cons.mpr ⟨lw_p21, List.forall_mem_cons.mpr ⟨lw_p22, List.forall_mem_cons.mpr ⟨lw_p23, List.forall_mem_cons.mpr ⟨lw_p24, List.forall_mem_cons.mpr ⟨lw_p25, List.forall_mem_cons.mpr ⟨lw_p26, List.forall_mem_cons.mpr ⟨lw_p27, List.forall_mem_cons.mpr ⟨lw_p28, List.forall_mem_cons.mpr ⟨lw_p29, List.forall_mem_cons.mpr ⟨lw_p30, List.forall_mem_cons.mpr ⟨lw_p31, fun _ h => absurd h List.not_mem_nil⟩⟩⟩⟩⟩⟩⟩⟩⟩⟩⟩⟩⟩⟩⟩⟩
theorem lw_p32 : lw_okq (⟨"LikeYears$Cut", "queuePayersOf", "(II)I"⟩, 9) := ⟨⟨by decide +kernel, by decide +kernel⟩, List.mem_of_getElem? (i := 283) (by decide +kernel), List.mem_of_getElem? (i := 994) (by decide +kernel), List.mem_of_getElem? (i := 995) (by decide +kernel)⟩
theorem lw_p33 : lw_okq (⟨"LikeYears$Cut", "payAround", "(I)V"⟩, 9) := ⟨⟨by decide +kernel, by decide +kernel⟩, List.mem_of_getElem? (i := 283) (by decide +kernel), List.mem_of_getElem? (i := 999) (by decide +kernel), List.mem_of_getElem? (i := 1000) (by decide +kernel)⟩
theorem lw_p34 : lw_okq (⟨"LikeYears$Nearest", "seal", "(LLikeYears$Book;I)V"⟩, 10) := ⟨⟨by decide +kernel, by decide +kernel⟩, List.mem_of_getElem? (i := 318) (by decide +kernel), List.mem_of_getElem? (i := 1004) (by decide +kernel), List.mem_of_getElem? (i := 1005) (by decide +kernel)⟩
theorem lw_p35 : lw_okq (⟨"LikeYears", "knownGaps", "()LLikeYears$Nearest;"⟩, 18) := ⟨⟨by decide +kernel, by decide +kernel⟩, List.mem_of_getElem? (i := 25) (by decide +kernel), List.mem_of_getElem? (i := 1017) (by decide +kernel), List.mem_of_getElem? (i := 1018) (by decide +kernel)⟩
theorem lw_p36 : lw_okq (⟨"LikeYears$Nearest", "shareOut", "(LLikeYears$Book;)V"⟩, 10) := ⟨⟨by decide +kernel, by decide +kernel⟩, List.mem_of_getElem? (i := 318) (by decide +kernel), List.mem_of_getElem? (i := 1030) (by decide +kernel), List.mem_of_getElem? (i := 1031) (by decide +kernel)⟩
theorem lw_p37 : lw_okq (⟨"LikeYears$Choices", "search", "(III)V"⟩, 7) := ⟨⟨by decide +kernel, by decide +kernel⟩, List.mem_of_getElem? (i := 381) (by decide +kernel), List.mem_of_getElem? (i := 1070) (by decide +kernel), List.mem_of_getElem? (i := 1071) (by decide +kernel)⟩
theorem lw_p38 : lw_okq (⟨"LikeYears$Choices", "mostFoes", "(I)I"⟩, 7) := ⟨⟨by decide +kernel, by decide +kernel⟩, List.mem_of_getElem? (i := 381) (by decide +kernel), List.mem_of_getElem? (i := 1075) (by decide +kernel), List.mem_of_getElem? (i := 1076) (by decide +kernel)⟩
theorem lw_p39 : lw_okq (⟨"LikeYears$Choices", "note", "(II)V"⟩, 7) := ⟨⟨by decide +kernel, by decide +kernel⟩, List.mem_of_getElem? (i := 381) (by decide +kernel), List.mem_of_getElem? (i := 1079) (by decide +kernel), List.mem_of_getElem? (i := 1080) (by decide +kernel)⟩
theorem lw_p40 : lw_okq (⟨"LikeYears", "isGrid", "(II)Z"⟩, 18) := ⟨⟨by decide +kernel, by decide +kernel⟩, List.mem_of_getElem? (i := 25) (by decide +kernel), List.mem_of_getElem? (i := 1088) (by decide +kernel), List.mem_of_getElem? (i := 1089) (by decide +kernel)⟩
theorem lw_p41 : lw_okq (⟨"LikeYears", "gridCost", "(II)LLikeYears$Fraction;"⟩, 18) := ⟨⟨by decide +kernel, by decide +kernel⟩, List.mem_of_getElem? (i := 25) (by decide +kernel), List.mem_of_getElem? (i := 1096) (by decide +kernel), List.mem_of_getElem? (i := 1097) (by decide +kernel)⟩
theorem lw_p42 : lw_okq (⟨"LikeYears", "findBest", "()I"⟩, 18) := ⟨⟨by decide +kernel, by decide +kernel⟩, List.mem_of_getElem? (i := 25) (by decide +kernel), List.mem_of_getElem? (i := 1110) (by decide +kernel), List.mem_of_getElem? (i := 1111) (by decide +kernel)⟩
theorem lw_p43 : lw_okq (⟨"LikeYears", "isRuns", "(II)Z"⟩, 18) := ⟨⟨by decide +kernel, by decide +kernel⟩, List.mem_of_getElem? (i := 25) (by decide +kernel), List.mem_of_getElem? (i := 1124) (by decide +kernel), List.mem_of_getElem? (i := 1125) (by decide +kernel)⟩
theorem lw_p44 : lw_okq (⟨"LikeYears$Parting", "pool", "(LLikeYears$Book;I)V"⟩, 10) := ⟨⟨by decide +kernel, by decide +kernel⟩, List.mem_of_getElem? (i := 412) (by decide +kernel), List.mem_of_getElem? (i := 1132) (by decide +kernel), List.mem_of_getElem? (i := 1133) (by decide +kernel)⟩
theorem lw_p45 : lw_okq (⟨"LikeYears$Parting", "joinFalling", "()V"⟩, 10) := ⟨⟨by decide +kernel, by decide +kernel⟩, List.mem_of_getElem? (i := 412) (by decide +kernel), List.mem_of_getElem? (i := 1137) (by decide +kernel), List.mem_of_getElem? (i := 1138) (by decide +kernel)⟩
theorem lw_p46 : lw_okq (⟨"LikeYears$Parting", "oneRun", "()V"⟩, 10) := ⟨⟨by decide +kernel, by decide +kernel⟩, List.mem_of_getElem? (i := 412) (by decide +kernel), List.mem_of_getElem? (i := 1146) (by decide +kernel), List.mem_of_getElem? (i := 1147) (by decide +kernel)⟩
theorem lw_p47 : lw_okq (⟨"LikeYears$Parting", "addRun", "(II)V"⟩, 10) := ⟨⟨by decide +kernel, by decide +kernel⟩, List.mem_of_getElem? (i := 412) (by decide +kernel), List.mem_of_getElem? (i := 1150) (by decide +kernel), List.mem_of_getElem? (i := 1151) (by decide +kernel)⟩
def lw_privs_3 : List (MethodName × Nat) := [(⟨"LikeYears$Cut", "queuePayersOf", "(II)I"⟩, 9), (⟨"LikeYears$Cut", "payAround", "(I)V"⟩, 9), (⟨"LikeYears$Nearest", "seal", "(LLikeYears$Book;I)V"⟩, 10), (⟨"LikeYears", "knownGaps", "()LLikeYears$Nearest;"⟩, 18), (⟨"LikeYears$Nearest", "shareOut", "(LLikeYears$Book;)V"⟩, 10), (⟨"LikeYears$Choices", "search", "(III)V"⟩, 7), (⟨"LikeYears$Choices", "mostFoes", "(I)I"⟩, 7), (⟨"LikeYears$Choices", "note", "(II)V"⟩, 7), (⟨"LikeYears", "isGrid", "(II)Z"⟩, 18), (⟨"LikeYears", "gridCost", "(II)LLikeYears$Fraction;"⟩, 18), (⟨"LikeYears", "findBest", "()I"⟩, 18), (⟨"LikeYears", "isRuns", "(II)Z"⟩, 18), (⟨"LikeYears$Parting", "pool", "(LLikeYears$Book;I)V"⟩, 10), (⟨"LikeYears$Parting", "joinFalling", "()V"⟩, 10), (⟨"LikeYears$Parting", "oneRun", "()V"⟩, 10), (⟨"LikeYears$Parting", "addRun", "(II)V"⟩, 10)]
theorem lw_r3 : ∀ q ∈ lw_privs_3, lw_okq q := List.forall_mem_cons.mpr ⟨lw_p32, List.forall_mem_cons.mpr ⟨lw_p33, List.forall_mem_cons.mpr ⟨lw_p34, List.forall_mem_cons.mpr ⟨lw_p35, List.forall_mem_cons.mpr ⟨lw_p36, List.forall_mem_cons.mpr ⟨lw_p37, List.forall_mem_cons.mpr ⟨lw_p38, List.forall_mem_cons.mpr ⟨lw_p39, List.forall_mem_cons.mpr ⟨lw_p40, List.forall_mem_cons.mpr ⟨lw_p41, List.forall_mem_cons.mpr ⟨lw_p42, List.forall_mem_cons.mpr ⟨lw_p43, List.forall_mem_cons.mpr ⟨lw_p44, List.forall_mem_cons.mpr ⟨lw_p45, List.forall_mem_cons.mpr ⟨lw_p46, List.forall_mem_cons.mpr ⟨lw_p47, fun _ h => absurd h List.not_mem_nil⟩⟩⟩⟩⟩⟩⟩⟩⟩⟩⟩⟩⟩⟩⟩⟩
theorem lw_p48 : lw_okq (⟨"LikeYears$Parting", "store", "(II)V"⟩, 10) := ⟨⟨by decide +kernel, by decide +kernel⟩, List.mem_of_getElem? (i := 412) (by decide +kernel), List.mem_of_getElem? (i := 1155) (by decide +kernel), List.mem_of_getElem? (i := 1156) (by decide +kernel)⟩
theorem lw_p49 : lw_okq (⟨"LikeYears$Parting", "lastRun", "(II)V"⟩, 10) := ⟨⟨by decide +kernel, by decide +kernel⟩, List.mem_of_getElem? (i := 412) (by decide +kernel), List.mem_of_getElem? (i := 1159) (by decide +kernel), List.mem_of_getElem? (i := 1160) (by decide +kernel)⟩
theorem lw_p50 : lw_okq (⟨"LikeYears$Choices", "drawsFrom", "(III)I"⟩, 7) := ⟨⟨by decide +kernel, by decide +kernel⟩, List.mem_of_getElem? (i := 381) (by decide +kernel), List.mem_of_getElem? (i := 1181) (by decide +kernel), List.mem_of_getElem? (i := 1182) (by decide +kernel)⟩
theorem lw_p51 : lw_okq (⟨"LikeYears$Laws", "worth", "(LLikeYears$Book;III)I"⟩, 12) := ⟨⟨by decide +kernel, by decide +kernel⟩, List.mem_of_getElem? (i := 209) (by decide +kernel), List.mem_of_getElem? (i := 1225) (by decide +kernel), List.mem_of_getElem? (i := 1226) (by decide +kernel)⟩
theorem lw_p52 : lw_okq (⟨"LikeYears$Laws", "push", "(I)V"⟩, 12) := ⟨⟨by decide +kernel, by decide +kernel⟩, List.mem_of_getElem? (i := 209) (by decide +kernel), List.mem_of_getElem? (i := 1233) (by decide +kernel), List.mem_of_getElem? (i := 1234) (by decide +kernel)⟩
theorem lw_p53 : lw_okq (⟨"LikeYears$Laws", "pop", "()I"⟩, 12) := ⟨⟨by decide +kernel, by decide +kernel⟩, List.mem_of_getElem? (i := 209) (by decide +kernel), List.mem_of_getElem? (i := 1237) (by decide +kernel), List.mem_of_getElem? (i := 1238) (by decide +kernel)⟩
theorem lw_p54 : lw_okq (⟨"LikeYears", "moveOf", "(I)I"⟩, 18) := ⟨⟨by decide +kernel, by decide +kernel⟩, List.mem_of_getElem? (i := 25) (by decide +kernel), List.mem_of_getElem? (i := 1251) (by decide +kernel), List.mem_of_getElem? (i := 1252) (by decide +kernel)⟩
theorem lw_p55 : lw_okq (⟨"LikeYears", "act", "(IIII)V"⟩, 18) := ⟨⟨by decide +kernel, by decide +kernel⟩, List.mem_of_getElem? (i := 25) (by decide +kernel), List.mem_of_getElem? (i := 1293) (by decide +kernel), List.mem_of_getElem? (i := 1294) (by decide +kernel)⟩
theorem lw_p56 : lw_okq (⟨"LikeYearsModel", "four", "(I)V"⟩, 88) := ⟨⟨by decide +kernel, by decide +kernel⟩, List.mem_of_getElem? (i := 1352) (by decide +kernel), List.mem_of_getElem? (i := 1628) (by decide +kernel), List.mem_of_getElem? (i := 1629) (by decide +kernel)⟩
theorem lw_p57 : lw_okq (⟨"LikeYearsModel", "token", "()V"⟩, 88) := ⟨⟨by decide +kernel, by decide +kernel⟩, List.mem_of_getElem? (i := 1352) (by decide +kernel), List.mem_of_getElem? (i := 1640) (by decide +kernel), List.mem_of_getElem? (i := 1641) (by decide +kernel)⟩
theorem lw_p58 : lw_okq (⟨"LikeYearsModel", "here", "(I)I"⟩, 88) := ⟨⟨by decide +kernel, by decide +kernel⟩, List.mem_of_getElem? (i := 1352) (by decide +kernel), List.mem_of_getElem? (i := 1644) (by decide +kernel), List.mem_of_getElem? (i := 1645) (by decide +kernel)⟩
theorem lw_p59 : lw_okq (⟨"LikeYearsModel", "readLine", "()V"⟩, 88) := ⟨⟨by decide +kernel, by decide +kernel⟩, List.mem_of_getElem? (i := 1352) (by decide +kernel), List.mem_of_getElem? (i := 1657) (by decide +kernel), List.mem_of_getElem? (i := 1658) (by decide +kernel)⟩
theorem lw_p60 : lw_okq (⟨"LikeYearsModel", "isWord", "(J)Z"⟩, 88) := ⟨⟨by decide +kernel, by decide +kernel⟩, List.mem_of_getElem? (i := 1352) (by decide +kernel), List.mem_of_getElem? (i := 1662) (by decide +kernel), List.mem_of_getElem? (i := 1663) (by decide +kernel)⟩
theorem lw_p61 : lw_okq (⟨"LikeYearsModel", "readMark", "()V"⟩, 88) := ⟨⟨by decide +kernel, by decide +kernel⟩, List.mem_of_getElem? (i := 1352) (by decide +kernel), List.mem_of_getElem? (i := 1666) (by decide +kernel), List.mem_of_getElem? (i := 1667) (by decide +kernel)⟩
theorem lw_p62 : lw_okq (⟨"LikeYearsModel", "newName", "()J"⟩, 88) := ⟨⟨by decide +kernel, by decide +kernel⟩, List.mem_of_getElem? (i := 1352) (by decide +kernel), List.mem_of_getElem? (i := 1670) (by decide +kernel), List.mem_of_getElem? (i := 1671) (by decide +kernel)⟩
theorem lw_p63 : lw_okq (⟨"LikeYearsModel", "isName", "()Z"⟩, 88) := ⟨⟨by decide +kernel, by decide +kernel⟩, List.mem_of_getElem? (i := 1352) (by decide +kernel), List.mem_of_getElem? (i := 1674) (by decide +kernel), List.mem_of_getElem? (i := 1675) (by decide +kernel)⟩
def lw_privs_4 : List (MethodName × Nat) := [(⟨"LikeYears$Parting", "store", "(II)V"⟩, 10), (⟨"LikeYears$Parting", "lastRun", "(II)V"⟩, 10), (⟨"LikeYears$Choices", "drawsFrom", "(III)I"⟩, 7), (⟨"LikeYears$Laws", "worth", "(LLikeYears$Book;III)I"⟩, 12), (⟨"LikeYears$Laws", "push", "(I)V"⟩, 12), (⟨"LikeYears$Laws", "pop", "()I"⟩, 12), (⟨"LikeYears", "moveOf", "(I)I"⟩, 18), (⟨"LikeYears", "act", "(IIII)V"⟩, 18), (⟨"LikeYearsModel", "four", "(I)V"⟩, 88), (⟨"LikeYearsModel", "token", "()V"⟩, 88), (⟨"LikeYearsModel", "here", "(I)I"⟩, 88), (⟨"LikeYearsModel", "readLine", "()V"⟩, 88), (⟨"LikeYearsModel", "isWord", "(J)Z"⟩, 88), (⟨"LikeYearsModel", "readMark", "()V"⟩, 88), (⟨"LikeYearsModel", "newName", "()J"⟩, 88), (⟨"LikeYearsModel", "isName", "()Z"⟩, 88)]
theorem lw_r4 : ∀ q ∈ lw_privs_4, lw_okq q := List.forall_mem_cons.mpr ⟨lw_p48, List.forall_mem_cons.mpr ⟨lw_p49, List.forall_mem_cons.mpr ⟨lw_p50, List.forall_mem_cons.mpr ⟨lw_p51, List.forall_mem_cons.mpr ⟨lw_p52, List.forall_mem_cons.mpr ⟨lw_p53, List.forall_mem_cons.mpr ⟨lw_p54, List.forall_mem_cons.mpr ⟨lw_p55, List.forall_mem_cons.mpr ⟨lw_p56, List.forall_mem_cons.mpr ⟨lw_p57, List.forall_mem_cons.mpr ⟨lw_p58, List.forall_mem_cons.mpr ⟨lw_p59, List.forall_mem_cons.mpr ⟨lw_p60, List.forall_mem_cons.mpr ⟨lw_p61, List.forall_mem_cons.mpr ⟨lw_p62, List.forall_mem_cons.mpr ⟨lw_p63, fun _ h => absurd h List.not_mem_nil⟩⟩⟩⟩⟩⟩⟩⟩⟩⟩⟩⟩⟩⟩⟩⟩
theorem lw_p64 : lw_okq (⟨"LikeYearsModel", "isNoLawWord", "()Z"⟩, 88) := ⟨⟨by decide +kernel, by decide +kernel⟩, List.mem_of_getElem? (i := 1352) (by decide +kernel), List.mem_of_getElem? (i := 1678) (by decide +kernel), List.mem_of_getElem? (i := 1679) (by decide +kernel)⟩
theorem lw_p65 : lw_okq (⟨"LikeYearsModel", "wrong", "(I)V"⟩, 88) := ⟨⟨by decide +kernel, by decide +kernel⟩, List.mem_of_getElem? (i := 1352) (by decide +kernel), List.mem_of_getElem? (i := 1697) (by decide +kernel), List.mem_of_getElem? (i := 1698) (by decide +kernel)⟩
theorem lw_p66 : lw_okq (⟨"LikeYearsModel", "markOf", "(J)I"⟩, 88) := ⟨⟨by decide +kernel, by decide +kernel⟩, List.mem_of_getElem? (i := 1352) (by decide +kernel), List.mem_of_getElem? (i := 1701) (by decide +kernel), List.mem_of_getElem? (i := 1702) (by decide +kernel)⟩
theorem lw_p67 : lw_okq (⟨"LikeYearsModel", "caseOf", "(J)I"⟩, 88) := ⟨⟨by decide +kernel, by decide +kernel⟩, List.mem_of_getElem? (i := 1352) (by decide +kernel), List.mem_of_getElem? (i := 1705) (by decide +kernel), List.mem_of_getElem? (i := 1706) (by decide +kernel)⟩
theorem lw_p68 : lw_okq (⟨"LikeYearsModel", "want", "(J)V"⟩, 88) := ⟨⟨by decide +kernel, by decide +kernel⟩, List.mem_of_getElem? (i := 1352) (by decide +kernel), List.mem_of_getElem? (i := 1709) (by decide +kernel), List.mem_of_getElem? (i := 1710) (by decide +kernel)⟩
theorem lw_p69 : lw_okq (⟨"LikeYearsModel", "told", "(II)I"⟩, 88) := ⟨⟨by decide +kernel, by decide +kernel⟩, List.mem_of_getElem? (i := 1352) (by decide +kernel), List.mem_of_getElem? (i := 1713) (by decide +kernel), List.mem_of_getElem? (i := 1714) (by decide +kernel)⟩
theorem lw_p70 : lw_okq (⟨"LikeYearsModel", "readNever", "()V"⟩, 88) := ⟨⟨by decide +kernel, by decide +kernel⟩, List.mem_of_getElem? (i := 1352) (by decide +kernel), List.mem_of_getElem? (i := 1717) (by decide +kernel), List.mem_of_getElem? (i := 1718) (by decide +kernel)⟩
theorem lw_p71 : lw_okq (⟨"LikeYearsModel", "oldName", "(Z)I"⟩, 88) := ⟨⟨by decide +kernel, by decide +kernel⟩, List.mem_of_getElem? (i := 1352) (by decide +kernel), List.mem_of_getElem? (i := 1721) (by decide +kernel), List.mem_of_getElem? (i := 1722) (by decide +kernel)⟩
theorem lw_p72 : lw_okq (⟨"LikeYearsModel", "readCase", "()V"⟩, 88) := ⟨⟨by decide +kernel, by decide +kernel⟩, List.mem_of_getElem? (i := 1352) (by decide +kernel), List.mem_of_getElem? (i := 1725) (by decide +kernel), List.mem_of_getElem? (i := 1726) (by decide +kernel)⟩
theorem lw_p73 : lw_okq (⟨"LikeYearsModel", "readTold", "()V"⟩, 88) := ⟨⟨by decide +kernel, by decide +kernel⟩, List.mem_of_getElem? (i := 1352) (by decide +kernel), List.mem_of_getElem? (i := 1729) (by decide +kernel), List.mem_of_getElem? (i := 1730) (by decide +kernel)⟩
theorem lw_p74 : lw_okq (⟨"LikeYearsModel", "firstRound", "()I"⟩, 88) := ⟨⟨by decide +kernel, by decide +kernel⟩, List.mem_of_getElem? (i := 1352) (by decide +kernel), List.mem_of_getElem? (i := 1733) (by decide +kernel), List.mem_of_getElem? (i := 1734) (by decide +kernel)⟩
theorem lw_p75 : lw_okq (⟨"LikeYearsModel", "isCase", "(I)Z"⟩, 88) := ⟨⟨by decide +kernel, by decide +kernel⟩, List.mem_of_getElem? (i := 1352) (by decide +kernel), List.mem_of_getElem? (i := 1748) (by decide +kernel), List.mem_of_getElem? (i := 1749) (by decide +kernel)⟩
theorem lw_p76 : lw_okq (⟨"LikeYearsModel", "orderNow", "()V"⟩, 88) := ⟨⟨by decide +kernel, by decide +kernel⟩, List.mem_of_getElem? (i := 1352) (by decide +kernel), List.mem_of_getElem? (i := 1752) (by decide +kernel), List.mem_of_getElem? (i := 1753) (by decide +kernel)⟩
theorem lw_p77 : lw_okq (⟨"LikeYearsModel", "counting", "()I"⟩, 88) := ⟨⟨by decide +kernel, by decide +kernel⟩, List.mem_of_getElem? (i := 1352) (by decide +kernel), List.mem_of_getElem? (i := 1756) (by decide +kernel), List.mem_of_getElem? (i := 1757) (by decide +kernel)⟩
theorem lw_p78 : lw_okq (⟨"LikeYearsModel", "order", "(IZ)V"⟩, 88) := ⟨⟨by decide +kernel, by decide +kernel⟩, List.mem_of_getElem? (i := 1352) (by decide +kernel), List.mem_of_getElem? (i := 1760) (by decide +kernel), List.mem_of_getElem? (i := 1761) (by decide +kernel)⟩
theorem lw_p79 : lw_okq (⟨"LikeYearsModel", "isOverBy", "(III)Z"⟩, 88) := ⟨⟨by decide +kernel, by decide +kernel⟩, List.mem_of_getElem? (i := 1352) (by decide +kernel), List.mem_of_getElem? (i := 1764) (by decide +kernel), List.mem_of_getElem? (i := 1765) (by decide +kernel)⟩
def lw_privs_5 : List (MethodName × Nat) := [(⟨"LikeYearsModel", "isNoLawWord", "()Z"⟩, 88), (⟨"LikeYearsModel", "wrong", "(I)V"⟩, 88), (⟨"LikeYearsModel", "markOf", "(J)I"⟩, 88), (⟨"LikeYearsModel", "caseOf", "(J)I"⟩, 88), (⟨"LikeYearsModel", "want", "(J)V"⟩, 88), (⟨"LikeYearsModel", "told", "(II)I"⟩, 88), (⟨"LikeYearsModel", "readNever", "()V"⟩, 88), (⟨"LikeYearsModel", "oldName", "(Z)I"⟩, 88), (⟨"LikeYearsModel", "readCase", "()V"⟩, 88), (⟨"LikeYearsModel", "readTold", "()V"⟩, 88), (⟨"LikeYearsModel", "firstRound", "()I"⟩, 88), (⟨"LikeYearsModel", "isCase", "(I)Z"⟩, 88), (⟨"LikeYearsModel", "orderNow", "()V"⟩, 88), (⟨"LikeYearsModel", "counting", "()I"⟩, 88), (⟨"LikeYearsModel", "order", "(IZ)V"⟩, 88), (⟨"LikeYearsModel", "isOverBy", "(III)Z"⟩, 88)]
theorem lw_r5 : ∀ q ∈ lw_privs_5, lw_okq q := List.forall_mem_cons.mpr ⟨lw_p64, List.forall_mem_cons.mpr ⟨lw_p65, List.forall_mem_cons.mpr ⟨lw_p66, List.forall_mem_cons.mpr ⟨lw_p67, List.forall_mem_cons.mpr ⟨lw_p68, List.forall_mem_cons.mpr ⟨lw_p69, List.forall_mem_cons.mpr ⟨lw_p70, List.forall_mem_cons.mpr ⟨lw_p71, List.forall_mem_cons.mpr ⟨lw_p72, List.forall_mem_cons.mpr ⟨lw_p73, List.forall_mem_cons.mpr ⟨lw_p74, List.forall_mem_cons.mpr ⟨lw_p75, List.forall_mem_cons.mpr ⟨lw_p76, List.forall_mem_cons.mpr ⟨lw_p77, List.forall_mem_cons.mpr ⟨lw_p78, List.forall_mem_cons.mpr ⟨lw_p79, fun _ h => absurd h List.not_mem_nil⟩⟩⟩⟩⟩⟩⟩⟩⟩⟩⟩⟩⟩⟩⟩⟩
theorem lw_p80 : lw_okq (⟨"LikeYearsModel", "isOver", "(II)Z"⟩, 88) := ⟨⟨by decide +kernel, by decide +kernel⟩, List.mem_of_getElem? (i := 1352) (by decide +kernel), List.mem_of_getElem? (i := 1768) (by decide +kernel), List.mem_of_getElem? (i := 1769) (by decide +kernel)⟩
theorem lw_p81 : lw_okq (⟨"LikeYearsModel", "gapOf", "(II)I"⟩, 88) := ⟨⟨by decide +kernel, by decide +kernel⟩, List.mem_of_getElem? (i := 1352) (by decide +kernel), List.mem_of_getElem? (i := 1776) (by decide +kernel), List.mem_of_getElem? (i := 1777) (by decide +kernel)⟩
theorem lw_p82 : lw_okq (⟨"LikeYearsModel", "clashes", "()I"⟩, 88) := ⟨⟨by decide +kernel, by decide +kernel⟩, List.mem_of_getElem? (i := 1352) (by decide +kernel), List.mem_of_getElem? (i := 1780) (by decide +kernel), List.mem_of_getElem? (i := 1781) (by decide +kernel)⟩
theorem lw_p83 : lw_okq (⟨"LikeYearsModel", "eitherGap", "(II)I"⟩, 88) := ⟨⟨by decide +kernel, by decide +kernel⟩, List.mem_of_getElem? (i := 1352) (by decide +kernel), List.mem_of_getElem? (i := 1788) (by decide +kernel), List.mem_of_getElem? (i := 1789) (by decide +kernel)⟩
theorem lw_p84 : lw_okq (⟨"LikeYearsModel", "layOut", "()V"⟩, 88) := ⟨⟨by decide +kernel, by decide +kernel⟩, List.mem_of_getElem? (i := 1352) (by decide +kernel), List.mem_of_getElem? (i := 1800) (by decide +kernel), List.mem_of_getElem? (i := 1801) (by decide +kernel)⟩
theorem lw_p85 : lw_okq (⟨"LikeYearsModel", "raise", "()V"⟩, 88) := ⟨⟨by decide +kernel, by decide +kernel⟩, List.mem_of_getElem? (i := 1352) (by decide +kernel), List.mem_of_getElem? (i := 1807) (by decide +kernel), List.mem_of_getElem? (i := 1808) (by decide +kernel)⟩
theorem lw_p86 : lw_okq (⟨"LikeYearsModel", "allCases", "()I"⟩, 88) := ⟨⟨by decide +kernel, by decide +kernel⟩, List.mem_of_getElem? (i := 1352) (by decide +kernel), List.mem_of_getElem? (i := 1811) (by decide +kernel), List.mem_of_getElem? (i := 1812) (by decide +kernel)⟩
theorem lw_p87 : lw_okq (⟨"LikeYearsModel", "partedFrom", "(I)I"⟩, 88) := ⟨⟨by decide +kernel, by decide +kernel⟩, List.mem_of_getElem? (i := 1352) (by decide +kernel), List.mem_of_getElem? (i := 1815) (by decide +kernel), List.mem_of_getElem? (i := 1816) (by decide +kernel)⟩
theorem lw_p88 : lw_okq (⟨"LikeYearsModel", "square", "(I)V"⟩, 88) := ⟨⟨by decide +kernel, by decide +kernel⟩, List.mem_of_getElem? (i := 1352) (by decide +kernel), List.mem_of_getElem? (i := 1830) (by decide +kernel), List.mem_of_getElem? (i := 1831) (by decide +kernel)⟩
theorem lw_p89 : lw_okq (⟨"LikeYearsModel", "put", "(JJ)V"⟩, 88) := ⟨⟨by decide +kernel, by decide +kernel⟩, List.mem_of_getElem? (i := 1352) (by decide +kernel), List.mem_of_getElem? (i := 1834) (by decide +kernel), List.mem_of_getElem? (i := 1835) (by decide +kernel)⟩
theorem lw_p90 : lw_okq (⟨"LikeYearsModel", "takeOff", "(I)V"⟩, 88) := ⟨⟨by decide +kernel, by decide +kernel⟩, List.mem_of_getElem? (i := 1352) (by decide +kernel), List.mem_of_getElem? (i := 1841) (by decide +kernel), List.mem_of_getElem? (i := 1842) (by decide +kernel)⟩
theorem lw_p91 : lw_okq (⟨"LikeYearsModel", "add", "(JJ)V"⟩, 88) := ⟨⟨by decide +kernel, by decide +kernel⟩, List.mem_of_getElem? (i := 1352) (by decide +kernel), List.mem_of_getElem? (i := 1845) (by decide +kernel), List.mem_of_getElem? (i := 1846) (by decide +kernel)⟩
theorem lw_p92 : lw_okq (⟨"LikeYearsModel", "gaps", "()V"⟩, 88) := ⟨⟨by decide +kernel, by decide +kernel⟩, List.mem_of_getElem? (i := 1352) (by decide +kernel), List.mem_of_getElem? (i := 1849) (by decide +kernel), List.mem_of_getElem? (i := 1850) (by decide +kernel)⟩
theorem lw_p93 : lw_okq (⟨"LikeYearsModel", "nextGiven", "(I)I"⟩, 88) := ⟨⟨by decide +kernel, by decide +kernel⟩, List.mem_of_getElem? (i := 1352) (by decide +kernel), List.mem_of_getElem? (i := 1853) (by decide +kernel), List.mem_of_getElem? (i := 1854) (by decide +kernel)⟩
theorem lw_p94 : lw_okq (⟨"LikeYearsModel", "leastUpper", "(I)I"⟩, 88) := ⟨⟨by decide +kernel, by decide +kernel⟩, List.mem_of_getElem? (i := 1352) (by decide +kernel), List.mem_of_getElem? (i := 1857) (by decide +kernel), List.mem_of_getElem? (i := 1858) (by decide +kernel)⟩
theorem lw_p95 : lw_okq (⟨"LikeYearsModel", "between", "(I)I"⟩, 88) := ⟨⟨by decide +kernel, by decide +kernel⟩, List.mem_of_getElem? (i := 1352) (by decide +kernel), List.mem_of_getElem? (i := 1861) (by decide +kernel), List.mem_of_getElem? (i := 1862) (by decide +kernel)⟩
def lw_privs_6 : List (MethodName × Nat) := [(⟨"LikeYearsModel", "isOver", "(II)Z"⟩, 88), (⟨"LikeYearsModel", "gapOf", "(II)I"⟩, 88), (⟨"LikeYearsModel", "clashes", "()I"⟩, 88), (⟨"LikeYearsModel", "eitherGap", "(II)I"⟩, 88), (⟨"LikeYearsModel", "layOut", "()V"⟩, 88), (⟨"LikeYearsModel", "raise", "()V"⟩, 88), (⟨"LikeYearsModel", "allCases", "()I"⟩, 88), (⟨"LikeYearsModel", "partedFrom", "(I)I"⟩, 88), (⟨"LikeYearsModel", "square", "(I)V"⟩, 88), (⟨"LikeYearsModel", "put", "(JJ)V"⟩, 88), (⟨"LikeYearsModel", "takeOff", "(I)V"⟩, 88), (⟨"LikeYearsModel", "add", "(JJ)V"⟩, 88), (⟨"LikeYearsModel", "gaps", "()V"⟩, 88), (⟨"LikeYearsModel", "nextGiven", "(I)I"⟩, 88), (⟨"LikeYearsModel", "leastUpper", "(I)I"⟩, 88), (⟨"LikeYearsModel", "between", "(I)I"⟩, 88)]
theorem lw_r6 : ∀ q ∈ lw_privs_6, lw_okq q := List.forall_mem_cons.mpr ⟨lw_p80, List.forall_mem_cons.mpr ⟨lw_p81, List.forall_mem_cons.mpr ⟨lw_p82, List.forall_mem_cons.mpr ⟨lw_p83, List.forall_mem_cons.mpr ⟨lw_p84, List.forall_mem_cons.mpr ⟨lw_p85, List.forall_mem_cons.mpr ⟨lw_p86, List.forall_mem_cons.mpr ⟨lw_p87, List.forall_mem_cons.mpr ⟨lw_p88, List.forall_mem_cons.mpr ⟨lw_p89, List.forall_mem_cons.mpr ⟨lw_p90, List.forall_mem_cons.mpr ⟨lw_p91, List.forall_mem_cons.mpr ⟨lw_p92, List.forall_mem_cons.mpr ⟨lw_p93, List.forall_mem_cons.mpr ⟨lw_p94, List.forall_mem_cons.mpr ⟨lw_p95, fun _ h => absurd h List.not_mem_nil⟩⟩⟩⟩⟩⟩⟩⟩⟩⟩⟩⟩⟩⟩⟩⟩
theorem lw_p96 : lw_okq (⟨"LikeYearsModel", "partOf", "(I)J"⟩, 88) := ⟨⟨by decide +kernel, by decide +kernel⟩, List.mem_of_getElem? (i := 1352) (by decide +kernel), List.mem_of_getElem? (i := 1866) (by decide +kernel), List.mem_of_getElem? (i := 1867) (by decide +kernel)⟩
theorem lw_p97 : lw_okq (⟨"LikeYearsModel", "gapOff", "(I)I"⟩, 88) := ⟨⟨by decide +kernel, by decide +kernel⟩, List.mem_of_getElem? (i := 1352) (by decide +kernel), List.mem_of_getElem? (i := 1874) (by decide +kernel), List.mem_of_getElem? (i := 1875) (by decide +kernel)⟩
theorem lw_p98 : lw_okq (⟨"LikeYearsModel", "isGrid", "(II)Z"⟩, 88) := ⟨⟨by decide +kernel, by decide +kernel⟩, List.mem_of_getElem? (i := 1352) (by decide +kernel), List.mem_of_getElem? (i := 1886) (by decide +kernel), List.mem_of_getElem? (i := 1887) (by decide +kernel)⟩
theorem lw_p99 : lw_okq (⟨"LikeYearsModel", "isMark", "(I)Z"⟩, 88) := ⟨⟨by decide +kernel, by decide +kernel⟩, List.mem_of_getElem? (i := 1352) (by decide +kernel), List.mem_of_getElem? (i := 1890) (by decide +kernel), List.mem_of_getElem? (i := 1891) (by decide +kernel)⟩
theorem lw_p100 : lw_okq (⟨"LikeYearsModel", "canRun", "(II)Z"⟩, 88) := ⟨⟨by decide +kernel, by decide +kernel⟩, List.mem_of_getElem? (i := 1352) (by decide +kernel), List.mem_of_getElem? (i := 1907) (by decide +kernel), List.mem_of_getElem? (i := 1908) (by decide +kernel)⟩
theorem lw_p101 : lw_okq (⟨"LikeYearsModel", "seekRuns", "(II)I"⟩, 88) := ⟨⟨by decide +kernel, by decide +kernel⟩, List.mem_of_getElem? (i := 1352) (by decide +kernel), List.mem_of_getElem? (i := 1911) (by decide +kernel), List.mem_of_getElem? (i := 1912) (by decide +kernel)⟩
theorem lw_p102 : lw_okq (⟨"LikeYearsModel", "runCost", "(II)V"⟩, 88) := ⟨⟨by decide +kernel, by decide +kernel⟩, List.mem_of_getElem? (i := 1352) (by decide +kernel), List.mem_of_getElem? (i := 1915) (by decide +kernel), List.mem_of_getElem? (i := 1916) (by decide +kernel)⟩
theorem lw_p103 : lw_okq (⟨"LikeYearsModel", "offOf", "(I)I"⟩, 88) := ⟨⟨by decide +kernel, by decide +kernel⟩, List.mem_of_getElem? (i := 1352) (by decide +kernel), List.mem_of_getElem? (i := 1930) (by decide +kernel), List.mem_of_getElem? (i := 1931) (by decide +kernel)⟩
theorem lw_p104 : lw_okq (⟨"LikeYearsModel", "readLaw", "()V"⟩, 88) := ⟨⟨by decide +kernel, by decide +kernel⟩, List.mem_of_getElem? (i := 1352) (by decide +kernel), List.mem_of_getElem? (i := 1965) (by decide +kernel), List.mem_of_getElem? (i := 1966) (by decide +kernel)⟩
theorem lw_p105 : lw_okq (⟨"LikeYearsModel", "isOpen", "()Z"⟩, 88) := ⟨⟨by decide +kernel, by decide +kernel⟩, List.mem_of_getElem? (i := 1352) (by decide +kernel), List.mem_of_getElem? (i := 1969) (by decide +kernel), List.mem_of_getElem? (i := 1970) (by decide +kernel)⟩
theorem lw_p106 : lw_okq (⟨"LikeYearsModel", "sign", "()I"⟩, 88) := ⟨⟨by decide +kernel, by decide +kernel⟩, List.mem_of_getElem? (i := 1352) (by decide +kernel), List.mem_of_getElem? (i := 1973) (by decide +kernel), List.mem_of_getElem? (i := 1974) (by decide +kernel)⟩
theorem lw_p107 : lw_okq (⟨"LikeYearsModel", "settle", "(I)V"⟩, 88) := ⟨⟨by decide +kernel, by decide +kernel⟩, List.mem_of_getElem? (i := 1352) (by decide +kernel), List.mem_of_getElem? (i := 1977) (by decide +kernel), List.mem_of_getElem? (i := 1978) (by decide +kernel)⟩
theorem lw_p108 : lw_okq (⟨"LikeYearsModel", "upper", "()I"⟩, 88) := ⟨⟨by decide +kernel, by decide +kernel⟩, List.mem_of_getElem? (i := 1352) (by decide +kernel), List.mem_of_getElem? (i := 1981) (by decide +kernel), List.mem_of_getElem? (i := 1982) (by decide +kernel)⟩
theorem lw_p109 : lw_okq (⟨"LikeYearsModel", "pop", "()V"⟩, 88) := ⟨⟨by decide +kernel, by decide +kernel⟩, List.mem_of_getElem? (i := 1352) (by decide +kernel), List.mem_of_getElem? (i := 1985) (by decide +kernel), List.mem_of_getElem? (i := 1986) (by decide +kernel)⟩
theorem lw_p110 : lw_okq (⟨"LikeYearsModel", "note", "(II)V"⟩, 88) := ⟨⟨by decide +kernel, by decide +kernel⟩, List.mem_of_getElem? (i := 1352) (by decide +kernel), List.mem_of_getElem? (i := 1989) (by decide +kernel), List.mem_of_getElem? (i := 1990) (by decide +kernel)⟩
theorem lw_p111 : lw_okq (⟨"LikeYearsModel", "hold", "(I)V"⟩, 88) := ⟨⟨by decide +kernel, by decide +kernel⟩, List.mem_of_getElem? (i := 1352) (by decide +kernel), List.mem_of_getElem? (i := 1996) (by decide +kernel), List.mem_of_getElem? (i := 1997) (by decide +kernel)⟩
def lw_privs_7 : List (MethodName × Nat) := [(⟨"LikeYearsModel", "partOf", "(I)J"⟩, 88), (⟨"LikeYearsModel", "gapOff", "(I)I"⟩, 88), (⟨"LikeYearsModel", "isGrid", "(II)Z"⟩, 88), (⟨"LikeYearsModel", "isMark", "(I)Z"⟩, 88), (⟨"LikeYearsModel", "canRun", "(II)Z"⟩, 88), (⟨"LikeYearsModel", "seekRuns", "(II)I"⟩, 88), (⟨"LikeYearsModel", "runCost", "(II)V"⟩, 88), (⟨"LikeYearsModel", "offOf", "(I)I"⟩, 88), (⟨"LikeYearsModel", "readLaw", "()V"⟩, 88), (⟨"LikeYearsModel", "isOpen", "()Z"⟩, 88), (⟨"LikeYearsModel", "sign", "()I"⟩, 88), (⟨"LikeYearsModel", "settle", "(I)V"⟩, 88), (⟨"LikeYearsModel", "upper", "()I"⟩, 88), (⟨"LikeYearsModel", "pop", "()V"⟩, 88), (⟨"LikeYearsModel", "note", "(II)V"⟩, 88), (⟨"LikeYearsModel", "hold", "(I)V"⟩, 88)]
theorem lw_r7 : ∀ q ∈ lw_privs_7, lw_okq q := List.forall_mem_cons.mpr ⟨lw_p96, List.forall_mem_cons.mpr ⟨lw_p97, List.forall_mem_cons.mpr ⟨lw_p98, List.forall_mem_cons.mpr ⟨lw_p99, List.forall_mem_cons.mpr ⟨lw_p100, List.forall_mem_cons.mpr ⟨lw_p101, List.forall_mem_cons.mpr ⟨lw_p102, List.forall_mem_cons.mpr ⟨lw_p103, List.forall_mem_cons.mpr ⟨lw_p104, List.forall_mem_cons.mpr ⟨lw_p105, List.forall_mem_cons.mpr ⟨lw_p106, List.forall_mem_cons.mpr ⟨lw_p107, List.forall_mem_cons.mpr ⟨lw_p108, List.forall_mem_cons.mpr ⟨lw_p109, List.forall_mem_cons.mpr ⟨lw_p110, List.forall_mem_cons.mpr ⟨lw_p111, fun _ h => absurd h List.not_mem_nil⟩⟩⟩⟩⟩⟩⟩⟩⟩⟩⟩⟩⟩⟩⟩⟩
theorem lw_p112 : lw_okq (⟨"LikeYearsModel", "operand", "(I)I"⟩, 88) := ⟨⟨by decide +kernel, by decide +kernel⟩, List.mem_of_getElem? (i := 1352) (by decide +kernel), List.mem_of_getElem? (i := 2000) (by decide +kernel), List.mem_of_getElem? (i := 2001) (by decide +kernel)⟩
theorem lw_p113 : lw_okq (⟨"LikeYearsModel", "known", "()I"⟩, 88) := ⟨⟨by decide +kernel, by decide +kernel⟩, List.mem_of_getElem? (i := 1352) (by decide +kernel), List.mem_of_getElem? (i := 2004) (by decide +kernel), List.mem_of_getElem? (i := 2005) (by decide +kernel)⟩
theorem lw_p114 : lw_okq (⟨"LikeYearsModel", "named", "()I"⟩, 88) := ⟨⟨by decide +kernel, by decide +kernel⟩, List.mem_of_getElem? (i := 1352) (by decide +kernel), List.mem_of_getElem? (i := 2008) (by decide +kernel), List.mem_of_getElem? (i := 2009) (by decide +kernel)⟩
theorem lw_p115 : lw_okq (⟨"LikeYearsModel", "lineOf", "(I)I"⟩, 88) := ⟨⟨by decide +kernel, by decide +kernel⟩, List.mem_of_getElem? (i := 1352) (by decide +kernel), List.mem_of_getElem? (i := 2016) (by decide +kernel), List.mem_of_getElem? (i := 2017) (by decide +kernel)⟩
theorem lw_p116 : lw_okq (⟨"LikeYearsModel", "holds", "(II)Z"⟩, 88) := ⟨⟨by decide +kernel, by decide +kernel⟩, List.mem_of_getElem? (i := 1352) (by decide +kernel), List.mem_of_getElem? (i := 2020) (by decide +kernel), List.mem_of_getElem? (i := 2021) (by decide +kernel)⟩
theorem lw_p117 : lw_okq (⟨"LikeYearsModel", "askedOf", "(II)I"⟩, 88) := ⟨⟨by decide +kernel, by decide +kernel⟩, List.mem_of_getElem? (i := 1352) (by decide +kernel), List.mem_of_getElem? (i := 2024) (by decide +kernel), List.mem_of_getElem? (i := 2025) (by decide +kernel)⟩
theorem lw_p118 : lw_okq (⟨"LikeYearsModel", "movedBy", "(I)I"⟩, 88) := ⟨⟨by decide +kernel, by decide +kernel⟩, List.mem_of_getElem? (i := 1352) (by decide +kernel), List.mem_of_getElem? (i := 2035) (by decide +kernel), List.mem_of_getElem? (i := 2036) (by decide +kernel)⟩
theorem lw_p119 : lw_okq (⟨"LikeYearsModel", "aroundNew", "(Z)I"⟩, 88) := ⟨⟨by decide +kernel, by decide +kernel⟩, List.mem_of_getElem? (i := 1352) (by decide +kernel), List.mem_of_getElem? (i := 2047) (by decide +kernel), List.mem_of_getElem? (i := 2048) (by decide +kernel)⟩
theorem lw_p120 : lw_okq (⟨"LikeYearsModel", "act", "(III)V"⟩, 88) := ⟨⟨by decide +kernel, by decide +kernel⟩, List.mem_of_getElem? (i := 1352) (by decide +kernel), List.mem_of_getElem? (i := 2059) (by decide +kernel), List.mem_of_getElem? (i := 2060) (by decide +kernel)⟩
theorem lw_p121 : lw_okq (⟨"LikeYearsModel", "goesRound", "(I)Z"⟩, 88) := ⟨⟨by decide +kernel, by decide +kernel⟩, List.mem_of_getElem? (i := 1352) (by decide +kernel), List.mem_of_getElem? (i := 2067) (by decide +kernel), List.mem_of_getElem? (i := 2068) (by decide +kernel)⟩
theorem lw_p122 : lw_okq (⟨"LikeYearsModel", "turn", "(IZ)V"⟩, 88) := ⟨⟨by decide +kernel, by decide +kernel⟩, List.mem_of_getElem? (i := 1352) (by decide +kernel), List.mem_of_getElem? (i := 2079) (by decide +kernel), List.mem_of_getElem? (i := 2080) (by decide +kernel)⟩
def lw_privs_8 : List (MethodName × Nat) := [(⟨"LikeYearsModel", "operand", "(I)I"⟩, 88), (⟨"LikeYearsModel", "known", "()I"⟩, 88), (⟨"LikeYearsModel", "named", "()I"⟩, 88), (⟨"LikeYearsModel", "lineOf", "(I)I"⟩, 88), (⟨"LikeYearsModel", "holds", "(II)Z"⟩, 88), (⟨"LikeYearsModel", "askedOf", "(II)I"⟩, 88), (⟨"LikeYearsModel", "movedBy", "(I)I"⟩, 88), (⟨"LikeYearsModel", "aroundNew", "(Z)I"⟩, 88), (⟨"LikeYearsModel", "act", "(III)V"⟩, 88), (⟨"LikeYearsModel", "goesRound", "(I)Z"⟩, 88), (⟨"LikeYearsModel", "turn", "(IZ)V"⟩, 88)]
theorem lw_r8 : ∀ q ∈ lw_privs_8, lw_okq q := List.forall_mem_cons.mpr ⟨lw_p112, List.forall_mem_cons.mpr ⟨lw_p113, List.forall_mem_cons.mpr ⟨lw_p114, List.forall_mem_cons.mpr ⟨lw_p115, List.forall_mem_cons.mpr ⟨lw_p116, List.forall_mem_cons.mpr ⟨lw_p117, List.forall_mem_cons.mpr ⟨lw_p118, List.forall_mem_cons.mpr ⟨lw_p119, List.forall_mem_cons.mpr ⟨lw_p120, List.forall_mem_cons.mpr ⟨lw_p121, List.forall_mem_cons.mpr ⟨lw_p122, fun _ h => absurd h List.not_mem_nil⟩⟩⟩⟩⟩⟩⟩⟩⟩⟩⟩
def lw_privs : List (MethodName × Nat) := lw_privs_1 ++ (lw_privs_2 ++ (lw_privs_3 ++ (lw_privs_4 ++ (lw_privs_5 ++ (lw_privs_6 ++ (lw_privs_7 ++ (lw_privs_8)))))))
def lw_tbl : List Cond := k2_sels lw_privs ++ tables_1
theorem lw_privs_ok : ∀ q ∈ lw_privs, lw_okq q := by
  show ∀ q ∈ lw_privs_1 ++ (lw_privs_2 ++ (lw_privs_3 ++ (lw_privs_4 ++ (lw_privs_5 ++ (lw_privs_6 ++ (lw_privs_7 ++ (lw_privs_8))))))), lw_okq q
  exact List.forall_mem_append.mpr ⟨lw_r1, List.forall_mem_append.mpr ⟨lw_r2, List.forall_mem_append.mpr ⟨lw_r3, List.forall_mem_append.mpr ⟨lw_r4, List.forall_mem_append.mpr ⟨lw_r5, List.forall_mem_append.mpr ⟨lw_r6, List.forall_mem_append.mpr ⟨lw_r7, lw_r8⟩⟩⟩⟩⟩⟩⟩
def RX0 : String := "LikeYears$Acts"
def TX0 : u_T := fun k => match k with
  | 0 => ("LikeYears$Acts", "done", "I", false)
  | 1 => ("LikeYears$Acts", "size", "I", false)
  | 2 => ("LikeYears$Acts", "kinds", "[I", true)
  | 3 => ("LikeYears$Acts", "which", "[I", true)
  | 4 => ("LikeYears$Acts", "before", "[I", true)
  | _ => ("LikeYears$Acts", "after", "[I", true)
def tyX0 : Nat → FieldType := fun k => match k with
  | 0 => .int
  | 1 => .int
  | 2 => .array .int
  | 3 => .array .int
  | 4 => .array .int
  | _ => .array .int
set_option maxRecDepth 100000 in
theorem nmX0 : ∀ a, a < 6 → ∀ b, b < 6 → a ≠ b → (TX0 a).2.1 ≠ (TX0 b).2.1 := by decide +kernel
set_option maxRecDepth 100000 in
theorem tyX0_ok : ∀ k, k < 6 → parseFieldDescriptor (TX0 k).2.2.1 = some (tyX0 k) := by decide +kernel
abbrev cX0_init : ByteArray := prog_2_method_1_code
def yX0_init : MethodName := ⟨RX0, "<init>", "()V"⟩
abbrev cX0_forget : ByteArray := prog_2_method_2_code
def yX0_forget : MethodName := ⟨RX0, "forget", "()V"⟩
abbrev cX0_add : ByteArray := prog_2_method_3_code
def yX0_add : MethodName := ⟨RX0, "add", "(IIII)V"⟩
abbrev cX0_dropFirst : ByteArray := prog_2_method_4_code
def yX0_dropFirst : MethodName := ⟨RX0, "dropFirst", "([I)V"⟩
abbrev cX0_takeBack : ByteArray := prog_2_method_5_code
def yX0_takeBack : MethodName := ⟨RX0, "takeBack", "(LLikeYears$Book;)Z"⟩
abbrev cX0_doAgain : ByteArray := prog_2_method_6_code
def yX0_doAgain : MethodName := ⟨RX0, "doAgain", "(LLikeYears$Book;)Z"⟩
abbrev cX0_carryOut : ByteArray := prog_2_method_7_code
def yX0_carryOut : MethodName := ⟨RX0, "carryOut", "(LLikeYears$Book;III)V"⟩
def RX1 : String := "LikeYears$Book"
def TX1 : u_T := fun k => match k with
  | 0 => ("LikeYears$Book", "marks", "I", false)
  | 1 => ("LikeYears$Book", "markNames", "[J", true)
  | 2 => ("LikeYears$Book", "tops", "[I", true)
  | 3 => ("LikeYears$Book", "counted", "I", false)
  | 4 => ("LikeYears$Book", "cases", "I", false)
  | 5 => ("LikeYears$Book", "judge", "[I", true)
  | 6 => ("LikeYears$Book", "year", "[I", true)
  | 7 => ("LikeYears$Book", "given", "[I", true)
  | 8 => ("LikeYears$Book", "weight", "[I", true)
  | 9 => ("LikeYears$Book", "steps", "[I", true)
  | 10 => ("LikeYears$Book", "tolds", "I", false)
  | 11 => ("LikeYears$Book", "toldOver", "[I", true)
  | _ => ("LikeYears$Book", "toldUnder", "[I", true)
def tyX1 : Nat → FieldType := fun k => match k with
  | 0 => .int
  | 1 => .array .long
  | 2 => .array .int
  | 3 => .int
  | 4 => .int
  | 5 => .array .int
  | 6 => .array .int
  | 7 => .array .int
  | 8 => .array .int
  | 9 => .array .int
  | 10 => .int
  | 11 => .array .int
  | _ => .array .int
set_option maxRecDepth 100000 in
theorem nmX1 : ∀ a, a < 13 → ∀ b, b < 13 → a ≠ b → (TX1 a).2.1 ≠ (TX1 b).2.1 := by decide +kernel
set_option maxRecDepth 100000 in
theorem tyX1_ok : ∀ k, k < 13 → parseFieldDescriptor (TX1 k).2.2.1 = some (tyX1 k) := by decide +kernel
abbrev cX1_init : ByteArray := prog_3_method_1_code
def yX1_init : MethodName := ⟨RX1, "<init>", "()V"⟩
abbrev cX1_empty : ByteArray := prog_3_method_2_code
def yX1_empty : MethodName := ⟨RX1, "empty", "()V"⟩
abbrev cX1_addMark : ByteArray := prog_3_method_3_code
def yX1_addMark : MethodName := ⟨RX1, "addMark", "(JI)V"⟩
abbrev cX1_addTold : ByteArray := prog_3_method_4_code
def yX1_addTold : MethodName := ⟨RX1, "addTold", "(II)V"⟩
abbrev cX1_setCase : ByteArray := prog_3_method_5_code
def yX1_setCase : MethodName := ⟨RX1, "setCase", "(IIIII)V"⟩
abbrev cX1_markNamed : ByteArray := prog_3_method_6_code
def yX1_markNamed : MethodName := ⟨RX1, "markNamed", "(J)I"⟩
abbrev cX1_isMark : ByteArray := prog_3_method_7_code
def yX1_isMark : MethodName := ⟨RX1, "isMark", "(I)Z"⟩
abbrev cX1_isCase : ByteArray := prog_3_method_8_code
def yX1_isCase : MethodName := ⟨RX1, "isCase", "(I)Z"⟩
abbrev cX1_isStep : ByteArray := prog_3_method_9_code
def yX1_isStep : MethodName := ⟨RX1, "isStep", "(II)Z"⟩
abbrev cX1_isCounted : ByteArray := prog_3_method_10_code
def yX1_isCounted : MethodName := ⟨RX1, "isCounted", "(I)Z"⟩
abbrev cX1_stepOf : ByteArray := prog_3_method_11_code
def yX1_stepOf : MethodName := ⟨RX1, "stepOf", "(II)I"⟩
abbrev cX1_setStep : ByteArray := prog_3_method_12_code
def yX1_setStep : MethodName := ⟨RX1, "setStep", "(III)V"⟩
abbrev cX1_allCases : ByteArray := prog_3_method_13_code
def yX1_allCases : MethodName := ⟨RX1, "allCases", "()I"⟩
abbrev cX1_noLess : ByteArray := prog_3_method_14_code
def yX1_noLess : MethodName := ⟨RX1, "noLess", "(III)Z"⟩
abbrev cX1_copyCases : ByteArray := prog_3_method_15_code
def yX1_copyCases : MethodName := ⟨RX1, "copyCases", "(LLikeYears$Book;)V"⟩
def RX2 : String := "LikeYears$BookReader"
def TX2 : u_T := fun k => match k with
  | 0 => ("LikeYears$BookReader", "tape", "LLikeYears$Tape;", true)
  | 1 => ("LikeYears$BookReader", "order", "LLikeYears$Order;", true)
  | 2 => ("LikeYears$BookReader", "book", "LLikeYears$Book;", false)
  | 3 => ("LikeYears$BookReader", "caseNames", "[J", true)
  | 4 => ("LikeYears$BookReader", "toldPlaces", "[I", true)
  | _ => ("LikeYears$BookReader", "lines", "I", false)
def tyX2 : Nat → FieldType := fun k => match k with
  | 0 => .object "LikeYears$Tape"
  | 1 => .object "LikeYears$Order"
  | 2 => .object "LikeYears$Book"
  | 3 => .array .long
  | 4 => .array .int
  | _ => .int
set_option maxRecDepth 100000 in
theorem nmX2 : ∀ a, a < 6 → ∀ b, b < 6 → a ≠ b → (TX2 a).2.1 ≠ (TX2 b).2.1 := by decide +kernel
set_option maxRecDepth 100000 in
theorem tyX2_ok : ∀ k, k < 6 → parseFieldDescriptor (TX2 k).2.2.1 = some (tyX2 k) := by decide +kernel
abbrev cX2_init : ByteArray := prog_4_method_1_code
def yX2_init : MethodName := ⟨RX2, "<init>", "(LLikeYears$Tape;LLikeYears$Order;)V"⟩
abbrev cX2_read : ByteArray := prog_4_method_2_code
def yX2_read : MethodName := ⟨RX2, "read", "(LLikeYears$Book;)Z"⟩
abbrev cX2_readLine : ByteArray := prog_4_method_3_code
def yX2_readLine : MethodName := ⟨RX2, "readLine", "()Z"⟩
abbrev cX2_readMark : ByteArray := prog_4_method_4_code
def yX2_readMark : MethodName := ⟨RX2, "readMark", "()Z"⟩
abbrev cX2_readNever : ByteArray := prog_4_method_5_code
def yX2_readNever : MethodName := ⟨RX2, "readNever", "()Z"⟩
abbrev cX2_readCase : ByteArray := prog_4_method_6_code
def yX2_readCase : MethodName := ⟨RX2, "readCase", "()Z"⟩
abbrev cX2_readFacts : ByteArray := prog_4_method_7_code
def yX2_readFacts : MethodName := ⟨RX2, "readFacts", "()Z"⟩
abbrev cX2_readSteps : ByteArray := prog_4_method_8_code
def yX2_readSteps : MethodName := ⟨RX2, "readSteps", "()Z"⟩
abbrev cX2_readTold : ByteArray := prog_4_method_9_code
def yX2_readTold : MethodName := ⟨RX2, "readTold", "()Z"⟩
abbrev cX2_passNewName : ByteArray := prog_4_method_10_code
def yX2_passNewName : MethodName := ⟨RX2, "passNewName", "()J"⟩
abbrev cX2_markHere : ByteArray := prog_4_method_11_code
def yX2_markHere : MethodName := ⟨RX2, "markHere", "()I"⟩
abbrev cX2_passCase : ByteArray := prog_4_method_12_code
def yX2_passCase : MethodName := ⟨RX2, "passCase", "()I"⟩
abbrev cX2_caseNamed : ByteArray := prog_4_method_13_code
def yX2_caseNamed : MethodName := ⟨RX2, "caseNamed", "(J)I"⟩
abbrev cX2_toldHolds : ByteArray := prog_4_method_14_code
def yX2_toldHolds : MethodName := ⟨RX2, "toldHolds", "()Z"⟩
def RX3 : String := "LikeYears$Choices"
def TX3 : u_T := fun k => match k with
  | 0 => ("LikeYears$Choices", "fewest", "I", false)
  | 1 => ("LikeYears$Choices", "leastCover", "I", false)
  | 2 => ("LikeYears$Choices", "covers", "I", false)
  | 3 => ("LikeYears$Choices", "foes", "[I", true)
  | 4 => ("LikeYears$Choices", "shares", "[I", true)
  | 5 => ("LikeYears$Choices", "sums", "[I", true)
  | _ => ("LikeYears$Choices", "size", "I", false)
def tyX3 : Nat → FieldType := fun k => match k with
  | 0 => .int
  | 1 => .int
  | 2 => .int
  | 3 => .array .int
  | 4 => .array .int
  | 5 => .array .int
  | _ => .int
set_option maxRecDepth 100000 in
theorem nmX3 : ∀ a, a < 7 → ∀ b, b < 7 → a ≠ b → (TX3 a).2.1 ≠ (TX3 b).2.1 := by decide +kernel
set_option maxRecDepth 100000 in
theorem tyX3_ok : ∀ k, k < 7 → parseFieldDescriptor (TX3 k).2.2.1 = some (tyX3 k) := by decide +kernel
abbrev cX3_init : ByteArray := prog_5_method_1_code
def yX3_init : MethodName := ⟨RX3, "<init>", "()V"⟩
abbrev cX3_cover : ByteArray := prog_5_method_2_code
def yX3_cover : MethodName := ⟨RX3, "cover", "(LLikeYears$Book;LLikeYears$Order;)V"⟩
abbrev cX3_search : ByteArray := prog_5_method_3_code
def yX3_search : MethodName := ⟨RX3, "search", "(III)V"⟩
abbrev cX3_mostFoes : ByteArray := prog_5_method_4_code
def yX3_mostFoes : MethodName := ⟨RX3, "mostFoes", "(I)I"⟩
abbrev cX3_note : ByteArray := prog_5_method_5_code
def yX3_note : MethodName := ⟨RX3, "note", "(II)V"⟩
abbrev cX3_draws : ByteArray := prog_5_method_6_code
def yX3_draws : MethodName := ⟨RX3, "draws", "([IIII)I"⟩
abbrev cX3_drawsFrom : ByteArray := prog_5_method_7_code
def yX3_drawsFrom : MethodName := ⟨RX3, "drawsFrom", "(III)I"⟩
abbrev cX3_choose : ByteArray := prog_5_method_8_code
def yX3_choose : MethodName := ⟨RX3, "choose", "(II)I"⟩
def RX4 : String := "LikeYears$Cut"
def TX4 : u_T := fun k => match k with
  | 0 => ("LikeYears$Cut", "worth", "[I", true)
  | 1 => ("LikeYears$Cut", "left", "[I", true)
  | 2 => ("LikeYears$Cut", "paid", "[I", true)
  | 3 => ("LikeYears$Cut", "cameFrom", "[I", true)
  | 4 => ("LikeYears$Cut", "queue", "[I", true)
  | 5 => ("LikeYears$Cut", "above", "[I", false)
  | 6 => ("LikeYears$Cut", "payers", "I", false)
  | 7 => ("LikeYears$Cut", "owers", "I", false)
  | _ => ("LikeYears$Cut", "reached", "I", false)
def tyX4 : Nat → FieldType := fun k => match k with
  | 0 => .array .int
  | 1 => .array .int
  | 2 => .array .int
  | 3 => .array .int
  | 4 => .array .int
  | 5 => .array .int
  | 6 => .int
  | 7 => .int
  | _ => .int
set_option maxRecDepth 100000 in
theorem nmX4 : ∀ a, a < 9 → ∀ b, b < 9 → a ≠ b → (TX4 a).2.1 ≠ (TX4 b).2.1 := by decide +kernel
set_option maxRecDepth 100000 in
theorem tyX4_ok : ∀ k, k < 9 → parseFieldDescriptor (TX4 k).2.2.1 = some (tyX4 k) := by decide +kernel
abbrev cX4_init : ByteArray := prog_6_method_1_code
def yX4_init : MethodName := ⟨RX4, "<init>", "()V"⟩
abbrev cX4_choose : ByteArray := prog_6_method_2_code
def yX4_choose : MethodName := ⟨RX4, "choose", "(I[I)I"⟩
abbrev cX4_prepare : ByteArray := prog_6_method_3_code
def yX4_prepare : MethodName := ⟨RX4, "prepare", "(I)V"⟩
abbrev cX4_findOpenOwer : ByteArray := prog_6_method_4_code
def yX4_findOpenOwer : MethodName := ⟨RX4, "findOpenOwer", "()I"⟩
abbrev cX4_startQueue : ByteArray := prog_6_method_5_code
def yX4_startQueue : MethodName := ⟨RX4, "startQueue", "()I"⟩
abbrev cX4_queuePayersOf : ByteArray := prog_6_method_6_code
def yX4_queuePayersOf : MethodName := ⟨RX4, "queuePayersOf", "(II)I"⟩
abbrev cX4_payAround : ByteArray := prog_6_method_7_code
def yX4_payAround : MethodName := ⟨RX4, "payAround", "(I)V"⟩
def RX5 : String := "LikeYears$Fraction"
def TX5 : u_T := fun k => match k with
  | 0 => ("LikeYears$Fraction", "up", "J", false)
  | _ => ("LikeYears$Fraction", "low", "J", false)
def tyX5 : Nat → FieldType := fun k => match k with
  | 0 => .long
  | _ => .long
set_option maxRecDepth 100000 in
theorem nmX5 : ∀ a, a < 2 → ∀ b, b < 2 → a ≠ b → (TX5 a).2.1 ≠ (TX5 b).2.1 := by decide +kernel
set_option maxRecDepth 100000 in
theorem tyX5_ok : ∀ k, k < 2 → parseFieldDescriptor (TX5 k).2.2.1 = some (tyX5 k) := by decide +kernel
abbrev cX5_init : ByteArray := prog_7_method_1_code
def yX5_init : MethodName := ⟨RX5, "<init>", "()V"⟩
abbrev cX5_set : ByteArray := prog_7_method_2_code
def yX5_set : MethodName := ⟨RX5, "set", "(JJ)V"⟩
abbrev cX5_add : ByteArray := prog_7_method_3_code
def yX5_add : MethodName := ⟨RX5, "add", "(JJ)V"⟩
abbrev cX5_part : ByteArray := prog_7_method_4_code
def yX5_part : MethodName := ⟨RX5, "part", "(I)J"⟩
abbrev cX5_common : ByteArray := prog_7_method_5_code
def yX5_common : MethodName := ⟨RX5, "common", "(JJ)J"⟩
abbrev cX5_compare : ByteArray := prog_7_method_6_code
def yX5_compare : MethodName := ⟨RX5, "compare", "(JJJJ)I"⟩
def RX6 : String := "LikeYears$Laws"
def TX6 : u_T := fun k => match k with
  | 0 => ("LikeYears$Laws", "tape", "LLikeYears$Tape;", true)
  | 1 => ("LikeYears$Laws", "book", "LLikeYears$Book;", false)
  | 2 => ("LikeYears$Laws", "lines", "I", false)
  | 3 => ("LikeYears$Laws", "least", "[I", true)
  | 4 => ("LikeYears$Laws", "most", "[I", true)
  | 5 => ("LikeYears$Laws", "stops", "[I", true)
  | 6 => ("LikeYears$Laws", "signs", "[I", true)
  | 7 => ("LikeYears$Laws", "values", "[I", true)
  | 8 => ("LikeYears$Laws", "size", "I", false)
  | 9 => ("LikeYears$Laws", "units", "I", false)
  | 10 => ("LikeYears$Laws", "stack", "[I", true)
  | _ => ("LikeYears$Laws", "height", "I", false)
def tyX6 : Nat → FieldType := fun k => match k with
  | 0 => .object "LikeYears$Tape"
  | 1 => .object "LikeYears$Book"
  | 2 => .int
  | 3 => .array .int
  | 4 => .array .int
  | 5 => .array .int
  | 6 => .array .int
  | 7 => .array .int
  | 8 => .int
  | 9 => .int
  | 10 => .array .int
  | _ => .int
set_option maxRecDepth 100000 in
theorem nmX6 : ∀ a, a < 12 → ∀ b, b < 12 → a ≠ b → (TX6 a).2.1 ≠ (TX6 b).2.1 := by decide +kernel
set_option maxRecDepth 100000 in
theorem tyX6_ok : ∀ k, k < 12 → parseFieldDescriptor (TX6 k).2.2.1 = some (tyX6 k) := by decide +kernel
abbrev cX6_init : ByteArray := prog_8_method_1_code
def yX6_init : MethodName := ⟨RX6, "<init>", "(LLikeYears$Tape;)V"⟩
abbrev cX6_read : ByteArray := prog_8_method_2_code
def yX6_read : MethodName := ⟨RX6, "read", "(LLikeYears$Book;)Z"⟩
abbrev cX6_readLine : ByteArray := prog_8_method_3_code
def yX6_readLine : MethodName := ⟨RX6, "readLine", "()Z"⟩
abbrev cX6_readLevel : ByteArray := prog_8_method_4_code
def yX6_readLevel : MethodName := ⟨RX6, "readLevel", "(II)Z"⟩
abbrev cX6_signHere : ByteArray := prog_8_method_5_code
def yX6_signHere : MethodName := ⟨RX6, "signHere", "(I)I"⟩
abbrev cX6_relationHere : ByteArray := prog_8_method_6_code
def yX6_relationHere : MethodName := ⟨RX6, "relationHere", "()I"⟩
abbrev cX6_readUnit : ByteArray := prog_8_method_7_code
def yX6_readUnit : MethodName := ⟨RX6, "readUnit", "(I)Z"⟩
abbrev cX6_readPlainUnit : ByteArray := prog_8_method_8_code
def yX6_readPlainUnit : MethodName := ⟨RX6, "readPlainUnit", "()Z"⟩
abbrev cX6_factHere : ByteArray := prog_8_method_9_code
def yX6_factHere : MethodName := ⟨RX6, "factHere", "()I"⟩
abbrev cX6_write : ByteArray := prog_8_method_10_code
def yX6_write : MethodName := ⟨RX6, "write", "(II)Z"⟩
abbrev cX6_lineFor : ByteArray := prog_8_method_11_code
def yX6_lineFor : MethodName := ⟨RX6, "lineFor", "(LLikeYears$Book;I)I"⟩
abbrev cX6_worth : ByteArray := prog_8_method_12_code
def yX6_worth : MethodName := ⟨RX6, "worth", "(LLikeYears$Book;III)I"⟩
abbrev cX6_push : ByteArray := prog_8_method_13_code
def yX6_push : MethodName := ⟨RX6, "push", "(I)V"⟩
abbrev cX6_pop : ByteArray := prog_8_method_14_code
def yX6_pop : MethodName := ⟨RX6, "pop", "()I"⟩
abbrev cX6_fact : ByteArray := prog_8_method_15_code
def yX6_fact : MethodName := ⟨RX6, "fact", "(LLikeYears$Book;III)I"⟩
abbrev cX6_join : ByteArray := prog_8_method_16_code
def yX6_join : MethodName := ⟨RX6, "join", "(III)I"⟩
abbrev cX6_holds : ByteArray := prog_8_method_17_code
def yX6_holds : MethodName := ⟨RX6, "holds", "(III)Z"⟩
def RX7 : String := "LikeYears$Nearest"
def TX7 : u_T := fun k => match k with
  | 0 => ("LikeYears$Nearest", "cut", "LLikeYears$Cut;", true)
  | 1 => ("LikeYears$Nearest", "block", "[I", true)
  | 2 => ("LikeYears$Nearest", "up", "[J", true)
  | 3 => ("LikeYears$Nearest", "low", "[J", true)
  | 4 => ("LikeYears$Nearest", "total", "LLikeYears$Fraction;", true)
  | 5 => ("LikeYears$Nearest", "months", "[I", true)
  | 6 => ("LikeYears$Nearest", "share", "[I", true)
  | 7 => ("LikeYears$Nearest", "gapsTotal", "I", false)
  | 8 => ("LikeYears$Nearest", "open", "[I", true)
  | _ => ("LikeYears$Nearest", "mean", "LLikeYears$Fraction;", true)
def tyX7 : Nat → FieldType := fun k => match k with
  | 0 => .object "LikeYears$Cut"
  | 1 => .array .int
  | 2 => .array .long
  | 3 => .array .long
  | 4 => .object "LikeYears$Fraction"
  | 5 => .array .int
  | 6 => .array .int
  | 7 => .int
  | 8 => .array .int
  | _ => .object "LikeYears$Fraction"
set_option maxRecDepth 100000 in
theorem nmX7 : ∀ a, a < 10 → ∀ b, b < 10 → a ≠ b → (TX7 a).2.1 ≠ (TX7 b).2.1 := by decide +kernel
set_option maxRecDepth 100000 in
theorem tyX7_ok : ∀ k, k < 10 → parseFieldDescriptor (TX7 k).2.2.1 = some (tyX7 k) := by decide +kernel
abbrev cX7_init : ByteArray := prog_9_method_1_code
def yX7_init : MethodName := ⟨RX7, "<init>", "(LLikeYears$Cut;)V"⟩
abbrev cX7_fitSquares : ByteArray := prog_9_method_2_code
def yX7_fitSquares : MethodName := ⟨RX7, "fitSquares", "(LLikeYears$Book;[II)V"⟩
abbrev cX7_upperPart : ByteArray := prog_9_method_3_code
def yX7_upperPart : MethodName := ⟨RX7, "upperPart", "(LLikeYears$Book;[II)I"⟩
abbrev cX7_seal : ByteArray := prog_9_method_4_code
def yX7_seal : MethodName := ⟨RX7, "seal", "(LLikeYears$Book;I)V"⟩
abbrev cX7_partOf : ByteArray := prog_9_method_5_code
def yX7_partOf : MethodName := ⟨RX7, "partOf", "(II)J"⟩
abbrev cX7_isFarther : ByteArray := prog_9_method_6_code
def yX7_isFarther : MethodName := ⟨RX7, "isFarther", "(IIZ)Z"⟩
abbrev cX7_fitGaps : ByteArray := prog_9_method_7_code
def yX7_fitGaps : MethodName := ⟨RX7, "fitGaps", "(LLikeYears$Book;[I)V"⟩
abbrev cX7_nextLevel : ByteArray := prog_9_method_8_code
def yX7_nextLevel : MethodName := ⟨RX7, "nextLevel", "(LLikeYears$Book;II)I"⟩
abbrev cX7_shareOut : ByteArray := prog_9_method_9_code
def yX7_shareOut : MethodName := ⟨RX7, "shareOut", "(LLikeYears$Book;)V"⟩
def RX8 : String := "LikeYears$Order"
def TX8 : u_T := fun k => match k with
  | 0 => ("LikeYears$Order", "under", "[I", true)
  | _ => ("LikeYears$Order", "above", "[I", true)
def tyX8 : Nat → FieldType := fun k => match k with
  | 0 => .array .int
  | _ => .array .int
set_option maxRecDepth 100000 in
theorem nmX8 : ∀ a, a < 2 → ∀ b, b < 2 → a ≠ b → (TX8 a).2.1 ≠ (TX8 b).2.1 := by decide +kernel
set_option maxRecDepth 100000 in
theorem tyX8_ok : ∀ k, k < 2 → parseFieldDescriptor (TX8 k).2.2.1 = some (tyX8 k) := by decide +kernel
abbrev cX8_init : ByteArray := prog_10_method_1_code
def yX8_init : MethodName := ⟨RX8, "<init>", "()V"⟩
abbrev cX8_fill : ByteArray := prog_10_method_2_code
def yX8_fill : MethodName := ⟨RX8, "fill", "(LLikeYears$Book;I)V"⟩
abbrev cX8_tellAll : ByteArray := prog_10_method_3_code
def yX8_tellAll : MethodName := ⟨RX8, "tellAll", "(LLikeYears$Book;)I"⟩
abbrev cX8_tell : ByteArray := prog_10_method_4_code
def yX8_tell : MethodName := ⟨RX8, "tell", "(II)V"⟩
abbrev cX8_isOver : ByteArray := prog_10_method_5_code
def yX8_isOver : MethodName := ⟨RX8, "isOver", "(II)Z"⟩
abbrev cX8_gap : ByteArray := prog_10_method_6_code
def yX8_gap : MethodName := ⟨RX8, "gap", "(LLikeYears$Book;II)I"⟩
abbrev cX8_foes : ByteArray := prog_10_method_7_code
def yX8_foes : MethodName := ⟨RX8, "foes", "(LLikeYears$Book;I)I"⟩
abbrev cX8_gapsOf : ByteArray := prog_10_method_8_code
def yX8_gapsOf : MethodName := ⟨RX8, "gapsOf", "(LLikeYears$Book;I)I"⟩
abbrev cX8_pairs : ByteArray := prog_10_method_9_code
def yX8_pairs : MethodName := ⟨RX8, "pairs", "(LLikeYears$Book;Z)I"⟩
abbrev cX8_gapsTogether : ByteArray := prog_10_method_10_code
def yX8_gapsTogether : MethodName := ⟨RX8, "gapsTogether", "(LLikeYears$Book;)I"⟩
abbrev cX8_greatestGap : ByteArray := prog_10_method_11_code
def yX8_greatestGap : MethodName := ⟨RX8, "greatestGap", "(LLikeYears$Book;)I"⟩
abbrev cX8_oddestOf : ByteArray := prog_10_method_12_code
def yX8_oddestOf : MethodName := ⟨RX8, "oddestOf", "(LLikeYears$Book;)I"⟩
abbrev cX8_besideOf : ByteArray := prog_10_method_13_code
def yX8_besideOf : MethodName := ⟨RX8, "besideOf", "(LLikeYears$Book;I)I"⟩
abbrev cX8_twiceMiddle : ByteArray := prog_10_method_14_code
def yX8_twiceMiddle : MethodName := ⟨RX8, "twiceMiddle", "(LLikeYears$Book;I)I"⟩
abbrev cX8_twiceGreatest : ByteArray := prog_10_method_15_code
def yX8_twiceGreatest : MethodName := ⟨RX8, "twiceGreatest", "(LLikeYears$Book;)I"⟩
abbrev cX8_underNew : ByteArray := prog_10_method_16_code
def yX8_underNew : MethodName := ⟨RX8, "underNew", "(LLikeYears$Book;)I"⟩
abbrev cX8_overNew : ByteArray := prog_10_method_17_code
def yX8_overNew : MethodName := ⟨RX8, "overNew", "(LLikeYears$Book;)I"⟩
def RX9 : String := "LikeYears$Parting"
def TX9 : u_T := fun k => match k with
  | 0 => ("LikeYears$Parting", "total", "LLikeYears$Fraction;", true)
  | 1 => ("LikeYears$Parting", "starts", "I", false)
  | 2 => ("LikeYears$Parting", "pools", "I", false)
  | 3 => ("LikeYears$Parting", "weights", "[I", true)
  | 4 => ("LikeYears$Parting", "sums", "[I", true)
  | 5 => ("LikeYears$Parting", "begin", "[I", true)
  | 6 => ("LikeYears$Parting", "gainUp", "[J", true)
  | 7 => ("LikeYears$Parting", "gainLow", "[J", true)
  | 8 => ("LikeYears$Parting", "bits", "[I", true)
  | _ => ("LikeYears$Parting", "gain", "LLikeYears$Fraction;", true)
def tyX9 : Nat → FieldType := fun k => match k with
  | 0 => .object "LikeYears$Fraction"
  | 1 => .int
  | 2 => .int
  | 3 => .array .int
  | 4 => .array .int
  | 5 => .array .int
  | 6 => .array .long
  | 7 => .array .long
  | 8 => .array .int
  | _ => .object "LikeYears$Fraction"
set_option maxRecDepth 100000 in
theorem nmX9 : ∀ a, a < 10 → ∀ b, b < 10 → a ≠ b → (TX9 a).2.1 ≠ (TX9 b).2.1 := by decide +kernel
set_option maxRecDepth 100000 in
theorem tyX9_ok : ∀ k, k < 10 → parseFieldDescriptor (TX9 k).2.2.1 = some (tyX9 k) := by decide +kernel
abbrev cX9_init : ByteArray := prog_11_method_1_code
def yX9_init : MethodName := ⟨RX9, "<init>", "()V"⟩
abbrev cX9_reckon : ByteArray := prog_11_method_2_code
def yX9_reckon : MethodName := ⟨RX9, "reckon", "(LLikeYears$Book;II)V"⟩
abbrev cX9_squares : ByteArray := prog_11_method_3_code
def yX9_squares : MethodName := ⟨RX9, "squares", "(LLikeYears$Book;)J"⟩
abbrev cX9_pool : ByteArray := prog_11_method_4_code
def yX9_pool : MethodName := ⟨RX9, "pool", "(LLikeYears$Book;I)V"⟩
abbrev cX9_joinFalling : ByteArray := prog_11_method_5_code
def yX9_joinFalling : MethodName := ⟨RX9, "joinFalling", "()V"⟩
abbrev cX9_oneRun : ByteArray := prog_11_method_6_code
def yX9_oneRun : MethodName := ⟨RX9, "oneRun", "()V"⟩
abbrev cX9_lastRun : ByteArray := prog_11_method_7_code
def yX9_lastRun : MethodName := ⟨RX9, "lastRun", "(II)V"⟩
abbrev cX9_store : ByteArray := prog_11_method_8_code
def yX9_store : MethodName := ⟨RX9, "store", "(II)V"⟩
abbrev cX9_addRun : ByteArray := prog_11_method_9_code
def yX9_addRun : MethodName := ⟨RX9, "addRun", "(II)V"⟩
def RX10 : String := "LikeYears$Tape"
def TX10 : u_T := fun k => match k with
  | 0 => ("LikeYears$Tape", "size", "I", false)
  | 1 => ("LikeYears$Tape", "wrong", "I", false)
  | 2 => ("LikeYears$Tape", "wrongPlace", "I", false)
  | 3 => ("LikeYears$Tape", "kind", "I", false)
  | 4 => ("LikeYears$Tape", "place", "I", false)
  | 5 => ("LikeYears$Tape", "value", "J", false)
  | 6 => ("LikeYears$Tape", "bytes", "[B", true)
  | 7 => ("LikeYears$Tape", "kinds", "[I", true)
  | 8 => ("LikeYears$Tape", "places", "[I", true)
  | 9 => ("LikeYears$Tape", "values", "[J", true)
  | 10 => ("LikeYears$Tape", "tokens", "I", false)
  | _ => ("LikeYears$Tape", "now", "I", false)
def tyX10 : Nat → FieldType := fun k => match k with
  | 0 => .int
  | 1 => .int
  | 2 => .int
  | 3 => .int
  | 4 => .int
  | 5 => .long
  | 6 => .array .byte
  | 7 => .array .int
  | 8 => .array .int
  | 9 => .array .long
  | 10 => .int
  | _ => .int
set_option maxRecDepth 100000 in
theorem nmX10 : ∀ a, a < 12 → ∀ b, b < 12 → a ≠ b → (TX10 a).2.1 ≠ (TX10 b).2.1 := by decide +kernel
set_option maxRecDepth 100000 in
theorem tyX10_ok : ∀ k, k < 12 → parseFieldDescriptor (TX10 k).2.2.1 = some (tyX10 k) := by decide +kernel
abbrev cX10_init : ByteArray := prog_12_method_1_code
def yX10_init : MethodName := ⟨RX10, "<init>", "()V"⟩
abbrev cX10_put : ByteArray := prog_12_method_2_code
def yX10_put : MethodName := ⟨RX10, "put", "(I)V"⟩
abbrev cX10_open : ByteArray := prog_12_method_3_code
def yX10_open : MethodName := ⟨RX10, "open", "(Z)V"⟩
abbrev cX10_next : ByteArray := prog_12_method_4_code
def yX10_next : MethodName := ⟨RX10, "next", "()V"⟩
abbrev cX10_note : ByteArray := prog_12_method_5_code
def yX10_note : MethodName := ⟨RX10, "note", "(IIJ)V"⟩
abbrev cX10_scanToken : ByteArray := prog_12_method_6_code
def yX10_scanToken : MethodName := ⟨RX10, "scanToken", "(IZ)I"⟩
abbrev cX10_isLetter : ByteArray := prog_12_method_7_code
def yX10_isLetter : MethodName := ⟨RX10, "isLetter", "(I)Z"⟩
abbrev cX10_isDigit : ByteArray := prog_12_method_8_code
def yX10_isDigit : MethodName := ⟨RX10, "isDigit", "(I)Z"⟩
abbrev cX10_scanWord : ByteArray := prog_12_method_9_code
def yX10_scanWord : MethodName := ⟨RX10, "scanWord", "(I)I"⟩
abbrev cX10_scanNumber : ByteArray := prog_12_method_10_code
def yX10_scanNumber : MethodName := ⟨RX10, "scanNumber", "(I)I"⟩
abbrev cX10_refuse : ByteArray := prog_12_method_11_code
def yX10_refuse : MethodName := ⟨RX10, "refuse", "(I)Z"⟩
abbrev cX10_isWord : ByteArray := prog_12_method_12_code
def yX10_isWord : MethodName := ⟨RX10, "isWord", "(J)Z"⟩
abbrev cX10_isSign : ByteArray := prog_12_method_13_code
def yX10_isSign : MethodName := ⟨RX10, "isSign", "(C)Z"⟩
abbrev cX10_isName : ByteArray := prog_12_method_14_code
def yX10_isName : MethodName := ⟨RX10, "isName", "()Z"⟩
abbrev cX10_passWord : ByteArray := prog_12_method_15_code
def yX10_passWord : MethodName := ⟨RX10, "passWord", "(J)Z"⟩
abbrev cX10_passSign : ByteArray := prog_12_method_16_code
def yX10_passSign : MethodName := ⟨RX10, "passSign", "(C)Z"⟩
abbrev cX10_passNumber : ByteArray := prog_12_method_17_code
def yX10_passNumber : MethodName := ⟨RX10, "passNumber", "(II)I"⟩
abbrev cX10_passNumberOf : ByteArray := prog_12_method_18_code
def yX10_passNumberOf : MethodName := ⟨RX10, "passNumberOf", "(JII)I"⟩
def RX11 : String := "LikeYears"
def TX11 : u_T := fun k => match k with
  | 0 => ("LikeYears", "tape", "LLikeYears$Tape;", true)
  | 1 => ("LikeYears", "reader", "LLikeYears$BookReader;", true)
  | 2 => ("LikeYears", "book", "LLikeYears$Book;", false)
  | 3 => ("LikeYears", "spareBook", "LLikeYears$Book;", false)
  | 4 => ("LikeYears", "rules", "LLikeYears$Laws;", false)
  | 5 => ("LikeYears", "spareRules", "LLikeYears$Laws;", false)
  | 6 => ("LikeYears", "boxes", "[LLikeYears$Book;", true)
  | 7 => ("LikeYears", "boxFull", "[Z", true)
  | 8 => ("LikeYears", "acts", "LLikeYears$Acts;", true)
  | 9 => ("LikeYears", "order", "LLikeYears$Order;", true)
  | 10 => ("LikeYears", "trialOrder", "LLikeYears$Order;", true)
  | 11 => ("LikeYears", "nearest", "LLikeYears$Nearest;", true)
  | 12 => ("LikeYears", "trial", "LLikeYears$Nearest;", true)
  | 13 => ("LikeYears", "choices", "LLikeYears$Choices;", true)
  | 14 => ("LikeYears", "parting", "LLikeYears$Parting;", true)
  | 15 => ("LikeYears", "answer", "LLikeYears$Fraction;", true)
  | 16 => ("LikeYears", "bestPair", "I", false)
  | _ => ("LikeYears", "known", "I", false)
def tyX11 : Nat → FieldType := fun k => match k with
  | 0 => .object "LikeYears$Tape"
  | 1 => .object "LikeYears$BookReader"
  | 2 => .object "LikeYears$Book"
  | 3 => .object "LikeYears$Book"
  | 4 => .object "LikeYears$Laws"
  | 5 => .object "LikeYears$Laws"
  | 6 => .array (.object "LikeYears$Book")
  | 7 => .array .boolean
  | 8 => .object "LikeYears$Acts"
  | 9 => .object "LikeYears$Order"
  | 10 => .object "LikeYears$Order"
  | 11 => .object "LikeYears$Nearest"
  | 12 => .object "LikeYears$Nearest"
  | 13 => .object "LikeYears$Choices"
  | 14 => .object "LikeYears$Parting"
  | 15 => .object "LikeYears$Fraction"
  | 16 => .int
  | _ => .int
set_option maxRecDepth 100000 in
theorem nmX11 : ∀ a, a < 18 → ∀ b, b < 18 → a ≠ b → (TX11 a).2.1 ≠ (TX11 b).2.1 := by decide +kernel
set_option maxRecDepth 100000 in
theorem tyX11_ok : ∀ k, k < 18 → parseFieldDescriptor (TX11 k).2.2.1 = some (tyX11 k) := by decide +kernel
abbrev cX11_init : ByteArray := prog_1_method_1_code
def yX11_init : MethodName := ⟨RX11, "<init>", "()V"⟩
abbrev cX11_feed : ByteArray := prog_1_method_2_code
def yX11_feed : MethodName := ⟨RX11, "feed", "(IIIII)I"⟩
abbrev cX11_end : ByteArray := prog_1_method_3_code
def yX11_end : MethodName := ⟨RX11, "end", "(I)I"⟩
abbrev cX11_book : ByteArray := prog_1_method_4_code
def yX11_book : MethodName := ⟨RX11, "book", "()I"⟩
abbrev cX11_laws : ByteArray := prog_1_method_5_code
def yX11_laws : MethodName := ⟨RX11, "laws", "()I"⟩
abbrev cX11_fault : ByteArray := prog_1_method_6_code
def yX11_fault : MethodName := ⟨RX11, "fault", "(I)I"⟩
abbrev cX11_worse : ByteArray := prog_1_method_7_code
def yX11_worse : MethodName := ⟨RX11, "worse", "(II)I"⟩
abbrev cX11_clash : ByteArray := prog_1_method_8_code
def yX11_clash : MethodName := ⟨RX11, "clash", "(I)I"⟩
abbrev cX11_oddest : ByteArray := prog_1_method_9_code
def yX11_oddest : MethodName := ⟨RX11, "oddest", "(I)I"⟩
abbrev cX11_beside : ByteArray := prog_1_method_10_code
def yX11_beside : MethodName := ⟨RX11, "beside", "(I)I"⟩
abbrev cX11_kept : ByteArray := prog_1_method_11_code
def yX11_kept : MethodName := ⟨RX11, "kept", "(III)J"⟩
abbrev cX11_cost : ByteArray := prog_1_method_12_code
def yX11_cost : MethodName := ⟨RX11, "cost", "(II)J"⟩
abbrev cX11_block : ByteArray := prog_1_method_13_code
def yX11_block : MethodName := ⟨RX11, "block", "(I)I"⟩
abbrev cX11_again : ByteArray := prog_1_method_14_code
def yX11_again : MethodName := ⟨RX11, "again", "(I)I"⟩
abbrev cX11_grid : ByteArray := prog_1_method_15_code
def yX11_grid : MethodName := ⟨RX11, "grid", "(III)J"⟩
abbrev cX11_loses : ByteArray := prog_1_method_16_code
def yX11_loses : MethodName := ⟨RX11, "loses", "(III)J"⟩
abbrev cX11_best : ByteArray := prog_1_method_17_code
def yX11_best : MethodName := ⟨RX11, "best", "()I"⟩
abbrev cX11_runs : ByteArray := prog_1_method_18_code
def yX11_runs : MethodName := ⟨RX11, "runs", "(III)J"⟩
abbrev cX11_begins : ByteArray := prog_1_method_19_code
def yX11_begins : MethodName := ⟨RX11, "begins", "(II)I"⟩
abbrev cX11_off : ByteArray := prog_1_method_20_code
def yX11_off : MethodName := ⟨RX11, "off", "(I)I"⟩
abbrev cX11_luck : ByteArray := prog_1_method_21_code
def yX11_luck : MethodName := ⟨RX11, "luck", "(II)J"⟩
abbrev cX11_upto : ByteArray := prog_1_method_22_code
def yX11_upto : MethodName := ⟨RX11, "upto", "(II)J"⟩
abbrev cX11_drift : ByteArray := prog_1_method_23_code
def yX11_drift : MethodName := ⟨RX11, "drift", "(II)J"⟩
abbrev cX11_within : ByteArray := prog_1_method_24_code
def yX11_within : MethodName := ⟨RX11, "within", "()I"⟩
abbrev cX11_law : ByteArray := prog_1_method_25_code
def yX11_law : MethodName := ⟨RX11, "law", "(IIIII)I"⟩
abbrev cX11_lawOf : ByteArray := prog_1_method_26_code
def yX11_lawOf : MethodName := ⟨RX11, "lawOf", "(I)I"⟩
abbrev cX11_moved : ByteArray := prog_1_method_27_code
def yX11_moved : MethodName := ⟨RX11, "moved", "(I)I"⟩
abbrev cX11_mercy : ByteArray := prog_1_method_28_code
def yX11_mercy : MethodName := ⟨RX11, "mercy", "(I)I"⟩
abbrev cX11_step : ByteArray := prog_1_method_29_code
def yX11_step : MethodName := ⟨RX11, "step", "(II)Z"⟩
abbrev cX11_ends : ByteArray := prog_1_method_30_code
def yX11_ends : MethodName := ⟨RX11, "ends", "(ZI)J"⟩
abbrev cX11_first : ByteArray := prog_1_method_31_code
def yX11_first : MethodName := ⟨RX11, "first", "(I)I"⟩
abbrev cX11_come : ByteArray := prog_1_method_32_code
def yX11_come : MethodName := ⟨RX11, "come", "(IIII)I"⟩
abbrev cX11_count : ByteArray := prog_1_method_33_code
def yX11_count : MethodName := ⟨RX11, "count", "(IZ)Z"⟩
abbrev cX11_give : ByteArray := prog_1_method_34_code
def yX11_give : MethodName := ⟨RX11, "give", "(II)Z"⟩
abbrev cX11_undo : ByteArray := prog_1_method_35_code
def yX11_undo : MethodName := ⟨RX11, "undo", "()Z"⟩
abbrev cX11_redo : ByteArray := prog_1_method_36_code
def yX11_redo : MethodName := ⟨RX11, "redo", "()Z"⟩
abbrev cX11_keep : ByteArray := prog_1_method_37_code
def yX11_keep : MethodName := ⟨RX11, "keep", "(I)I"⟩
abbrev cX11_back : ByteArray := prog_1_method_38_code
def yX11_back : MethodName := ⟨RX11, "back", "(I)I"⟩
abbrev cX11_about : ByteArray := prog_1_method_39_code
def yX11_about : MethodName := ⟨RX11, "about", "(I)I"⟩
abbrev cX11_isPart : ByteArray := prog_1_method_40_code
def yX11_isPart : MethodName := ⟨RX11, "isPart", "(I)Z"⟩
abbrev cX11_isYear : ByteArray := prog_1_method_41_code
def yX11_isYear : MethodName := ⟨RX11, "isYear", "(I)Z"⟩
abbrev cX11_isGiven : ByteArray := prog_1_method_42_code
def yX11_isGiven : MethodName := ⟨RX11, "isGiven", "(I)Z"⟩
abbrev cX11_isGrid : ByteArray := prog_1_method_43_code
def yX11_isGrid : MethodName := ⟨RX11, "isGrid", "(II)Z"⟩
abbrev cX11_isRuns : ByteArray := prog_1_method_44_code
def yX11_isRuns : MethodName := ⟨RX11, "isRuns", "(II)Z"⟩
abbrev cX11_knownOrder : ByteArray := prog_1_method_45_code
def yX11_knownOrder : MethodName := ⟨RX11, "knownOrder", "()LLikeYears$Order;"⟩
abbrev cX11_knownSquares : ByteArray := prog_1_method_46_code
def yX11_knownSquares : MethodName := ⟨RX11, "knownSquares", "()LLikeYears$Nearest;"⟩
abbrev cX11_knownGaps : ByteArray := prog_1_method_47_code
def yX11_knownGaps : MethodName := ⟨RX11, "knownGaps", "()LLikeYears$Nearest;"⟩
abbrev cX11_gridCost : ByteArray := prog_1_method_48_code
def yX11_gridCost : MethodName := ⟨RX11, "gridCost", "(II)LLikeYears$Fraction;"⟩
abbrev cX11_findBest : ByteArray := prog_1_method_49_code
def yX11_findBest : MethodName := ⟨RX11, "findBest", "()I"⟩
abbrev cX11_outside : ByteArray := prog_1_method_50_code
def yX11_outside : MethodName := ⟨RX11, "outside", "(III)I"⟩
abbrev cX11_moveOf : ByteArray := prog_1_method_51_code
def yX11_moveOf : MethodName := ⟨RX11, "moveOf", "(I)I"⟩
abbrev cX11_act : ByteArray := prog_1_method_52_code
def yX11_act : MethodName := ⟨RX11, "act", "(IIII)V"⟩
def RX12 : String := "LikeYearsModel"
def TX12 : u_T := fun k => match k with
  | 0 => ("LikeYearsModel", "tape", "[I", true)
  | 1 => ("LikeYearsModel", "taped", "I", false)
  | 2 => ("LikeYearsModel", "fault", "I", false)
  | 3 => ("LikeYearsModel", "faultPlace", "I", false)
  | 4 => ("LikeYearsModel", "at", "I", false)
  | 5 => ("LikeYearsModel", "size", "I", false)
  | 6 => ("LikeYearsModel", "sort", "I", false)
  | 7 => ("LikeYearsModel", "place", "I", false)
  | 8 => ("LikeYearsModel", "number", "I", false)
  | 9 => ("LikeYearsModel", "word", "J", false)
  | 10 => ("LikeYearsModel", "ofLaws", "Z", false)
  | 11 => ("LikeYearsModel", "nMark", "[J", true)
  | 12 => ("LikeYearsModel", "nCase", "[J", true)
  | 13 => ("LikeYearsModel", "nTo", "[I", true)
  | 14 => ("LikeYearsModel", "nSteps", "[I", true)
  | 15 => ("LikeYearsModel", "nJudge", "[I", true)
  | 16 => ("LikeYearsModel", "nYear", "[I", true)
  | 17 => ("LikeYearsModel", "nGiven", "[I", true)
  | 18 => ("LikeYearsModel", "nWeight", "[I", true)
  | 19 => ("LikeYearsModel", "nFirst", "[I", true)
  | 20 => ("LikeYearsModel", "nSecond", "[I", true)
  | 21 => ("LikeYearsModel", "nPlace", "[I", true)
  | 22 => ("LikeYearsModel", "nNever", "[Z", true)
  | 23 => ("LikeYearsModel", "nHas", "[Z", true)
  | 24 => ("LikeYearsModel", "nMarks", "I", false)
  | 25 => ("LikeYearsModel", "nCases", "I", false)
  | 26 => ("LikeYearsModel", "nTolds", "I", false)
  | 27 => ("LikeYearsModel", "nLines", "I", false)
  | 28 => ("LikeYearsModel", "to", "[I", true)
  | 29 => ("LikeYearsModel", "steps", "[I", true)
  | 30 => ("LikeYearsModel", "judge", "[I", true)
  | 31 => ("LikeYearsModel", "year", "[I", true)
  | 32 => ("LikeYearsModel", "given", "[I", true)
  | 33 => ("LikeYearsModel", "weight", "[I", true)
  | 34 => ("LikeYearsModel", "firstOf", "[I", true)
  | 35 => ("LikeYearsModel", "secondOf", "[I", true)
  | 36 => ("LikeYearsModel", "counts", "[Z", true)
  | 37 => ("LikeYearsModel", "marks", "I", false)
  | 38 => ("LikeYearsModel", "cases", "I", false)
  | 39 => ("LikeYearsModel", "tolds", "I", false)
  | 40 => ("LikeYearsModel", "lines", "I", false)
  | 41 => ("LikeYearsModel", "names", "[J", true)
  | 42 => ("LikeYearsModel", "down", "[I", true)
  | 43 => ("LikeYearsModel", "up", "[I", true)
  | 44 => ("LikeYearsModel", "top", "J", false)
  | 45 => ("LikeYearsModel", "low", "J", false)
  | 46 => ("LikeYearsModel", "closed", "[I", true)
  | 47 => ("LikeYearsModel", "weights", "[I", true)
  | 48 => ("LikeYearsModel", "sums", "[I", true)
  | 49 => ("LikeYearsModel", "keptTop", "[J", true)
  | 50 => ("LikeYearsModel", "keptLow", "[J", true)
  | 51 => ("LikeYearsModel", "raised", "[I", true)
  | 52 => ("LikeYearsModel", "keptGap", "[I", true)
  | 53 => ("LikeYearsModel", "runWeight", "[I", true)
  | 54 => ("LikeYearsModel", "runSum", "[I", true)
  | 55 => ("LikeYearsModel", "runSquare", "[J", true)
  | 56 => ("LikeYearsModel", "nWhat", "[I", true)
  | 57 => ("LikeYearsModel", "nNumber", "[I", true)
  | 58 => ("LikeYearsModel", "nBegin", "[I", true)
  | 59 => ("LikeYearsModel", "nLeast", "[I", true)
  | 60 => ("LikeYearsModel", "nMost", "[I", true)
  | 61 => ("LikeYearsModel", "whats", "[I", true)
  | 62 => ("LikeYearsModel", "numbers", "[I", true)
  | 63 => ("LikeYearsModel", "begin", "[I", true)
  | 64 => ("LikeYearsModel", "leasts", "[I", true)
  | 65 => ("LikeYearsModel", "mosts", "[I", true)
  | 66 => ("LikeYearsModel", "waits", "[I", true)
  | 67 => ("LikeYearsModel", "pile", "[I", true)
  | 68 => ("LikeYearsModel", "nNotes", "I", false)
  | 69 => ("LikeYearsModel", "nLaws", "I", false)
  | 70 => ("LikeYearsModel", "lawMany", "I", false)
  | 71 => ("LikeYearsModel", "units", "I", false)
  | 72 => ("LikeYearsModel", "waiting", "I", false)
  | 73 => ("LikeYearsModel", "deep", "I", false)
  | 74 => ("LikeYearsModel", "news", "[I", true)
  | 75 => ("LikeYearsModel", "actKind", "[I", true)
  | 76 => ("LikeYearsModel", "actOf", "[I", true)
  | 77 => ("LikeYearsModel", "actOther", "[I", true)
  | 78 => ("LikeYearsModel", "done", "I", false)
  | 79 => ("LikeYearsModel", "undone", "I", false)
  | 80 => ("LikeYearsModel", "hasBox", "[Z", true)
  | 81 => ("LikeYearsModel", "boxCounts", "[Z", true)
  | 82 => ("LikeYearsModel", "boxCases", "[I", true)
  | 83 => ("LikeYearsModel", "boxSteps", "[I", true)
  | 84 => ("LikeYearsModel", "boxJudge", "[I", true)
  | 85 => ("LikeYearsModel", "boxYear", "[I", true)
  | 86 => ("LikeYearsModel", "boxGiven", "[I", true)
  | _ => ("LikeYearsModel", "boxWeight", "[I", true)
def tyX12 : Nat → FieldType := fun k => match k with
  | 0 => .array .int
  | 1 => .int
  | 2 => .int
  | 3 => .int
  | 4 => .int
  | 5 => .int
  | 6 => .int
  | 7 => .int
  | 8 => .int
  | 9 => .long
  | 10 => .boolean
  | 11 => .array .long
  | 12 => .array .long
  | 13 => .array .int
  | 14 => .array .int
  | 15 => .array .int
  | 16 => .array .int
  | 17 => .array .int
  | 18 => .array .int
  | 19 => .array .int
  | 20 => .array .int
  | 21 => .array .int
  | 22 => .array .boolean
  | 23 => .array .boolean
  | 24 => .int
  | 25 => .int
  | 26 => .int
  | 27 => .int
  | 28 => .array .int
  | 29 => .array .int
  | 30 => .array .int
  | 31 => .array .int
  | 32 => .array .int
  | 33 => .array .int
  | 34 => .array .int
  | 35 => .array .int
  | 36 => .array .boolean
  | 37 => .int
  | 38 => .int
  | 39 => .int
  | 40 => .int
  | 41 => .array .long
  | 42 => .array .int
  | 43 => .array .int
  | 44 => .long
  | 45 => .long
  | 46 => .array .int
  | 47 => .array .int
  | 48 => .array .int
  | 49 => .array .long
  | 50 => .array .long
  | 51 => .array .int
  | 52 => .array .int
  | 53 => .array .int
  | 54 => .array .int
  | 55 => .array .long
  | 56 => .array .int
  | 57 => .array .int
  | 58 => .array .int
  | 59 => .array .int
  | 60 => .array .int
  | 61 => .array .int
  | 62 => .array .int
  | 63 => .array .int
  | 64 => .array .int
  | 65 => .array .int
  | 66 => .array .int
  | 67 => .array .int
  | 68 => .int
  | 69 => .int
  | 70 => .int
  | 71 => .int
  | 72 => .int
  | 73 => .int
  | 74 => .array .int
  | 75 => .array .int
  | 76 => .array .int
  | 77 => .array .int
  | 78 => .int
  | 79 => .int
  | 80 => .array .boolean
  | 81 => .array .boolean
  | 82 => .array .int
  | 83 => .array .int
  | 84 => .array .int
  | 85 => .array .int
  | 86 => .array .int
  | _ => .array .int
set_option maxRecDepth 100000 in
theorem nmX12 : ∀ a, a < 88 → ∀ b, b < 88 → a ≠ b → (TX12 a).2.1 ≠ (TX12 b).2.1 := by decide +kernel
set_option maxRecDepth 100000 in
theorem tyX12_ok : ∀ k, k < 88 → parseFieldDescriptor (TX12 k).2.2.1 = some (tyX12 k) := by decide +kernel
abbrev cX12_init : ByteArray := prog_14_method_1_code
def yX12_init : MethodName := ⟨RX12, "<init>", "()V"⟩
abbrev cX12_feed : ByteArray := prog_14_method_2_code
def yX12_feed : MethodName := ⟨RX12, "feed", "(IIIII)I"⟩
abbrev cX12_four : ByteArray := prog_14_method_3_code
def yX12_four : MethodName := ⟨RX12, "four", "(I)V"⟩
abbrev cX12_end : ByteArray := prog_14_method_4_code
def yX12_end : MethodName := ⟨RX12, "end", "(I)I"⟩
abbrev cX12_here : ByteArray := prog_14_method_5_code
def yX12_here : MethodName := ⟨RX12, "here", "(I)I"⟩
abbrev cX12_isLetter : ByteArray := prog_14_method_6_code
def yX12_isLetter : MethodName := ⟨RX12, "isLetter", "(I)Z"⟩
abbrev cX12_isDigit : ByteArray := prog_14_method_7_code
def yX12_isDigit : MethodName := ⟨RX12, "isDigit", "(I)Z"⟩
abbrev cX12_isLawSign : ByteArray := prog_14_method_8_code
def yX12_isLawSign : MethodName := ⟨RX12, "isLawSign", "(I)Z"⟩
abbrev cX12_token : ByteArray := prog_14_method_9_code
def yX12_token : MethodName := ⟨RX12, "token", "()V"⟩
abbrev cX12_wrong : ByteArray := prog_14_method_10_code
def yX12_wrong : MethodName := ⟨RX12, "wrong", "(I)V"⟩
abbrev cX12_isWord : ByteArray := prog_14_method_11_code
def yX12_isWord : MethodName := ⟨RX12, "isWord", "(J)Z"⟩
abbrev cX12_isName : ByteArray := prog_14_method_12_code
def yX12_isName : MethodName := ⟨RX12, "isName", "()Z"⟩
abbrev cX12_isNoLawWord : ByteArray := prog_14_method_13_code
def yX12_isNoLawWord : MethodName := ⟨RX12, "isNoLawWord", "()Z"⟩
abbrev cX12_want : ByteArray := prog_14_method_14_code
def yX12_want : MethodName := ⟨RX12, "want", "(J)V"⟩
abbrev cX12_told : ByteArray := prog_14_method_15_code
def yX12_told : MethodName := ⟨RX12, "told", "(II)I"⟩
abbrev cX12_markOf : ByteArray := prog_14_method_16_code
def yX12_markOf : MethodName := ⟨RX12, "markOf", "(J)I"⟩
abbrev cX12_caseOf : ByteArray := prog_14_method_17_code
def yX12_caseOf : MethodName := ⟨RX12, "caseOf", "(J)I"⟩
abbrev cX12_newName : ByteArray := prog_14_method_18_code
def yX12_newName : MethodName := ⟨RX12, "newName", "()J"⟩
abbrev cX12_oldName : ByteArray := prog_14_method_19_code
def yX12_oldName : MethodName := ⟨RX12, "oldName", "(Z)I"⟩
abbrev cX12_readMark : ByteArray := prog_14_method_20_code
def yX12_readMark : MethodName := ⟨RX12, "readMark", "()V"⟩
abbrev cX12_readNever : ByteArray := prog_14_method_21_code
def yX12_readNever : MethodName := ⟨RX12, "readNever", "()V"⟩
abbrev cX12_readCase : ByteArray := prog_14_method_22_code
def yX12_readCase : MethodName := ⟨RX12, "readCase", "()V"⟩
abbrev cX12_readTold : ByteArray := prog_14_method_23_code
def yX12_readTold : MethodName := ⟨RX12, "readTold", "()V"⟩
abbrev cX12_readLine : ByteArray := prog_14_method_24_code
def yX12_readLine : MethodName := ⟨RX12, "readLine", "()V"⟩
abbrev cX12_book : ByteArray := prog_14_method_25_code
def yX12_book : MethodName := ⟨RX12, "book", "()I"⟩
abbrev cX12_fault : ByteArray := prog_14_method_26_code
def yX12_fault : MethodName := ⟨RX12, "fault", "(I)I"⟩
abbrev cX12_close : ByteArray := prog_14_method_27_code
def yX12_close : MethodName := ⟨RX12, "close", "([II)V"⟩
abbrev cX12_firstRound : ByteArray := prog_14_method_28_code
def yX12_firstRound : MethodName := ⟨RX12, "firstRound", "()I"⟩
abbrev cX12_isOverBy : ByteArray := prog_14_method_29_code
def yX12_isOverBy : MethodName := ⟨RX12, "isOverBy", "(III)Z"⟩
abbrev cX12_counting : ByteArray := prog_14_method_30_code
def yX12_counting : MethodName := ⟨RX12, "counting", "()I"⟩
abbrev cX12_order : ByteArray := prog_14_method_31_code
def yX12_order : MethodName := ⟨RX12, "order", "(IZ)V"⟩
abbrev cX12_orderNow : ByteArray := prog_14_method_32_code
def yX12_orderNow : MethodName := ⟨RX12, "orderNow", "()V"⟩
abbrev cX12_goesRound : ByteArray := prog_14_method_33_code
def yX12_goesRound : MethodName := ⟨RX12, "goesRound", "(I)Z"⟩
abbrev cX12_isCase : ByteArray := prog_14_method_34_code
def yX12_isCase : MethodName := ⟨RX12, "isCase", "(I)Z"⟩
abbrev cX12_isMark : ByteArray := prog_14_method_35_code
def yX12_isMark : MethodName := ⟨RX12, "isMark", "(I)Z"⟩
abbrev cX12_isOver : ByteArray := prog_14_method_36_code
def yX12_isOver : MethodName := ⟨RX12, "isOver", "(II)Z"⟩
abbrev cX12_worse : ByteArray := prog_14_method_37_code
def yX12_worse : MethodName := ⟨RX12, "worse", "(II)I"⟩
abbrev cX12_gapOf : ByteArray := prog_14_method_38_code
def yX12_gapOf : MethodName := ⟨RX12, "gapOf", "(II)I"⟩
abbrev cX12_eitherGap : ByteArray := prog_14_method_39_code
def yX12_eitherGap : MethodName := ⟨RX12, "eitherGap", "(II)I"⟩
abbrev cX12_clashes : ByteArray := prog_14_method_40_code
def yX12_clashes : MethodName := ⟨RX12, "clashes", "()I"⟩
abbrev cX12_clash : ByteArray := prog_14_method_41_code
def yX12_clash : MethodName := ⟨RX12, "clash", "(I)I"⟩
abbrev cX12_oddest : ByteArray := prog_14_method_42_code
def yX12_oddest : MethodName := ⟨RX12, "oddest", "(I)I"⟩
abbrev cX12_beside : ByteArray := prog_14_method_43_code
def yX12_beside : MethodName := ⟨RX12, "beside", "(I)I"⟩
abbrev cX12_common : ByteArray := prog_14_method_44_code
def yX12_common : MethodName := ⟨RX12, "common", "(JJ)J"⟩
abbrev cX12_put : ByteArray := prog_14_method_45_code
def yX12_put : MethodName := ⟨RX12, "put", "(JJ)V"⟩
abbrev cX12_add : ByteArray := prog_14_method_46_code
def yX12_add : MethodName := ⟨RX12, "add", "(JJ)V"⟩
abbrev cX12_isPart : ByteArray := prog_14_method_47_code
def yX12_isPart : MethodName := ⟨RX12, "isPart", "(I)Z"⟩
abbrev cX12_partOf : ByteArray := prog_14_method_48_code
def yX12_partOf : MethodName := ⟨RX12, "partOf", "(I)J"⟩
abbrev cX12_lowest : ByteArray := prog_14_method_49_code
def yX12_lowest : MethodName := ⟨RX12, "lowest", "(I)I"⟩
abbrev cX12_layOut : ByteArray := prog_14_method_50_code
def yX12_layOut : MethodName := ⟨RX12, "layOut", "()V"⟩
abbrev cX12_square : ByteArray := prog_14_method_51_code
def yX12_square : MethodName := ⟨RX12, "square", "(I)V"⟩
abbrev cX12_takeOff : ByteArray := prog_14_method_52_code
def yX12_takeOff : MethodName := ⟨RX12, "takeOff", "(I)V"⟩
abbrev cX12_allCases : ByteArray := prog_14_method_53_code
def yX12_allCases : MethodName := ⟨RX12, "allCases", "()I"⟩
abbrev cX12_nextGiven : ByteArray := prog_14_method_54_code
def yX12_nextGiven : MethodName := ⟨RX12, "nextGiven", "(I)I"⟩
abbrev cX12_raise : ByteArray := prog_14_method_55_code
def yX12_raise : MethodName := ⟨RX12, "raise", "()V"⟩
abbrev cX12_gaps : ByteArray := prog_14_method_56_code
def yX12_gaps : MethodName := ⟨RX12, "gaps", "()V"⟩
abbrev cX12_leastUpper : ByteArray := prog_14_method_57_code
def yX12_leastUpper : MethodName := ⟨RX12, "leastUpper", "(I)I"⟩
abbrev cX12_gapOff : ByteArray := prog_14_method_58_code
def yX12_gapOff : MethodName := ⟨RX12, "gapOff", "(I)I"⟩
abbrev cX12_partedFrom : ByteArray := prog_14_method_59_code
def yX12_partedFrom : MethodName := ⟨RX12, "partedFrom", "(I)I"⟩
abbrev cX12_block : ByteArray := prog_14_method_60_code
def yX12_block : MethodName := ⟨RX12, "block", "(I)I"⟩
abbrev cX12_between : ByteArray := prog_14_method_61_code
def yX12_between : MethodName := ⟨RX12, "between", "(I)I"⟩
abbrev cX12_kept : ByteArray := prog_14_method_62_code
def yX12_kept : MethodName := ⟨RX12, "kept", "(III)J"⟩
abbrev cX12_cost : ByteArray := prog_14_method_63_code
def yX12_cost : MethodName := ⟨RX12, "cost", "(II)J"⟩
abbrev cX12_bitsOf : ByteArray := prog_14_method_64_code
def yX12_bitsOf : MethodName := ⟨RX12, "bitsOf", "(I)I"⟩
abbrev cX12_again : ByteArray := prog_14_method_65_code
def yX12_again : MethodName := ⟨RX12, "again", "(I)I"⟩
abbrev cX12_isGrid : ByteArray := prog_14_method_66_code
def yX12_isGrid : MethodName := ⟨RX12, "isGrid", "(II)Z"⟩
abbrev cX12_grid : ByteArray := prog_14_method_67_code
def yX12_grid : MethodName := ⟨RX12, "grid", "(III)J"⟩
abbrev cX12_loses : ByteArray := prog_14_method_68_code
def yX12_loses : MethodName := ⟨RX12, "loses", "(III)J"⟩
abbrev cX12_best : ByteArray := prog_14_method_69_code
def yX12_best : MethodName := ⟨RX12, "best", "()I"⟩
abbrev cX12_runCost : ByteArray := prog_14_method_70_code
def yX12_runCost : MethodName := ⟨RX12, "runCost", "(II)V"⟩
abbrev cX12_canRun : ByteArray := prog_14_method_71_code
def yX12_canRun : MethodName := ⟨RX12, "canRun", "(II)Z"⟩
abbrev cX12_seekRuns : ByteArray := prog_14_method_72_code
def yX12_seekRuns : MethodName := ⟨RX12, "seekRuns", "(II)I"⟩
abbrev cX12_runs : ByteArray := prog_14_method_73_code
def yX12_runs : MethodName := ⟨RX12, "runs", "(III)J"⟩
abbrev cX12_begins : ByteArray := prog_14_method_74_code
def yX12_begins : MethodName := ⟨RX12, "begins", "(II)I"⟩
abbrev cX12_isJudge : ByteArray := prog_14_method_75_code
def yX12_isJudge : MethodName := ⟨RX12, "isJudge", "(I)Z"⟩
abbrev cX12_offOf : ByteArray := prog_14_method_76_code
def yX12_offOf : MethodName := ⟨RX12, "offOf", "(I)I"⟩
abbrev cX12_off : ByteArray := prog_14_method_77_code
def yX12_off : MethodName := ⟨RX12, "off", "(I)I"⟩
abbrev cX12_luck : ByteArray := prog_14_method_78_code
def yX12_luck : MethodName := ⟨RX12, "luck", "(II)J"⟩
abbrev cX12_upto : ByteArray := prog_14_method_79_code
def yX12_upto : MethodName := ⟨RX12, "upto", "(II)J"⟩
abbrev cX12_within : ByteArray := prog_14_method_80_code
def yX12_within : MethodName := ⟨RX12, "within", "()I"⟩
abbrev cX12_drift : ByteArray := prog_14_method_81_code
def yX12_drift : MethodName := ⟨RX12, "drift", "(II)J"⟩
abbrev cX12_isMonths : ByteArray := prog_14_method_82_code
def yX12_isMonths : MethodName := ⟨RX12, "isMonths", "(I)Z"⟩
abbrev cX12_law : ByteArray := prog_14_method_83_code
def yX12_law : MethodName := ⟨RX12, "law", "(IIIII)I"⟩
abbrev cX12_mercy : ByteArray := prog_14_method_84_code
def yX12_mercy : MethodName := ⟨RX12, "mercy", "(I)I"⟩
abbrev cX12_note : ByteArray := prog_14_method_85_code
def yX12_note : MethodName := ⟨RX12, "note", "(II)V"⟩
abbrev cX12_upper : ByteArray := prog_14_method_86_code
def yX12_upper : MethodName := ⟨RX12, "upper", "()I"⟩
abbrev cX12_hold : ByteArray := prog_14_method_87_code
def yX12_hold : MethodName := ⟨RX12, "hold", "(I)V"⟩
abbrev cX12_pop : ByteArray := prog_14_method_88_code
def yX12_pop : MethodName := ⟨RX12, "pop", "()V"⟩
abbrev cX12_settle : ByteArray := prog_14_method_89_code
def yX12_settle : MethodName := ⟨RX12, "settle", "(I)V"⟩
abbrev cX12_isOpen : ByteArray := prog_14_method_90_code
def yX12_isOpen : MethodName := ⟨RX12, "isOpen", "()Z"⟩
abbrev cX12_rank : ByteArray := prog_14_method_91_code
def yX12_rank : MethodName := ⟨RX12, "rank", "(I)I"⟩
abbrev cX12_known : ByteArray := prog_14_method_92_code
def yX12_known : MethodName := ⟨RX12, "known", "()I"⟩
abbrev cX12_named : ByteArray := prog_14_method_93_code
def yX12_named : MethodName := ⟨RX12, "named", "()I"⟩
abbrev cX12_operand : ByteArray := prog_14_method_94_code
def yX12_operand : MethodName := ⟨RX12, "operand", "(I)I"⟩
abbrev cX12_sign : ByteArray := prog_14_method_95_code
def yX12_sign : MethodName := ⟨RX12, "sign", "()I"⟩
abbrev cX12_readLaw : ByteArray := prog_14_method_96_code
def yX12_readLaw : MethodName := ⟨RX12, "readLaw", "()V"⟩
abbrev cX12_laws : ByteArray := prog_14_method_97_code
def yX12_laws : MethodName := ⟨RX12, "laws", "()I"⟩
abbrev cX12_worked : ByteArray := prog_14_method_98_code
def yX12_worked : MethodName := ⟨RX12, "worked", "(III)I"⟩
abbrev cX12_askedOf : ByteArray := prog_14_method_99_code
def yX12_askedOf : MethodName := ⟨RX12, "askedOf", "(II)I"⟩
abbrev cX12_holds : ByteArray := prog_14_method_100_code
def yX12_holds : MethodName := ⟨RX12, "holds", "(II)Z"⟩
abbrev cX12_lineOf : ByteArray := prog_14_method_101_code
def yX12_lineOf : MethodName := ⟨RX12, "lineOf", "(I)I"⟩
abbrev cX12_lawOf : ByteArray := prog_14_method_102_code
def yX12_lawOf : MethodName := ⟨RX12, "lawOf", "(I)I"⟩
abbrev cX12_movedBy : ByteArray := prog_14_method_103_code
def yX12_movedBy : MethodName := ⟨RX12, "movedBy", "(I)I"⟩
abbrev cX12_moved : ByteArray := prog_14_method_104_code
def yX12_moved : MethodName := ⟨RX12, "moved", "(I)I"⟩
abbrev cX12_step : ByteArray := prog_14_method_105_code
def yX12_step : MethodName := ⟨RX12, "step", "(II)Z"⟩
abbrev cX12_aroundNew : ByteArray := prog_14_method_106_code
def yX12_aroundNew : MethodName := ⟨RX12, "aroundNew", "(Z)I"⟩
abbrev cX12_ends : ByteArray := prog_14_method_107_code
def yX12_ends : MethodName := ⟨RX12, "ends", "(ZI)J"⟩
abbrev cX12_first : ByteArray := prog_14_method_108_code
def yX12_first : MethodName := ⟨RX12, "first", "(I)I"⟩
abbrev cX12_act : ByteArray := prog_14_method_109_code
def yX12_act : MethodName := ⟨RX12, "act", "(III)V"⟩
abbrev cX12_turn : ByteArray := prog_14_method_110_code
def yX12_turn : MethodName := ⟨RX12, "turn", "(IZ)V"⟩
abbrev cX12_come : ByteArray := prog_14_method_111_code
def yX12_come : MethodName := ⟨RX12, "come", "(IIII)I"⟩
abbrev cX12_count : ByteArray := prog_14_method_112_code
def yX12_count : MethodName := ⟨RX12, "count", "(IZ)Z"⟩
abbrev cX12_give : ByteArray := prog_14_method_113_code
def yX12_give : MethodName := ⟨RX12, "give", "(II)Z"⟩
abbrev cX12_undo : ByteArray := prog_14_method_114_code
def yX12_undo : MethodName := ⟨RX12, "undo", "()Z"⟩
abbrev cX12_redo : ByteArray := prog_14_method_115_code
def yX12_redo : MethodName := ⟨RX12, "redo", "()Z"⟩
abbrev cX12_isBox : ByteArray := prog_14_method_116_code
def yX12_isBox : MethodName := ⟨RX12, "isBox", "(I)Z"⟩
abbrev cX12_keep : ByteArray := prog_14_method_117_code
def yX12_keep : MethodName := ⟨RX12, "keep", "(I)I"⟩
abbrev cX12_back : ByteArray := prog_14_method_118_code
def yX12_back : MethodName := ⟨RX12, "back", "(I)I"⟩
abbrev cX12_about : ByteArray := prog_14_method_119_code
def yX12_about : MethodName := ⟨RX12, "about", "(I)I"⟩
def RJ6 : String := "java/lang/Integer"
abbrev cJ6_bitCount_0f7a4 : ByteArray := prog_16_method_49_code
def yJ6_bitCount_0f7a4 : MethodName := ⟨RJ6, "bitCount", "(I)I"⟩
def RJ13 : String := "java/lang/Long"
abbrev cJ13_compare_74951 : ByteArray := prog_17_method_42_code
def yJ13_compare_74951 : MethodName := ⟨RJ13, "compare", "(JJ)I"⟩
def RJ9 : String := "java/lang/Math"
abbrev cJ9_abs_0f7a4 : ByteArray := prog_18_method_59_code
def yJ9_abs_0f7a4 : MethodName := ⟨RJ9, "abs", "(I)I"⟩
abbrev cJ9_abs_067f4 : ByteArray := prog_18_method_61_code
def yJ9_abs_067f4 : MethodName := ⟨RJ9, "abs", "(J)J"⟩
abbrev cJ9_max_7cf53 : ByteArray := prog_18_method_65_code
def yJ9_max_7cf53 : MethodName := ⟨RJ9, "max", "(II)I"⟩
abbrev cJ9_min_7cf53 : ByteArray := prog_18_method_69_code
def yJ9_min_7cf53 : MethodName := ⟨RJ9, "min", "(II)I"⟩
def RJ0 : String := "java/lang/String"
abbrev cJ0_length_8abf5 : ByteArray := prog_19_method_54_code
def yJ0_length_8abf5 : MethodName := ⟨RJ0, "length", "()I"⟩
abbrev cJ0_indexOf_0f7a4 : ByteArray := prog_19_method_79_code
def yJ0_indexOf_0f7a4 : MethodName := ⟨RJ0, "indexOf", "(I)I"⟩
abbrev cJ0_indexOf_7cf53 : ByteArray := prog_19_method_80_code
def yJ0_indexOf_7cf53 : MethodName := ⟨RJ0, "indexOf", "(II)I"⟩
abbrev cJ0_coder_7d493 : ByteArray := prog_19_method_152_code
def yJ0_coder_7d493 : MethodName := ⟨RJ0, "coder", "()B"⟩
abbrev cJ0_isLatin1_aae02 : ByteArray := prog_19_method_154_code
def yJ0_isLatin1_aae02 : MethodName := ⟨RJ0, "isLatin1", "()Z"⟩
abbrev cJ0_checkBoundsBeginEnd_23922 : ByteArray := prog_19_method_158_code
def yJ0_checkBoundsBeginEnd_23922 : MethodName := ⟨RJ0, "checkBoundsBeginEnd", "(III)V"⟩
def RJ1 : String := "java/lang/StringLatin1"
abbrev cJ1_canEncode_9a6ad : ByteArray := prog_20_method_4_code
def yJ1_canEncode_9a6ad : MethodName := ⟨RJ1, "canEncode", "(I)Z"⟩
abbrev cJ1_indexOf_4cfef : ByteArray := prog_20_method_22_code
def yJ1_indexOf_4cfef : MethodName := ⟨RJ1, "indexOf", "([BIII)I"⟩
abbrev cJ1_indexOfChar_4cfef : ByteArray := prog_20_method_23_code
def yJ1_indexOfChar_4cfef : MethodName := ⟨RJ1, "indexOfChar", "([BIII)I"⟩
def RJ7 : String := "java/util/Arrays"
abbrev cJ7_fill_53178 : ByteArray := prog_23_method_103_code
def yJ7_fill_53178 : MethodName := ⟨RJ7, "fill", "([II)V"⟩
def RL : String := "LikeYearsLaw"
