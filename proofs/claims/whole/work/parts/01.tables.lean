-- ===== PART A: goes FIRST, ahead of the names: the tables' words, and 'selects' of the private methods out of them =====
/-- a private method of a class that the tables say can be made, by its rows of tables_1 -/
def lw_okq (q : MethodName × Nat) : Prop := (q.1.cls ≠ "java/lang/invoke/MethodHandle" ∧ q.1.cls ≠ "java/lang/invoke/VarHandle") ∧ Cond.instantiable q.1.cls q.2 ∈ tables_1 ∧ Cond.privateMethod q.1 ∈ tables_1 ∧ Cond.instanceMethod q.1 ∈ tables_1
theorem lw_p0 : lw_okq (⟨"DebtYear", "found", "(I)I"⟩, 9) := ⟨⟨by decide +kernel, by decide +kernel⟩, List.mem_of_getElem? (i := 23) (by decide +kernel), List.mem_of_getElem? (i := 431) (by decide +kernel), List.mem_of_getElem? (i := 432) (by decide +kernel)⟩
theorem lw_p1 : lw_okq (⟨"DebtYear$Land", "heirsFrom", "(II)I"⟩, 14) := ⟨⟨by decide +kernel, by decide +kernel⟩, List.mem_of_getElem? (i := 31) (by decide +kernel), List.mem_of_getElem? (i := 510) (by decide +kernel), List.mem_of_getElem? (i := 511) (by decide +kernel)⟩
theorem lw_p2 : lw_okq (⟨"DebtYear$Land", "shareFrom", "(III)I"⟩, 14) := ⟨⟨by decide +kernel, by decide +kernel⟩, List.mem_of_getElem? (i := 31) (by decide +kernel), List.mem_of_getElem? (i := 527) (by decide +kernel), List.mem_of_getElem? (i := 528) (by decide +kernel)⟩
theorem lw_p3 : lw_okq (⟨"DebtYear$Scribe", "cut", "()V"⟩, 9) := ⟨⟨by decide +kernel, by decide +kernel⟩, List.mem_of_getElem? (i := 312) (by decide +kernel), List.mem_of_getElem? (i := 645) (by decide +kernel), List.mem_of_getElem? (i := 646) (by decide +kernel)⟩
theorem lw_p4 : lw_okq (⟨"DebtYear$Scribe", "endOf", "(I)I"⟩, 9) := ⟨⟨by decide +kernel, by decide +kernel⟩, List.mem_of_getElem? (i := 312) (by decide +kernel), List.mem_of_getElem? (i := 649) (by decide +kernel), List.mem_of_getElem? (i := 650) (by decide +kernel)⟩
theorem lw_p5 : lw_okq (⟨"DebtYear$Scribe", "isLetter", "(I)Z"⟩, 9) := ⟨⟨by decide +kernel, by decide +kernel⟩, List.mem_of_getElem? (i := 312) (by decide +kernel), List.mem_of_getElem? (i := 653) (by decide +kernel), List.mem_of_getElem? (i := 654) (by decide +kernel)⟩
theorem lw_p6 : lw_okq (⟨"DebtYear$Scribe", "isDigit", "(I)Z"⟩, 9) := ⟨⟨by decide +kernel, by decide +kernel⟩, List.mem_of_getElem? (i := 312) (by decide +kernel), List.mem_of_getElem? (i := 658) (by decide +kernel), List.mem_of_getElem? (i := 659) (by decide +kernel)⟩
theorem lw_p7 : lw_okq (⟨"DebtYear$Scribe", "tokenOf", "(II)I"⟩, 9) := ⟨⟨by decide +kernel, by decide +kernel⟩, List.mem_of_getElem? (i := 312) (by decide +kernel), List.mem_of_getElem? (i := 662) (by decide +kernel), List.mem_of_getElem? (i := 663) (by decide +kernel)⟩
theorem lw_p8 : lw_okq (⟨"DebtYear$Scribe", "wordOf", "(II)I"⟩, 9) := ⟨⟨by decide +kernel, by decide +kernel⟩, List.mem_of_getElem? (i := 312) (by decide +kernel), List.mem_of_getElem? (i := 666) (by decide +kernel), List.mem_of_getElem? (i := 667) (by decide +kernel)⟩
theorem lw_p9 : lw_okq (⟨"DebtYear$Scribe", "numberOf", "(II)I"⟩, 9) := ⟨⟨by decide +kernel, by decide +kernel⟩, List.mem_of_getElem? (i := 312) (by decide +kernel), List.mem_of_getElem? (i := 719) (by decide +kernel), List.mem_of_getElem? (i := 720) (by decide +kernel)⟩
theorem lw_p10 : lw_okq (⟨"DebtYear$Scribe", "passes", "(I)Z"⟩, 9) := ⟨⟨by decide +kernel, by decide +kernel⟩, List.mem_of_getElem? (i := 312) (by decide +kernel), List.mem_of_getElem? (i := 781) (by decide +kernel), List.mem_of_getElem? (i := 782) (by decide +kernel)⟩
theorem lw_p11 : lw_okq (⟨"DebtYear$Scribe", "either", "(I)Z"⟩, 9) := ⟨⟨by decide +kernel, by decide +kernel⟩, List.mem_of_getElem? (i := 312) (by decide +kernel), List.mem_of_getElem? (i := 785) (by decide +kernel), List.mem_of_getElem? (i := 786) (by decide +kernel)⟩
theorem lw_p12 : lw_okq (⟨"DebtYear$Scribe", "both", "(I)Z"⟩, 9) := ⟨⟨by decide +kernel, by decide +kernel⟩, List.mem_of_getElem? (i := 312) (by decide +kernel), List.mem_of_getElem? (i := 789) (by decide +kernel), List.mem_of_getElem? (i := 790) (by decide +kernel)⟩
theorem lw_p13 : lw_okq (⟨"DebtYear$Scribe", "negated", "(I)Z"⟩, 9) := ⟨⟨by decide +kernel, by decide +kernel⟩, List.mem_of_getElem? (i := 312) (by decide +kernel), List.mem_of_getElem? (i := 793) (by decide +kernel), List.mem_of_getElem? (i := 794) (by decide +kernel)⟩
theorem lw_p14 : lw_okq (⟨"DebtYear$Scribe", "write", "(I)V"⟩, 9) := ⟨⟨by decide +kernel, by decide +kernel⟩, List.mem_of_getElem? (i := 312) (by decide +kernel), List.mem_of_getElem? (i := 797) (by decide +kernel), List.mem_of_getElem? (i := 798) (by decide +kernel)⟩
theorem lw_p15 : lw_okq (⟨"DebtYear$Scribe", "total", "(I)Z"⟩, 9) := ⟨⟨by decide +kernel, by decide +kernel⟩, List.mem_of_getElem? (i := 312) (by decide +kernel), List.mem_of_getElem? (i := 801) (by decide +kernel), List.mem_of_getElem? (i := 802) (by decide +kernel)⟩
def lw_privs_1 : List (MethodName × Nat) := [(⟨"DebtYear", "found", "(I)I"⟩, 9), (⟨"DebtYear$Land", "heirsFrom", "(II)I"⟩, 14), (⟨"DebtYear$Land", "shareFrom", "(III)I"⟩, 14), (⟨"DebtYear$Scribe", "cut", "()V"⟩, 9), (⟨"DebtYear$Scribe", "endOf", "(I)I"⟩, 9), (⟨"DebtYear$Scribe", "isLetter", "(I)Z"⟩, 9), (⟨"DebtYear$Scribe", "isDigit", "(I)Z"⟩, 9), (⟨"DebtYear$Scribe", "tokenOf", "(II)I"⟩, 9), (⟨"DebtYear$Scribe", "wordOf", "(II)I"⟩, 9), (⟨"DebtYear$Scribe", "numberOf", "(II)I"⟩, 9), (⟨"DebtYear$Scribe", "passes", "(I)Z"⟩, 9), (⟨"DebtYear$Scribe", "either", "(I)Z"⟩, 9), (⟨"DebtYear$Scribe", "both", "(I)Z"⟩, 9), (⟨"DebtYear$Scribe", "negated", "(I)Z"⟩, 9), (⟨"DebtYear$Scribe", "write", "(I)V"⟩, 9), (⟨"DebtYear$Scribe", "total", "(I)Z"⟩, 9)]
theorem lw_r1 : ∀ q ∈ lw_privs_1, lw_okq q := List.forall_mem_cons.mpr ⟨lw_p0, List.forall_mem_cons.mpr ⟨lw_p1, List.forall_mem_cons.mpr ⟨lw_p2, List.forall_mem_cons.mpr ⟨lw_p3, List.forall_mem_cons.mpr ⟨lw_p4, List.forall_mem_cons.mpr ⟨lw_p5, List.forall_mem_cons.mpr ⟨lw_p6, List.forall_mem_cons.mpr ⟨lw_p7, List.forall_mem_cons.mpr ⟨lw_p8, List.forall_mem_cons.mpr ⟨lw_p9, List.forall_mem_cons.mpr ⟨lw_p10, List.forall_mem_cons.mpr ⟨lw_p11, List.forall_mem_cons.mpr ⟨lw_p12, List.forall_mem_cons.mpr ⟨lw_p13, List.forall_mem_cons.mpr ⟨lw_p14, List.forall_mem_cons.mpr ⟨lw_p15, fun _ h => absurd h List.not_mem_nil⟩⟩⟩⟩⟩⟩⟩⟩⟩⟩⟩⟩⟩⟩⟩⟩
theorem lw_p16 : lw_okq (⟨"DebtYear$Scribe", "one", "(I)Z"⟩, 9) := ⟨⟨by decide +kernel, by decide +kernel⟩, List.mem_of_getElem? (i := 312) (by decide +kernel), List.mem_of_getElem? (i := 805) (by decide +kernel), List.mem_of_getElem? (i := 806) (by decide +kernel)⟩
theorem lw_p17 : lw_okq (⟨"DebtYear", "mayBeJudged", "(III)Z"⟩, 9) := ⟨⟨by decide +kernel, by decide +kernel⟩, List.mem_of_getElem? (i := 23) (by decide +kernel), List.mem_of_getElem? (i := 865) (by decide +kernel), List.mem_of_getElem? (i := 866) (by decide +kernel)⟩
theorem lw_p18 : lw_okq (⟨"DebtYear$Court", "judgeAs", "(LDebtYear$Paper;IIII)I"⟩, 3) := ⟨⟨by decide +kernel, by decide +kernel⟩, List.mem_of_getElem? (i := 283) (by decide +kernel), List.mem_of_getElem? (i := 873) (by decide +kernel), List.mem_of_getElem? (i := 874) (by decide +kernel)⟩
theorem lw_p19 : lw_okq (⟨"DebtYear$Court", "tellPaper", "(LDebtYear$Paper;I)V"⟩, 3) := ⟨⟨by decide +kernel, by decide +kernel⟩, List.mem_of_getElem? (i := 283) (by decide +kernel), List.mem_of_getElem? (i := 881) (by decide +kernel), List.mem_of_getElem? (i := 882) (by decide +kernel)⟩
theorem lw_p20 : lw_okq (⟨"DebtYear$Court", "tellField", "(LDebtYear$Field;)V"⟩, 3) := ⟨⟨by decide +kernel, by decide +kernel⟩, List.mem_of_getElem? (i := 283) (by decide +kernel), List.mem_of_getElem? (i := 888) (by decide +kernel), List.mem_of_getElem? (i := 889) (by decide +kernel)⟩
theorem lw_p21 : lw_okq (⟨"DebtYear$Court", "comes", "(III)Z"⟩, 3) := ⟨⟨by decide +kernel, by decide +kernel⟩, List.mem_of_getElem? (i := 283) (by decide +kernel), List.mem_of_getElem? (i := 892) (by decide +kernel), List.mem_of_getElem? (i := 893) (by decide +kernel)⟩
theorem lw_p22 : lw_okq (⟨"DebtYear$Court", "valueOf", "(I)I"⟩, 3) := ⟨⟨by decide +kernel, by decide +kernel⟩, List.mem_of_getElem? (i := 283) (by decide +kernel), List.mem_of_getElem? (i := 906) (by decide +kernel), List.mem_of_getElem? (i := 907) (by decide +kernel)⟩
theorem lw_p23 : lw_okq (⟨"DebtYear$Season", "eat", "(I)I"⟩, 2) := ⟨⟨by decide +kernel, by decide +kernel⟩, List.mem_of_getElem? (i := 299) (by decide +kernel), List.mem_of_getElem? (i := 952) (by decide +kernel), List.mem_of_getElem? (i := 953) (by decide +kernel)⟩
theorem lw_p24 : lw_okq (⟨"DebtYear$Season", "borrow", "(II)Z"⟩, 2) := ⟨⟨by decide +kernel, by decide +kernel⟩, List.mem_of_getElem? (i := 299) (by decide +kernel), List.mem_of_getElem? (i := 957) (by decide +kernel), List.mem_of_getElem? (i := 958) (by decide +kernel)⟩
theorem lw_p25 : lw_okq (⟨"DebtYear$Season", "lenderFor", "(II)I"⟩, 2) := ⟨⟨by decide +kernel, by decide +kernel⟩, List.mem_of_getElem? (i := 299) (by decide +kernel), List.mem_of_getElem? (i := 961) (by decide +kernel), List.mem_of_getElem? (i := 962) (by decide +kernel)⟩
theorem lw_p26 : lw_okq (⟨"DebtYear$Season", "fallDue", "(LDebtYear$Paper;)V"⟩, 2) := ⟨⟨by decide +kernel, by decide +kernel⟩, List.mem_of_getElem? (i := 299) (by decide +kernel), List.mem_of_getElem? (i := 970) (by decide +kernel), List.mem_of_getElem? (i := 971) (by decide +kernel)⟩
theorem lw_p27 : lw_okq (⟨"DebtYear$Season", "strike", "()V"⟩, 2) := ⟨⟨by decide +kernel, by decide +kernel⟩, List.mem_of_getElem? (i := 299) (by decide +kernel), List.mem_of_getElem? (i := 979) (by decide +kernel), List.mem_of_getElem? (i := 980) (by decide +kernel)⟩
theorem lw_p28 : lw_okq (⟨"DebtYear$Land", "unableBehind", "(II)I"⟩, 14) := ⟨⟨by decide +kernel, by decide +kernel⟩, List.mem_of_getElem? (i := 31) (by decide +kernel), List.mem_of_getElem? (i := 1008) (by decide +kernel), List.mem_of_getElem? (i := 1009) (by decide +kernel)⟩
theorem lw_p29 : lw_okq (⟨"DebtYear$Thrift", "leastHunger", "(III)I"⟩, 2) := ⟨⟨by decide +kernel, by decide +kernel⟩, List.mem_of_getElem? (i := 347) (by decide +kernel), List.mem_of_getElem? (i := 1034) (by decide +kernel), List.mem_of_getElem? (i := 1035) (by decide +kernel)⟩
theorem lw_p30 : lw_okq (⟨"DebtYear$Thrift", "paying", "(IIII)I"⟩, 2) := ⟨⟨by decide +kernel, by decide +kernel⟩, List.mem_of_getElem? (i := 347) (by decide +kernel), List.mem_of_getElem? (i := 1042) (by decide +kernel), List.mem_of_getElem? (i := 1043) (by decide +kernel)⟩
theorem lw_p31 : lw_okq (⟨"DebtYearModel", "finds", "(I)I"⟩, 26) := ⟨⟨by decide +kernel, by decide +kernel⟩, List.mem_of_getElem? (i := 1142) (by decide +kernel), List.mem_of_getElem? (i := 1238) (by decide +kernel), List.mem_of_getElem? (i := 1239) (by decide +kernel)⟩
def lw_privs_2 : List (MethodName × Nat) := [(⟨"DebtYear$Scribe", "one", "(I)Z"⟩, 9), (⟨"DebtYear", "mayBeJudged", "(III)Z"⟩, 9), (⟨"DebtYear$Court", "judgeAs", "(LDebtYear$Paper;IIII)I"⟩, 3), (⟨"DebtYear$Court", "tellPaper", "(LDebtYear$Paper;I)V"⟩, 3), (⟨"DebtYear$Court", "tellField", "(LDebtYear$Field;)V"⟩, 3), (⟨"DebtYear$Court", "comes", "(III)Z"⟩, 3), (⟨"DebtYear$Court", "valueOf", "(I)I"⟩, 3), (⟨"DebtYear$Season", "eat", "(I)I"⟩, 2), (⟨"DebtYear$Season", "borrow", "(II)Z"⟩, 2), (⟨"DebtYear$Season", "lenderFor", "(II)I"⟩, 2), (⟨"DebtYear$Season", "fallDue", "(LDebtYear$Paper;)V"⟩, 2), (⟨"DebtYear$Season", "strike", "()V"⟩, 2), (⟨"DebtYear$Land", "unableBehind", "(II)I"⟩, 14), (⟨"DebtYear$Thrift", "leastHunger", "(III)I"⟩, 2), (⟨"DebtYear$Thrift", "paying", "(IIII)I"⟩, 2), (⟨"DebtYearModel", "finds", "(I)I"⟩, 26)]
theorem lw_r2 : ∀ q ∈ lw_privs_2, lw_okq q := List.forall_mem_cons.mpr ⟨lw_p16, List.forall_mem_cons.mpr ⟨lw_p17, List.forall_mem_cons.mpr ⟨lw_p18, List.forall_mem_cons.mpr ⟨lw_p19, List.forall_mem_cons.mpr ⟨lw_p20, List.forall_mem_cons.mpr ⟨lw_p21, List.forall_mem_cons.mpr ⟨lw_p22, List.forall_mem_cons.mpr ⟨lw_p23, List.forall_mem_cons.mpr ⟨lw_p24, List.forall_mem_cons.mpr ⟨lw_p25, List.forall_mem_cons.mpr ⟨lw_p26, List.forall_mem_cons.mpr ⟨lw_p27, List.forall_mem_cons.mpr ⟨lw_p28, List.forall_mem_cons.mpr ⟨lw_p29, List.forall_mem_cons.mpr ⟨lw_p30, List.forall_mem_cons.mpr ⟨lw_p31, fun _ h => absurd h List.not_mem_nil⟩⟩⟩⟩⟩⟩⟩⟩⟩⟩⟩⟩⟩⟩⟩⟩
theorem lw_p32 : lw_okq (⟨"DebtYearModel", "makes", "(III)V"⟩, 26) := ⟨⟨by decide +kernel, by decide +kernel⟩, List.mem_of_getElem? (i := 1142) (by decide +kernel), List.mem_of_getElem? (i := 1243) (by decide +kernel), List.mem_of_getElem? (i := 1244) (by decide +kernel)⟩
theorem lw_p33 : lw_okq (⟨"DebtYearModel", "isPerson", "(I)Z"⟩, 26) := ⟨⟨by decide +kernel, by decide +kernel⟩, List.mem_of_getElem? (i := 1142) (by decide +kernel), List.mem_of_getElem? (i := 1251) (by decide +kernel), List.mem_of_getElem? (i := 1252) (by decide +kernel)⟩
theorem lw_p34 : lw_okq (⟨"DebtYearModel", "own", "(II)I"⟩, 26) := ⟨⟨by decide +kernel, by decide +kernel⟩, List.mem_of_getElem? (i := 1142) (by decide +kernel), List.mem_of_getElem? (i := 1259) (by decide +kernel), List.mem_of_getElem? (i := 1260) (by decide +kernel)⟩
theorem lw_p35 : lw_okq (⟨"DebtYearModel", "lives0", "(I)Z"⟩, 26) := ⟨⟨by decide +kernel, by decide +kernel⟩, List.mem_of_getElem? (i := 1142) (by decide +kernel), List.mem_of_getElem? (i := 1267) (by decide +kernel), List.mem_of_getElem? (i := 1268) (by decide +kernel)⟩
theorem lw_p36 : lw_okq (⟨"DebtYearModel", "owes", "(II)I"⟩, 26) := ⟨⟨by decide +kernel, by decide +kernel⟩, List.mem_of_getElem? (i := 1142) (by decide +kernel), List.mem_of_getElem? (i := 1276) (by decide +kernel), List.mem_of_getElem? (i := 1277) (by decide +kernel)⟩
theorem lw_p37 : lw_okq (⟨"DebtYearModel", "isOpen", "(I)Z"⟩, 26) := ⟨⟨by decide +kernel, by decide +kernel⟩, List.mem_of_getElem? (i := 1142) (by decide +kernel), List.mem_of_getElem? (i := 1280) (by decide +kernel), List.mem_of_getElem? (i := 1281) (by decide +kernel)⟩
theorem lw_p38 : lw_okq (⟨"DebtYearModel", "of", "(II)I"⟩, 26) := ⟨⟨by decide +kernel, by decide +kernel⟩, List.mem_of_getElem? (i := 1142) (by decide +kernel), List.mem_of_getElem? (i := 1284) (by decide +kernel), List.mem_of_getElem? (i := 1285) (by decide +kernel)⟩
theorem lw_p39 : lw_okq (⟨"DebtYearModel", "owed", "(I)I"⟩, 26) := ⟨⟨by decide +kernel, by decide +kernel⟩, List.mem_of_getElem? (i := 1142) (by decide +kernel), List.mem_of_getElem? (i := 1288) (by decide +kernel), List.mem_of_getElem? (i := 1289) (by decide +kernel)⟩
theorem lw_p40 : lw_okq (⟨"DebtYearModel", "owedTo", "(III)I"⟩, 26) := ⟨⟨by decide +kernel, by decide +kernel⟩, List.mem_of_getElem? (i := 1142) (by decide +kernel), List.mem_of_getElem? (i := 1292) (by decide +kernel), List.mem_of_getElem? (i := 1293) (by decide +kernel)⟩
theorem lw_p41 : lw_okq (⟨"DebtYearModel", "ofField", "(II)I"⟩, 26) := ⟨⟨by decide +kernel, by decide +kernel⟩, List.mem_of_getElem? (i := 1142) (by decide +kernel), List.mem_of_getElem? (i := 1296) (by decide +kernel), List.mem_of_getElem? (i := 1297) (by decide +kernel)⟩
theorem lw_p42 : lw_okq (⟨"DebtYearModel", "isField", "(I)Z"⟩, 26) := ⟨⟨by decide +kernel, by decide +kernel⟩, List.mem_of_getElem? (i := 1142) (by decide +kernel), List.mem_of_getElem? (i := 1308) (by decide +kernel), List.mem_of_getElem? (i := 1309) (by decide +kernel)⟩
theorem lw_p43 : lw_okq (⟨"DebtYearModel", "heirsOf", "(I)I"⟩, 26) := ⟨⟨by decide +kernel, by decide +kernel⟩, List.mem_of_getElem? (i := 1142) (by decide +kernel), List.mem_of_getElem? (i := 1316) (by decide +kernel), List.mem_of_getElem? (i := 1317) (by decide +kernel)⟩
theorem lw_p44 : lw_okq (⟨"DebtYearModel", "findHeirs", "(I)V"⟩, 26) := ⟨⟨by decide +kernel, by decide +kernel⟩, List.mem_of_getElem? (i := 1142) (by decide +kernel), List.mem_of_getElem? (i := 1320) (by decide +kernel), List.mem_of_getElem? (i := 1321) (by decide +kernel)⟩
theorem lw_p45 : lw_okq (⟨"DebtYearModel", "isChild", "(II)Z"⟩, 26) := ⟨⟨by decide +kernel, by decide +kernel⟩, List.mem_of_getElem? (i := 1142) (by decide +kernel), List.mem_of_getElem? (i := 1324) (by decide +kernel), List.mem_of_getElem? (i := 1325) (by decide +kernel)⟩
theorem lw_p46 : lw_okq (⟨"DebtYearModel", "partOf", "(I)I"⟩, 26) := ⟨⟨by decide +kernel, by decide +kernel⟩, List.mem_of_getElem? (i := 1142) (by decide +kernel), List.mem_of_getElem? (i := 1328) (by decide +kernel), List.mem_of_getElem? (i := 1329) (by decide +kernel)⟩
theorem lw_p47 : lw_okq (⟨"DebtYearModel", "comes", "(IIIIIII)I"⟩, 26) := ⟨⟨by decide +kernel, by decide +kernel⟩, List.mem_of_getElem? (i := 1142) (by decide +kernel), List.mem_of_getElem? (i := 1346) (by decide +kernel), List.mem_of_getElem? (i := 1347) (by decide +kernel)⟩
def lw_privs_3 : List (MethodName × Nat) := [(⟨"DebtYearModel", "makes", "(III)V"⟩, 26), (⟨"DebtYearModel", "isPerson", "(I)Z"⟩, 26), (⟨"DebtYearModel", "own", "(II)I"⟩, 26), (⟨"DebtYearModel", "lives0", "(I)Z"⟩, 26), (⟨"DebtYearModel", "owes", "(II)I"⟩, 26), (⟨"DebtYearModel", "isOpen", "(I)Z"⟩, 26), (⟨"DebtYearModel", "of", "(II)I"⟩, 26), (⟨"DebtYearModel", "owed", "(I)I"⟩, 26), (⟨"DebtYearModel", "owedTo", "(III)I"⟩, 26), (⟨"DebtYearModel", "ofField", "(II)I"⟩, 26), (⟨"DebtYearModel", "isField", "(I)Z"⟩, 26), (⟨"DebtYearModel", "heirsOf", "(I)I"⟩, 26), (⟨"DebtYearModel", "findHeirs", "(I)V"⟩, 26), (⟨"DebtYearModel", "isChild", "(II)Z"⟩, 26), (⟨"DebtYearModel", "partOf", "(I)I"⟩, 26), (⟨"DebtYearModel", "comes", "(IIIIIII)I"⟩, 26)]
theorem lw_r3 : ∀ q ∈ lw_privs_3, lw_okq q := List.forall_mem_cons.mpr ⟨lw_p32, List.forall_mem_cons.mpr ⟨lw_p33, List.forall_mem_cons.mpr ⟨lw_p34, List.forall_mem_cons.mpr ⟨lw_p35, List.forall_mem_cons.mpr ⟨lw_p36, List.forall_mem_cons.mpr ⟨lw_p37, List.forall_mem_cons.mpr ⟨lw_p38, List.forall_mem_cons.mpr ⟨lw_p39, List.forall_mem_cons.mpr ⟨lw_p40, List.forall_mem_cons.mpr ⟨lw_p41, List.forall_mem_cons.mpr ⟨lw_p42, List.forall_mem_cons.mpr ⟨lw_p43, List.forall_mem_cons.mpr ⟨lw_p44, List.forall_mem_cons.mpr ⟨lw_p45, List.forall_mem_cons.mpr ⟨lw_p46, List.forall_mem_cons.mpr ⟨lw_p47, fun _ h => absurd h List.not_mem_nil⟩⟩⟩⟩⟩⟩⟩⟩⟩⟩⟩⟩⟩⟩⟩⟩
theorem lw_p48 : lw_okq (⟨"DebtYearModel", "writes", "(III)V"⟩, 26) := ⟨⟨by decide +kernel, by decide +kernel⟩, List.mem_of_getElem? (i := 1142) (by decide +kernel), List.mem_of_getElem? (i := 1350) (by decide +kernel), List.mem_of_getElem? (i := 1351) (by decide +kernel)⟩
theorem lw_p49 : lw_okq (⟨"DebtYearModel", "isPaper", "(I)Z"⟩, 26) := ⟨⟨by decide +kernel, by decide +kernel⟩, List.mem_of_getElem? (i := 1142) (by decide +kernel), List.mem_of_getElem? (i := 1358) (by decide +kernel), List.mem_of_getElem? (i := 1359) (by decide +kernel)⟩
theorem lw_p50 : lw_okq (⟨"DebtYearModel", "pays0", "(II)V"⟩, 26) := ⟨⟨by decide +kernel, by decide +kernel⟩, List.mem_of_getElem? (i := 1142) (by decide +kernel), List.mem_of_getElem? (i := 1374) (by decide +kernel), List.mem_of_getElem? (i := 1375) (by decide +kernel)⟩
theorem lw_p51 : lw_okq (⟨"DebtYearModel", "stores", "(II)V"⟩, 26) := ⟨⟨by decide +kernel, by decide +kernel⟩, List.mem_of_getElem? (i := 1142) (by decide +kernel), List.mem_of_getElem? (i := 1378) (by decide +kernel), List.mem_of_getElem? (i := 1379) (by decide +kernel)⟩
theorem lw_p52 : lw_okq (⟨"DebtYearModel", "closes", "(II)V"⟩, 26) := ⟨⟨by decide +kernel, by decide +kernel⟩, List.mem_of_getElem? (i := 1142) (by decide +kernel), List.mem_of_getElem? (i := 1382) (by decide +kernel), List.mem_of_getElem? (i := 1383) (by decide +kernel)⟩
theorem lw_p53 : lw_okq (⟨"DebtYearModel", "leftOf", "(II)I"⟩, 26) := ⟨⟨by decide +kernel, by decide +kernel⟩, List.mem_of_getElem? (i := 1142) (by decide +kernel), List.mem_of_getElem? (i := 1408) (by decide +kernel), List.mem_of_getElem? (i := 1409) (by decide +kernel)⟩
theorem lw_p54 : lw_okq (⟨"DebtYearModel", "reads", "()Z"⟩, 26) := ⟨⟨by decide +kernel, by decide +kernel⟩, List.mem_of_getElem? (i := 1142) (by decide +kernel), List.mem_of_getElem? (i := 1420) (by decide +kernel), List.mem_of_getElem? (i := 1421) (by decide +kernel)⟩
theorem lw_p55 : lw_okq (⟨"DebtYearModel", "looks", "()V"⟩, 26) := ⟨⟨by decide +kernel, by decide +kernel⟩, List.mem_of_getElem? (i := 1142) (by decide +kernel), List.mem_of_getElem? (i := 1424) (by decide +kernel), List.mem_of_getElem? (i := 1425) (by decide +kernel)⟩
theorem lw_p56 : lw_okq (⟨"DebtYearModel", "byteAt", "(I)I"⟩, 26) := ⟨⟨by decide +kernel, by decide +kernel⟩, List.mem_of_getElem? (i := 1142) (by decide +kernel), List.mem_of_getElem? (i := 1428) (by decide +kernel), List.mem_of_getElem? (i := 1429) (by decide +kernel)⟩
theorem lw_p57 : lw_okq (⟨"DebtYearModel", "wordOf", "()I"⟩, 26) := ⟨⟨by decide +kernel, by decide +kernel⟩, List.mem_of_getElem? (i := 1142) (by decide +kernel), List.mem_of_getElem? (i := 1435) (by decide +kernel), List.mem_of_getElem? (i := 1436) (by decide +kernel)⟩
theorem lw_p58 : lw_okq (⟨"DebtYearModel", "readsE", "(I)Z"⟩, 26) := ⟨⟨by decide +kernel, by decide +kernel⟩, List.mem_of_getElem? (i := 1142) (by decide +kernel), List.mem_of_getElem? (i := 1445) (by decide +kernel), List.mem_of_getElem? (i := 1446) (by decide +kernel)⟩
theorem lw_p59 : lw_okq (⟨"DebtYearModel", "waitsOf", "(I)I"⟩, 26) := ⟨⟨by decide +kernel, by decide +kernel⟩, List.mem_of_getElem? (i := 1142) (by decide +kernel), List.mem_of_getElem? (i := 1449) (by decide +kernel), List.mem_of_getElem? (i := 1450) (by decide +kernel)⟩
theorem lw_p60 : lw_okq (⟨"DebtYearModel", "lays", "(I)V"⟩, 26) := ⟨⟨by decide +kernel, by decide +kernel⟩, List.mem_of_getElem? (i := 1142) (by decide +kernel), List.mem_of_getElem? (i := 1453) (by decide +kernel), List.mem_of_getElem? (i := 1454) (by decide +kernel)⟩
theorem lw_p61 : lw_okq (⟨"DebtYearModel", "settles", "(I)V"⟩, 26) := ⟨⟨by decide +kernel, by decide +kernel⟩, List.mem_of_getElem? (i := 1142) (by decide +kernel), List.mem_of_getElem? (i := 1457) (by decide +kernel), List.mem_of_getElem? (i := 1458) (by decide +kernel)⟩
theorem lw_p62 : lw_okq (⟨"DebtYearModel", "isTested", "()Z"⟩, 26) := ⟨⟨by decide +kernel, by decide +kernel⟩, List.mem_of_getElem? (i := 1142) (by decide +kernel), List.mem_of_getElem? (i := 1464) (by decide +kernel), List.mem_of_getElem? (i := 1465) (by decide +kernel)⟩
theorem lw_p63 : lw_okq (⟨"DebtYearModel", "lawOf", "(II)I"⟩, 26) := ⟨⟨by decide +kernel, by decide +kernel⟩, List.mem_of_getElem? (i := 1142) (by decide +kernel), List.mem_of_getElem? (i := 1476) (by decide +kernel), List.mem_of_getElem? (i := 1477) (by decide +kernel)⟩
def lw_privs_4 : List (MethodName × Nat) := [(⟨"DebtYearModel", "writes", "(III)V"⟩, 26), (⟨"DebtYearModel", "isPaper", "(I)Z"⟩, 26), (⟨"DebtYearModel", "pays0", "(II)V"⟩, 26), (⟨"DebtYearModel", "stores", "(II)V"⟩, 26), (⟨"DebtYearModel", "closes", "(II)V"⟩, 26), (⟨"DebtYearModel", "leftOf", "(II)I"⟩, 26), (⟨"DebtYearModel", "reads", "()Z"⟩, 26), (⟨"DebtYearModel", "looks", "()V"⟩, 26), (⟨"DebtYearModel", "byteAt", "(I)I"⟩, 26), (⟨"DebtYearModel", "wordOf", "()I"⟩, 26), (⟨"DebtYearModel", "readsE", "(I)Z"⟩, 26), (⟨"DebtYearModel", "waitsOf", "(I)I"⟩, 26), (⟨"DebtYearModel", "lays", "(I)V"⟩, 26), (⟨"DebtYearModel", "settles", "(I)V"⟩, 26), (⟨"DebtYearModel", "isTested", "()Z"⟩, 26), (⟨"DebtYearModel", "lawOf", "(II)I"⟩, 26)]
theorem lw_r4 : ∀ q ∈ lw_privs_4, lw_okq q := List.forall_mem_cons.mpr ⟨lw_p48, List.forall_mem_cons.mpr ⟨lw_p49, List.forall_mem_cons.mpr ⟨lw_p50, List.forall_mem_cons.mpr ⟨lw_p51, List.forall_mem_cons.mpr ⟨lw_p52, List.forall_mem_cons.mpr ⟨lw_p53, List.forall_mem_cons.mpr ⟨lw_p54, List.forall_mem_cons.mpr ⟨lw_p55, List.forall_mem_cons.mpr ⟨lw_p56, List.forall_mem_cons.mpr ⟨lw_p57, List.forall_mem_cons.mpr ⟨lw_p58, List.forall_mem_cons.mpr ⟨lw_p59, List.forall_mem_cons.mpr ⟨lw_p60, List.forall_mem_cons.mpr ⟨lw_p61, List.forall_mem_cons.mpr ⟨lw_p62, List.forall_mem_cons.mpr ⟨lw_p63, fun _ h => absurd h List.not_mem_nil⟩⟩⟩⟩⟩⟩⟩⟩⟩⟩⟩⟩⟩⟩⟩⟩
theorem lw_p64 : lw_okq (⟨"DebtYearModel", "isAsked", "(III)Z"⟩, 26) := ⟨⟨by decide +kernel, by decide +kernel⟩, List.mem_of_getElem? (i := 1142) (by decide +kernel), List.mem_of_getElem? (i := 1484) (by decide +kernel), List.mem_of_getElem? (i := 1485) (by decide +kernel)⟩
theorem lw_p65 : lw_okq (⟨"DebtYearModel", "holds", "(IIIII)I"⟩, 26) := ⟨⟨by decide +kernel, by decide +kernel⟩, List.mem_of_getElem? (i := 1142) (by decide +kernel), List.mem_of_getElem? (i := 1488) (by decide +kernel), List.mem_of_getElem? (i := 1489) (by decide +kernel)⟩
theorem lw_p66 : lw_okq (⟨"DebtYearModel", "isClause", "(IIIIII)Z"⟩, 26) := ⟨⟨by decide +kernel, by decide +kernel⟩, List.mem_of_getElem? (i := 1142) (by decide +kernel), List.mem_of_getElem? (i := 1492) (by decide +kernel), List.mem_of_getElem? (i := 1493) (by decide +kernel)⟩
theorem lw_p67 : lw_okq (⟨"DebtYearModel", "isSo", "(II)Z"⟩, 26) := ⟨⟨by decide +kernel, by decide +kernel⟩, List.mem_of_getElem? (i := 1142) (by decide +kernel), List.mem_of_getElem? (i := 1496) (by decide +kernel), List.mem_of_getElem? (i := 1497) (by decide +kernel)⟩
theorem lw_p68 : lw_okq (⟨"DebtYearModel", "goesBack", "(III)Z"⟩, 26) := ⟨⟨by decide +kernel, by decide +kernel⟩, List.mem_of_getElem? (i := 1142) (by decide +kernel), List.mem_of_getElem? (i := 1511) (by decide +kernel), List.mem_of_getElem? (i := 1512) (by decide +kernel)⟩
theorem lw_p69 : lw_okq (⟨"DebtYearModel", "passes", "(I)I"⟩, 26) := ⟨⟨by decide +kernel, by decide +kernel⟩, List.mem_of_getElem? (i := 1142) (by decide +kernel), List.mem_of_getElem? (i := 1527) (by decide +kernel), List.mem_of_getElem? (i := 1528) (by decide +kernel)⟩
theorem lw_p70 : lw_okq (⟨"DebtYearModel", "harvests", "(I)V"⟩, 26) := ⟨⟨by decide +kernel, by decide +kernel⟩, List.mem_of_getElem? (i := 1142) (by decide +kernel), List.mem_of_getElem? (i := 1531) (by decide +kernel), List.mem_of_getElem? (i := 1532) (by decide +kernel)⟩
theorem lw_p71 : lw_okq (⟨"DebtYearModel", "allEat", "()I"⟩, 26) := ⟨⟨by decide +kernel, by decide +kernel⟩, List.mem_of_getElem? (i := 1142) (by decide +kernel), List.mem_of_getElem? (i := 1535) (by decide +kernel), List.mem_of_getElem? (i := 1536) (by decide +kernel)⟩
theorem lw_p72 : lw_okq (⟨"DebtYearModel", "lender", "(II)I"⟩, 26) := ⟨⟨by decide +kernel, by decide +kernel⟩, List.mem_of_getElem? (i := 1142) (by decide +kernel), List.mem_of_getElem? (i := 1539) (by decide +kernel), List.mem_of_getElem? (i := 1540) (by decide +kernel)⟩
theorem lw_p73 : lw_okq (⟨"DebtYearModel", "allPay", "()V"⟩, 26) := ⟨⟨by decide +kernel, by decide +kernel⟩, List.mem_of_getElem? (i := 1142) (by decide +kernel), List.mem_of_getElem? (i := 1543) (by decide +kernel), List.mem_of_getElem? (i := 1544) (by decide +kernel)⟩
theorem lw_p74 : lw_okq (⟨"DebtYearModel", "strikes", "()V"⟩, 26) := ⟨⟨by decide +kernel, by decide +kernel⟩, List.mem_of_getElem? (i := 1142) (by decide +kernel), List.mem_of_getElem? (i := 1547) (by decide +kernel), List.mem_of_getElem? (i := 1548) (by decide +kernel)⟩
theorem lw_p75 : lw_okq (⟨"DebtYearModel", "findLast", "(IIII)V"⟩, 26) := ⟨⟨by decide +kernel, by decide +kernel⟩, List.mem_of_getElem? (i := 1142) (by decide +kernel), List.mem_of_getElem? (i := 1569) (by decide +kernel), List.mem_of_getElem? (i := 1570) (by decide +kernel)⟩
theorem lw_p76 : lw_okq (⟨"DebtYearModel", "bestOf", "(III)I"⟩, 26) := ⟨⟨by decide +kernel, by decide +kernel⟩, List.mem_of_getElem? (i := 1142) (by decide +kernel), List.mem_of_getElem? (i := 1576) (by decide +kernel), List.mem_of_getElem? (i := 1577) (by decide +kernel)⟩
theorem lw_p77 : lw_okq (⟨"DebtYearModel", "byPaying", "(IIII)I"⟩, 26) := ⟨⟨by decide +kernel, by decide +kernel⟩, List.mem_of_getElem? (i := 1142) (by decide +kernel), List.mem_of_getElem? (i := 1580) (by decide +kernel), List.mem_of_getElem? (i := 1581) (by decide +kernel)⟩
def lw_privs_5 : List (MethodName × Nat) := [(⟨"DebtYearModel", "isAsked", "(III)Z"⟩, 26), (⟨"DebtYearModel", "holds", "(IIIII)I"⟩, 26), (⟨"DebtYearModel", "isClause", "(IIIIII)Z"⟩, 26), (⟨"DebtYearModel", "isSo", "(II)Z"⟩, 26), (⟨"DebtYearModel", "goesBack", "(III)Z"⟩, 26), (⟨"DebtYearModel", "passes", "(I)I"⟩, 26), (⟨"DebtYearModel", "harvests", "(I)V"⟩, 26), (⟨"DebtYearModel", "allEat", "()I"⟩, 26), (⟨"DebtYearModel", "lender", "(II)I"⟩, 26), (⟨"DebtYearModel", "allPay", "()V"⟩, 26), (⟨"DebtYearModel", "strikes", "()V"⟩, 26), (⟨"DebtYearModel", "findLast", "(IIII)V"⟩, 26), (⟨"DebtYearModel", "bestOf", "(III)I"⟩, 26), (⟨"DebtYearModel", "byPaying", "(IIII)I"⟩, 26)]
theorem lw_r5 : ∀ q ∈ lw_privs_5, lw_okq q := List.forall_mem_cons.mpr ⟨lw_p64, List.forall_mem_cons.mpr ⟨lw_p65, List.forall_mem_cons.mpr ⟨lw_p66, List.forall_mem_cons.mpr ⟨lw_p67, List.forall_mem_cons.mpr ⟨lw_p68, List.forall_mem_cons.mpr ⟨lw_p69, List.forall_mem_cons.mpr ⟨lw_p70, List.forall_mem_cons.mpr ⟨lw_p71, List.forall_mem_cons.mpr ⟨lw_p72, List.forall_mem_cons.mpr ⟨lw_p73, List.forall_mem_cons.mpr ⟨lw_p74, List.forall_mem_cons.mpr ⟨lw_p75, List.forall_mem_cons.mpr ⟨lw_p76, List.forall_mem_cons.mpr ⟨lw_p77, fun _ h => absurd h List.not_mem_nil⟩⟩⟩⟩⟩⟩⟩⟩⟩⟩⟩⟩⟩⟩
def lw_privs : List (MethodName × Nat) := lw_privs_1 ++ (lw_privs_2 ++ (lw_privs_3 ++ (lw_privs_4 ++ (lw_privs_5))))
def lw_tbl : List Cond := k2_sels lw_privs ++ tables_1
theorem lw_privs_ok : ∀ q ∈ lw_privs, lw_okq q := by
  show ∀ q ∈ lw_privs_1 ++ (lw_privs_2 ++ (lw_privs_3 ++ (lw_privs_4 ++ (lw_privs_5)))), lw_okq q
  exact List.forall_mem_append.mpr ⟨lw_r1, List.forall_mem_append.mpr ⟨lw_r2, List.forall_mem_append.mpr ⟨lw_r3, List.forall_mem_append.mpr ⟨lw_r4, lw_r5⟩⟩⟩⟩
-- ===== my tables: classes, methods, calls, fields, constants (printed by wip/gen/gen2.py out of the claim) =====
def aF0 : u_T := fun k => match k with
  | 0 => ("DebtYear", "land", "LDebtYear$Land;", true)
  | 1 => ("DebtYear", "kept", "LDebtYear$Land;", true)
  | 2 => ("DebtYear", "court", "LDebtYear$Court;", true)
  | 3 => ("DebtYear", "season", "LDebtYear$Season;", true)
  | 4 => ("DebtYear", "scribe", "LDebtYear$Scribe;", true)
  | 5 => ("DebtYear", "thrift", "LDebtYear$Thrift;", true)
  | 6 => ("DebtYear", "sheets", "[LDebtYear$Sheet;", true)
  | 7 => ("DebtYear", "hasImage", "Z", false)
  | _ => ("DebtYear", "findings", "I", false)
def aY0 : Nat → FieldType := fun k => match k with
  | 0 => .object "DebtYear$Land"
  | 1 => .object "DebtYear$Land"
  | 2 => .object "DebtYear$Court"
  | 3 => .object "DebtYear$Season"
  | 4 => .object "DebtYear$Scribe"
  | 5 => .object "DebtYear$Thrift"
  | 6 => .array (.object "DebtYear$Sheet")
  | 7 => .boolean
  | _ => .int
def aF1 : u_T := fun k => match k with
  | 0 => ("DebtYear$Court", "land", "LDebtYear$Land;", true)
  | 1 => ("DebtYear$Court", "names", "[I", true)
  | _ => ("DebtYear$Court", "stack", "[I", true)
def aY1 : Nat → FieldType := fun k => match k with
  | 0 => .object "DebtYear$Land"
  | 1 => .array (.int)
  | _ => .array (.int)
def aF2 : u_T := fun k => match k with
  | 0 => ("DebtYear$Field", "root", "I", false)
  | 1 => ("DebtYear$Field", "worth", "I", false)
  | 2 => ("DebtYear$Field", "holder", "I", false)
  | _ => ("DebtYear$Field", "walls", "Z", false)
def aY2 : Nat → FieldType := fun k => match k with
  | 0 => .int
  | 1 => .int
  | 2 => .int
  | _ => .boolean
def aF3 : u_T := fun k => match k with
  | 0 => ("DebtYear$Land", "persons", "[LDebtYear$Person;", true)
  | 1 => ("DebtYear$Land", "fields", "[LDebtYear$Field;", true)
  | 2 => ("DebtYear$Land", "papers", "[LDebtYear$Paper;", true)
  | 3 => ("DebtYear$Land", "laws", "[LDebtYear$Law;", true)
  | 4 => ("DebtYear$Land", "texts", "[LDebtYear$Text;", true)
  | 5 => ("DebtYear$Land", "shifts", "[I", true)
  | 6 => ("DebtYear$Land", "rests", "[I", true)
  | 7 => ("DebtYear$Land", "personCount", "I", false)
  | 8 => ("DebtYear$Land", "fieldCount", "I", false)
  | 9 => ("DebtYear$Land", "paperCount", "I", false)
  | 10 => ("DebtYear$Land", "lawCount", "I", false)
  | 11 => ("DebtYear$Land", "year", "I", false)
  | 12 => ("DebtYear$Land", "eaten", "I", false)
  | _ => ("DebtYear$Land", "lost", "I", false)
def aY3 : Nat → FieldType := fun k => match k with
  | 0 => .array (.object "DebtYear$Person")
  | 1 => .array (.object "DebtYear$Field")
  | 2 => .array (.object "DebtYear$Paper")
  | 3 => .array (.object "DebtYear$Law")
  | 4 => .array (.object "DebtYear$Text")
  | 5 => .array (.int)
  | 6 => .array (.int)
  | 7 => .int
  | 8 => .int
  | 9 => .int
  | 10 => .int
  | 11 => .int
  | 12 => .int
  | _ => .int
def aF4 : u_T := fun k => match k with
  | 0 => ("DebtYear$Law", "text", "LDebtYear$Text;", false)
  | 1 => ("DebtYear$Law", "bench", "I", false)
  | _ => ("DebtYear$Law", "from", "I", false)
def aY4 : Nat → FieldType := fun k => match k with
  | 0 => .object "DebtYear$Text"
  | 1 => .int
  | _ => .int
def aF5 : u_T := fun k => match k with
  | 0 => ("DebtYear$Paper", "kind", "I", false)
  | 1 => ("DebtYear$Paper", "by", "I", false)
  | 2 => ("DebtYear$Paper", "to", "I", false)
  | 3 => ("DebtYear$Paper", "sum", "I", false)
  | 4 => ("DebtYear$Paper", "paid", "I", false)
  | 5 => ("DebtYear$Paper", "since", "I", false)
  | 6 => ("DebtYear$Paper", "due", "I", false)
  | 7 => ("DebtYear$Paper", "thing", "I", false)
  | 8 => ("DebtYear$Paper", "word", "I", false)
  | _ => ("DebtYear$Paper", "state", "I", false)
def aY5 : Nat → FieldType := fun k => match k with
  | 0 => .int
  | 1 => .int
  | 2 => .int
  | 3 => .int
  | 4 => .int
  | 5 => .int
  | 6 => .int
  | 7 => .int
  | 8 => .int
  | _ => .int
def aF6 : u_T := fun k => match k with
  | 0 => ("DebtYear$Person", "birth", "I", false)
  | 1 => ("DebtYear$Person", "one", "I", false)
  | 2 => ("DebtYear$Person", "two", "I", false)
  | 3 => ("DebtYear$Person", "store", "I", false)
  | 4 => ("DebtYear$Person", "deadSince", "I", false)
  | 5 => ("DebtYear$Person", "fear", "I", false)
  | 6 => ("DebtYear$Person", "serves", "I", false)
  | 7 => ("DebtYear$Person", "hungered", "I", false)
  | 8 => ("DebtYear$Person", "stranger", "Z", false)
  | _ => ("DebtYear$Person", "walls", "Z", false)
def aY6 : Nat → FieldType := fun k => match k with
  | 0 => .int
  | 1 => .int
  | 2 => .int
  | 3 => .int
  | 4 => .int
  | 5 => .int
  | 6 => .int
  | 7 => .int
  | 8 => .boolean
  | _ => .boolean
def aF7 : u_T := fun k => match k with
  | 0 => ("DebtYear$Scribe", "tape", "[I", true)
  | 1 => ("DebtYear$Scribe", "length", "I", false)
  | 2 => ("DebtYear$Scribe", "tokens", "[I", true)
  | 3 => ("DebtYear$Scribe", "places", "[I", true)
  | 4 => ("DebtYear$Scribe", "tokenCount", "I", false)
  | 5 => ("DebtYear$Scribe", "at", "I", false)
  | 6 => ("DebtYear$Scribe", "code", "[I", true)
  | 7 => ("DebtYear$Scribe", "codeLength", "I", false)
  | _ => ("DebtYear$Scribe", "starts", "[I", true)
def aY7 : Nat → FieldType := fun k => match k with
  | 0 => .array (.int)
  | 1 => .int
  | 2 => .array (.int)
  | 3 => .array (.int)
  | 4 => .int
  | 5 => .int
  | 6 => .array (.int)
  | 7 => .int
  | _ => .array (.int)
def aF8 : u_T := fun k => match k with
  | 0 => ("DebtYear$Season", "land", "LDebtYear$Land;", true)
  | _ => ("DebtYear$Season", "court", "LDebtYear$Court;", true)
def aY8 : Nat → FieldType := fun k => match k with
  | 0 => .object "DebtYear$Land"
  | _ => .object "DebtYear$Court"
def aF9 : u_T := fun k => match k with
  | 0 => ("DebtYear$Sheet", "numbers", "[I", true)
  | 1 => ("DebtYear$Sheet", "bits", "I", false)
  | _ => ("DebtYear$Sheet", "length", "I", false)
def aY9 : Nat → FieldType := fun k => match k with
  | 0 => .array (.int)
  | 1 => .int
  | _ => .int
def aF10 : u_T := fun k => match k with
  | 0 => ("DebtYear$Text", "code", "[I", true)
  | 1 => ("DebtYear$Text", "backFrom", "I", true)
  | _ => ("DebtYear$Text", "loanFrom", "I", true)
def aY10 : Nat → FieldType := fun k => match k with
  | 0 => .array (.int)
  | 1 => .int
  | _ => .int
def aF11 : u_T := fun k => match k with
  | 0 => ("DebtYear$Thrift", "low", "I", false)
  | _ => ("DebtYear$Thrift", "known", "[J", true)
def aY11 : Nat → FieldType := fun k => match k with
  | 0 => .int
  | _ => .array (.long)
def aF12 : u_T := fun k => match k with
  | 0 => ("DebtYearModel", "now", "[I", true)
  | 1 => ("DebtYearModel", "kept", "[I", true)
  | 2 => ("DebtYearModel", "hasImage", "Z", false)
  | 3 => ("DebtYearModel", "findings", "I", false)
  | 4 => ("DebtYearModel", "has", "[Z", true)
  | 5 => ("DebtYearModel", "shares", "[I", true)
  | 6 => ("DebtYearModel", "parts", "[I", true)
  | 7 => ("DebtYearModel", "tape", "[B", true)
  | 8 => ("DebtYearModel", "taped", "I", false)
  | 9 => ("DebtYearModel", "letters", "[C", true)
  | 10 => ("DebtYearModel", "begins", "[I", true)
  | 11 => ("DebtYearModel", "code", "[I", true)
  | 12 => ("DebtYearModel", "waits", "[I", true)
  | 13 => ("DebtYearModel", "heap", "[I", true)
  | 14 => ("DebtYearModel", "names", "[I", true)
  | 15 => ("DebtYearModel", "begin", "I", false)
  | 16 => ("DebtYearModel", "end", "I", false)
  | 17 => ("DebtYearModel", "next", "I", false)
  | 18 => ("DebtYearModel", "number", "I", false)
  | 19 => ("DebtYearModel", "size", "I", false)
  | 20 => ("DebtYearModel", "waitMany", "I", false)
  | 21 => ("DebtYearModel", "least", "[I", true)
  | 22 => ("DebtYearModel", "bitsOf", "[I", true)
  | 23 => ("DebtYearModel", "sizeOf", "[I", true)
  | 24 => ("DebtYearModel", "sheets", "[I", true)
  | _ => ("DebtYearModel", "carried", "[I", true)
def aY12 : Nat → FieldType := fun k => match k with
  | 0 => .array (.int)
  | 1 => .array (.int)
  | 2 => .boolean
  | 3 => .int
  | 4 => .array (.boolean)
  | 5 => .array (.int)
  | 6 => .array (.int)
  | 7 => .array (.byte)
  | 8 => .int
  | 9 => .array (.char)
  | 10 => .array (.int)
  | 11 => .array (.int)
  | 12 => .array (.int)
  | 13 => .array (.int)
  | 14 => .array (.int)
  | 15 => .int
  | 16 => .int
  | 17 => .int
  | 18 => .int
  | 19 => .int
  | 20 => .int
  | 21 => .array (.int)
  | 22 => .array (.int)
  | 23 => .array (.int)
  | 24 => .array (.int)
  | _ => .array (.int)
def aCl : List vw_C := [("DebtYear", aF0, 9), ("DebtYear$Court", aF1, 3), ("DebtYear$Field", aF2, 4), ("DebtYear$Land", aF3, 14), ("DebtYear$Law", aF4, 3), ("DebtYear$Paper", aF5, 10), ("DebtYear$Person", aF6, 10), ("DebtYear$Scribe", aF7, 9), ("DebtYear$Season", aF8, 2), ("DebtYear$Sheet", aF9, 3), ("DebtYear$Text", aF10, 3), ("DebtYear$Thrift", aF11, 2), ("DebtYearModel", aF12, 26)]
def aTy (ci : Nat) : Nat → FieldType := match ci with
  | 0 => aY0
  | 1 => aY1
  | 2 => aY2
  | 3 => aY3
  | 4 => aY4
  | 5 => aY5
  | 6 => aY6
  | 7 => aY7
  | 8 => aY8
  | 9 => aY9
  | 10 => aY10
  | 11 => aY11
  | _ => aY12
def cNm (c : Nat) : String := match c with
  | 0 => "DebtYear"
  | 1 => "DebtYear$Court"
  | 2 => "DebtYear$Field"
  | 3 => "DebtYear$Land"
  | 4 => "DebtYear$Law"
  | 5 => "DebtYear$Paper"
  | 6 => "DebtYear$Person"
  | 7 => "DebtYear$Scribe"
  | 8 => "DebtYear$Season"
  | 9 => "DebtYear$Sheet"
  | 10 => "DebtYear$Text"
  | 11 => "DebtYear$Thrift"
  | 12 => "DebtYearModel"
  | 40 => "DebtYearLaw"
  | 41 => "java/lang/Math"
  | 42 => "java/lang/String"
  | 43 => "java/lang/StringLatin1"
  | 44 => "java/util/Arrays"
  | 45 => "java/lang/System"
  | 46 => "java/lang/Object"
  | 47 => "java/lang/StringUTF16"
  | 48 => "java/lang/Character"
  | 49 => "jdk/internal/util/Preconditions"
  | _ => ""
def mtab_0 : List (MethodName × ByteArray × Nat × Option FieldType × Nat) := [(⟨"DebtYear", "<init>", "()V"⟩, prog_1_method_1_code, 2, none, 0),
  (⟨"DebtYear$Land", "<init>", "()V"⟩, prog_4_method_1_code, 2, none, 3),
  (⟨"DebtYear$Person", "<init>", "()V"⟩, prog_7_method_1_code, 1, none, 6),
  (⟨"DebtYear$Field", "<init>", "()V"⟩, prog_3_method_1_code, 1, none, 2),
  (⟨"DebtYear$Paper", "<init>", "()V"⟩, prog_6_method_1_code, 1, none, 5),
  (⟨"DebtYear$Law", "<init>", "()V"⟩, prog_5_method_1_code, 1, none, 4),
  (⟨"DebtYear$Court", "<init>", "(LDebtYear$Land;)V"⟩, prog_2_method_1_code, 2, none, 1),
  (⟨"DebtYear$Season", "<init>", "(LDebtYear$Land;LDebtYear$Court;)V"⟩, prog_9_method_1_code, 3, none, 8),
  (⟨"DebtYear$Scribe", "<init>", "()V"⟩, prog_8_method_1_code, 1, none, 7),
  (⟨"DebtYear$Thrift", "<init>", "()V"⟩, prog_12_method_1_code, 1, none, 11),
  (⟨"DebtYear$Sheet", "<init>", "()V"⟩, prog_10_method_1_code, 1, none, 9),
  (⟨"DebtYear", "person", "(IIII)I"⟩, prog_1_method_2_code, 5, some (.int), 0),
  (⟨"DebtYear", "within", "(III)Z"⟩, prog_1_method_43_code, 3, some (.boolean), 0),
  (⟨"DebtYear$Land", "mayBeParents", "(II)Z"⟩, prog_4_method_6_code, 3, some (.boolean), 3),
  (⟨"DebtYear$Land", "hasPerson", "(I)Z"⟩, prog_4_method_3_code, 2, some (.boolean), 3),
  (⟨"DebtYear", "found", "(I)I"⟩, prog_1_method_40_code, 2, some (.int), 0),
  (⟨"DebtYear$Person", "begin", "(IIII)V"⟩, prog_7_method_2_code, 5, none, 6),
  (⟨"DebtYear", "lives", "(IZZ)I"⟩, prog_1_method_3_code, 4, some (.int), 0),
  (⟨"DebtYear", "fear", "(II)I"⟩, prog_1_method_4_code, 4, some (.int), 0),
  (⟨"DebtYear", "die", "(I)I"⟩, prog_1_method_5_code, 4, some (.int), 0),
  (⟨"DebtYear$Person", "isDead", "()Z"⟩, prog_7_method_4_code, 1, some (.boolean), 6),
  (⟨"DebtYear", "personIs", "(II)I"⟩, prog_1_method_6_code, 4, some (.int), 0),
  (⟨"DebtYear$Land", "owedBy", "(I)I"⟩, prog_4_method_19_code, 4, some (.int), 3),
  (⟨"DebtYear$Paper", "openOwed", "()I"⟩, prog_6_method_5_code, 1, some (.int), 5),
  (⟨"DebtYear$Paper", "owed", "()I"⟩, prog_6_method_4_code, 1, some (.int), 5),
  (⟨"DebtYear$Land", "owedTo", "(I)I"⟩, prog_4_method_20_code, 4, some (.int), 3),
  (⟨"DebtYear$Land", "fieldsHeldBy", "(I)I"⟩, prog_4_method_23_code, 4, some (.int), 3),
  (⟨"DebtYear", "bit", "(Z)I"⟩, prog_1_method_50_code, 1, some (.int), 0),
  (⟨"DebtYear", "field", "(IIZ)I"⟩, prog_1_method_7_code, 4, some (.int), 0),
  (⟨"DebtYear$Field", "begin", "(IIZ)V"⟩, prog_3_method_2_code, 4, none, 2),
  (⟨"DebtYear", "fieldIs", "(II)I"⟩, prog_1_method_8_code, 4, some (.int), 0),
  (⟨"DebtYear$Land", "hasField", "(I)Z"⟩, prog_4_method_4_code, 2, some (.boolean), 3),
  (⟨"DebtYear", "heirs", "(I)I"⟩, prog_1_method_9_code, 2, some (.int), 0),
  (⟨"DebtYear$Land", "heirsOf", "(I)I"⟩, prog_4_method_7_code, 2, some (.int), 3),
  (⟨"DebtYear$Land", "heirsFrom", "(II)I"⟩, prog_4_method_8_code, 5, some (.int), 3),
  (⟨"DebtYear$Person", "isChildOf", "(I)Z"⟩, prog_7_method_6_code, 2, some (.boolean), 6),
  (⟨"DebtYear", "share", "(II)I"⟩, prog_1_method_10_code, 4, some (.int), 0),
  (⟨"DebtYear$Land", "shareOf", "(II)I"⟩, prog_4_method_9_code, 3, some (.int), 3),
  (⟨"DebtYear$Land", "shareFrom", "(III)I"⟩, prog_4_method_10_code, 8, some (.int), 3),
  (⟨"DebtYear", "paper", "(IIIII)I"⟩, prog_1_method_11_code, 9, some (.int), 0)]
def mtab_1 : List (MethodName × ByteArray × Nat × Option FieldType × Nat) := [(⟨"DebtYear$Person", "isFree", "()Z"⟩, prog_7_method_5_code, 1, some (.boolean), 6),
  (⟨"DebtYear$Land", "nextPaper", "()LDebtYear$Paper;"⟩, prog_4_method_12_code, 1, some ((.object "DebtYear$Paper")), 3),
  (⟨"DebtYear$Paper", "begin", "(IIIIII)V"⟩, prog_6_method_2_code, 7, none, 5),
  (⟨"DebtYear$Land", "bindNewPaper", "(I)I"⟩, prog_4_method_13_code, 3, some (.int), 3),
  (⟨"DebtYear$Paper", "isSale", "()Z"⟩, prog_6_method_6_code, 1, some (.boolean), 5),
  (⟨"DebtYear", "isUnder", "(II)Z"⟩, prog_1_method_49_code, 4, some (.boolean), 0),
  (⟨"DebtYear", "as", "(II)I"⟩, prog_1_method_12_code, 3, some (.int), 0),
  (⟨"DebtYear$Land", "hasPaper", "(I)Z"⟩, prog_4_method_5_code, 2, some (.boolean), 3),
  (⟨"DebtYear", "word", "(II)I"⟩, prog_1_method_13_code, 4, some (.int), 0),
  (⟨"DebtYear", "pay", "(II)I"⟩, prog_1_method_14_code, 4, some (.int), 0),
  (⟨"DebtYear$Land", "payOn", "(LDebtYear$Paper;I)V"⟩, prog_4_method_15_code, 3, none, 3),
  (⟨"DebtYear$Land", "bring", "(II)V"⟩, prog_4_method_11_code, 6, none, 3),
  (⟨"DebtYear$Land", "end", "(LDebtYear$Paper;I)V"⟩, prog_4_method_14_code, 3, none, 3),
  (⟨"DebtYear", "annul", "(I)I"⟩, prog_1_method_15_code, 3, some (.int), 0),
  (⟨"DebtYear", "paperIs", "(II)I"⟩, prog_1_method_16_code, 4, some (.int), 0),
  (⟨"DebtYear", "shift", "(II)I"⟩, prog_1_method_17_code, 4, some (.int), 0),
  (⟨"DebtYear", "isBench", "(I)Z"⟩, prog_1_method_44_code, 1, some (.boolean), 0),
  (⟨"DebtYear", "left", "(II)I"⟩, prog_1_method_18_code, 3, some (.int), 0),
  (⟨"DebtYear", "isYear", "(I)Z"⟩, prog_1_method_45_code, 1, some (.boolean), 0),
  (⟨"DebtYear$Land", "leftBy", "(II)I"⟩, prog_4_method_16_code, 3, some (.int), 3),
  (⟨"DebtYear$Land", "countBy", "(II)I"⟩, prog_4_method_17_code, 3, some (.int), 3),
  (⟨"DebtYear", "feed", "(IJ)I"⟩, prog_1_method_19_code, 4, some (.int), 0),
  (⟨"DebtYear$Scribe", "takes", "(IJ)Z"⟩, prog_8_method_2_code, 5, some (.boolean), 7),
  (⟨"DebtYear", "text", "(I)I"⟩, prog_1_method_20_code, 3, some (.int), 0),
  (⟨"DebtYear$Scribe", "reads", "()I"⟩, prog_8_method_3_code, 2, some (.int), 7),
  (⟨"DebtYear$Scribe", "cut", "()V"⟩, prog_8_method_5_code, 3, none, 7),
  (⟨"DebtYear$Scribe", "endOf", "(I)I"⟩, prog_8_method_6_code, 3, some (.int), 7),
  (⟨"DebtYear$Scribe", "isLetter", "(I)Z"⟩, prog_8_method_10_code, 2, some (.boolean), 7),
  (⟨"DebtYear$Scribe", "isDigit", "(I)Z"⟩, prog_8_method_11_code, 2, some (.boolean), 7),
  (⟨"DebtYear$Scribe", "tokenOf", "(II)I"⟩, prog_8_method_7_code, 4, some (.int), 7),
  (⟨"DebtYear$Scribe", "wordOf", "(II)I"⟩, prog_8_method_9_code, 8, some (.int), 7),
  (⟨"java/lang/String", "length", "()I"⟩, prog_18_method_54_code, 1, some (.int), 42),
  (⟨"java/lang/String", "coder", "()B"⟩, prog_18_method_152_code, 1, some (.byte), 42),
  (⟨"java/lang/String", "charAt", "(I)C"⟩, prog_18_method_56_code, 2, some (.char), 42),
  (⟨"java/lang/String", "isLatin1", "()Z"⟩, prog_18_method_154_code, 1, some (.boolean), 42),
  (⟨"java/lang/StringLatin1", "charAt", "([BI)C"⟩, prog_19_method_2_code, 2, some (.char), 43),
  (⟨"java/lang/String", "checkIndex", "(II)V"⟩, prog_18_method_155_code, 2, none, 42),
  (⟨"jdk/internal/util/Preconditions", "checkIndex", "(IILjava/util/function/BiFunction;)I"⟩, prog_23_method_11_code, 3, some (.int), 49),
  (⟨"java/lang/StringUTF16", "charAt", "([BI)C"⟩, prog_20_method_83_code, 2, some (.char), 47),
  (⟨"java/lang/StringUTF16", "checkIndex", "(I[B)V"⟩, prog_20_method_91_code, 2, none, 47)]
def mtab_2 : List (MethodName × ByteArray × Nat × Option FieldType × Nat) := [(⟨"java/lang/StringUTF16", "length", "([B)I"⟩, prog_20_method_6_code, 1, some (.int), 47),
  (⟨"java/lang/StringUTF16", "getChar", "([BI)C"⟩, prog_20_method_5_code, 2, some (.char), 47),
  (⟨"DebtYear$Scribe", "numberOf", "(II)I"⟩, prog_8_method_8_code, 5, some (.int), 7),
  (⟨"java/lang/String", "indexOf", "(I)I"⟩, prog_18_method_79_code, 2, some (.int), 42),
  (⟨"java/lang/String", "indexOf", "(II)I"⟩, prog_18_method_80_code, 3, some (.int), 42),
  (⟨"java/lang/StringLatin1", "indexOf", "([BIII)I"⟩, prog_19_method_22_code, 4, some (.int), 43),
  (⟨"java/lang/StringLatin1", "canEncode", "(I)Z"⟩, prog_19_method_4_code, 1, some (.boolean), 43),
  (⟨"java/lang/StringLatin1", "indexOfChar", "([BIII)I"⟩, prog_19_method_23_code, 6, some (.int), 43),
  (⟨"java/lang/StringUTF16", "indexOf", "([BIII)I"⟩, prog_20_method_40_code, 4, some (.int), 47),
  (⟨"java/lang/StringUTF16", "indexOfChar", "([BIII)I"⟩, prog_20_method_47_code, 4, some (.int), 47),
  (⟨"java/lang/StringUTF16", "checkBoundsBeginEnd", "(II[B)V"⟩, prog_20_method_93_code, 3, none, 47),
  (⟨"java/lang/String", "checkBoundsBeginEnd", "(III)V"⟩, prog_18_method_158_code, 3, none, 42),
  (⟨"jdk/internal/util/Preconditions", "checkFromToIndex", "(IIILjava/util/function/BiFunction;)I"⟩, prog_23_method_12_code, 4, some (.int), 49),
  (⟨"java/lang/StringUTF16", "indexOfCharUnsafe", "([BIII)I"⟩, prog_20_method_48_code, 5, some (.int), 47),
  (⟨"java/lang/StringUTF16", "indexOfSupplementary", "([BIII)I"⟩, prog_20_method_49_code, 7, some (.int), 47),
  (⟨"java/lang/Character", "isValidCodePoint", "(I)Z"⟩, prog_15_method_11_code, 2, some (.boolean), 48),
  (⟨"java/lang/Character", "highSurrogate", "(I)C"⟩, prog_15_method_28_code, 1, some (.char), 48),
  (⟨"java/lang/Character", "lowSurrogate", "(I)C"⟩, prog_15_method_29_code, 1, some (.char), 48),
  (⟨"DebtYear$Scribe", "passes", "(I)Z"⟩, prog_8_method_12_code, 2, some (.boolean), 7),
  (⟨"DebtYear$Scribe", "either", "(I)Z"⟩, prog_8_method_14_code, 4, some (.boolean), 7),
  (⟨"DebtYear$Scribe", "both", "(I)Z"⟩, prog_8_method_15_code, 4, some (.boolean), 7),
  (⟨"DebtYear$Scribe", "negated", "(I)Z"⟩, prog_8_method_16_code, 4, some (.boolean), 7),
  (⟨"DebtYear$Scribe", "write", "(I)V"⟩, prog_8_method_13_code, 2, none, 7),
  (⟨"DebtYear$Scribe", "total", "(I)Z"⟩, prog_8_method_17_code, 5, some (.boolean), 7),
  (⟨"DebtYear$Scribe", "one", "(I)Z"⟩, prog_8_method_18_code, 3, some (.boolean), 7),
  (⟨"DebtYear$Scribe", "written", "()LDebtYear$Text;"⟩, prog_8_method_4_code, 1, some ((.object "DebtYear$Text")), 7),
  (⟨"java/util/Arrays", "copyOf", "([II)[I"⟩, prog_22_method_123_code, 3, some ((.array .int)), 44),
  (⟨"DebtYear$Text", "<init>", "([III)V"⟩, prog_11_method_1_code, 4, none, 10),
  (⟨"DebtYear", "force", "(III)I"⟩, prog_1_method_21_code, 4, some (.int), 0),
  (⟨"DebtYear$Law", "begin", "(LDebtYear$Text;II)V"⟩, prog_5_method_2_code, 4, none, 4),
  (⟨"DebtYear", "law", "(II)I"⟩, prog_1_method_22_code, 4, some (.int), 0),
  (⟨"DebtYear$Land", "lawOf", "(II)I"⟩, prog_4_method_18_code, 4, some (.int), 3),
  (⟨"DebtYear", "falls", "(III)I"⟩, prog_1_method_23_code, 4, some (.int), 0),
  (⟨"DebtYear", "mayBeJudged", "(III)Z"⟩, prog_1_method_41_code, 4, some (.boolean), 0),
  (⟨"DebtYear$Court", "judge", "(LDebtYear$Paper;III)I"⟩, prog_2_method_2_code, 5, some (.int), 1),
  (⟨"DebtYear$Court", "judgeAs", "(LDebtYear$Paper;IIII)I"⟩, prog_2_method_5_code, 7, some (.int), 1),
  (⟨"java/util/Arrays", "fill", "([II)V"⟩, prog_22_method_103_code, 4, none, 44),
  (⟨"DebtYear$Court", "tellPaper", "(LDebtYear$Paper;I)V"⟩, prog_2_method_6_code, 3, none, 1),
  (⟨"DebtYear$Court", "tellField", "(LDebtYear$Field;)V"⟩, prog_2_method_7_code, 2, none, 1),
  (⟨"DebtYear$Court", "comes", "(III)Z"⟩, prog_2_method_8_code, 10, some (.boolean), 1)]
def mtab_3 : List (MethodName × ByteArray × Nat × Option FieldType × Nat) := [(⟨"DebtYear$Text", "to", "(I)I"⟩, prog_11_method_3_code, 2, some (.int), 10),
  (⟨"DebtYear$Text", "from", "(I)I"⟩, prog_11_method_2_code, 2, some (.int), 10),
  (⟨"DebtYear$Court", "valueOf", "(I)I"⟩, prog_2_method_9_code, 3, some (.int), 1),
  (⟨"DebtYear$Court", "work", "(III)I"⟩, prog_2_method_10_code, 3, some (.int), 1),
  (⟨"DebtYear", "truly", "(III)I"⟩, prog_1_method_24_code, 4, some (.int), 0),
  (⟨"DebtYear", "back", "(III)I"⟩, prog_1_method_25_code, 4, some (.int), 0),
  (⟨"DebtYear$Court", "givesBack", "(LDebtYear$Field;II)Z"⟩, prog_2_method_3_code, 4, some (.boolean), 1),
  (⟨"DebtYear", "dress", "(III)I"⟩, prog_1_method_26_code, 4, some (.int), 0),
  (⟨"DebtYear$Court", "safeKinds", "(LDebtYear$Paper;II)I"⟩, prog_2_method_4_code, 6, some (.int), 1),
  (⟨"DebtYear", "price", "(II)I"⟩, prog_1_method_27_code, 3, some (.int), 0),
  (⟨"DebtYear", "year", "(I)I"⟩, prog_1_method_28_code, 2, some (.int), 0),
  (⟨"DebtYear", "isHarvest", "(I)Z"⟩, prog_1_method_46_code, 1, some (.boolean), 0),
  (⟨"DebtYear$Season", "goBy", "(I)I"⟩, prog_9_method_2_code, 5, some (.int), 8),
  (⟨"DebtYear$Season", "eat", "(I)I"⟩, prog_9_method_3_code, 4, some (.int), 8),
  (⟨"DebtYear$Season", "borrow", "(II)Z"⟩, prog_9_method_4_code, 6, some (.boolean), 8),
  (⟨"DebtYear$Season", "lenderFor", "(II)I"⟩, prog_9_method_5_code, 6, some (.int), 8),
  (⟨"DebtYear$Season", "fallDue", "(LDebtYear$Paper;)V"⟩, prog_9_method_6_code, 3, none, 8),
  (⟨"DebtYear$Season", "strike", "()V"⟩, prog_9_method_7_code, 4, none, 8),
  (⟨"DebtYear", "leastOf", "(I)I"⟩, prog_1_method_51_code, 2, some (.int), 0),
  (⟨"DebtYear", "years", "(I)I"⟩, prog_1_method_29_code, 5, some (.int), 0),
  (⟨"DebtYear", "isSheet", "(I)Z"⟩, prog_1_method_48_code, 1, some (.boolean), 0),
  (⟨"DebtYear$Sheet", "isMissing", "()Z"⟩, prog_10_method_2_code, 1, some (.boolean), 9),
  (⟨"DebtYear", "chain", "(I)I"⟩, prog_1_method_30_code, 2, some (.int), 0),
  (⟨"DebtYear$Land", "unableWithout", "(I)I"⟩, prog_4_method_21_code, 5, some (.int), 3),
  (⟨"DebtYear$Land", "unableBehind", "(II)I"⟩, prog_4_method_22_code, 6, some (.int), 3),
  (⟨"DebtYear", "last", "(IIII)I"⟩, prog_1_method_31_code, 5, some (.int), 0),
  (⟨"DebtYear", "mayLast", "(IIII)Z"⟩, prog_1_method_42_code, 6, some (.boolean), 0),
  (⟨"DebtYear", "isPurse", "(I)Z"⟩, prog_1_method_47_code, 1, some (.boolean), 0),
  (⟨"DebtYear$Thrift", "expect", "(I)V"⟩, prog_12_method_2_code, 2, none, 11),
  (⟨"java/util/Arrays", "fill", "([JJ)V"⟩, prog_22_method_101_code, 5, none, 44),
  (⟨"DebtYear$Thrift", "sureHunger", "(III)I"⟩, prog_12_method_3_code, 8, some (.int), 11),
  (⟨"DebtYear$Thrift", "leastHunger", "(III)I"⟩, prog_12_method_4_code, 7, some (.int), 11),
  (⟨"DebtYear$Thrift", "mostPayment", "(II)I"⟩, prog_12_method_8_code, 2, some (.int), 11),
  (⟨"DebtYear$Thrift", "paying", "(IIII)I"⟩, prog_12_method_6_code, 6, some (.int), 11),
  (⟨"DebtYear$Thrift", "hungerWith", "(I)I"⟩, prog_12_method_9_code, 1, some (.int), 11),
  (⟨"DebtYear$Thrift", "keptOf", "(I)I"⟩, prog_12_method_10_code, 1, some (.int), 11),
  (⟨"DebtYear", "pays", "(IIIII)I"⟩, prog_1_method_32_code, 8, some (.int), 0),
  (⟨"DebtYear$Thrift", "bestPayment", "(III)I"⟩, prog_12_method_5_code, 7, some (.int), 11),
  (⟨"DebtYear", "proves", "(IIII)I"⟩, prog_1_method_33_code, 5, some (.int), 0),
  (⟨"DebtYear$Thrift", "check", "(IIILDebtYear$Sheet;)I"⟩, prog_12_method_7_code, 12, some (.int), 11)]
def mtab_4 : List (MethodName × ByteArray × Nat × Option FieldType × Nat) := [(⟨"DebtYear", "sheet", "(III)I"⟩, prog_1_method_34_code, 4, some (.int), 0),
  (⟨"DebtYear$Sheet", "begin", "(II)V"⟩, prog_10_method_3_code, 3, none, 9),
  (⟨"DebtYear", "put", "(III)I"⟩, prog_1_method_35_code, 4, some (.int), 0),
  (⟨"DebtYear$Sheet", "write", "(II)V"⟩, prog_10_method_4_code, 3, none, 9),
  (⟨"DebtYear", "copy", "(IIIII)I"⟩, prog_1_method_36_code, 6, some (.int), 0),
  (⟨"DebtYear$Sheet", "hasRow", "(II)Z"⟩, prog_10_method_5_code, 3, some (.boolean), 9),
  (⟨"DebtYear", "image", "()I"⟩, prog_1_method_37_code, 1, some (.int), 0),
  (⟨"DebtYear$Land", "become", "(LDebtYear$Land;)V"⟩, prog_4_method_2_code, 3, none, 3),
  (⟨"DebtYear$Person", "become", "(LDebtYear$Person;)V"⟩, prog_7_method_3_code, 2, none, 6),
  (⟨"DebtYear$Field", "become", "(LDebtYear$Field;)V"⟩, prog_3_method_3_code, 2, none, 2),
  (⟨"DebtYear$Paper", "become", "(LDebtYear$Paper;)V"⟩, prog_6_method_3_code, 2, none, 5),
  (⟨"DebtYear", "restore", "()I"⟩, prog_1_method_38_code, 1, some (.int), 0),
  (⟨"DebtYear", "count", "(I)I"⟩, prog_1_method_39_code, 2, some (.int), 0),
  (⟨"DebtYear$Land", "livingCount", "()I"⟩, prog_4_method_24_code, 3, some (.int), 3),
  (⟨"DebtYear$Land", "openCount", "()I"⟩, prog_4_method_25_code, 3, some (.int), 3),
  (⟨"DebtYear$Land", "allStores", "()I"⟩, prog_4_method_26_code, 3, some (.int), 3),
  (⟨"DebtYearModel", "<init>", "()V"⟩, prog_14_method_1_code, 1, none, 12),
  (⟨"DebtYearModel", "person", "(IIII)I"⟩, prog_14_method_13_code, 6, some (.int), 12),
  (⟨"DebtYearModel", "in", "(III)Z"⟩, prog_14_method_3_code, 3, some (.boolean), 12),
  (⟨"DebtYearModel", "finds", "(I)I"⟩, prog_14_method_4_code, 2, some (.int), 12),
  (⟨"DebtYearModel", "makes", "(III)V"⟩, prog_14_method_11_code, 4, none, 12),
  (⟨"DebtYearModel", "lives", "(IZZ)I"⟩, prog_14_method_14_code, 4, some (.int), 12),
  (⟨"DebtYearModel", "isPerson", "(I)Z"⟩, prog_14_method_5_code, 2, some (.boolean), 12),
  (⟨"DebtYearModel", "fear", "(II)I"⟩, prog_14_method_15_code, 4, some (.int), 12),
  (⟨"DebtYearModel", "own", "(II)I"⟩, prog_14_method_10_code, 3, some (.int), 12),
  (⟨"DebtYearModel", "die", "(I)I"⟩, prog_14_method_16_code, 3, some (.int), 12),
  (⟨"DebtYearModel", "lives0", "(I)Z"⟩, prog_14_method_12_code, 2, some (.boolean), 12),
  (⟨"DebtYearModel", "personIs", "(II)I"⟩, prog_14_method_19_code, 5, some (.int), 12),
  (⟨"DebtYearModel", "owes", "(II)I"⟩, prog_14_method_17_code, 5, some (.int), 12),
  (⟨"DebtYearModel", "isOpen", "(I)Z"⟩, prog_14_method_31_code, 2, some (.boolean), 12),
  (⟨"DebtYearModel", "of", "(II)I"⟩, prog_14_method_29_code, 3, some (.int), 12),
  (⟨"DebtYearModel", "owed", "(I)I"⟩, prog_14_method_32_code, 2, some (.int), 12),
  (⟨"DebtYearModel", "owedTo", "(III)I"⟩, prog_14_method_18_code, 6, some (.int), 12),
  (⟨"DebtYearModel", "ofField", "(II)I"⟩, prog_14_method_20_code, 3, some (.int), 12),
  (⟨"DebtYearModel", "field", "(IIZ)I"⟩, prog_14_method_21_code, 5, some (.int), 12),
  (⟨"DebtYearModel", "fieldIs", "(II)I"⟩, prog_14_method_22_code, 3, some (.int), 12),
  (⟨"DebtYearModel", "isField", "(I)Z"⟩, prog_14_method_6_code, 2, some (.boolean), 12),
  (⟨"DebtYearModel", "heirs", "(I)I"⟩, prog_14_method_27_code, 2, some (.int), 12),
  (⟨"DebtYearModel", "heirsOf", "(I)I"⟩, prog_14_method_26_code, 4, some (.int), 12),
  (⟨"DebtYearModel", "findHeirs", "(I)V"⟩, prog_14_method_24_code, 7, none, 12)]
def mtab_5 : List (MethodName × ByteArray × Nat × Option FieldType × Nat) := [(⟨"DebtYearModel", "isChild", "(II)Z"⟩, prog_14_method_23_code, 3, some (.boolean), 12),
  (⟨"DebtYearModel", "partOf", "(I)I"⟩, prog_14_method_25_code, 5, some (.int), 12),
  (⟨"DebtYearModel", "share", "(II)I"⟩, prog_14_method_28_code, 4, some (.int), 12),
  (⟨"DebtYearModel", "paper", "(IIIII)I"⟩, prog_14_method_35_code, 9, some (.int), 12),
  (⟨"DebtYearModel", "hasField", "(I)Z"⟩, prog_14_method_33_code, 1, some (.boolean), 12),
  (⟨"DebtYearModel", "comes", "(IIIIIII)I"⟩, prog_14_method_34_code, 9, some (.int), 12),
  (⟨"DebtYearModel", "writes", "(III)V"⟩, prog_14_method_30_code, 4, none, 12),
  (⟨"DebtYearModel", "as", "(II)I"⟩, prog_14_method_37_code, 3, some (.int), 12),
  (⟨"DebtYearModel", "isPaper", "(I)Z"⟩, prog_14_method_7_code, 2, some (.boolean), 12),
  (⟨"DebtYearModel", "isUnder", "(II)Z"⟩, prog_14_method_36_code, 2, some (.boolean), 12),
  (⟨"DebtYearModel", "word", "(II)I"⟩, prog_14_method_38_code, 4, some (.int), 12),
  (⟨"DebtYearModel", "pay", "(II)I"⟩, prog_14_method_42_code, 3, some (.int), 12),
  (⟨"DebtYearModel", "pays0", "(II)V"⟩, prog_14_method_41_code, 3, none, 12),
  (⟨"DebtYearModel", "stores", "(II)V"⟩, prog_14_method_40_code, 5, none, 12),
  (⟨"DebtYearModel", "closes", "(II)V"⟩, prog_14_method_39_code, 4, none, 12),
  (⟨"DebtYearModel", "annul", "(I)I"⟩, prog_14_method_43_code, 2, some (.int), 12),
  (⟨"DebtYearModel", "paperIs", "(II)I"⟩, prog_14_method_44_code, 3, some (.int), 12),
  (⟨"DebtYearModel", "shift", "(II)I"⟩, prog_14_method_45_code, 4, some (.int), 12),
  (⟨"DebtYearModel", "isBench", "(I)Z"⟩, prog_14_method_8_code, 1, some (.boolean), 12),
  (⟨"DebtYearModel", "left", "(II)I"⟩, prog_14_method_47_code, 3, some (.int), 12),
  (⟨"DebtYearModel", "isYear", "(I)Z"⟩, prog_14_method_9_code, 1, some (.boolean), 12),
  (⟨"DebtYearModel", "leftOf", "(II)I"⟩, prog_14_method_46_code, 3, some (.int), 12),
  (⟨"DebtYearModel", "feed", "(IJ)I"⟩, prog_14_method_48_code, 5, some (.int), 12),
  (⟨"DebtYearModel", "text", "(I)I"⟩, prog_14_method_62_code, 4, some (.int), 12),
  (⟨"DebtYearModel", "reads", "()Z"⟩, prog_14_method_61_code, 2, some (.boolean), 12),
  (⟨"DebtYearModel", "looks", "()V"⟩, prog_14_method_54_code, 2, none, 12),
  (⟨"DebtYearModel", "byteAt", "(I)I"⟩, prog_14_method_49_code, 2, some (.int), 12),
  (⟨"DebtYearModel", "isLetter", "(I)Z"⟩, prog_14_method_50_code, 1, some (.boolean), 12),
  (⟨"DebtYearModel", "wordOf", "()I"⟩, prog_14_method_53_code, 4, some (.int), 12),
  (⟨"DebtYearModel", "isDigit", "(I)Z"⟩, prog_14_method_51_code, 1, some (.boolean), 12),
  (⟨"DebtYearModel", "isSign", "(I)Z"⟩, prog_14_method_52_code, 1, some (.boolean), 12),
  (⟨"DebtYearModel", "readsE", "(I)Z"⟩, prog_14_method_60_code, 5, some (.boolean), 12),
  (⟨"DebtYearModel", "waitsOf", "(I)I"⟩, prog_14_method_58_code, 4, some (.int), 12),
  (⟨"DebtYearModel", "lays", "(I)V"⟩, prog_14_method_56_code, 2, none, 12),
  (⟨"DebtYearModel", "settles", "(I)V"⟩, prog_14_method_57_code, 2, none, 12),
  (⟨"DebtYearModel", "rankOf", "(I)I"⟩, prog_14_method_55_code, 1, some (.int), 12),
  (⟨"DebtYearModel", "isTested", "()Z"⟩, prog_14_method_59_code, 2, some (.boolean), 12),
  (⟨"DebtYearModel", "force", "(III)I"⟩, prog_14_method_65_code, 6, some (.int), 12),
  (⟨"DebtYearModel", "law", "(II)I"⟩, prog_14_method_67_code, 4, some (.int), 12),
  (⟨"DebtYearModel", "lawOf", "(II)I"⟩, prog_14_method_66_code, 5, some (.int), 12)]
def mtab_6 : List (MethodName × ByteArray × Nat × Option FieldType × Nat) := [(⟨"DebtYearModel", "falls", "(III)I"⟩, prog_14_method_71_code, 4, some (.int), 12),
  (⟨"DebtYearModel", "isAsked", "(III)Z"⟩, prog_14_method_70_code, 4, some (.boolean), 12),
  (⟨"DebtYearModel", "holds", "(IIIII)I"⟩, prog_14_method_69_code, 7, some (.int), 12),
  (⟨"DebtYearModel", "isClause", "(IIIIII)Z"⟩, prog_14_method_68_code, 9, some (.boolean), 12),
  (⟨"DebtYearModel", "isSo", "(II)Z"⟩, prog_14_method_64_code, 7, some (.boolean), 12),
  (⟨"DebtYearModel", "done", "(III)I"⟩, prog_14_method_63_code, 3, some (.int), 12),
  (⟨"DebtYearModel", "truly", "(III)I"⟩, prog_14_method_72_code, 4, some (.int), 12),
  (⟨"DebtYearModel", "back", "(III)I"⟩, prog_14_method_74_code, 4, some (.int), 12),
  (⟨"DebtYearModel", "goesBack", "(III)Z"⟩, prog_14_method_73_code, 6, some (.boolean), 12),
  (⟨"DebtYearModel", "dress", "(III)I"⟩, prog_14_method_75_code, 6, some (.int), 12),
  (⟨"DebtYearModel", "price", "(II)I"⟩, prog_14_method_76_code, 3, some (.int), 12),
  (⟨"DebtYearModel", "year", "(I)I"⟩, prog_14_method_83_code, 2, some (.int), 12),
  (⟨"DebtYearModel", "passes", "(I)I"⟩, prog_14_method_82_code, 3, some (.int), 12),
  (⟨"DebtYearModel", "harvests", "(I)V"⟩, prog_14_method_77_code, 3, none, 12),
  (⟨"DebtYearModel", "allEat", "()I"⟩, prog_14_method_79_code, 7, some (.int), 12),
  (⟨"DebtYearModel", "lender", "(II)I"⟩, prog_14_method_78_code, 4, some (.int), 12),
  (⟨"DebtYearModel", "allPay", "()V"⟩, prog_14_method_80_code, 3, none, 12),
  (⟨"DebtYearModel", "strikes", "()V"⟩, prog_14_method_81_code, 4, none, 12),
  (⟨"DebtYearModel", "years", "(I)I"⟩, prog_14_method_84_code, 6, some (.int), 12),
  (⟨"DebtYearModel", "isSheet", "(I)Z"⟩, prog_14_method_95_code, 1, some (.boolean), 12),
  (⟨"DebtYearModel", "chain", "(I)I"⟩, prog_14_method_85_code, 6, some (.int), 12),
  (⟨"DebtYearModel", "last", "(IIII)I"⟩, prog_14_method_92_code, 5, some (.int), 12),
  (⟨"DebtYearModel", "isLast", "(IIII)Z"⟩, prog_14_method_86_code, 4, some (.boolean), 12),
  (⟨"DebtYearModel", "findLast", "(IIII)V"⟩, prog_14_method_91_code, 10, none, 12),
  (⟨"DebtYearModel", "at", "(III)I"⟩, prog_14_method_87_code, 3, some (.int), 12),
  (⟨"DebtYearModel", "bestOf", "(III)I"⟩, prog_14_method_90_code, 7, some (.int), 12),
  (⟨"DebtYearModel", "byPaying", "(IIII)I"⟩, prog_14_method_88_code, 7, some (.int), 12),
  (⟨"DebtYearModel", "mostPaid", "(II)I"⟩, prog_14_method_89_code, 3, some (.int), 12),
  (⟨"DebtYearModel", "pays", "(IIIII)I"⟩, prog_14_method_93_code, 7, some (.int), 12),
  (⟨"DebtYearModel", "proves", "(IIII)I"⟩, prog_14_method_94_code, 12, some (.int), 12),
  (⟨"DebtYearModel", "sheet", "(III)I"⟩, prog_14_method_96_code, 5, some (.int), 12),
  (⟨"DebtYearModel", "put", "(III)I"⟩, prog_14_method_97_code, 4, some (.int), 12),
  (⟨"DebtYearModel", "copy", "(IIIII)I"⟩, prog_14_method_98_code, 7, some (.int), 12),
  (⟨"DebtYearModel", "image", "()I"⟩, prog_14_method_99_code, 2, some (.int), 12),
  (⟨"DebtYearModel", "restore", "()I"⟩, prog_14_method_100_code, 2, some (.int), 12),
  (⟨"DebtYearModel", "count", "(I)I"⟩, prog_14_method_101_code, 4, some (.int), 12),
  (⟨"DebtYearLaw", "law", "([I)Z"⟩, code, 4, some (.boolean), 40)]
def mt (y : Nat) : MethodName × ByteArray × Nat × Option FieldType × Nat := match y / 40 with
  | 0 => mtab_0.getD (y % 40) (⟨"", "", ""⟩, .empty, 0, none, 0)
  | 1 => mtab_1.getD (y % 40) (⟨"", "", ""⟩, .empty, 0, none, 0)
  | 2 => mtab_2.getD (y % 40) (⟨"", "", ""⟩, .empty, 0, none, 0)
  | 3 => mtab_3.getD (y % 40) (⟨"", "", ""⟩, .empty, 0, none, 0)
  | 4 => mtab_4.getD (y % 40) (⟨"", "", ""⟩, .empty, 0, none, 0)
  | 5 => mtab_5.getD (y % 40) (⟨"", "", ""⟩, .empty, 0, none, 0)
  | 6 => mtab_6.getD (y % 40) (⟨"", "", ""⟩, .empty, 0, none, 0)
  | _ => (⟨"", "", ""⟩, .empty, 0, none, 0)
def mN (y : Nat) : MethodName := (mt y).1
def mB (y : Nat) : ByteArray := (mt y).2.1
def mL (y : Nat) : Nat := (mt y).2.2.1
def mR (y : Nat) : Option FieldType := (mt y).2.2.2.1
def mC (y : Nat) : Nat := (mt y).2.2.2.2
/-- the words that all methods share -/
def aT : List Cond := lw_tbl.filter goodWord
theorem sg_0 {i : Nat} {w : Cond} (h : (k2_sels lw_privs)[i]? = some w) : w ∈ lw_tbl := List.mem_append_left _ (List.mem_of_getElem? h)
theorem sg_1 {i : Nat} {w : Cond} (h : tables_1_1[i]? = some w) : w ∈ lw_tbl := List.mem_append_right _ (List.mem_append_left _ (List.mem_of_getElem? h))
theorem sg_2 {i : Nat} {w : Cond} (h : tables_1_2[i]? = some w) : w ∈ lw_tbl := List.mem_append_right _ (List.mem_append_right _ (List.mem_append_left _ (List.mem_of_getElem? h)))
theorem sg_3 {i : Nat} {w : Cond} (h : tables_1_3[i]? = some w) : w ∈ lw_tbl := List.mem_append_right _ (List.mem_append_right _ (List.mem_append_right _ (List.mem_append_left _ (List.mem_of_getElem? h))))
theorem sg_4 {i : Nat} {w : Cond} (h : tables_1_4[i]? = some w) : w ∈ lw_tbl := List.mem_append_right _ (List.mem_append_right _ (List.mem_append_right _ (List.mem_append_right _ (List.mem_append_left _ (List.mem_of_getElem? h)))))
theorem sg_5 {i : Nat} {w : Cond} (h : tables_1_5[i]? = some w) : w ∈ lw_tbl := List.mem_append_right _ (List.mem_append_right _ (List.mem_append_right _ (List.mem_append_right _ (List.mem_append_right _ (List.mem_append_left _ (List.mem_of_getElem? h))))))
theorem sg_6 {i : Nat} {w : Cond} (h : tables_1_6[i]? = some w) : w ∈ lw_tbl := List.mem_append_right _ (List.mem_append_right _ (List.mem_append_right _ (List.mem_append_right _ (List.mem_append_right _ (List.mem_append_right _ (List.mem_append_left _ (List.mem_of_getElem? h)))))))
theorem sg_7 {i : Nat} {w : Cond} (h : tables_1_7[i]? = some w) : w ∈ lw_tbl := List.mem_append_right _ (List.mem_append_right _ (List.mem_append_right _ (List.mem_append_right _ (List.mem_append_right _ (List.mem_append_right _ (List.mem_append_right _ (List.mem_of_getElem? h)))))))
theorem aT_in {w : Cond} (h : w ∈ lw_tbl) (hg : goodWord w = true) : w ∈ aT := List.mem_filter.mpr ⟨h, hg⟩
def MOK (y : Nat) : Prop := Cond.code (mN y) (mB y) (mL y) (mR y) ∈ aT ∧ Cond.initialized (mN y).cls ∈ aT ∧ plainName (mN y).cls = true ∧ mL y ≤ 12 ∧ (mN y).cls = cNm (mC y) ∧ (mN y).cls ≠ "java/lang/invoke/MethodHandle" ∧ (mN y).cls ≠ "java/lang/invoke/VarHandle"
theorem mok_0 : MOK 0 := ⟨aT_in (sg_1 (i := 26) rfl) rfl, aT_in (sg_1 (i := 1) rfl) rfl, by decide +kernel, by decide +kernel, by decide +kernel, by decide +kernel, by decide +kernel⟩
theorem mok_1 : MOK 1 := ⟨aT_in (sg_1 (i := 34) rfl) rfl, aT_in (sg_1 (i := 2) rfl) rfl, by decide +kernel, by decide +kernel, by decide +kernel, by decide +kernel, by decide +kernel⟩
theorem mok_2 : MOK 2 := ⟨aT_in (sg_1 (i := 49) rfl) rfl, aT_in (sg_1 (i := 3) rfl) rfl, by decide +kernel, by decide +kernel, by decide +kernel, by decide +kernel, by decide +kernel⟩
theorem mok_3 : MOK 3 := ⟨aT_in (sg_1 (i := 101) rfl) rfl, aT_in (sg_1 (i := 4) rfl) rfl, by decide +kernel, by decide +kernel, by decide +kernel, by decide +kernel, by decide +kernel⟩
theorem mok_4 : MOK 4 := ⟨aT_in (sg_1 (i := 131) rfl) rfl, aT_in (sg_1 (i := 5) rfl) rfl, by decide +kernel, by decide +kernel, by decide +kernel, by decide +kernel, by decide +kernel⟩
theorem mok_5 : MOK 5 := ⟨aT_in (sg_1 (i := 199) rfl) rfl, aT_in (sg_1 (i := 6) rfl) rfl, by decide +kernel, by decide +kernel, by decide +kernel, by decide +kernel, by decide +kernel⟩
theorem mok_6 : MOK 6 := ⟨aT_in (sg_2 (i := 46) rfl) rfl, aT_in (sg_1 (i := 7) rfl) rfl, by decide +kernel, by decide +kernel, by decide +kernel, by decide +kernel, by decide +kernel⟩
theorem mok_7 : MOK 7 := ⟨aT_in (sg_2 (i := 62) rfl) rfl, aT_in (sg_1 (i := 8) rfl) rfl, by decide +kernel, by decide +kernel, by decide +kernel, by decide +kernel, by decide +kernel⟩
theorem mok_8 : MOK 8 := ⟨aT_in (sg_2 (i := 75) rfl) rfl, aT_in (sg_1 (i := 9) rfl) rfl, by decide +kernel, by decide +kernel, by decide +kernel, by decide +kernel, by decide +kernel⟩
theorem mok_9 : MOK 9 := ⟨aT_in (sg_2 (i := 110) rfl) rfl, aT_in (sg_1 (i := 10) rfl) rfl, by decide +kernel, by decide +kernel, by decide +kernel, by decide +kernel, by decide +kernel⟩
theorem mok_10 : MOK 10 := ⟨aT_in (sg_2 (i := 125) rfl) rfl, aT_in (sg_1 (i := 11) rfl) rfl, by decide +kernel, by decide +kernel, by decide +kernel, by decide +kernel, by decide +kernel⟩
theorem mok_11 : MOK 11 := ⟨aT_in (sg_2 (i := 173) rfl) rfl, aT_in (sg_1 (i := 1) rfl) rfl, by decide +kernel, by decide +kernel, by decide +kernel, by decide +kernel, by decide +kernel⟩
theorem mok_12 : MOK 12 := ⟨aT_in (sg_2 (i := 179) rfl) rfl, aT_in (sg_1 (i := 1) rfl) rfl, by decide +kernel, by decide +kernel, by decide +kernel, by decide +kernel, by decide +kernel⟩
theorem mok_13 : MOK 13 := ⟨aT_in (sg_2 (i := 183) rfl) rfl, aT_in (sg_1 (i := 2) rfl) rfl, by decide +kernel, by decide +kernel, by decide +kernel, by decide +kernel, by decide +kernel⟩
theorem mok_14 : MOK 14 := ⟨aT_in (sg_2 (i := 187) rfl) rfl, aT_in (sg_1 (i := 2) rfl) rfl, by decide +kernel, by decide +kernel, by decide +kernel, by decide +kernel, by decide +kernel⟩
theorem mok_15 : MOK 15 := ⟨aT_in (sg_2 (i := 193) rfl) rfl, aT_in (sg_1 (i := 1) rfl) rfl, by decide +kernel, by decide +kernel, by decide +kernel, by decide +kernel, by decide +kernel⟩
theorem mok_16 : MOK 16 := ⟨aT_in (sg_2 (i := 198) rfl) rfl, aT_in (sg_1 (i := 3) rfl) rfl, by decide +kernel, by decide +kernel, by decide +kernel, by decide +kernel, by decide +kernel⟩
theorem mok_17 : MOK 17 := ⟨aT_in (sg_2 (i := 202) rfl) rfl, aT_in (sg_1 (i := 1) rfl) rfl, by decide +kernel, by decide +kernel, by decide +kernel, by decide +kernel, by decide +kernel⟩
theorem mok_18 : MOK 18 := ⟨aT_in (sg_2 (i := 207) rfl) rfl, aT_in (sg_1 (i := 1) rfl) rfl, by decide +kernel, by decide +kernel, by decide +kernel, by decide +kernel, by decide +kernel⟩
theorem mok_19 : MOK 19 := ⟨aT_in (sg_2 (i := 211) rfl) rfl, aT_in (sg_1 (i := 1) rfl) rfl, by decide +kernel, by decide +kernel, by decide +kernel, by decide +kernel, by decide +kernel⟩
theorem mok_20 : MOK 20 := ⟨aT_in (sg_2 (i := 215) rfl) rfl, aT_in (sg_1 (i := 3) rfl) rfl, by decide +kernel, by decide +kernel, by decide +kernel, by decide +kernel, by decide +kernel⟩
theorem mok_21 : MOK 21 := ⟨aT_in (sg_2 (i := 220) rfl) rfl, aT_in (sg_1 (i := 1) rfl) rfl, by decide +kernel, by decide +kernel, by decide +kernel, by decide +kernel, by decide +kernel⟩
theorem mok_22 : MOK 22 := ⟨aT_in (sg_2 (i := 224) rfl) rfl, aT_in (sg_1 (i := 2) rfl) rfl, by decide +kernel, by decide +kernel, by decide +kernel, by decide +kernel, by decide +kernel⟩
theorem mok_23 : MOK 23 := ⟨aT_in (sg_2 (i := 228) rfl) rfl, aT_in (sg_1 (i := 5) rfl) rfl, by decide +kernel, by decide +kernel, by decide +kernel, by decide +kernel, by decide +kernel⟩
theorem mok_24 : MOK 24 := ⟨aT_in (sg_2 (i := 232) rfl) rfl, aT_in (sg_1 (i := 5) rfl) rfl, by decide +kernel, by decide +kernel, by decide +kernel, by decide +kernel, by decide +kernel⟩
theorem mok_25 : MOK 25 := ⟨aT_in (sg_2 (i := 236) rfl) rfl, aT_in (sg_1 (i := 2) rfl) rfl, by decide +kernel, by decide +kernel, by decide +kernel, by decide +kernel, by decide +kernel⟩
theorem mok_26 : MOK 26 := ⟨aT_in (sg_3 (i := 0) rfl) rfl, aT_in (sg_1 (i := 2) rfl) rfl, by decide +kernel, by decide +kernel, by decide +kernel, by decide +kernel, by decide +kernel⟩
theorem mok_27 : MOK 27 := ⟨aT_in (sg_3 (i := 3) rfl) rfl, aT_in (sg_1 (i := 1) rfl) rfl, by decide +kernel, by decide +kernel, by decide +kernel, by decide +kernel, by decide +kernel⟩
theorem mok_28 : MOK 28 := ⟨aT_in (sg_3 (i := 7) rfl) rfl, aT_in (sg_1 (i := 1) rfl) rfl, by decide +kernel, by decide +kernel, by decide +kernel, by decide +kernel, by decide +kernel⟩
theorem mok_29 : MOK 29 := ⟨aT_in (sg_3 (i := 11) rfl) rfl, aT_in (sg_1 (i := 4) rfl) rfl, by decide +kernel, by decide +kernel, by decide +kernel, by decide +kernel, by decide +kernel⟩
theorem mok_30 : MOK 30 := ⟨aT_in (sg_3 (i := 15) rfl) rfl, aT_in (sg_1 (i := 1) rfl) rfl, by decide +kernel, by decide +kernel, by decide +kernel, by decide +kernel, by decide +kernel⟩
theorem mok_31 : MOK 31 := ⟨aT_in (sg_3 (i := 19) rfl) rfl, aT_in (sg_1 (i := 2) rfl) rfl, by decide +kernel, by decide +kernel, by decide +kernel, by decide +kernel, by decide +kernel⟩
theorem mok_32 : MOK 32 := ⟨aT_in (sg_3 (i := 24) rfl) rfl, aT_in (sg_1 (i := 1) rfl) rfl, by decide +kernel, by decide +kernel, by decide +kernel, by decide +kernel, by decide +kernel⟩
theorem mok_33 : MOK 33 := ⟨aT_in (sg_3 (i := 28) rfl) rfl, aT_in (sg_1 (i := 2) rfl) rfl, by decide +kernel, by decide +kernel, by decide +kernel, by decide +kernel, by decide +kernel⟩
theorem mok_34 : MOK 34 := ⟨aT_in (sg_3 (i := 32) rfl) rfl, aT_in (sg_1 (i := 2) rfl) rfl, by decide +kernel, by decide +kernel, by decide +kernel, by decide +kernel, by decide +kernel⟩
theorem mok_35 : MOK 35 := ⟨aT_in (sg_3 (i := 37) rfl) rfl, aT_in (sg_1 (i := 3) rfl) rfl, by decide +kernel, by decide +kernel, by decide +kernel, by decide +kernel, by decide +kernel⟩
theorem mok_36 : MOK 36 := ⟨aT_in (sg_3 (i := 41) rfl) rfl, aT_in (sg_1 (i := 1) rfl) rfl, by decide +kernel, by decide +kernel, by decide +kernel, by decide +kernel, by decide +kernel⟩
theorem mok_37 : MOK 37 := ⟨aT_in (sg_3 (i := 45) rfl) rfl, aT_in (sg_1 (i := 2) rfl) rfl, by decide +kernel, by decide +kernel, by decide +kernel, by decide +kernel, by decide +kernel⟩
theorem mok_38 : MOK 38 := ⟨aT_in (sg_3 (i := 49) rfl) rfl, aT_in (sg_1 (i := 2) rfl) rfl, by decide +kernel, by decide +kernel, by decide +kernel, by decide +kernel, by decide +kernel⟩
theorem mok_39 : MOK 39 := ⟨aT_in (sg_3 (i := 54) rfl) rfl, aT_in (sg_1 (i := 1) rfl) rfl, by decide +kernel, by decide +kernel, by decide +kernel, by decide +kernel, by decide +kernel⟩
theorem mok_40 : MOK 40 := ⟨aT_in (sg_3 (i := 60) rfl) rfl, aT_in (sg_1 (i := 3) rfl) rfl, by decide +kernel, by decide +kernel, by decide +kernel, by decide +kernel, by decide +kernel⟩
theorem mok_41 : MOK 41 := ⟨aT_in (sg_3 (i := 64) rfl) rfl, aT_in (sg_1 (i := 2) rfl) rfl, by decide +kernel, by decide +kernel, by decide +kernel, by decide +kernel, by decide +kernel⟩
theorem mok_42 : MOK 42 := ⟨aT_in (sg_3 (i := 69) rfl) rfl, aT_in (sg_1 (i := 5) rfl) rfl, by decide +kernel, by decide +kernel, by decide +kernel, by decide +kernel, by decide +kernel⟩
theorem mok_43 : MOK 43 := ⟨aT_in (sg_3 (i := 73) rfl) rfl, aT_in (sg_1 (i := 2) rfl) rfl, by decide +kernel, by decide +kernel, by decide +kernel, by decide +kernel, by decide +kernel⟩
theorem mok_44 : MOK 44 := ⟨aT_in (sg_3 (i := 78) rfl) rfl, aT_in (sg_1 (i := 5) rfl) rfl, by decide +kernel, by decide +kernel, by decide +kernel, by decide +kernel, by decide +kernel⟩
theorem mok_45 : MOK 45 := ⟨aT_in (sg_3 (i := 81) rfl) rfl, aT_in (sg_1 (i := 1) rfl) rfl, by decide +kernel, by decide +kernel, by decide +kernel, by decide +kernel, by decide +kernel⟩
theorem mok_46 : MOK 46 := ⟨aT_in (sg_3 (i := 88) rfl) rfl, aT_in (sg_1 (i := 1) rfl) rfl, by decide +kernel, by decide +kernel, by decide +kernel, by decide +kernel, by decide +kernel⟩
theorem mok_47 : MOK 47 := ⟨aT_in (sg_3 (i := 92) rfl) rfl, aT_in (sg_1 (i := 2) rfl) rfl, by decide +kernel, by decide +kernel, by decide +kernel, by decide +kernel, by decide +kernel⟩
theorem mok_48 : MOK 48 := ⟨aT_in (sg_3 (i := 98) rfl) rfl, aT_in (sg_1 (i := 1) rfl) rfl, by decide +kernel, by decide +kernel, by decide +kernel, by decide +kernel, by decide +kernel⟩
theorem mok_49 : MOK 49 := ⟨aT_in (sg_3 (i := 102) rfl) rfl, aT_in (sg_1 (i := 1) rfl) rfl, by decide +kernel, by decide +kernel, by decide +kernel, by decide +kernel, by decide +kernel⟩
theorem mok_50 : MOK 50 := ⟨aT_in (sg_3 (i := 107) rfl) rfl, aT_in (sg_1 (i := 2) rfl) rfl, by decide +kernel, by decide +kernel, by decide +kernel, by decide +kernel, by decide +kernel⟩
theorem mok_51 : MOK 51 := ⟨aT_in (sg_3 (i := 111) rfl) rfl, aT_in (sg_1 (i := 2) rfl) rfl, by decide +kernel, by decide +kernel, by decide +kernel, by decide +kernel, by decide +kernel⟩
theorem mok_52 : MOK 52 := ⟨aT_in (sg_3 (i := 116) rfl) rfl, aT_in (sg_1 (i := 2) rfl) rfl, by decide +kernel, by decide +kernel, by decide +kernel, by decide +kernel, by decide +kernel⟩
theorem mok_53 : MOK 53 := ⟨aT_in (sg_3 (i := 120) rfl) rfl, aT_in (sg_1 (i := 1) rfl) rfl, by decide +kernel, by decide +kernel, by decide +kernel, by decide +kernel, by decide +kernel⟩
theorem mok_54 : MOK 54 := ⟨aT_in (sg_3 (i := 125) rfl) rfl, aT_in (sg_1 (i := 1) rfl) rfl, by decide +kernel, by decide +kernel, by decide +kernel, by decide +kernel, by decide +kernel⟩
theorem mok_55 : MOK 55 := ⟨aT_in (sg_3 (i := 129) rfl) rfl, aT_in (sg_1 (i := 1) rfl) rfl, by decide +kernel, by decide +kernel, by decide +kernel, by decide +kernel, by decide +kernel⟩
theorem mok_56 : MOK 56 := ⟨aT_in (sg_3 (i := 132) rfl) rfl, aT_in (sg_1 (i := 1) rfl) rfl, by decide +kernel, by decide +kernel, by decide +kernel, by decide +kernel, by decide +kernel⟩
theorem mok_57 : MOK 57 := ⟨aT_in (sg_3 (i := 136) rfl) rfl, aT_in (sg_1 (i := 1) rfl) rfl, by decide +kernel, by decide +kernel, by decide +kernel, by decide +kernel, by decide +kernel⟩
theorem mok_58 : MOK 58 := ⟨aT_in (sg_3 (i := 139) rfl) rfl, aT_in (sg_1 (i := 1) rfl) rfl, by decide +kernel, by decide +kernel, by decide +kernel, by decide +kernel, by decide +kernel⟩
theorem mok_59 : MOK 59 := ⟨aT_in (sg_3 (i := 143) rfl) rfl, aT_in (sg_1 (i := 2) rfl) rfl, by decide +kernel, by decide +kernel, by decide +kernel, by decide +kernel, by decide +kernel⟩
theorem mok_60 : MOK 60 := ⟨aT_in (sg_3 (i := 147) rfl) rfl, aT_in (sg_1 (i := 2) rfl) rfl, by decide +kernel, by decide +kernel, by decide +kernel, by decide +kernel, by decide +kernel⟩
theorem mok_61 : MOK 61 := ⟨aT_in (sg_3 (i := 151) rfl) rfl, aT_in (sg_1 (i := 1) rfl) rfl, by decide +kernel, by decide +kernel, by decide +kernel, by decide +kernel, by decide +kernel⟩
theorem mok_62 : MOK 62 := ⟨aT_in (sg_3 (i := 155) rfl) rfl, aT_in (sg_1 (i := 9) rfl) rfl, by decide +kernel, by decide +kernel, by decide +kernel, by decide +kernel, by decide +kernel⟩
theorem mok_63 : MOK 63 := ⟨aT_in (sg_3 (i := 159) rfl) rfl, aT_in (sg_1 (i := 1) rfl) rfl, by decide +kernel, by decide +kernel, by decide +kernel, by decide +kernel, by decide +kernel⟩
theorem mok_64 : MOK 64 := ⟨aT_in (sg_3 (i := 163) rfl) rfl, aT_in (sg_1 (i := 9) rfl) rfl, by decide +kernel, by decide +kernel, by decide +kernel, by decide +kernel, by decide +kernel⟩
theorem mok_65 : MOK 65 := ⟨aT_in (sg_3 (i := 167) rfl) rfl, aT_in (sg_1 (i := 9) rfl) rfl, by decide +kernel, by decide +kernel, by decide +kernel, by decide +kernel, by decide +kernel⟩
theorem mok_66 : MOK 66 := ⟨aT_in (sg_3 (i := 171) rfl) rfl, aT_in (sg_1 (i := 9) rfl) rfl, by decide +kernel, by decide +kernel, by decide +kernel, by decide +kernel, by decide +kernel⟩
theorem mok_67 : MOK 67 := ⟨aT_in (sg_3 (i := 175) rfl) rfl, aT_in (sg_1 (i := 9) rfl) rfl, by decide +kernel, by decide +kernel, by decide +kernel, by decide +kernel, by decide +kernel⟩
theorem mok_68 : MOK 68 := ⟨aT_in (sg_3 (i := 180) rfl) rfl, aT_in (sg_1 (i := 9) rfl) rfl, by decide +kernel, by decide +kernel, by decide +kernel, by decide +kernel, by decide +kernel⟩
theorem mok_69 : MOK 69 := ⟨aT_in (sg_3 (i := 184) rfl) rfl, aT_in (sg_1 (i := 9) rfl) rfl, by decide +kernel, by decide +kernel, by decide +kernel, by decide +kernel, by decide +kernel⟩
theorem mok_70 : MOK 70 := ⟨aT_in (sg_3 (i := 188) rfl) rfl, aT_in (sg_1 (i := 9) rfl) rfl, by decide +kernel, by decide +kernel, by decide +kernel, by decide +kernel, by decide +kernel⟩
theorem mok_71 : MOK 71 := ⟨aT_in (sg_3 (i := 193) rfl) rfl, aT_in (sg_1 (i := 14) rfl) rfl, by decide +kernel, by decide +kernel, by decide +kernel, by decide +kernel, by decide +kernel⟩
theorem mok_72 : MOK 72 := ⟨aT_in (sg_3 (i := 197) rfl) rfl, aT_in (sg_1 (i := 14) rfl) rfl, by decide +kernel, by decide +kernel, by decide +kernel, by decide +kernel, by decide +kernel⟩
theorem mok_73 : MOK 73 := ⟨aT_in (sg_3 (i := 203) rfl) rfl, aT_in (sg_1 (i := 14) rfl) rfl, by decide +kernel, by decide +kernel, by decide +kernel, by decide +kernel, by decide +kernel⟩
theorem mok_74 : MOK 74 := ⟨aT_in (sg_3 (i := 207) rfl) rfl, aT_in (sg_1 (i := 14) rfl) rfl, by decide +kernel, by decide +kernel, by decide +kernel, by decide +kernel, by decide +kernel⟩
theorem mok_75 : MOK 75 := ⟨aT_in (sg_3 (i := 210) rfl) rfl, aT_in (sg_1 (i := 15) rfl) rfl, by decide +kernel, by decide +kernel, by decide +kernel, by decide +kernel, by decide +kernel⟩
theorem mok_76 : MOK 76 := ⟨aT_in (sg_3 (i := 213) rfl) rfl, aT_in (sg_1 (i := 14) rfl) rfl, by decide +kernel, by decide +kernel, by decide +kernel, by decide +kernel, by decide +kernel⟩
theorem mok_77 : MOK 77 := ⟨aT_in (sg_3 (i := 218) rfl) rfl, aT_in (sg_1 (i := 16) rfl) rfl, by decide +kernel, by decide +kernel, by decide +kernel, by decide +kernel, by decide +kernel⟩
theorem mok_78 : MOK 78 := ⟨aT_in (sg_3 (i := 221) rfl) rfl, aT_in (sg_1 (i := 17) rfl) rfl, by decide +kernel, by decide +kernel, by decide +kernel, by decide +kernel, by decide +kernel⟩
theorem mok_79 : MOK 79 := ⟨aT_in (sg_3 (i := 224) rfl) rfl, aT_in (sg_1 (i := 17) rfl) rfl, by decide +kernel, by decide +kernel, by decide +kernel, by decide +kernel, by decide +kernel⟩
theorem mok_80 : MOK 80 := ⟨aT_in (sg_3 (i := 227) rfl) rfl, aT_in (sg_1 (i := 17) rfl) rfl, by decide +kernel, by decide +kernel, by decide +kernel, by decide +kernel, by decide +kernel⟩
theorem mok_81 : MOK 81 := ⟨aT_in (sg_3 (i := 231) rfl) rfl, aT_in (sg_1 (i := 17) rfl) rfl, by decide +kernel, by decide +kernel, by decide +kernel, by decide +kernel, by decide +kernel⟩
theorem mok_82 : MOK 82 := ⟨aT_in (sg_4 (i := 1) rfl) rfl, aT_in (sg_1 (i := 9) rfl) rfl, by decide +kernel, by decide +kernel, by decide +kernel, by decide +kernel, by decide +kernel⟩
theorem mok_83 : MOK 83 := ⟨aT_in (sg_4 (i := 6) rfl) rfl, aT_in (sg_1 (i := 14) rfl) rfl, by decide +kernel, by decide +kernel, by decide +kernel, by decide +kernel, by decide +kernel⟩
theorem mok_84 : MOK 84 := ⟨aT_in (sg_4 (i := 10) rfl) rfl, aT_in (sg_1 (i := 14) rfl) rfl, by decide +kernel, by decide +kernel, by decide +kernel, by decide +kernel, by decide +kernel⟩
theorem mok_85 : MOK 85 := ⟨aT_in (sg_4 (i := 14) rfl) rfl, aT_in (sg_1 (i := 15) rfl) rfl, by decide +kernel, by decide +kernel, by decide +kernel, by decide +kernel, by decide +kernel⟩
theorem mok_86 : MOK 86 := ⟨aT_in (sg_4 (i := 17) rfl) rfl, aT_in (sg_1 (i := 15) rfl) rfl, by decide +kernel, by decide +kernel, by decide +kernel, by decide +kernel, by decide +kernel⟩
theorem mok_87 : MOK 87 := ⟨aT_in (sg_4 (i := 24) rfl) rfl, aT_in (sg_1 (i := 15) rfl) rfl, by decide +kernel, by decide +kernel, by decide +kernel, by decide +kernel, by decide +kernel⟩
theorem mok_88 : MOK 88 := ⟨aT_in (sg_4 (i := 27) rfl) rfl, aT_in (sg_1 (i := 17) rfl) rfl, by decide +kernel, by decide +kernel, by decide +kernel, by decide +kernel, by decide +kernel⟩
theorem mok_89 : MOK 89 := ⟨aT_in (sg_4 (i := 33) rfl) rfl, aT_in (sg_1 (i := 17) rfl) rfl, by decide +kernel, by decide +kernel, by decide +kernel, by decide +kernel, by decide +kernel⟩
theorem mok_90 : MOK 90 := ⟨aT_in (sg_4 (i := 36) rfl) rfl, aT_in (sg_1 (i := 17) rfl) rfl, by decide +kernel, by decide +kernel, by decide +kernel, by decide +kernel, by decide +kernel⟩
theorem mok_91 : MOK 91 := ⟨aT_in (sg_4 (i := 39) rfl) rfl, aT_in (sg_1 (i := 14) rfl) rfl, by decide +kernel, by decide +kernel, by decide +kernel, by decide +kernel, by decide +kernel⟩
theorem mok_92 : MOK 92 := ⟨aT_in (sg_4 (i := 42) rfl) rfl, aT_in (sg_1 (i := 16) rfl) rfl, by decide +kernel, by decide +kernel, by decide +kernel, by decide +kernel, by decide +kernel⟩
theorem mok_93 : MOK 93 := ⟨aT_in (sg_4 (i := 45) rfl) rfl, aT_in (sg_1 (i := 17) rfl) rfl, by decide +kernel, by decide +kernel, by decide +kernel, by decide +kernel, by decide +kernel⟩
theorem mok_94 : MOK 94 := ⟨aT_in (sg_4 (i := 48) rfl) rfl, aT_in (sg_1 (i := 17) rfl) rfl, by decide +kernel, by decide +kernel, by decide +kernel, by decide +kernel, by decide +kernel⟩
theorem mok_95 : MOK 95 := ⟨aT_in (sg_4 (i := 51) rfl) rfl, aT_in (sg_1 (i := 18) rfl) rfl, by decide +kernel, by decide +kernel, by decide +kernel, by decide +kernel, by decide +kernel⟩
theorem mok_96 : MOK 96 := ⟨aT_in (sg_4 (i := 54) rfl) rfl, aT_in (sg_1 (i := 18) rfl) rfl, by decide +kernel, by decide +kernel, by decide +kernel, by decide +kernel, by decide +kernel⟩
theorem mok_97 : MOK 97 := ⟨aT_in (sg_4 (i := 58) rfl) rfl, aT_in (sg_1 (i := 18) rfl) rfl, by decide +kernel, by decide +kernel, by decide +kernel, by decide +kernel, by decide +kernel⟩
theorem mok_98 : MOK 98 := ⟨aT_in (sg_4 (i := 63) rfl) rfl, aT_in (sg_1 (i := 9) rfl) rfl, by decide +kernel, by decide +kernel, by decide +kernel, by decide +kernel, by decide +kernel⟩
theorem mok_99 : MOK 99 := ⟨aT_in (sg_4 (i := 67) rfl) rfl, aT_in (sg_1 (i := 9) rfl) rfl, by decide +kernel, by decide +kernel, by decide +kernel, by decide +kernel, by decide +kernel⟩
theorem mok_100 : MOK 100 := ⟨aT_in (sg_4 (i := 71) rfl) rfl, aT_in (sg_1 (i := 9) rfl) rfl, by decide +kernel, by decide +kernel, by decide +kernel, by decide +kernel, by decide +kernel⟩
theorem mok_101 : MOK 101 := ⟨aT_in (sg_4 (i := 75) rfl) rfl, aT_in (sg_1 (i := 9) rfl) rfl, by decide +kernel, by decide +kernel, by decide +kernel, by decide +kernel, by decide +kernel⟩
theorem mok_102 : MOK 102 := ⟨aT_in (sg_4 (i := 79) rfl) rfl, aT_in (sg_1 (i := 9) rfl) rfl, by decide +kernel, by decide +kernel, by decide +kernel, by decide +kernel, by decide +kernel⟩
theorem mok_103 : MOK 103 := ⟨aT_in (sg_4 (i := 83) rfl) rfl, aT_in (sg_1 (i := 9) rfl) rfl, by decide +kernel, by decide +kernel, by decide +kernel, by decide +kernel, by decide +kernel⟩
theorem mok_104 : MOK 104 := ⟨aT_in (sg_4 (i := 87) rfl) rfl, aT_in (sg_1 (i := 9) rfl) rfl, by decide +kernel, by decide +kernel, by decide +kernel, by decide +kernel, by decide +kernel⟩
theorem mok_105 : MOK 105 := ⟨aT_in (sg_4 (i := 91) rfl) rfl, aT_in (sg_1 (i := 9) rfl) rfl, by decide +kernel, by decide +kernel, by decide +kernel, by decide +kernel, by decide +kernel⟩
theorem mok_106 : MOK 106 := ⟨aT_in (sg_4 (i := 96) rfl) rfl, aT_in (sg_1 (i := 20) rfl) rfl, by decide +kernel, by decide +kernel, by decide +kernel, by decide +kernel, by decide +kernel⟩
theorem mok_107 : MOK 107 := ⟨aT_in (sg_4 (i := 110) rfl) rfl, aT_in (sg_1 (i := 19) rfl) rfl, by decide +kernel, by decide +kernel, by decide +kernel, by decide +kernel, by decide +kernel⟩
theorem mok_108 : MOK 108 := ⟨aT_in (sg_4 (i := 127) rfl) rfl, aT_in (sg_1 (i := 1) rfl) rfl, by decide +kernel, by decide +kernel, by decide +kernel, by decide +kernel, by decide +kernel⟩
theorem mok_109 : MOK 109 := ⟨aT_in (sg_4 (i := 131) rfl) rfl, aT_in (sg_1 (i := 6) rfl) rfl, by decide +kernel, by decide +kernel, by decide +kernel, by decide +kernel, by decide +kernel⟩
theorem mok_110 : MOK 110 := ⟨aT_in (sg_4 (i := 135) rfl) rfl, aT_in (sg_1 (i := 1) rfl) rfl, by decide +kernel, by decide +kernel, by decide +kernel, by decide +kernel, by decide +kernel⟩
theorem mok_111 : MOK 111 := ⟨aT_in (sg_4 (i := 139) rfl) rfl, aT_in (sg_1 (i := 2) rfl) rfl, by decide +kernel, by decide +kernel, by decide +kernel, by decide +kernel, by decide +kernel⟩
theorem mok_112 : MOK 112 := ⟨aT_in (sg_4 (i := 143) rfl) rfl, aT_in (sg_1 (i := 1) rfl) rfl, by decide +kernel, by decide +kernel, by decide +kernel, by decide +kernel, by decide +kernel⟩
theorem mok_113 : MOK 113 := ⟨aT_in (sg_4 (i := 147) rfl) rfl, aT_in (sg_1 (i := 1) rfl) rfl, by decide +kernel, by decide +kernel, by decide +kernel, by decide +kernel, by decide +kernel⟩
theorem mok_114 : MOK 114 := ⟨aT_in (sg_4 (i := 151) rfl) rfl, aT_in (sg_1 (i := 7) rfl) rfl, by decide +kernel, by decide +kernel, by decide +kernel, by decide +kernel, by decide +kernel⟩
theorem mok_115 : MOK 115 := ⟨aT_in (sg_4 (i := 155) rfl) rfl, aT_in (sg_1 (i := 7) rfl) rfl, by decide +kernel, by decide +kernel, by decide +kernel, by decide +kernel, by decide +kernel⟩
theorem mok_116 : MOK 116 := ⟨aT_in (sg_4 (i := 158) rfl) rfl, aT_in (sg_1 (i := 20) rfl) rfl, by decide +kernel, by decide +kernel, by decide +kernel, by decide +kernel, by decide +kernel⟩
theorem mok_117 : MOK 117 := ⟨aT_in (sg_4 (i := 163) rfl) rfl, aT_in (sg_1 (i := 7) rfl) rfl, by decide +kernel, by decide +kernel, by decide +kernel, by decide +kernel, by decide +kernel⟩
theorem mok_118 : MOK 118 := ⟨aT_in (sg_4 (i := 170) rfl) rfl, aT_in (sg_1 (i := 7) rfl) rfl, by decide +kernel, by decide +kernel, by decide +kernel, by decide +kernel, by decide +kernel⟩
theorem mok_119 : MOK 119 := ⟨aT_in (sg_4 (i := 174) rfl) rfl, aT_in (sg_1 (i := 7) rfl) rfl, by decide +kernel, by decide +kernel, by decide +kernel, by decide +kernel, by decide +kernel⟩
theorem mok_120 : MOK 120 := ⟨aT_in (sg_4 (i := 179) rfl) rfl, aT_in (sg_1 (i := 19) rfl) rfl, by decide +kernel, by decide +kernel, by decide +kernel, by decide +kernel, by decide +kernel⟩
theorem mok_121 : MOK 121 := ⟨aT_in (sg_4 (i := 184) rfl) rfl, aT_in (sg_1 (i := 19) rfl) rfl, by decide +kernel, by decide +kernel, by decide +kernel, by decide +kernel, by decide +kernel⟩
theorem mok_122 : MOK 122 := ⟨aT_in (sg_4 (i := 188) rfl) rfl, aT_in (sg_1 (i := 7) rfl) rfl, by decide +kernel, by decide +kernel, by decide +kernel, by decide +kernel, by decide +kernel⟩
theorem mok_123 : MOK 123 := ⟨aT_in (sg_4 (i := 192) rfl) rfl, aT_in (sg_1 (i := 7) rfl) rfl, by decide +kernel, by decide +kernel, by decide +kernel, by decide +kernel, by decide +kernel⟩
theorem mok_124 : MOK 124 := ⟨aT_in (sg_4 (i := 196) rfl) rfl, aT_in (sg_1 (i := 1) rfl) rfl, by decide +kernel, by decide +kernel, by decide +kernel, by decide +kernel, by decide +kernel⟩
theorem mok_125 : MOK 125 := ⟨aT_in (sg_4 (i := 200) rfl) rfl, aT_in (sg_1 (i := 1) rfl) rfl, by decide +kernel, by decide +kernel, by decide +kernel, by decide +kernel, by decide +kernel⟩
theorem mok_126 : MOK 126 := ⟨aT_in (sg_4 (i := 204) rfl) rfl, aT_in (sg_1 (i := 7) rfl) rfl, by decide +kernel, by decide +kernel, by decide +kernel, by decide +kernel, by decide +kernel⟩
theorem mok_127 : MOK 127 := ⟨aT_in (sg_4 (i := 209) rfl) rfl, aT_in (sg_1 (i := 1) rfl) rfl, by decide +kernel, by decide +kernel, by decide +kernel, by decide +kernel, by decide +kernel⟩
theorem mok_128 : MOK 128 := ⟨aT_in (sg_4 (i := 213) rfl) rfl, aT_in (sg_1 (i := 7) rfl) rfl, by decide +kernel, by decide +kernel, by decide +kernel, by decide +kernel, by decide +kernel⟩
theorem mok_129 : MOK 129 := ⟨aT_in (sg_4 (i := 217) rfl) rfl, aT_in (sg_1 (i := 1) rfl) rfl, by decide +kernel, by decide +kernel, by decide +kernel, by decide +kernel, by decide +kernel⟩
theorem mok_130 : MOK 130 := ⟨aT_in (sg_4 (i := 221) rfl) rfl, aT_in (sg_1 (i := 1) rfl) rfl, by decide +kernel, by decide +kernel, by decide +kernel, by decide +kernel, by decide +kernel⟩
theorem mok_131 : MOK 131 := ⟨aT_in (sg_4 (i := 224) rfl) rfl, aT_in (sg_1 (i := 1) rfl) rfl, by decide +kernel, by decide +kernel, by decide +kernel, by decide +kernel, by decide +kernel⟩
theorem mok_132 : MOK 132 := ⟨aT_in (sg_4 (i := 228) rfl) rfl, aT_in (sg_1 (i := 8) rfl) rfl, by decide +kernel, by decide +kernel, by decide +kernel, by decide +kernel, by decide +kernel⟩
theorem mok_133 : MOK 133 := ⟨aT_in (sg_4 (i := 234) rfl) rfl, aT_in (sg_1 (i := 8) rfl) rfl, by decide +kernel, by decide +kernel, by decide +kernel, by decide +kernel, by decide +kernel⟩
theorem mok_134 : MOK 134 := ⟨aT_in (sg_4 (i := 239) rfl) rfl, aT_in (sg_1 (i := 8) rfl) rfl, by decide +kernel, by decide +kernel, by decide +kernel, by decide +kernel, by decide +kernel⟩
theorem mok_135 : MOK 135 := ⟨aT_in (sg_5 (i := 3) rfl) rfl, aT_in (sg_1 (i := 8) rfl) rfl, by decide +kernel, by decide +kernel, by decide +kernel, by decide +kernel, by decide +kernel⟩
theorem mok_136 : MOK 136 := ⟨aT_in (sg_5 (i := 12) rfl) rfl, aT_in (sg_1 (i := 8) rfl) rfl, by decide +kernel, by decide +kernel, by decide +kernel, by decide +kernel, by decide +kernel⟩
theorem mok_137 : MOK 137 := ⟨aT_in (sg_5 (i := 21) rfl) rfl, aT_in (sg_1 (i := 8) rfl) rfl, by decide +kernel, by decide +kernel, by decide +kernel, by decide +kernel, by decide +kernel⟩
theorem mok_138 : MOK 138 := ⟨aT_in (sg_5 (i := 27) rfl) rfl, aT_in (sg_1 (i := 1) rfl) rfl, by decide +kernel, by decide +kernel, by decide +kernel, by decide +kernel, by decide +kernel⟩
theorem mok_139 : MOK 139 := ⟨aT_in (sg_5 (i := 31) rfl) rfl, aT_in (sg_1 (i := 1) rfl) rfl, by decide +kernel, by decide +kernel, by decide +kernel, by decide +kernel, by decide +kernel⟩
theorem mok_140 : MOK 140 := ⟨aT_in (sg_5 (i := 34) rfl) rfl, aT_in (sg_1 (i := 1) rfl) rfl, by decide +kernel, by decide +kernel, by decide +kernel, by decide +kernel, by decide +kernel⟩
theorem mok_141 : MOK 141 := ⟨aT_in (sg_5 (i := 38) rfl) rfl, aT_in (sg_1 (i := 11) rfl) rfl, by decide +kernel, by decide +kernel, by decide +kernel, by decide +kernel, by decide +kernel⟩
theorem mok_142 : MOK 142 := ⟨aT_in (sg_5 (i := 42) rfl) rfl, aT_in (sg_1 (i := 1) rfl) rfl, by decide +kernel, by decide +kernel, by decide +kernel, by decide +kernel, by decide +kernel⟩
theorem mok_143 : MOK 143 := ⟨aT_in (sg_5 (i := 46) rfl) rfl, aT_in (sg_1 (i := 2) rfl) rfl, by decide +kernel, by decide +kernel, by decide +kernel, by decide +kernel, by decide +kernel⟩
theorem mok_144 : MOK 144 := ⟨aT_in (sg_5 (i := 50) rfl) rfl, aT_in (sg_1 (i := 2) rfl) rfl, by decide +kernel, by decide +kernel, by decide +kernel, by decide +kernel, by decide +kernel⟩
theorem mok_145 : MOK 145 := ⟨aT_in (sg_5 (i := 54) rfl) rfl, aT_in (sg_1 (i := 1) rfl) rfl, by decide +kernel, by decide +kernel, by decide +kernel, by decide +kernel, by decide +kernel⟩
theorem mok_146 : MOK 146 := ⟨aT_in (sg_5 (i := 57) rfl) rfl, aT_in (sg_1 (i := 1) rfl) rfl, by decide +kernel, by decide +kernel, by decide +kernel, by decide +kernel, by decide +kernel⟩
theorem mok_147 : MOK 147 := ⟨aT_in (sg_5 (i := 60) rfl) rfl, aT_in (sg_1 (i := 1) rfl) rfl, by decide +kernel, by decide +kernel, by decide +kernel, by decide +kernel, by decide +kernel⟩
theorem mok_148 : MOK 148 := ⟨aT_in (sg_5 (i := 64) rfl) rfl, aT_in (sg_1 (i := 10) rfl) rfl, by decide +kernel, by decide +kernel, by decide +kernel, by decide +kernel, by decide +kernel⟩
theorem mok_149 : MOK 149 := ⟨aT_in (sg_5 (i := 67) rfl) rfl, aT_in (sg_1 (i := 20) rfl) rfl, by decide +kernel, by decide +kernel, by decide +kernel, by decide +kernel, by decide +kernel⟩
theorem mok_150 : MOK 150 := ⟨aT_in (sg_5 (i := 71) rfl) rfl, aT_in (sg_1 (i := 10) rfl) rfl, by decide +kernel, by decide +kernel, by decide +kernel, by decide +kernel, by decide +kernel⟩
theorem mok_151 : MOK 151 := ⟨aT_in (sg_5 (i := 76) rfl) rfl, aT_in (sg_1 (i := 10) rfl) rfl, by decide +kernel, by decide +kernel, by decide +kernel, by decide +kernel, by decide +kernel⟩
theorem mok_152 : MOK 152 := ⟨aT_in (sg_5 (i := 79) rfl) rfl, aT_in (sg_1 (i := 10) rfl) rfl, by decide +kernel, by decide +kernel, by decide +kernel, by decide +kernel, by decide +kernel⟩
theorem mok_153 : MOK 153 := ⟨aT_in (sg_5 (i := 84) rfl) rfl, aT_in (sg_1 (i := 10) rfl) rfl, by decide +kernel, by decide +kernel, by decide +kernel, by decide +kernel, by decide +kernel⟩
theorem mok_154 : MOK 154 := ⟨aT_in (sg_5 (i := 87) rfl) rfl, aT_in (sg_1 (i := 10) rfl) rfl, by decide +kernel, by decide +kernel, by decide +kernel, by decide +kernel, by decide +kernel⟩
theorem mok_155 : MOK 155 := ⟨aT_in (sg_5 (i := 91) rfl) rfl, aT_in (sg_1 (i := 10) rfl) rfl, by decide +kernel, by decide +kernel, by decide +kernel, by decide +kernel, by decide +kernel⟩
theorem mok_156 : MOK 156 := ⟨aT_in (sg_5 (i := 96) rfl) rfl, aT_in (sg_1 (i := 1) rfl) rfl, by decide +kernel, by decide +kernel, by decide +kernel, by decide +kernel, by decide +kernel⟩
theorem mok_157 : MOK 157 := ⟨aT_in (sg_5 (i := 100) rfl) rfl, aT_in (sg_1 (i := 10) rfl) rfl, by decide +kernel, by decide +kernel, by decide +kernel, by decide +kernel, by decide +kernel⟩
theorem mok_158 : MOK 158 := ⟨aT_in (sg_5 (i := 104) rfl) rfl, aT_in (sg_1 (i := 1) rfl) rfl, by decide +kernel, by decide +kernel, by decide +kernel, by decide +kernel, by decide +kernel⟩
theorem mok_159 : MOK 159 := ⟨aT_in (sg_5 (i := 108) rfl) rfl, aT_in (sg_1 (i := 10) rfl) rfl, by decide +kernel, by decide +kernel, by decide +kernel, by decide +kernel, by decide +kernel⟩
theorem mok_160 : MOK 160 := ⟨aT_in (sg_5 (i := 113) rfl) rfl, aT_in (sg_1 (i := 1) rfl) rfl, by decide +kernel, by decide +kernel, by decide +kernel, by decide +kernel, by decide +kernel⟩
theorem mok_161 : MOK 161 := ⟨aT_in (sg_5 (i := 117) rfl) rfl, aT_in (sg_1 (i := 11) rfl) rfl, by decide +kernel, by decide +kernel, by decide +kernel, by decide +kernel, by decide +kernel⟩
theorem mok_162 : MOK 162 := ⟨aT_in (sg_5 (i := 122) rfl) rfl, aT_in (sg_1 (i := 1) rfl) rfl, by decide +kernel, by decide +kernel, by decide +kernel, by decide +kernel, by decide +kernel⟩
theorem mok_163 : MOK 163 := ⟨aT_in (sg_5 (i := 126) rfl) rfl, aT_in (sg_1 (i := 11) rfl) rfl, by decide +kernel, by decide +kernel, by decide +kernel, by decide +kernel, by decide +kernel⟩
theorem mok_164 : MOK 164 := ⟨aT_in (sg_5 (i := 130) rfl) rfl, aT_in (sg_1 (i := 1) rfl) rfl, by decide +kernel, by decide +kernel, by decide +kernel, by decide +kernel, by decide +kernel⟩
theorem mok_165 : MOK 165 := ⟨aT_in (sg_5 (i := 134) rfl) rfl, aT_in (sg_1 (i := 11) rfl) rfl, by decide +kernel, by decide +kernel, by decide +kernel, by decide +kernel, by decide +kernel⟩
theorem mok_166 : MOK 166 := ⟨aT_in (sg_5 (i := 139) rfl) rfl, aT_in (sg_1 (i := 1) rfl) rfl, by decide +kernel, by decide +kernel, by decide +kernel, by decide +kernel, by decide +kernel⟩
theorem mok_167 : MOK 167 := ⟨aT_in (sg_5 (i := 143) rfl) rfl, aT_in (sg_1 (i := 2) rfl) rfl, by decide +kernel, by decide +kernel, by decide +kernel, by decide +kernel, by decide +kernel⟩
theorem mok_168 : MOK 168 := ⟨aT_in (sg_5 (i := 148) rfl) rfl, aT_in (sg_1 (i := 3) rfl) rfl, by decide +kernel, by decide +kernel, by decide +kernel, by decide +kernel, by decide +kernel⟩
theorem mok_169 : MOK 169 := ⟨aT_in (sg_5 (i := 153) rfl) rfl, aT_in (sg_1 (i := 4) rfl) rfl, by decide +kernel, by decide +kernel, by decide +kernel, by decide +kernel, by decide +kernel⟩
theorem mok_170 : MOK 170 := ⟨aT_in (sg_5 (i := 158) rfl) rfl, aT_in (sg_1 (i := 5) rfl) rfl, by decide +kernel, by decide +kernel, by decide +kernel, by decide +kernel, by decide +kernel⟩
theorem mok_171 : MOK 171 := ⟨aT_in (sg_5 (i := 164) rfl) rfl, aT_in (sg_1 (i := 1) rfl) rfl, by decide +kernel, by decide +kernel, by decide +kernel, by decide +kernel, by decide +kernel⟩
theorem mok_172 : MOK 172 := ⟨aT_in (sg_5 (i := 168) rfl) rfl, aT_in (sg_1 (i := 1) rfl) rfl, by decide +kernel, by decide +kernel, by decide +kernel, by decide +kernel, by decide +kernel⟩
theorem mok_173 : MOK 173 := ⟨aT_in (sg_5 (i := 172) rfl) rfl, aT_in (sg_1 (i := 2) rfl) rfl, by decide +kernel, by decide +kernel, by decide +kernel, by decide +kernel, by decide +kernel⟩
theorem mok_174 : MOK 174 := ⟨aT_in (sg_5 (i := 176) rfl) rfl, aT_in (sg_1 (i := 2) rfl) rfl, by decide +kernel, by decide +kernel, by decide +kernel, by decide +kernel, by decide +kernel⟩
theorem mok_175 : MOK 175 := ⟨aT_in (sg_5 (i := 180) rfl) rfl, aT_in (sg_1 (i := 2) rfl) rfl, by decide +kernel, by decide +kernel, by decide +kernel, by decide +kernel, by decide +kernel⟩
theorem mok_176 : MOK 176 := ⟨aT_in (sg_5 (i := 185) rfl) rfl, aT_in (sg_1 (i := 12) rfl) rfl, by decide +kernel, by decide +kernel, by decide +kernel, by decide +kernel, by decide +kernel⟩
theorem mok_177 : MOK 177 := ⟨aT_in (sg_6 (i := 32) rfl) rfl, aT_in (sg_1 (i := 12) rfl) rfl, by decide +kernel, by decide +kernel, by decide +kernel, by decide +kernel, by decide +kernel⟩
theorem mok_178 : MOK 178 := ⟨aT_in (sg_6 (i := 35) rfl) rfl, aT_in (sg_1 (i := 12) rfl) rfl, by decide +kernel, by decide +kernel, by decide +kernel, by decide +kernel, by decide +kernel⟩
theorem mok_179 : MOK 179 := ⟨aT_in (sg_6 (i := 40) rfl) rfl, aT_in (sg_1 (i := 12) rfl) rfl, by decide +kernel, by decide +kernel, by decide +kernel, by decide +kernel, by decide +kernel⟩
theorem mok_180 : MOK 180 := ⟨aT_in (sg_6 (i := 45) rfl) rfl, aT_in (sg_1 (i := 12) rfl) rfl, by decide +kernel, by decide +kernel, by decide +kernel, by decide +kernel, by decide +kernel⟩
theorem mok_181 : MOK 181 := ⟨aT_in (sg_6 (i := 49) rfl) rfl, aT_in (sg_1 (i := 12) rfl) rfl, by decide +kernel, by decide +kernel, by decide +kernel, by decide +kernel, by decide +kernel⟩
theorem mok_182 : MOK 182 := ⟨aT_in (sg_6 (i := 53) rfl) rfl, aT_in (sg_1 (i := 12) rfl) rfl, by decide +kernel, by decide +kernel, by decide +kernel, by decide +kernel, by decide +kernel⟩
theorem mok_183 : MOK 183 := ⟨aT_in (sg_6 (i := 57) rfl) rfl, aT_in (sg_1 (i := 12) rfl) rfl, by decide +kernel, by decide +kernel, by decide +kernel, by decide +kernel, by decide +kernel⟩
theorem mok_184 : MOK 184 := ⟨aT_in (sg_6 (i := 61) rfl) rfl, aT_in (sg_1 (i := 12) rfl) rfl, by decide +kernel, by decide +kernel, by decide +kernel, by decide +kernel, by decide +kernel⟩
theorem mok_185 : MOK 185 := ⟨aT_in (sg_6 (i := 65) rfl) rfl, aT_in (sg_1 (i := 12) rfl) rfl, by decide +kernel, by decide +kernel, by decide +kernel, by decide +kernel, by decide +kernel⟩
theorem mok_186 : MOK 186 := ⟨aT_in (sg_6 (i := 69) rfl) rfl, aT_in (sg_1 (i := 12) rfl) rfl, by decide +kernel, by decide +kernel, by decide +kernel, by decide +kernel, by decide +kernel⟩
theorem mok_187 : MOK 187 := ⟨aT_in (sg_6 (i := 74) rfl) rfl, aT_in (sg_1 (i := 12) rfl) rfl, by decide +kernel, by decide +kernel, by decide +kernel, by decide +kernel, by decide +kernel⟩
theorem mok_188 : MOK 188 := ⟨aT_in (sg_6 (i := 78) rfl) rfl, aT_in (sg_1 (i := 12) rfl) rfl, by decide +kernel, by decide +kernel, by decide +kernel, by decide +kernel, by decide +kernel⟩
theorem mok_189 : MOK 189 := ⟨aT_in (sg_6 (i := 82) rfl) rfl, aT_in (sg_1 (i := 12) rfl) rfl, by decide +kernel, by decide +kernel, by decide +kernel, by decide +kernel, by decide +kernel⟩
theorem mok_190 : MOK 190 := ⟨aT_in (sg_6 (i := 86) rfl) rfl, aT_in (sg_1 (i := 12) rfl) rfl, by decide +kernel, by decide +kernel, by decide +kernel, by decide +kernel, by decide +kernel⟩
theorem mok_191 : MOK 191 := ⟨aT_in (sg_6 (i := 90) rfl) rfl, aT_in (sg_1 (i := 12) rfl) rfl, by decide +kernel, by decide +kernel, by decide +kernel, by decide +kernel, by decide +kernel⟩
theorem mok_192 : MOK 192 := ⟨aT_in (sg_6 (i := 94) rfl) rfl, aT_in (sg_1 (i := 12) rfl) rfl, by decide +kernel, by decide +kernel, by decide +kernel, by decide +kernel, by decide +kernel⟩
theorem mok_193 : MOK 193 := ⟨aT_in (sg_6 (i := 98) rfl) rfl, aT_in (sg_1 (i := 12) rfl) rfl, by decide +kernel, by decide +kernel, by decide +kernel, by decide +kernel, by decide +kernel⟩
theorem mok_194 : MOK 194 := ⟨aT_in (sg_6 (i := 102) rfl) rfl, aT_in (sg_1 (i := 12) rfl) rfl, by decide +kernel, by decide +kernel, by decide +kernel, by decide +kernel, by decide +kernel⟩
theorem mok_195 : MOK 195 := ⟨aT_in (sg_6 (i := 106) rfl) rfl, aT_in (sg_1 (i := 12) rfl) rfl, by decide +kernel, by decide +kernel, by decide +kernel, by decide +kernel, by decide +kernel⟩
theorem mok_196 : MOK 196 := ⟨aT_in (sg_6 (i := 110) rfl) rfl, aT_in (sg_1 (i := 12) rfl) rfl, by decide +kernel, by decide +kernel, by decide +kernel, by decide +kernel, by decide +kernel⟩
theorem mok_197 : MOK 197 := ⟨aT_in (sg_6 (i := 114) rfl) rfl, aT_in (sg_1 (i := 12) rfl) rfl, by decide +kernel, by decide +kernel, by decide +kernel, by decide +kernel, by decide +kernel⟩
theorem mok_198 : MOK 198 := ⟨aT_in (sg_6 (i := 118) rfl) rfl, aT_in (sg_1 (i := 12) rfl) rfl, by decide +kernel, by decide +kernel, by decide +kernel, by decide +kernel, by decide +kernel⟩
theorem mok_199 : MOK 199 := ⟨aT_in (sg_6 (i := 122) rfl) rfl, aT_in (sg_1 (i := 12) rfl) rfl, by decide +kernel, by decide +kernel, by decide +kernel, by decide +kernel, by decide +kernel⟩
theorem mok_200 : MOK 200 := ⟨aT_in (sg_6 (i := 126) rfl) rfl, aT_in (sg_1 (i := 12) rfl) rfl, by decide +kernel, by decide +kernel, by decide +kernel, by decide +kernel, by decide +kernel⟩
theorem mok_201 : MOK 201 := ⟨aT_in (sg_6 (i := 130) rfl) rfl, aT_in (sg_1 (i := 12) rfl) rfl, by decide +kernel, by decide +kernel, by decide +kernel, by decide +kernel, by decide +kernel⟩
theorem mok_202 : MOK 202 := ⟨aT_in (sg_6 (i := 134) rfl) rfl, aT_in (sg_1 (i := 12) rfl) rfl, by decide +kernel, by decide +kernel, by decide +kernel, by decide +kernel, by decide +kernel⟩
theorem mok_203 : MOK 203 := ⟨aT_in (sg_6 (i := 139) rfl) rfl, aT_in (sg_1 (i := 12) rfl) rfl, by decide +kernel, by decide +kernel, by decide +kernel, by decide +kernel, by decide +kernel⟩
theorem mok_204 : MOK 204 := ⟨aT_in (sg_6 (i := 143) rfl) rfl, aT_in (sg_1 (i := 12) rfl) rfl, by decide +kernel, by decide +kernel, by decide +kernel, by decide +kernel, by decide +kernel⟩
theorem mok_205 : MOK 205 := ⟨aT_in (sg_6 (i := 148) rfl) rfl, aT_in (sg_1 (i := 12) rfl) rfl, by decide +kernel, by decide +kernel, by decide +kernel, by decide +kernel, by decide +kernel⟩
theorem mok_206 : MOK 206 := ⟨aT_in (sg_6 (i := 152) rfl) rfl, aT_in (sg_1 (i := 12) rfl) rfl, by decide +kernel, by decide +kernel, by decide +kernel, by decide +kernel, by decide +kernel⟩
theorem mok_207 : MOK 207 := ⟨aT_in (sg_6 (i := 156) rfl) rfl, aT_in (sg_1 (i := 12) rfl) rfl, by decide +kernel, by decide +kernel, by decide +kernel, by decide +kernel, by decide +kernel⟩
theorem mok_208 : MOK 208 := ⟨aT_in (sg_6 (i := 160) rfl) rfl, aT_in (sg_1 (i := 12) rfl) rfl, by decide +kernel, by decide +kernel, by decide +kernel, by decide +kernel, by decide +kernel⟩
theorem mok_209 : MOK 209 := ⟨aT_in (sg_6 (i := 163) rfl) rfl, aT_in (sg_1 (i := 12) rfl) rfl, by decide +kernel, by decide +kernel, by decide +kernel, by decide +kernel, by decide +kernel⟩
theorem mok_210 : MOK 210 := ⟨aT_in (sg_6 (i := 168) rfl) rfl, aT_in (sg_1 (i := 12) rfl) rfl, by decide +kernel, by decide +kernel, by decide +kernel, by decide +kernel, by decide +kernel⟩
theorem mok_211 : MOK 211 := ⟨aT_in (sg_6 (i := 172) rfl) rfl, aT_in (sg_1 (i := 12) rfl) rfl, by decide +kernel, by decide +kernel, by decide +kernel, by decide +kernel, by decide +kernel⟩
theorem mok_212 : MOK 212 := ⟨aT_in (sg_6 (i := 176) rfl) rfl, aT_in (sg_1 (i := 12) rfl) rfl, by decide +kernel, by decide +kernel, by decide +kernel, by decide +kernel, by decide +kernel⟩
theorem mok_213 : MOK 213 := ⟨aT_in (sg_6 (i := 180) rfl) rfl, aT_in (sg_1 (i := 12) rfl) rfl, by decide +kernel, by decide +kernel, by decide +kernel, by decide +kernel, by decide +kernel⟩
theorem mok_214 : MOK 214 := ⟨aT_in (sg_6 (i := 184) rfl) rfl, aT_in (sg_1 (i := 12) rfl) rfl, by decide +kernel, by decide +kernel, by decide +kernel, by decide +kernel, by decide +kernel⟩
theorem mok_215 : MOK 215 := ⟨aT_in (sg_6 (i := 188) rfl) rfl, aT_in (sg_1 (i := 12) rfl) rfl, by decide +kernel, by decide +kernel, by decide +kernel, by decide +kernel, by decide +kernel⟩
theorem mok_216 : MOK 216 := ⟨aT_in (sg_6 (i := 192) rfl) rfl, aT_in (sg_1 (i := 12) rfl) rfl, by decide +kernel, by decide +kernel, by decide +kernel, by decide +kernel, by decide +kernel⟩
theorem mok_217 : MOK 217 := ⟨aT_in (sg_6 (i := 196) rfl) rfl, aT_in (sg_1 (i := 12) rfl) rfl, by decide +kernel, by decide +kernel, by decide +kernel, by decide +kernel, by decide +kernel⟩
theorem mok_218 : MOK 218 := ⟨aT_in (sg_6 (i := 199) rfl) rfl, aT_in (sg_1 (i := 12) rfl) rfl, by decide +kernel, by decide +kernel, by decide +kernel, by decide +kernel, by decide +kernel⟩
theorem mok_219 : MOK 219 := ⟨aT_in (sg_6 (i := 203) rfl) rfl, aT_in (sg_1 (i := 12) rfl) rfl, by decide +kernel, by decide +kernel, by decide +kernel, by decide +kernel, by decide +kernel⟩
theorem mok_220 : MOK 220 := ⟨aT_in (sg_6 (i := 206) rfl) rfl, aT_in (sg_1 (i := 12) rfl) rfl, by decide +kernel, by decide +kernel, by decide +kernel, by decide +kernel, by decide +kernel⟩
theorem mok_221 : MOK 221 := ⟨aT_in (sg_6 (i := 210) rfl) rfl, aT_in (sg_1 (i := 12) rfl) rfl, by decide +kernel, by decide +kernel, by decide +kernel, by decide +kernel, by decide +kernel⟩
theorem mok_222 : MOK 222 := ⟨aT_in (sg_6 (i := 214) rfl) rfl, aT_in (sg_1 (i := 12) rfl) rfl, by decide +kernel, by decide +kernel, by decide +kernel, by decide +kernel, by decide +kernel⟩
theorem mok_223 : MOK 223 := ⟨aT_in (sg_6 (i := 218) rfl) rfl, aT_in (sg_1 (i := 12) rfl) rfl, by decide +kernel, by decide +kernel, by decide +kernel, by decide +kernel, by decide +kernel⟩
theorem mok_224 : MOK 224 := ⟨aT_in (sg_6 (i := 222) rfl) rfl, aT_in (sg_1 (i := 12) rfl) rfl, by decide +kernel, by decide +kernel, by decide +kernel, by decide +kernel, by decide +kernel⟩
theorem mok_225 : MOK 225 := ⟨aT_in (sg_6 (i := 226) rfl) rfl, aT_in (sg_1 (i := 12) rfl) rfl, by decide +kernel, by decide +kernel, by decide +kernel, by decide +kernel, by decide +kernel⟩
theorem mok_226 : MOK 226 := ⟨aT_in (sg_6 (i := 230) rfl) rfl, aT_in (sg_1 (i := 12) rfl) rfl, by decide +kernel, by decide +kernel, by decide +kernel, by decide +kernel, by decide +kernel⟩
theorem mok_227 : MOK 227 := ⟨aT_in (sg_6 (i := 233) rfl) rfl, aT_in (sg_1 (i := 12) rfl) rfl, by decide +kernel, by decide +kernel, by decide +kernel, by decide +kernel, by decide +kernel⟩
theorem mok_228 : MOK 228 := ⟨aT_in (sg_6 (i := 237) rfl) rfl, aT_in (sg_1 (i := 12) rfl) rfl, by decide +kernel, by decide +kernel, by decide +kernel, by decide +kernel, by decide +kernel⟩
theorem mok_229 : MOK 229 := ⟨aT_in (sg_7 (i := 0) rfl) rfl, aT_in (sg_1 (i := 12) rfl) rfl, by decide +kernel, by decide +kernel, by decide +kernel, by decide +kernel, by decide +kernel⟩
theorem mok_230 : MOK 230 := ⟨aT_in (sg_7 (i := 3) rfl) rfl, aT_in (sg_1 (i := 12) rfl) rfl, by decide +kernel, by decide +kernel, by decide +kernel, by decide +kernel, by decide +kernel⟩
theorem mok_231 : MOK 231 := ⟨aT_in (sg_7 (i := 7) rfl) rfl, aT_in (sg_1 (i := 12) rfl) rfl, by decide +kernel, by decide +kernel, by decide +kernel, by decide +kernel, by decide +kernel⟩
theorem mok_232 : MOK 232 := ⟨aT_in (sg_7 (i := 11) rfl) rfl, aT_in (sg_1 (i := 12) rfl) rfl, by decide +kernel, by decide +kernel, by decide +kernel, by decide +kernel, by decide +kernel⟩
theorem mok_233 : MOK 233 := ⟨aT_in (sg_7 (i := 15) rfl) rfl, aT_in (sg_1 (i := 12) rfl) rfl, by decide +kernel, by decide +kernel, by decide +kernel, by decide +kernel, by decide +kernel⟩
theorem mok_234 : MOK 234 := ⟨aT_in (sg_7 (i := 19) rfl) rfl, aT_in (sg_1 (i := 12) rfl) rfl, by decide +kernel, by decide +kernel, by decide +kernel, by decide +kernel, by decide +kernel⟩
theorem mok_235 : MOK 235 := ⟨aT_in (sg_7 (i := 22) rfl) rfl, aT_in (sg_1 (i := 12) rfl) rfl, by decide +kernel, by decide +kernel, by decide +kernel, by decide +kernel, by decide +kernel⟩
theorem mok_236 : MOK 236 := ⟨aT_in (sg_7 (i := 26) rfl) rfl, aT_in (sg_1 (i := 12) rfl) rfl, by decide +kernel, by decide +kernel, by decide +kernel, by decide +kernel, by decide +kernel⟩
theorem mok_237 : MOK 237 := ⟨aT_in (sg_7 (i := 30) rfl) rfl, aT_in (sg_1 (i := 12) rfl) rfl, by decide +kernel, by decide +kernel, by decide +kernel, by decide +kernel, by decide +kernel⟩
theorem mok_238 : MOK 238 := ⟨aT_in (sg_7 (i := 34) rfl) rfl, aT_in (sg_1 (i := 12) rfl) rfl, by decide +kernel, by decide +kernel, by decide +kernel, by decide +kernel, by decide +kernel⟩
theorem mok_239 : MOK 239 := ⟨aT_in (sg_7 (i := 38) rfl) rfl, aT_in (sg_1 (i := 12) rfl) rfl, by decide +kernel, by decide +kernel, by decide +kernel, by decide +kernel, by decide +kernel⟩
theorem mok_240 : MOK 240 := ⟨aT_in (sg_7 (i := 42) rfl) rfl, aT_in (sg_1 (i := 12) rfl) rfl, by decide +kernel, by decide +kernel, by decide +kernel, by decide +kernel, by decide +kernel⟩
theorem mok_241 : MOK 241 := ⟨aT_in (sg_7 (i := 46) rfl) rfl, aT_in (sg_1 (i := 12) rfl) rfl, by decide +kernel, by decide +kernel, by decide +kernel, by decide +kernel, by decide +kernel⟩
theorem mok_242 : MOK 242 := ⟨aT_in (sg_7 (i := 50) rfl) rfl, aT_in (sg_1 (i := 12) rfl) rfl, by decide +kernel, by decide +kernel, by decide +kernel, by decide +kernel, by decide +kernel⟩
theorem mok_243 : MOK 243 := ⟨aT_in (sg_7 (i := 54) rfl) rfl, aT_in (sg_1 (i := 12) rfl) rfl, by decide +kernel, by decide +kernel, by decide +kernel, by decide +kernel, by decide +kernel⟩
theorem mok_244 : MOK 244 := ⟨aT_in (sg_7 (i := 58) rfl) rfl, aT_in (sg_1 (i := 12) rfl) rfl, by decide +kernel, by decide +kernel, by decide +kernel, by decide +kernel, by decide +kernel⟩
theorem mok_245 : MOK 245 := ⟨aT_in (sg_7 (i := 61) rfl) rfl, aT_in (sg_1 (i := 12) rfl) rfl, by decide +kernel, by decide +kernel, by decide +kernel, by decide +kernel, by decide +kernel⟩
theorem mok_246 : MOK 246 := ⟨aT_in (sg_7 (i := 65) rfl) rfl, aT_in (sg_1 (i := 12) rfl) rfl, by decide +kernel, by decide +kernel, by decide +kernel, by decide +kernel, by decide +kernel⟩
theorem mok_247 : MOK 247 := ⟨aT_in (sg_7 (i := 69) rfl) rfl, aT_in (sg_1 (i := 12) rfl) rfl, by decide +kernel, by decide +kernel, by decide +kernel, by decide +kernel, by decide +kernel⟩
theorem mok_248 : MOK 248 := ⟨aT_in (sg_7 (i := 73) rfl) rfl, aT_in (sg_1 (i := 12) rfl) rfl, by decide +kernel, by decide +kernel, by decide +kernel, by decide +kernel, by decide +kernel⟩
theorem mok_249 : MOK 249 := ⟨aT_in (sg_7 (i := 77) rfl) rfl, aT_in (sg_1 (i := 12) rfl) rfl, by decide +kernel, by decide +kernel, by decide +kernel, by decide +kernel, by decide +kernel⟩
theorem mok_250 : MOK 250 := ⟨aT_in (sg_7 (i := 81) rfl) rfl, aT_in (sg_1 (i := 12) rfl) rfl, by decide +kernel, by decide +kernel, by decide +kernel, by decide +kernel, by decide +kernel⟩
theorem mok_251 : MOK 251 := ⟨aT_in (sg_7 (i := 85) rfl) rfl, aT_in (sg_1 (i := 12) rfl) rfl, by decide +kernel, by decide +kernel, by decide +kernel, by decide +kernel, by decide +kernel⟩
theorem mok_252 : MOK 252 := ⟨aT_in (sg_7 (i := 89) rfl) rfl, aT_in (sg_1 (i := 12) rfl) rfl, by decide +kernel, by decide +kernel, by decide +kernel, by decide +kernel, by decide +kernel⟩
theorem mok_253 : MOK 253 := ⟨aT_in (sg_7 (i := 93) rfl) rfl, aT_in (sg_1 (i := 12) rfl) rfl, by decide +kernel, by decide +kernel, by decide +kernel, by decide +kernel, by decide +kernel⟩
theorem mok_254 : MOK 254 := ⟨aT_in (sg_7 (i := 97) rfl) rfl, aT_in (sg_1 (i := 12) rfl) rfl, by decide +kernel, by decide +kernel, by decide +kernel, by decide +kernel, by decide +kernel⟩
theorem mok_255 : MOK 255 := ⟨aT_in (sg_7 (i := 101) rfl) rfl, aT_in (sg_1 (i := 12) rfl) rfl, by decide +kernel, by decide +kernel, by decide +kernel, by decide +kernel, by decide +kernel⟩
theorem mok_256 : MOK 256 := ⟨aT_in (sg_7 (i := 105) rfl) rfl, aT_in (sg_1 (i := 12) rfl) rfl, by decide +kernel, by decide +kernel, by decide +kernel, by decide +kernel, by decide +kernel⟩
theorem mok_257 : MOK 257 := ⟨aT_in (sg_7 (i := 109) rfl) rfl, aT_in (sg_1 (i := 12) rfl) rfl, by decide +kernel, by decide +kernel, by decide +kernel, by decide +kernel, by decide +kernel⟩
theorem mok_258 : MOK 258 := ⟨aT_in (sg_7 (i := 113) rfl) rfl, aT_in (sg_1 (i := 12) rfl) rfl, by decide +kernel, by decide +kernel, by decide +kernel, by decide +kernel, by decide +kernel⟩
theorem mok_259 : MOK 259 := ⟨aT_in (sg_7 (i := 116) rfl) rfl, aT_in (sg_1 (i := 12) rfl) rfl, by decide +kernel, by decide +kernel, by decide +kernel, by decide +kernel, by decide +kernel⟩
theorem mok_260 : MOK 260 := ⟨aT_in (sg_7 (i := 120) rfl) rfl, aT_in (sg_1 (i := 12) rfl) rfl, by decide +kernel, by decide +kernel, by decide +kernel, by decide +kernel, by decide +kernel⟩
theorem mok_261 : MOK 261 := ⟨aT_in (sg_7 (i := 124) rfl) rfl, aT_in (sg_1 (i := 12) rfl) rfl, by decide +kernel, by decide +kernel, by decide +kernel, by decide +kernel, by decide +kernel⟩
theorem mok_262 : MOK 262 := ⟨aT_in (sg_7 (i := 127) rfl) rfl, aT_in (sg_1 (i := 12) rfl) rfl, by decide +kernel, by decide +kernel, by decide +kernel, by decide +kernel, by decide +kernel⟩
theorem mok_263 : MOK 263 := ⟨aT_in (sg_7 (i := 131) rfl) rfl, aT_in (sg_1 (i := 12) rfl) rfl, by decide +kernel, by decide +kernel, by decide +kernel, by decide +kernel, by decide +kernel⟩
theorem mok_264 : MOK 264 := ⟨aT_in (sg_7 (i := 134) rfl) rfl, aT_in (sg_1 (i := 12) rfl) rfl, by decide +kernel, by decide +kernel, by decide +kernel, by decide +kernel, by decide +kernel⟩
theorem mok_265 : MOK 265 := ⟨aT_in (sg_7 (i := 138) rfl) rfl, aT_in (sg_1 (i := 12) rfl) rfl, by decide +kernel, by decide +kernel, by decide +kernel, by decide +kernel, by decide +kernel⟩
theorem mok_266 : MOK 266 := ⟨aT_in (sg_7 (i := 142) rfl) rfl, aT_in (sg_1 (i := 12) rfl) rfl, by decide +kernel, by decide +kernel, by decide +kernel, by decide +kernel, by decide +kernel⟩
theorem mok_267 : MOK 267 := ⟨aT_in (sg_7 (i := 145) rfl) rfl, aT_in (sg_1 (i := 12) rfl) rfl, by decide +kernel, by decide +kernel, by decide +kernel, by decide +kernel, by decide +kernel⟩
theorem mok_268 : MOK 268 := ⟨aT_in (sg_7 (i := 149) rfl) rfl, aT_in (sg_1 (i := 12) rfl) rfl, by decide +kernel, by decide +kernel, by decide +kernel, by decide +kernel, by decide +kernel⟩
theorem mok_269 : MOK 269 := ⟨aT_in (sg_7 (i := 153) rfl) rfl, aT_in (sg_1 (i := 12) rfl) rfl, by decide +kernel, by decide +kernel, by decide +kernel, by decide +kernel, by decide +kernel⟩
theorem mok_270 : MOK 270 := ⟨aT_in (sg_7 (i := 157) rfl) rfl, aT_in (sg_1 (i := 12) rfl) rfl, by decide +kernel, by decide +kernel, by decide +kernel, by decide +kernel, by decide +kernel⟩
theorem mok_271 : MOK 271 := ⟨aT_in (sg_7 (i := 161) rfl) rfl, aT_in (sg_1 (i := 12) rfl) rfl, by decide +kernel, by decide +kernel, by decide +kernel, by decide +kernel, by decide +kernel⟩
theorem mok_272 : MOK 272 := ⟨aT_in (sg_7 (i := 165) rfl) rfl, aT_in (sg_1 (i := 12) rfl) rfl, by decide +kernel, by decide +kernel, by decide +kernel, by decide +kernel, by decide +kernel⟩
theorem mok_273 : MOK 273 := ⟨aT_in (sg_7 (i := 169) rfl) rfl, aT_in (sg_1 (i := 12) rfl) rfl, by decide +kernel, by decide +kernel, by decide +kernel, by decide +kernel, by decide +kernel⟩
theorem mok_274 : MOK 274 := ⟨aT_in (sg_7 (i := 173) rfl) rfl, aT_in (sg_1 (i := 12) rfl) rfl, by decide +kernel, by decide +kernel, by decide +kernel, by decide +kernel, by decide +kernel⟩
theorem mok_275 : MOK 275 := ⟨aT_in (sg_7 (i := 177) rfl) rfl, aT_in (sg_1 (i := 12) rfl) rfl, by decide +kernel, by decide +kernel, by decide +kernel, by decide +kernel, by decide +kernel⟩
theorem mok_to_46 : ∀ y, y < 46 → MOK y := lt_s (lt_s (lt_s (lt_s (lt_s (lt_s (lt_s (lt_s (lt_s (lt_s (lt_s (lt_s (lt_s (lt_s (lt_s (lt_s (lt_s (lt_s (lt_s (lt_s (lt_s (lt_s (lt_s (lt_s (lt_s (lt_s (lt_s (lt_s (lt_s (lt_s (lt_s (lt_s (lt_s (lt_s (lt_s (lt_s (lt_s (lt_s (lt_s (lt_s (lt_s (lt_s (lt_s (lt_s (lt_s (lt_s (lt_0) mok_0) mok_1) mok_2) mok_3) mok_4) mok_5) mok_6) mok_7) mok_8) mok_9) mok_10) mok_11) mok_12) mok_13) mok_14) mok_15) mok_16) mok_17) mok_18) mok_19) mok_20) mok_21) mok_22) mok_23) mok_24) mok_25) mok_26) mok_27) mok_28) mok_29) mok_30) mok_31) mok_32) mok_33) mok_34) mok_35) mok_36) mok_37) mok_38) mok_39) mok_40) mok_41) mok_42) mok_43) mok_44) mok_45
theorem mok_to_92 : ∀ y, y < 92 → MOK y := lt_s (lt_s (lt_s (lt_s (lt_s (lt_s (lt_s (lt_s (lt_s (lt_s (lt_s (lt_s (lt_s (lt_s (lt_s (lt_s (lt_s (lt_s (lt_s (lt_s (lt_s (lt_s (lt_s (lt_s (lt_s (lt_s (lt_s (lt_s (lt_s (lt_s (lt_s (lt_s (lt_s (lt_s (lt_s (lt_s (lt_s (lt_s (lt_s (lt_s (lt_s (lt_s (lt_s (lt_s (lt_s (lt_s (mok_to_46) mok_46) mok_47) mok_48) mok_49) mok_50) mok_51) mok_52) mok_53) mok_54) mok_55) mok_56) mok_57) mok_58) mok_59) mok_60) mok_61) mok_62) mok_63) mok_64) mok_65) mok_66) mok_67) mok_68) mok_69) mok_70) mok_71) mok_72) mok_73) mok_74) mok_75) mok_76) mok_77) mok_78) mok_79) mok_80) mok_81) mok_82) mok_83) mok_84) mok_85) mok_86) mok_87) mok_88) mok_89) mok_90) mok_91
theorem mok_to_138 : ∀ y, y < 138 → MOK y := lt_s (lt_s (lt_s (lt_s (lt_s (lt_s (lt_s (lt_s (lt_s (lt_s (lt_s (lt_s (lt_s (lt_s (lt_s (lt_s (lt_s (lt_s (lt_s (lt_s (lt_s (lt_s (lt_s (lt_s (lt_s (lt_s (lt_s (lt_s (lt_s (lt_s (lt_s (lt_s (lt_s (lt_s (lt_s (lt_s (lt_s (lt_s (lt_s (lt_s (lt_s (lt_s (lt_s (lt_s (lt_s (lt_s (mok_to_92) mok_92) mok_93) mok_94) mok_95) mok_96) mok_97) mok_98) mok_99) mok_100) mok_101) mok_102) mok_103) mok_104) mok_105) mok_106) mok_107) mok_108) mok_109) mok_110) mok_111) mok_112) mok_113) mok_114) mok_115) mok_116) mok_117) mok_118) mok_119) mok_120) mok_121) mok_122) mok_123) mok_124) mok_125) mok_126) mok_127) mok_128) mok_129) mok_130) mok_131) mok_132) mok_133) mok_134) mok_135) mok_136) mok_137
theorem mok_to_184 : ∀ y, y < 184 → MOK y := lt_s (lt_s (lt_s (lt_s (lt_s (lt_s (lt_s (lt_s (lt_s (lt_s (lt_s (lt_s (lt_s (lt_s (lt_s (lt_s (lt_s (lt_s (lt_s (lt_s (lt_s (lt_s (lt_s (lt_s (lt_s (lt_s (lt_s (lt_s (lt_s (lt_s (lt_s (lt_s (lt_s (lt_s (lt_s (lt_s (lt_s (lt_s (lt_s (lt_s (lt_s (lt_s (lt_s (lt_s (lt_s (lt_s (mok_to_138) mok_138) mok_139) mok_140) mok_141) mok_142) mok_143) mok_144) mok_145) mok_146) mok_147) mok_148) mok_149) mok_150) mok_151) mok_152) mok_153) mok_154) mok_155) mok_156) mok_157) mok_158) mok_159) mok_160) mok_161) mok_162) mok_163) mok_164) mok_165) mok_166) mok_167) mok_168) mok_169) mok_170) mok_171) mok_172) mok_173) mok_174) mok_175) mok_176) mok_177) mok_178) mok_179) mok_180) mok_181) mok_182) mok_183
theorem mok_to_230 : ∀ y, y < 230 → MOK y := lt_s (lt_s (lt_s (lt_s (lt_s (lt_s (lt_s (lt_s (lt_s (lt_s (lt_s (lt_s (lt_s (lt_s (lt_s (lt_s (lt_s (lt_s (lt_s (lt_s (lt_s (lt_s (lt_s (lt_s (lt_s (lt_s (lt_s (lt_s (lt_s (lt_s (lt_s (lt_s (lt_s (lt_s (lt_s (lt_s (lt_s (lt_s (lt_s (lt_s (lt_s (lt_s (lt_s (lt_s (lt_s (lt_s (mok_to_184) mok_184) mok_185) mok_186) mok_187) mok_188) mok_189) mok_190) mok_191) mok_192) mok_193) mok_194) mok_195) mok_196) mok_197) mok_198) mok_199) mok_200) mok_201) mok_202) mok_203) mok_204) mok_205) mok_206) mok_207) mok_208) mok_209) mok_210) mok_211) mok_212) mok_213) mok_214) mok_215) mok_216) mok_217) mok_218) mok_219) mok_220) mok_221) mok_222) mok_223) mok_224) mok_225) mok_226) mok_227) mok_228) mok_229
theorem mok_to_276 : ∀ y, y < 276 → MOK y := lt_s (lt_s (lt_s (lt_s (lt_s (lt_s (lt_s (lt_s (lt_s (lt_s (lt_s (lt_s (lt_s (lt_s (lt_s (lt_s (lt_s (lt_s (lt_s (lt_s (lt_s (lt_s (lt_s (lt_s (lt_s (lt_s (lt_s (lt_s (lt_s (lt_s (lt_s (lt_s (lt_s (lt_s (lt_s (lt_s (lt_s (lt_s (lt_s (lt_s (lt_s (lt_s (lt_s (lt_s (lt_s (lt_s (mok_to_230) mok_230) mok_231) mok_232) mok_233) mok_234) mok_235) mok_236) mok_237) mok_238) mok_239) mok_240) mok_241) mok_242) mok_243) mok_244) mok_245) mok_246) mok_247) mok_248) mok_249) mok_250) mok_251) mok_252) mok_253) mok_254) mok_255) mok_256) mok_257) mok_258) mok_259) mok_260) mok_261) mok_262) mok_263) mok_264) mok_265) mok_266) mok_267) mok_268) mok_269) mok_270) mok_271) mok_272) mok_273) mok_274) mok_275
theorem mok {y : Nat} (h : y < 276) : MOK y := mok_to_276 y h
/-- calls: the class, the entry, the kind (0 virtual, 1 static, 2 constructor, 3 Object(), 4 arraycopy, 5 clone, 6 min, 7 max; ten more: a nest mate), the method, its parameters -/
def ctab : List (Nat × Nat × Nat × Nat × Nat) := [(40, 9, 2, 0, 0), (0, 1, 3, 0, 0), (0, 9, 2, 1, 0), (3, 3, 3, 0, 0), (3, 70, 12, 2, 0), (6, 1, 3, 0, 0), (3, 71, 12, 3, 0), (2, 1, 3, 0, 0), (3, 72, 12, 4, 0), (5, 3, 3, 0, 0), (3, 73, 12, 5, 0), (4, 1, 3, 0, 0), (0, 21, 2, 6, 1), (1, 3, 3, 0, 0), (0, 30, 2, 7, 2), (8, 3, 3, 0, 0), (0, 39, 12, 8, 0), (7, 3, 3, 0, 0), (0, 46, 12, 9, 0), (11, 5, 3, 0, 0), (0, 65, 12, 10, 0), (9, 1, 3, 0, 0), (40, 13, 0, 11, 4), (0, 69, 6, 0, 2), (0, 75, 1, 12, 3), (0, 79, 0, 13, 2), (3, 108, 0, 14, 1), (3, 104, 11, 12, 3), (0, 84, 0, 15, 1), (0, 96, 0, 16, 4), (40, 18, 0, 17, 3), (0, 102, 0, 14, 1), (40, 23, 0, 18, 2), (40, 28, 0, 19, 1), (0, 115, 0, 20, 0), (40, 33, 0, 21, 2), (0, 135, 0, 22, 1), (3, 188, 0, 23, 0), (5, 46, 0, 24, 0), (0, 138, 0, 25, 1), (0, 144, 0, 26, 1), (3, 127, 11, 27, 1), (40, 37, 0, 28, 3), (0, 154, 0, 29, 3), (40, 42, 0, 30, 2), (0, 159, 0, 31, 1), (0, 172, 1, 27, 1), (40, 46, 0, 32, 1), (0, 176, 0, 33, 1), (3, 112, 0, 34, 2), (3, 116, 0, 20, 0), (3, 120, 0, 35, 1), (40, 50, 0, 36, 2), (0, 179, 0, 37, 2), (3, 123, 0, 38, 3), (40, 54, 0, 39, 5), (0, 185, 0, 40, 0), (0, 191, 0, 41, 0), (3, 134, 6, 0, 2), (0, 195, 0, 42, 6), (0, 200, 0, 43, 1), (3, 139, 0, 41, 0), (3, 146, 0, 44, 0), (5, 50, 11, 45, 2), (3, 149, 0, 31, 1), (40, 59, 0, 46, 2), (0, 203, 0, 47, 1), (0, 213, 1, 45, 2), (40, 63, 0, 48, 2), (40, 67, 0, 49, 2), (0, 223, 0, 24, 0), (0, 230, 0, 50, 2), (3, 170, 0, 51, 2), (3, 177, 0, 24, 0), (3, 181, 0, 52, 2), (40, 71, 0, 53, 1), (0, 234, 0, 52, 2), (40, 75, 0, 54, 2), (40, 79, 0, 55, 2), (0, 255, 1, 56, 1), (40, 83, 0, 57, 2), (0, 262, 1, 58, 1), (0, 265, 0, 59, 2), (3, 185, 0, 60, 2), (40, 89, 0, 61, 2), (0, 268, 0, 62, 2), (40, 94, 0, 63, 1), (0, 275, 0, 64, 0), (7, 40, 0, 65, 0), (7, 61, 0, 66, 1), (7, 69, 0, 67, 1), (7, 97, 11, 12, 3), (7, 72, 0, 68, 1), (7, 65, 0, 69, 2), (7, 75, 0, 70, 2), (7, 90, 0, 71, 0), (42, 335, 0, 72, 0), (7, 93, 0, 73, 1), (42, 492, 0, 74, 0), (42, 495, 1, 75, 2), (43, 9, 1, 76, 2), (42, 1059, 1, 77, 3), (42, 498, 1, 78, 2), (47, 67, 1, 79, 2), (47, 48, 1, 80, 1), (47, 414, 1, 76, 2), (47, 71, 1, 81, 2), (7, 78, 0, 82, 2), (7, 83, 0, 83, 1), (42, 633, 0, 84, 2), (42, 505, 0, 71, 0), (42, 637, 1, 85, 4), (43, 88, 1, 86, 1), (43, 92, 7, 0, 2), (43, 38, 6, 0, 2), (43, 95, 1, 87, 4), (42, 640, 1, 88, 4), (47, 224, 7, 0, 2), (47, 183, 6, 0, 2), (47, 228, 1, 89, 4), (47, 96, 1, 90, 3), (47, 241, 1, 91, 3), (42, 1062, 1, 92, 4), (47, 244, 1, 93, 4), (47, 232, 1, 94, 4), (47, 164, 1, 95, 1), (47, 157, 1, 96, 1), (47, 161, 1, 97, 1), (7, 43, 0, 98, 1), (7, 47, 0, 99, 1), (7, 101, 0, 100, 1), (7, 108, 0, 101, 1), (7, 104, 0, 102, 1), (7, 111, 0, 103, 1), (7, 114, 0, 104, 1), (0, 282, 0, 105, 0), (7, 52, 1, 106, 2), (44, 316, 5, 0, 0), (44, 304, 6, 0, 2), (44, 150, 4, 0, 5), (7, 58, 2, 107, 3), (10, 3, 3, 0, 0), (40, 98, 0, 108, 3), (0, 293, 0, 109, 3), (40, 103, 0, 110, 2), (0, 298, 0, 111, 2), (40, 107, 0, 112, 3), (0, 301, 0, 113, 3), (0, 304, 0, 114, 4), (1, 30, 0, 115, 5), (1, 34, 1, 116, 2), (1, 40, 0, 59, 2), (1, 80, 0, 117, 2), (1, 90, 0, 24, 0), (1, 61, 11, 27, 1), (1, 112, 0, 31, 1), (1, 65, 0, 118, 1), (1, 69, 0, 119, 3), (1, 126, 0, 111, 2), (1, 139, 0, 120, 1), (1, 146, 6, 0, 2), (1, 151, 0, 121, 1), (1, 154, 0, 122, 1), (1, 161, 11, 12, 3), (1, 157, 1, 123, 3), (40, 111, 0, 124, 3), (40, 115, 0, 125, 3), (0, 308, 0, 126, 3), (1, 76, 0, 33, 1), (40, 119, 0, 127, 3), (0, 312, 0, 128, 3), (40, 123, 0, 129, 2), (40, 127, 0, 130, 1), (0, 316, 1, 131, 1), (0, 319, 0, 132, 1), (8, 37, 0, 51, 2), (8, 48, 0, 20, 0), (8, 54, 0, 133, 1), (8, 90, 7, 0, 2), (8, 95, 0, 134, 2), (8, 105, 0, 135, 2), (8, 125, 0, 59, 2), (8, 108, 6, 0, 2), (8, 111, 0, 41, 0), (8, 115, 0, 42, 6), (8, 122, 0, 43, 1), (8, 76, 0, 136, 1), (8, 138, 0, 24, 0), (8, 142, 0, 50, 2), (8, 152, 0, 31, 1), (8, 159, 0, 52, 2), (8, 80, 0, 60, 2), (8, 84, 0, 137, 0), (8, 162, 0, 114, 4), (8, 171, 0, 33, 1), (8, 174, 0, 126, 3), (8, 178, 11, 138, 1), (40, 131, 0, 139, 1), (0, 322, 1, 140, 1), (0, 325, 0, 141, 0), (40, 135, 0, 142, 1), (0, 332, 0, 143, 1), (3, 191, 0, 144, 2), (40, 139, 0, 145, 4), (0, 335, 1, 146, 4), (0, 350, 1, 147, 1), (0, 339, 0, 148, 1), (11, 19, 1, 149, 2), (0, 343, 0, 150, 3), (11, 25, 11, 12, 3), (11, 29, 0, 151, 3), (11, 33, 1, 152, 2), (11, 41, 6, 0, 2), (11, 37, 0, 153, 4), (11, 46, 1, 154, 1), (11, 69, 7, 0, 2), (11, 50, 1, 155, 1), (11, 53, 0, 150, 3), (40, 143, 0, 156, 5), (0, 347, 0, 157, 3), (40, 147, 0, 158, 4), (0, 353, 0, 159, 4), (11, 65, 11, 131, 1), (40, 151, 0, 160, 3), (0, 357, 0, 161, 2), (9, 20, 1, 116, 2), (40, 155, 0, 162, 3), (0, 360, 0, 163, 2), (40, 159, 0, 164, 5), (0, 366, 0, 165, 2), (0, 369, 4, 0, 5), (40, 163, 0, 166, 0), (0, 375, 0, 167, 1), (3, 74, 4, 0, 5), (3, 80, 0, 168, 1), (6, 41, 0, 16, 4), (3, 84, 0, 169, 1), (2, 23, 0, 29, 3), (3, 87, 0, 170, 1), (5, 42, 0, 42, 6), (3, 100, 0, 109, 3), (40, 168, 0, 171, 0), (40, 172, 0, 172, 1), (0, 378, 0, 173, 0), (0, 381, 0, 174, 0), (0, 384, 0, 175, 0), (40, 12, 2, 176, 0), (12, 1, 3, 0, 0), (40, 17, 0, 177, 4), (12, 69, 1, 178, 3), (12, 78, 0, 179, 1), (12, 83, 0, 180, 3), (40, 22, 0, 181, 3), (12, 87, 0, 182, 1), (40, 27, 0, 183, 2), (12, 73, 0, 184, 2), (40, 32, 0, 185, 1), (12, 91, 0, 186, 1), (40, 36, 0, 187, 2), (12, 104, 0, 188, 2), (12, 95, 0, 189, 1), (12, 98, 0, 190, 2), (12, 101, 0, 191, 1), (12, 107, 0, 192, 3), (12, 111, 0, 193, 2), (40, 41, 0, 194, 3), (40, 45, 0, 195, 2), (12, 114, 0, 196, 1), (40, 49, 0, 197, 1), (12, 128, 0, 198, 1), (12, 121, 0, 199, 1), (12, 117, 0, 200, 2), (12, 125, 0, 201, 1), (40, 53, 0, 202, 2), (40, 58, 0, 203, 5), (12, 136, 1, 204, 1), (12, 140, 0, 205, 7), (12, 132, 0, 206, 3), (40, 62, 0, 207, 2), (12, 144, 0, 208, 1), (12, 147, 1, 209, 2), (40, 66, 0, 210, 2), (40, 70, 0, 211, 2), (12, 158, 0, 212, 2), (12, 151, 0, 213, 2), (12, 155, 0, 214, 2), (40, 74, 0, 215, 1), (40, 78, 0, 216, 2), (40, 82, 0, 217, 2), (12, 161, 1, 218, 1), (40, 86, 0, 219, 2), (12, 164, 1, 220, 1), (12, 167, 0, 221, 2), (40, 93, 0, 222, 2), (40, 97, 0, 223, 1), (12, 229, 0, 224, 0), (12, 213, 0, 225, 0), (12, 179, 0, 226, 1), (12, 185, 1, 227, 1), (12, 188, 0, 228, 0), (12, 192, 1, 229, 1), (12, 198, 1, 230, 1), (12, 226, 0, 231, 1), (12, 216, 0, 232, 1), (12, 210, 0, 233, 1), (12, 219, 0, 234, 1), (12, 207, 1, 235, 1), (12, 222, 0, 236, 0), (40, 102, 0, 237, 3), (40, 106, 0, 238, 2), (12, 235, 0, 239, 2), (40, 110, 0, 240, 3), (12, 245, 0, 241, 3), (12, 248, 0, 242, 5), (12, 241, 0, 243, 6), (12, 238, 0, 244, 2), (12, 232, 1, 245, 3), (40, 114, 0, 246, 3), (40, 118, 0, 247, 3), (12, 252, 0, 248, 3), (40, 122, 0, 249, 3), (40, 126, 0, 250, 2), (40, 130, 0, 251, 1), (12, 270, 0, 252, 1), (12, 258, 0, 253, 1), (12, 261, 0, 254, 0), (12, 255, 0, 255, 2), (12, 264, 0, 256, 0), (12, 267, 0, 257, 0), (40, 134, 0, 258, 1), (12, 273, 1, 259, 1), (40, 138, 0, 260, 1), (40, 142, 0, 261, 4), (12, 289, 1, 262, 4), (12, 293, 0, 263, 4), (12, 276, 1, 264, 3), (12, 286, 0, 265, 3), (12, 279, 0, 266, 4), (12, 283, 1, 267, 2), (40, 146, 0, 268, 5), (40, 150, 0, 269, 4), (40, 154, 0, 270, 3), (40, 158, 0, 271, 3), (40, 162, 0, 272, 5), (40, 167, 0, 273, 0), (40, 171, 0, 274, 0), (40, 175, 0, 275, 1)]
def ftab : List (Nat × Nat × Nat × Nat) := [(6, 7, 6, 0), (0, 129, 6, 0), (6, 13, 6, 1), (6, 16, 6, 2), (6, 19, 6, 3), (8, 87, 6, 3), (0, 120, 6, 3), (3, 131, 6, 3), (6, 22, 6, 4), (0, 126, 6, 4), (6, 25, 6, 5), (0, 112, 6, 5), (8, 132, 6, 5), (6, 28, 6, 6), (0, 132, 6, 6), (3, 164, 6, 6), (6, 31, 6, 7), (8, 99, 6, 7), (0, 141, 6, 7), (6, 34, 6, 8), (0, 106, 6, 8), (1, 55, 6, 8), (8, 128, 6, 8), (6, 38, 6, 9), (0, 109, 6, 9), (2, 7, 2, 0), (1, 73, 2, 0), (8, 168, 2, 0), (0, 165, 2, 0), (2, 13, 2, 1), (8, 34, 2, 1), (1, 120, 2, 1), (0, 162, 2, 1), (2, 16, 2, 2), (8, 29, 2, 2), (1, 50, 2, 2), (0, 168, 2, 2), (3, 155, 2, 2), (2, 19, 2, 3), (1, 123, 2, 3), (0, 171, 2, 3), (5, 9, 5, 0), (1, 24, 5, 0), (8, 146, 5, 0), (0, 210, 5, 0), (3, 158, 5, 0), (5, 15, 5, 1), (8, 135, 5, 1), (1, 100, 5, 1), (3, 161, 5, 1), (0, 227, 5, 1), (5, 18, 5, 2), (1, 103, 5, 2), (8, 156, 5, 2), (3, 152, 5, 2), (0, 237, 5, 2), (5, 21, 5, 3), (1, 97, 5, 3), (0, 240, 5, 3), (5, 24, 5, 4), (1, 94, 5, 4), (3, 174, 5, 4), (0, 243, 5, 4), (5, 27, 5, 5), (1, 87, 5, 5), (0, 246, 5, 5), (5, 30, 5, 6), (8, 70, 5, 6), (1, 106, 5, 6), (0, 249, 5, 6), (5, 33, 5, 7), (8, 149, 5, 7), (1, 109, 5, 7), (3, 143, 5, 7), (0, 252, 5, 7), (5, 36, 5, 8), (8, 119, 5, 8), (1, 84, 5, 8), (0, 217, 5, 8), (5, 39, 5, 9), (8, 65, 5, 9), (3, 167, 5, 9), (0, 220, 5, 9), (4, 7, 4, 0), (3, 90, 4, 0), (1, 133, 4, 0), (4, 13, 4, 1), (3, 94, 4, 1), (4, 17, 4, 2), (3, 97, 4, 2), (3, 11, 3, 0), (8, 44, 3, 0), (0, 92, 3, 0), (1, 46, 3, 0), (3, 19, 3, 1), (8, 25, 3, 1), (1, 116, 3, 1), (0, 150, 3, 1), (3, 25, 3, 2), (8, 61, 3, 2), (0, 206, 3, 2), (3, 31, 3, 3), (1, 129, 3, 3), (0, 289, 3, 3), (3, 37, 3, 4), (0, 278, 3, 4), (3, 41, 3, 5), (0, 258, 3, 5), (3, 45, 3, 6), (3, 48, 3, 7), (0, 88, 3, 7), (8, 41, 3, 7), (3, 52, 3, 8), (8, 19, 3, 8), (0, 147, 3, 8), (3, 55, 3, 9), (8, 58, 3, 9), (0, 188, 3, 9), (3, 58, 3, 10), (0, 286, 3, 10), (3, 61, 3, 11), (0, 66, 3, 11), (8, 73, 3, 11), (3, 64, 3, 12), (8, 102, 3, 12), (0, 387, 3, 12), (3, 67, 3, 13), (0, 123, 3, 13), (1, 20, 1, 0), (1, 11, 1, 1), (1, 17, 1, 2), (8, 9, 8, 0), (8, 15, 8, 1), (7, 11, 7, 0), (7, 15, 7, 1), (0, 272, 7, 1), (7, 19, 7, 2), (7, 22, 7, 3), (7, 25, 7, 4), (7, 28, 7, 5), (7, 31, 7, 6), (7, 34, 7, 7), (7, 37, 7, 8), (11, 11, 11, 0), (11, 15, 11, 1), (9, 9, 9, 0), (11, 61, 9, 0), (0, 329, 9, 0), (9, 13, 9, 1), (0, 363, 9, 1), (9, 17, 9, 2), (11, 56, 9, 2), (0, 328, 9, 2), (0, 10, 0, 0), (0, 16, 0, 1), (0, 24, 0, 2), (0, 33, 0, 3), (0, 40, 0, 4), (0, 47, 0, 5), (0, 53, 0, 6), (0, 57, 0, 7), (0, 61, 0, 8), (10, 9, 10, 0), (1, 143, 10, 0), (10, 15, 10, 1), (10, 19, 10, 2), (12, 7, 12, 0), (12, 13, 12, 1), (12, 297, 12, 2), (12, 65, 12, 3), (12, 16, 12, 4), (12, 20, 12, 5), (12, 23, 12, 6), (12, 26, 12, 7), (12, 170, 12, 8), (12, 30, 12, 9), (12, 34, 12, 10), (12, 37, 12, 11), (12, 40, 12, 12), (12, 43, 12, 13), (12, 46, 12, 14), (12, 176, 12, 15), (12, 173, 12, 16), (12, 182, 12, 17), (12, 195, 12, 18), (12, 201, 12, 19), (12, 204, 12, 20), (12, 50, 12, 21), (12, 53, 12, 22), (12, 56, 12, 23), (12, 59, 12, 24), (12, 62, 12, 25)]
def ktab : List (Nat × Nat × Int32) := [(0, 83, (-100001)), (0, 91, (-100005)), (0, 119, (-100007)), (0, 182, (-100006)), (0, 183, (-100003)), (0, 184, (-100002)), (0, 216, (-100004)), (47, 227, 65536), (48, 110, 55232), (48, 76, 56320), (12, 49, 33489), (12, 77, (-100001)), (12, 82, (-100005)), (12, 94, (-100007)), (12, 131, (-100006)), (12, 135, (-100003)), (12, 139, (-100002)), (12, 150, (-100004))]
def kltab : List (Nat × Nat × Int64) := [(40, 87, 4294967295)]
def ntab : List (Nat × Nat × Nat) := [(40, 7, 0), (0, 7, 3), (3, 9, 6), (3, 17, 2), (3, 23, 5), (3, 29, 4), (3, 35, 10), (0, 19, 1), (0, 28, 8), (0, 37, 7), (0, 44, 11), (0, 51, 9), (7, 50, 10), (40, 10, 12)]
def cal (c i : Nat) : Option (Nat × Nat × Nat × Nat × Nat) := ctab.find? (fun e => e.1 == c && e.2.1 == i)
def fld (c i : Nat) : Option (Nat × Nat × Nat × Nat) := ftab.find? (fun e => e.1 == c && e.2.1 == i)
def kon (c i : Nat) : Option (Nat × Nat × Int32) := ktab.find? (fun e => e.1 == c && e.2.1 == i)
def konl (c i : Nat) : Option (Nat × Nat × Int64) := kltab.find? (fun e => e.1 == c && e.2.1 == i)
def ncl (c i : Nat) : Option (Nat × Nat × Nat) := ntab.find? (fun e => e.1 == c && e.2.1 == i)
def FOK (e : Nat × Nat × Nat × Nat) : Prop := ∃ r : vw_C, aCl[e.2.2.1]? = some r ∧ e.2.2.2 < r.2.2 ∧ Cond.fieldLink (cNm e.1) e.2.1 r.1 (r.2.1 e.2.2.2).2.1 (r.2.1 e.2.2.2).2.2.1 ∈ aT ∧ (r.2.1 e.2.2.2).1 = r.1
def NOK (e : Nat × Nat × Nat) : Prop := ∃ r : vw_C, aCl[e.2.2]? = some r ∧ Cond.classLink (cNm e.1) e.2.1 r.1 ∈ aT ∧ Cond.instantiable r.1 r.2.2 ∈ aT ∧ Cond.initialized r.1 ∈ aT
def pN (y : Nat) : Option Nat := (parseMethodDescriptor (mN y).desc).map (fun d => d.parameters.length)
def sysCopy : MethodName := ⟨"java/lang/System", "arraycopy", "(Ljava/lang/Object;ILjava/lang/Object;II)V"⟩
def mathMin : MethodName := ⟨"java/lang/Math", "min", "(II)I"⟩
def mathMax : MethodName := ⟨"java/lang/Math", "max", "(II)I"⟩
def COK (e : Nat × Nat × Nat × Nat × Nat) : Prop := match e with
  | (c, i, k, y, n) => match k with
    | 0 => y < 276 ∧ pN y = some n ∧ Cond.methodLink (cNm c) i (mN y) ∈ aT ∧ Cond.instanceMethod (mN y) ∈ aT ∧ Cond.selects (mN y).cls (mN y) (mN y) ∈ aT
    | 1 => y < 276 ∧ pN y = some n ∧ Cond.methodLink (cNm c) i (mN y) ∈ aT ∧ Cond.static (mN y) ∈ aT
    | 2 => y < 276 ∧ pN y = some n ∧ Cond.methodLink (cNm c) i (mN y) ∈ aT ∧ Cond.instanceMethod (mN y) ∈ aT ∧ (mN y).name = "<init>" ∧ mR y = none
    | 3 => Cond.methodLink (cNm c) i Lib.objectInit ∈ aT
    | 4 => Cond.methodLink (cNm c) i sysCopy ∈ aT
    | 6 => Cond.methodLink (cNm c) i mathMin ∈ aT
    | 7 => Cond.methodLink (cNm c) i mathMax ∈ aT
    | 10 => y < 276 ∧ pN y = some n ∧ Cond.methodLinkNest (cNm c) i (mN y) "DebtYear" ∈ lw_tbl ∧ Cond.instanceMethod (mN y) ∈ aT ∧ Cond.selects (mN y).cls (mN y) (mN y) ∈ aT
    | 11 => y < 276 ∧ pN y = some n ∧ Cond.methodLinkNest (cNm c) i (mN y) "DebtYear" ∈ lw_tbl ∧ Cond.static (mN y) ∈ aT
    | 12 => y < 276 ∧ pN y = some n ∧ Cond.methodLinkNest (cNm c) i (mN y) "DebtYear" ∈ lw_tbl ∧ Cond.instanceMethod (mN y) ∈ aT ∧ (mN y).name = "<init>" ∧ mR y = none
    | _ => True
theorem cok_0 : COK (40, 9, 2, 0, 0) := ⟨by decide +kernel, by decide +kernel, aT_in (sg_1 (i := 24) rfl) rfl, aT_in (sg_1 (i := 25) rfl) rfl, by decide +kernel, by decide +kernel⟩
theorem cok_1 : COK (0, 1, 3, 0, 0) := aT_in (sg_1 (i := 27) rfl) rfl
theorem cok_2 : COK (0, 9, 2, 1, 0) := ⟨by decide +kernel, by decide +kernel, aT_in (sg_1 (i := 32) rfl) rfl, aT_in (sg_1 (i := 33) rfl) rfl, by decide +kernel, by decide +kernel⟩
theorem cok_3 : COK (3, 3, 3, 0, 0) := aT_in (sg_1 (i := 35) rfl) rfl
theorem cok_4 : COK (3, 70, 12, 2, 0) := ⟨by decide +kernel, by decide +kernel, sg_1 (i := 47) rfl, aT_in (sg_1 (i := 48) rfl) rfl, by decide +kernel, by decide +kernel⟩
theorem cok_5 : COK (6, 1, 3, 0, 0) := aT_in (sg_1 (i := 50) rfl) rfl
theorem cok_6 : COK (3, 71, 12, 3, 0) := ⟨by decide +kernel, by decide +kernel, sg_1 (i := 99) rfl, aT_in (sg_1 (i := 100) rfl) rfl, by decide +kernel, by decide +kernel⟩
theorem cok_7 : COK (2, 1, 3, 0, 0) := aT_in (sg_1 (i := 102) rfl) rfl
theorem cok_8 : COK (3, 72, 12, 4, 0) := ⟨by decide +kernel, by decide +kernel, sg_1 (i := 129) rfl, aT_in (sg_1 (i := 130) rfl) rfl, by decide +kernel, by decide +kernel⟩
theorem cok_9 : COK (5, 3, 3, 0, 0) := aT_in (sg_1 (i := 132) rfl) rfl
theorem cok_10 : COK (3, 73, 12, 5, 0) := ⟨by decide +kernel, by decide +kernel, sg_1 (i := 197) rfl, aT_in (sg_1 (i := 198) rfl) rfl, by decide +kernel, by decide +kernel⟩
theorem cok_11 : COK (4, 1, 3, 0, 0) := aT_in (sg_1 (i := 200) rfl) rfl
theorem cok_12 : COK (0, 21, 2, 6, 1) := ⟨by decide +kernel, by decide +kernel, aT_in (sg_2 (i := 44) rfl) rfl, aT_in (sg_2 (i := 45) rfl) rfl, by decide +kernel, by decide +kernel⟩
theorem cok_13 : COK (1, 3, 3, 0, 0) := aT_in (sg_2 (i := 47) rfl) rfl
theorem cok_14 : COK (0, 30, 2, 7, 2) := ⟨by decide +kernel, by decide +kernel, aT_in (sg_2 (i := 60) rfl) rfl, aT_in (sg_2 (i := 61) rfl) rfl, by decide +kernel, by decide +kernel⟩
theorem cok_15 : COK (8, 3, 3, 0, 0) := aT_in (sg_2 (i := 63) rfl) rfl
theorem cok_16 : COK (0, 39, 12, 8, 0) := ⟨by decide +kernel, by decide +kernel, sg_2 (i := 73) rfl, aT_in (sg_2 (i := 74) rfl) rfl, by decide +kernel, by decide +kernel⟩
theorem cok_17 : COK (7, 3, 3, 0, 0) := aT_in (sg_2 (i := 76) rfl) rfl
theorem cok_18 : COK (0, 46, 12, 9, 0) := ⟨by decide +kernel, by decide +kernel, sg_2 (i := 108) rfl, aT_in (sg_2 (i := 109) rfl) rfl, by decide +kernel, by decide +kernel⟩
theorem cok_19 : COK (11, 5, 3, 0, 0) := aT_in (sg_2 (i := 111) rfl) rfl
theorem cok_20 : COK (0, 65, 12, 10, 0) := ⟨by decide +kernel, by decide +kernel, sg_2 (i := 123) rfl, aT_in (sg_2 (i := 124) rfl) rfl, by decide +kernel, by decide +kernel⟩
theorem cok_21 : COK (9, 1, 3, 0, 0) := aT_in (sg_2 (i := 126) rfl) rfl
theorem cok_22 : COK (40, 13, 0, 11, 4) := ⟨by decide +kernel, by decide +kernel, aT_in (sg_2 (i := 170) rfl) rfl, aT_in (sg_2 (i := 171) rfl) rfl, aT_in (sg_2 (i := 172) rfl) rfl⟩
theorem cok_23 : COK (0, 69, 6, 0, 2) := aT_in (sg_2 (i := 174) rfl) rfl
theorem cok_24 : COK (0, 75, 1, 12, 3) := ⟨by decide +kernel, by decide +kernel, aT_in (sg_2 (i := 177) rfl) rfl, aT_in (sg_2 (i := 178) rfl) rfl⟩
theorem cok_25 : COK (0, 79, 0, 13, 2) := ⟨by decide +kernel, by decide +kernel, aT_in (sg_2 (i := 180) rfl) rfl, aT_in (sg_2 (i := 181) rfl) rfl, aT_in (sg_2 (i := 182) rfl) rfl⟩
theorem cok_26 : COK (3, 108, 0, 14, 1) := ⟨by decide +kernel, by decide +kernel, aT_in (sg_2 (i := 184) rfl) rfl, aT_in (sg_2 (i := 185) rfl) rfl, aT_in (sg_2 (i := 186) rfl) rfl⟩
theorem cok_27 : COK (3, 104, 11, 12, 3) := ⟨by decide +kernel, by decide +kernel, sg_2 (i := 188) rfl, aT_in (sg_2 (i := 178) rfl) rfl⟩
theorem cok_28 : COK (0, 84, 0, 15, 1) := ⟨by decide +kernel, by decide +kernel, aT_in (sg_2 (i := 190) rfl) rfl, aT_in (sg_2 (i := 192) rfl) rfl, aT_in (sg_0 (i := 0) rfl) rfl⟩
theorem cok_29 : COK (0, 96, 0, 16, 4) := ⟨by decide +kernel, by decide +kernel, aT_in (sg_2 (i := 195) rfl) rfl, aT_in (sg_2 (i := 196) rfl) rfl, aT_in (sg_2 (i := 197) rfl) rfl⟩
theorem cok_30 : COK (40, 18, 0, 17, 3) := ⟨by decide +kernel, by decide +kernel, aT_in (sg_2 (i := 199) rfl) rfl, aT_in (sg_2 (i := 200) rfl) rfl, aT_in (sg_2 (i := 201) rfl) rfl⟩
theorem cok_31 : COK (0, 102, 0, 14, 1) := ⟨by decide +kernel, by decide +kernel, aT_in (sg_2 (i := 203) rfl) rfl, aT_in (sg_2 (i := 185) rfl) rfl, aT_in (sg_2 (i := 186) rfl) rfl⟩
theorem cok_32 : COK (40, 23, 0, 18, 2) := ⟨by decide +kernel, by decide +kernel, aT_in (sg_2 (i := 204) rfl) rfl, aT_in (sg_2 (i := 205) rfl) rfl, aT_in (sg_2 (i := 206) rfl) rfl⟩
theorem cok_33 : COK (40, 28, 0, 19, 1) := ⟨by decide +kernel, by decide +kernel, aT_in (sg_2 (i := 208) rfl) rfl, aT_in (sg_2 (i := 209) rfl) rfl, aT_in (sg_2 (i := 210) rfl) rfl⟩
theorem cok_34 : COK (0, 115, 0, 20, 0) := ⟨by decide +kernel, by decide +kernel, aT_in (sg_2 (i := 212) rfl) rfl, aT_in (sg_2 (i := 213) rfl) rfl, aT_in (sg_2 (i := 214) rfl) rfl⟩
theorem cok_35 : COK (40, 33, 0, 21, 2) := ⟨by decide +kernel, by decide +kernel, aT_in (sg_2 (i := 217) rfl) rfl, aT_in (sg_2 (i := 218) rfl) rfl, aT_in (sg_2 (i := 219) rfl) rfl⟩
theorem cok_36 : COK (0, 135, 0, 22, 1) := ⟨by decide +kernel, by decide +kernel, aT_in (sg_2 (i := 221) rfl) rfl, aT_in (sg_2 (i := 222) rfl) rfl, aT_in (sg_2 (i := 223) rfl) rfl⟩
theorem cok_37 : COK (3, 188, 0, 23, 0) := ⟨by decide +kernel, by decide +kernel, aT_in (sg_2 (i := 225) rfl) rfl, aT_in (sg_2 (i := 226) rfl) rfl, aT_in (sg_2 (i := 227) rfl) rfl⟩
theorem cok_38 : COK (5, 46, 0, 24, 0) := ⟨by decide +kernel, by decide +kernel, aT_in (sg_2 (i := 229) rfl) rfl, aT_in (sg_2 (i := 230) rfl) rfl, aT_in (sg_2 (i := 231) rfl) rfl⟩
theorem cok_39 : COK (0, 138, 0, 25, 1) := ⟨by decide +kernel, by decide +kernel, aT_in (sg_2 (i := 233) rfl) rfl, aT_in (sg_2 (i := 234) rfl) rfl, aT_in (sg_2 (i := 235) rfl) rfl⟩
theorem cok_40 : COK (0, 144, 0, 26, 1) := ⟨by decide +kernel, by decide +kernel, aT_in (sg_2 (i := 237) rfl) rfl, aT_in (sg_2 (i := 238) rfl) rfl, aT_in (sg_2 (i := 239) rfl) rfl⟩
theorem cok_41 : COK (3, 127, 11, 27, 1) := ⟨by decide +kernel, by decide +kernel, sg_3 (i := 1) rfl, aT_in (sg_3 (i := 2) rfl) rfl⟩
theorem cok_42 : COK (40, 37, 0, 28, 3) := ⟨by decide +kernel, by decide +kernel, aT_in (sg_3 (i := 4) rfl) rfl, aT_in (sg_3 (i := 5) rfl) rfl, aT_in (sg_3 (i := 6) rfl) rfl⟩
theorem cok_43 : COK (0, 154, 0, 29, 3) := ⟨by decide +kernel, by decide +kernel, aT_in (sg_3 (i := 8) rfl) rfl, aT_in (sg_3 (i := 9) rfl) rfl, aT_in (sg_3 (i := 10) rfl) rfl⟩
theorem cok_44 : COK (40, 42, 0, 30, 2) := ⟨by decide +kernel, by decide +kernel, aT_in (sg_3 (i := 12) rfl) rfl, aT_in (sg_3 (i := 13) rfl) rfl, aT_in (sg_3 (i := 14) rfl) rfl⟩
theorem cok_45 : COK (0, 159, 0, 31, 1) := ⟨by decide +kernel, by decide +kernel, aT_in (sg_3 (i := 16) rfl) rfl, aT_in (sg_3 (i := 17) rfl) rfl, aT_in (sg_3 (i := 18) rfl) rfl⟩
theorem cok_46 : COK (0, 172, 1, 27, 1) := ⟨by decide +kernel, by decide +kernel, aT_in (sg_3 (i := 20) rfl) rfl, aT_in (sg_3 (i := 2) rfl) rfl⟩
theorem cok_47 : COK (40, 46, 0, 32, 1) := ⟨by decide +kernel, by decide +kernel, aT_in (sg_3 (i := 21) rfl) rfl, aT_in (sg_3 (i := 22) rfl) rfl, aT_in (sg_3 (i := 23) rfl) rfl⟩
theorem cok_48 : COK (0, 176, 0, 33, 1) := ⟨by decide +kernel, by decide +kernel, aT_in (sg_3 (i := 25) rfl) rfl, aT_in (sg_3 (i := 26) rfl) rfl, aT_in (sg_3 (i := 27) rfl) rfl⟩
theorem cok_49 : COK (3, 112, 0, 34, 2) := ⟨by decide +kernel, by decide +kernel, aT_in (sg_3 (i := 29) rfl) rfl, aT_in (sg_3 (i := 31) rfl) rfl, aT_in (sg_0 (i := 1) rfl) rfl⟩
theorem cok_50 : COK (3, 116, 0, 20, 0) := ⟨by decide +kernel, by decide +kernel, aT_in (sg_3 (i := 33) rfl) rfl, aT_in (sg_2 (i := 213) rfl) rfl, aT_in (sg_2 (i := 214) rfl) rfl⟩
theorem cok_51 : COK (3, 120, 0, 35, 1) := ⟨by decide +kernel, by decide +kernel, aT_in (sg_3 (i := 34) rfl) rfl, aT_in (sg_3 (i := 35) rfl) rfl, aT_in (sg_3 (i := 36) rfl) rfl⟩
theorem cok_52 : COK (40, 50, 0, 36, 2) := ⟨by decide +kernel, by decide +kernel, aT_in (sg_3 (i := 38) rfl) rfl, aT_in (sg_3 (i := 39) rfl) rfl, aT_in (sg_3 (i := 40) rfl) rfl⟩
theorem cok_53 : COK (0, 179, 0, 37, 2) := ⟨by decide +kernel, by decide +kernel, aT_in (sg_3 (i := 42) rfl) rfl, aT_in (sg_3 (i := 43) rfl) rfl, aT_in (sg_3 (i := 44) rfl) rfl⟩
theorem cok_54 : COK (3, 123, 0, 38, 3) := ⟨by decide +kernel, by decide +kernel, aT_in (sg_3 (i := 46) rfl) rfl, aT_in (sg_3 (i := 48) rfl) rfl, aT_in (sg_0 (i := 2) rfl) rfl⟩
theorem cok_55 : COK (40, 54, 0, 39, 5) := ⟨by decide +kernel, by decide +kernel, aT_in (sg_3 (i := 51) rfl) rfl, aT_in (sg_3 (i := 52) rfl) rfl, aT_in (sg_3 (i := 53) rfl) rfl⟩
theorem cok_56 : COK (0, 185, 0, 40, 0) := ⟨by decide +kernel, by decide +kernel, aT_in (sg_3 (i := 57) rfl) rfl, aT_in (sg_3 (i := 58) rfl) rfl, aT_in (sg_3 (i := 59) rfl) rfl⟩
theorem cok_57 : COK (0, 191, 0, 41, 0) := ⟨by decide +kernel, by decide +kernel, aT_in (sg_3 (i := 61) rfl) rfl, aT_in (sg_3 (i := 62) rfl) rfl, aT_in (sg_3 (i := 63) rfl) rfl⟩
theorem cok_58 : COK (3, 134, 6, 0, 2) := aT_in (sg_3 (i := 65) rfl) rfl
theorem cok_59 : COK (0, 195, 0, 42, 6) := ⟨by decide +kernel, by decide +kernel, aT_in (sg_3 (i := 66) rfl) rfl, aT_in (sg_3 (i := 67) rfl) rfl, aT_in (sg_3 (i := 68) rfl) rfl⟩
theorem cok_60 : COK (0, 200, 0, 43, 1) := ⟨by decide +kernel, by decide +kernel, aT_in (sg_3 (i := 70) rfl) rfl, aT_in (sg_3 (i := 71) rfl) rfl, aT_in (sg_3 (i := 72) rfl) rfl⟩
theorem cok_61 : COK (3, 139, 0, 41, 0) := ⟨by decide +kernel, by decide +kernel, aT_in (sg_3 (i := 74) rfl) rfl, aT_in (sg_3 (i := 62) rfl) rfl, aT_in (sg_3 (i := 63) rfl) rfl⟩
theorem cok_62 : COK (3, 146, 0, 44, 0) := ⟨by decide +kernel, by decide +kernel, aT_in (sg_3 (i := 75) rfl) rfl, aT_in (sg_3 (i := 76) rfl) rfl, aT_in (sg_3 (i := 77) rfl) rfl⟩
theorem cok_63 : COK (5, 50, 11, 45, 2) := ⟨by decide +kernel, by decide +kernel, sg_3 (i := 79) rfl, aT_in (sg_3 (i := 80) rfl) rfl⟩
theorem cok_64 : COK (3, 149, 0, 31, 1) := ⟨by decide +kernel, by decide +kernel, aT_in (sg_3 (i := 84) rfl) rfl, aT_in (sg_3 (i := 17) rfl) rfl, aT_in (sg_3 (i := 18) rfl) rfl⟩
theorem cok_65 : COK (40, 59, 0, 46, 2) := ⟨by decide +kernel, by decide +kernel, aT_in (sg_3 (i := 85) rfl) rfl, aT_in (sg_3 (i := 86) rfl) rfl, aT_in (sg_3 (i := 87) rfl) rfl⟩
theorem cok_66 : COK (0, 203, 0, 47, 1) := ⟨by decide +kernel, by decide +kernel, aT_in (sg_3 (i := 89) rfl) rfl, aT_in (sg_3 (i := 90) rfl) rfl, aT_in (sg_3 (i := 91) rfl) rfl⟩
theorem cok_67 : COK (0, 213, 1, 45, 2) := ⟨by decide +kernel, by decide +kernel, aT_in (sg_3 (i := 93) rfl) rfl, aT_in (sg_3 (i := 80) rfl) rfl⟩
theorem cok_68 : COK (40, 63, 0, 48, 2) := ⟨by decide +kernel, by decide +kernel, aT_in (sg_3 (i := 95) rfl) rfl, aT_in (sg_3 (i := 96) rfl) rfl, aT_in (sg_3 (i := 97) rfl) rfl⟩
theorem cok_69 : COK (40, 67, 0, 49, 2) := ⟨by decide +kernel, by decide +kernel, aT_in (sg_3 (i := 99) rfl) rfl, aT_in (sg_3 (i := 100) rfl) rfl, aT_in (sg_3 (i := 101) rfl) rfl⟩
theorem cok_70 : COK (0, 223, 0, 24, 0) := ⟨by decide +kernel, by decide +kernel, aT_in (sg_3 (i := 103) rfl) rfl, aT_in (sg_2 (i := 230) rfl) rfl, aT_in (sg_2 (i := 231) rfl) rfl⟩
theorem cok_71 : COK (0, 230, 0, 50, 2) := ⟨by decide +kernel, by decide +kernel, aT_in (sg_3 (i := 104) rfl) rfl, aT_in (sg_3 (i := 105) rfl) rfl, aT_in (sg_3 (i := 106) rfl) rfl⟩
theorem cok_72 : COK (3, 170, 0, 51, 2) := ⟨by decide +kernel, by decide +kernel, aT_in (sg_3 (i := 108) rfl) rfl, aT_in (sg_3 (i := 109) rfl) rfl, aT_in (sg_3 (i := 110) rfl) rfl⟩
theorem cok_73 : COK (3, 177, 0, 24, 0) := ⟨by decide +kernel, by decide +kernel, aT_in (sg_3 (i := 112) rfl) rfl, aT_in (sg_2 (i := 230) rfl) rfl, aT_in (sg_2 (i := 231) rfl) rfl⟩
theorem cok_74 : COK (3, 181, 0, 52, 2) := ⟨by decide +kernel, by decide +kernel, aT_in (sg_3 (i := 113) rfl) rfl, aT_in (sg_3 (i := 114) rfl) rfl, aT_in (sg_3 (i := 115) rfl) rfl⟩
theorem cok_75 : COK (40, 71, 0, 53, 1) := ⟨by decide +kernel, by decide +kernel, aT_in (sg_3 (i := 117) rfl) rfl, aT_in (sg_3 (i := 118) rfl) rfl, aT_in (sg_3 (i := 119) rfl) rfl⟩
theorem cok_76 : COK (0, 234, 0, 52, 2) := ⟨by decide +kernel, by decide +kernel, aT_in (sg_3 (i := 121) rfl) rfl, aT_in (sg_3 (i := 114) rfl) rfl, aT_in (sg_3 (i := 115) rfl) rfl⟩
theorem cok_77 : COK (40, 75, 0, 54, 2) := ⟨by decide +kernel, by decide +kernel, aT_in (sg_3 (i := 122) rfl) rfl, aT_in (sg_3 (i := 123) rfl) rfl, aT_in (sg_3 (i := 124) rfl) rfl⟩
theorem cok_78 : COK (40, 79, 0, 55, 2) := ⟨by decide +kernel, by decide +kernel, aT_in (sg_3 (i := 126) rfl) rfl, aT_in (sg_3 (i := 127) rfl) rfl, aT_in (sg_3 (i := 128) rfl) rfl⟩
theorem cok_79 : COK (0, 255, 1, 56, 1) := ⟨by decide +kernel, by decide +kernel, aT_in (sg_3 (i := 130) rfl) rfl, aT_in (sg_3 (i := 131) rfl) rfl⟩
theorem cok_80 : COK (40, 83, 0, 57, 2) := ⟨by decide +kernel, by decide +kernel, aT_in (sg_3 (i := 133) rfl) rfl, aT_in (sg_3 (i := 134) rfl) rfl, aT_in (sg_3 (i := 135) rfl) rfl⟩
theorem cok_81 : COK (0, 262, 1, 58, 1) := ⟨by decide +kernel, by decide +kernel, aT_in (sg_3 (i := 137) rfl) rfl, aT_in (sg_3 (i := 138) rfl) rfl⟩
theorem cok_82 : COK (0, 265, 0, 59, 2) := ⟨by decide +kernel, by decide +kernel, aT_in (sg_3 (i := 140) rfl) rfl, aT_in (sg_3 (i := 141) rfl) rfl, aT_in (sg_3 (i := 142) rfl) rfl⟩
theorem cok_83 : COK (3, 185, 0, 60, 2) := ⟨by decide +kernel, by decide +kernel, aT_in (sg_3 (i := 144) rfl) rfl, aT_in (sg_3 (i := 145) rfl) rfl, aT_in (sg_3 (i := 146) rfl) rfl⟩
theorem cok_84 : COK (40, 89, 0, 61, 2) := ⟨by decide +kernel, by decide +kernel, aT_in (sg_3 (i := 148) rfl) rfl, aT_in (sg_3 (i := 149) rfl) rfl, aT_in (sg_3 (i := 150) rfl) rfl⟩
theorem cok_85 : COK (0, 268, 0, 62, 2) := ⟨by decide +kernel, by decide +kernel, aT_in (sg_3 (i := 152) rfl) rfl, aT_in (sg_3 (i := 153) rfl) rfl, aT_in (sg_3 (i := 154) rfl) rfl⟩
theorem cok_86 : COK (40, 94, 0, 63, 1) := ⟨by decide +kernel, by decide +kernel, aT_in (sg_3 (i := 156) rfl) rfl, aT_in (sg_3 (i := 157) rfl) rfl, aT_in (sg_3 (i := 158) rfl) rfl⟩
theorem cok_87 : COK (0, 275, 0, 64, 0) := ⟨by decide +kernel, by decide +kernel, aT_in (sg_3 (i := 160) rfl) rfl, aT_in (sg_3 (i := 161) rfl) rfl, aT_in (sg_3 (i := 162) rfl) rfl⟩
theorem cok_88 : COK (7, 40, 0, 65, 0) := ⟨by decide +kernel, by decide +kernel, aT_in (sg_3 (i := 164) rfl) rfl, aT_in (sg_3 (i := 166) rfl) rfl, aT_in (sg_0 (i := 3) rfl) rfl⟩
theorem cok_89 : COK (7, 61, 0, 66, 1) := ⟨by decide +kernel, by decide +kernel, aT_in (sg_3 (i := 168) rfl) rfl, aT_in (sg_3 (i := 170) rfl) rfl, aT_in (sg_0 (i := 4) rfl) rfl⟩
theorem cok_90 : COK (7, 69, 0, 67, 1) := ⟨by decide +kernel, by decide +kernel, aT_in (sg_3 (i := 172) rfl) rfl, aT_in (sg_3 (i := 174) rfl) rfl, aT_in (sg_0 (i := 5) rfl) rfl⟩
theorem cok_91 : COK (7, 97, 11, 12, 3) := ⟨by decide +kernel, by decide +kernel, sg_3 (i := 176) rfl, aT_in (sg_2 (i := 178) rfl) rfl⟩
theorem cok_92 : COK (7, 72, 0, 68, 1) := ⟨by decide +kernel, by decide +kernel, aT_in (sg_3 (i := 177) rfl) rfl, aT_in (sg_3 (i := 179) rfl) rfl, aT_in (sg_0 (i := 6) rfl) rfl⟩
theorem cok_93 : COK (7, 65, 0, 69, 2) := ⟨by decide +kernel, by decide +kernel, aT_in (sg_3 (i := 181) rfl) rfl, aT_in (sg_3 (i := 183) rfl) rfl, aT_in (sg_0 (i := 7) rfl) rfl⟩
theorem cok_94 : COK (7, 75, 0, 70, 2) := ⟨by decide +kernel, by decide +kernel, aT_in (sg_3 (i := 185) rfl) rfl, aT_in (sg_3 (i := 187) rfl) rfl, aT_in (sg_0 (i := 8) rfl) rfl⟩
theorem cok_95 : COK (7, 90, 0, 71, 0) := ⟨by decide +kernel, by decide +kernel, aT_in (sg_3 (i := 190) rfl) rfl, aT_in (sg_3 (i := 191) rfl) rfl, aT_in (sg_3 (i := 192) rfl) rfl⟩
theorem cok_96 : COK (42, 335, 0, 72, 0) := ⟨by decide +kernel, by decide +kernel, aT_in (sg_3 (i := 194) rfl) rfl, aT_in (sg_3 (i := 195) rfl) rfl, aT_in (sg_3 (i := 196) rfl) rfl⟩
theorem cok_97 : COK (7, 93, 0, 73, 1) := ⟨by decide +kernel, by decide +kernel, aT_in (sg_3 (i := 200) rfl) rfl, aT_in (sg_3 (i := 201) rfl) rfl, aT_in (sg_3 (i := 202) rfl) rfl⟩
theorem cok_98 : COK (42, 492, 0, 74, 0) := ⟨by decide +kernel, by decide +kernel, aT_in (sg_3 (i := 204) rfl) rfl, aT_in (sg_3 (i := 205) rfl) rfl, aT_in (sg_3 (i := 206) rfl) rfl⟩
theorem cok_99 : COK (42, 495, 1, 75, 2) := ⟨by decide +kernel, by decide +kernel, aT_in (sg_3 (i := 208) rfl) rfl, aT_in (sg_3 (i := 209) rfl) rfl⟩
theorem cok_100 : COK (43, 9, 1, 76, 2) := ⟨by decide +kernel, by decide +kernel, aT_in (sg_3 (i := 211) rfl) rfl, aT_in (sg_3 (i := 212) rfl) rfl⟩
theorem cok_101 : COK (42, 1059, 1, 77, 3) := ⟨by decide +kernel, by decide +kernel, aT_in (sg_3 (i := 216) rfl) rfl, aT_in (sg_3 (i := 217) rfl) rfl⟩
theorem cok_102 : COK (42, 498, 1, 78, 2) := ⟨by decide +kernel, by decide +kernel, aT_in (sg_3 (i := 219) rfl) rfl, aT_in (sg_3 (i := 220) rfl) rfl⟩
theorem cok_103 : COK (47, 67, 1, 79, 2) := ⟨by decide +kernel, by decide +kernel, aT_in (sg_3 (i := 222) rfl) rfl, aT_in (sg_3 (i := 223) rfl) rfl⟩
theorem cok_104 : COK (47, 48, 1, 80, 1) := ⟨by decide +kernel, by decide +kernel, aT_in (sg_3 (i := 225) rfl) rfl, aT_in (sg_3 (i := 226) rfl) rfl⟩
theorem cok_105 : COK (47, 414, 1, 76, 2) := ⟨by decide +kernel, by decide +kernel, aT_in (sg_3 (i := 228) rfl) rfl, aT_in (sg_3 (i := 212) rfl) rfl⟩
theorem cok_106 : COK (47, 71, 1, 81, 2) := ⟨by decide +kernel, by decide +kernel, aT_in (sg_3 (i := 229) rfl) rfl, aT_in (sg_3 (i := 230) rfl) rfl⟩
theorem cok_107 : COK (7, 78, 0, 82, 2) := ⟨by decide +kernel, by decide +kernel, aT_in (sg_3 (i := 238) rfl) rfl, aT_in (sg_4 (i := 0) rfl) rfl, aT_in (sg_0 (i := 9) rfl) rfl⟩
theorem cok_108 : COK (7, 83, 0, 83, 1) := ⟨by decide +kernel, by decide +kernel, aT_in (sg_4 (i := 3) rfl) rfl, aT_in (sg_4 (i := 4) rfl) rfl, aT_in (sg_4 (i := 5) rfl) rfl⟩
theorem cok_109 : COK (42, 633, 0, 84, 2) := ⟨by decide +kernel, by decide +kernel, aT_in (sg_4 (i := 7) rfl) rfl, aT_in (sg_4 (i := 8) rfl) rfl, aT_in (sg_4 (i := 9) rfl) rfl⟩
theorem cok_110 : COK (42, 505, 0, 71, 0) := ⟨by decide +kernel, by decide +kernel, aT_in (sg_4 (i := 11) rfl) rfl, aT_in (sg_3 (i := 191) rfl) rfl, aT_in (sg_3 (i := 192) rfl) rfl⟩
theorem cok_111 : COK (42, 637, 1, 85, 4) := ⟨by decide +kernel, by decide +kernel, aT_in (sg_4 (i := 12) rfl) rfl, aT_in (sg_4 (i := 13) rfl) rfl⟩
theorem cok_112 : COK (43, 88, 1, 86, 1) := ⟨by decide +kernel, by decide +kernel, aT_in (sg_4 (i := 15) rfl) rfl, aT_in (sg_4 (i := 16) rfl) rfl⟩
theorem cok_113 : COK (43, 92, 7, 0, 2) := aT_in (sg_4 (i := 18) rfl) rfl
theorem cok_114 : COK (43, 38, 6, 0, 2) := aT_in (sg_4 (i := 21) rfl) rfl
theorem cok_115 : COK (43, 95, 1, 87, 4) := ⟨by decide +kernel, by decide +kernel, aT_in (sg_4 (i := 22) rfl) rfl, aT_in (sg_4 (i := 23) rfl) rfl⟩
theorem cok_116 : COK (42, 640, 1, 88, 4) := ⟨by decide +kernel, by decide +kernel, aT_in (sg_4 (i := 25) rfl) rfl, aT_in (sg_4 (i := 26) rfl) rfl⟩
theorem cok_117 : COK (47, 224, 7, 0, 2) := aT_in (sg_4 (i := 28) rfl) rfl
theorem cok_118 : COK (47, 183, 6, 0, 2) := aT_in (sg_4 (i := 29) rfl) rfl
theorem cok_119 : COK (47, 228, 1, 89, 4) := ⟨by decide +kernel, by decide +kernel, aT_in (sg_4 (i := 31) rfl) rfl, aT_in (sg_4 (i := 32) rfl) rfl⟩
theorem cok_120 : COK (47, 96, 1, 90, 3) := ⟨by decide +kernel, by decide +kernel, aT_in (sg_4 (i := 34) rfl) rfl, aT_in (sg_4 (i := 35) rfl) rfl⟩
theorem cok_121 : COK (47, 241, 1, 91, 3) := ⟨by decide +kernel, by decide +kernel, aT_in (sg_4 (i := 37) rfl) rfl, aT_in (sg_4 (i := 38) rfl) rfl⟩
theorem cok_122 : COK (42, 1062, 1, 92, 4) := ⟨by decide +kernel, by decide +kernel, aT_in (sg_4 (i := 40) rfl) rfl, aT_in (sg_4 (i := 41) rfl) rfl⟩
theorem cok_123 : COK (47, 244, 1, 93, 4) := ⟨by decide +kernel, by decide +kernel, aT_in (sg_4 (i := 43) rfl) rfl, aT_in (sg_4 (i := 44) rfl) rfl⟩
theorem cok_124 : COK (47, 232, 1, 94, 4) := ⟨by decide +kernel, by decide +kernel, aT_in (sg_4 (i := 46) rfl) rfl, aT_in (sg_4 (i := 47) rfl) rfl⟩
theorem cok_125 : COK (47, 164, 1, 95, 1) := ⟨by decide +kernel, by decide +kernel, aT_in (sg_4 (i := 49) rfl) rfl, aT_in (sg_4 (i := 50) rfl) rfl⟩
theorem cok_126 : COK (47, 157, 1, 96, 1) := ⟨by decide +kernel, by decide +kernel, aT_in (sg_4 (i := 52) rfl) rfl, aT_in (sg_4 (i := 53) rfl) rfl⟩
theorem cok_127 : COK (47, 161, 1, 97, 1) := ⟨by decide +kernel, by decide +kernel, aT_in (sg_4 (i := 56) rfl) rfl, aT_in (sg_4 (i := 57) rfl) rfl⟩
theorem cok_128 : COK (7, 43, 0, 98, 1) := ⟨by decide +kernel, by decide +kernel, aT_in (sg_4 (i := 60) rfl) rfl, aT_in (sg_4 (i := 62) rfl) rfl, aT_in (sg_0 (i := 10) rfl) rfl⟩
theorem cok_129 : COK (7, 47, 0, 99, 1) := ⟨by decide +kernel, by decide +kernel, aT_in (sg_4 (i := 64) rfl) rfl, aT_in (sg_4 (i := 66) rfl) rfl, aT_in (sg_0 (i := 11) rfl) rfl⟩
theorem cok_130 : COK (7, 101, 0, 100, 1) := ⟨by decide +kernel, by decide +kernel, aT_in (sg_4 (i := 68) rfl) rfl, aT_in (sg_4 (i := 70) rfl) rfl, aT_in (sg_0 (i := 12) rfl) rfl⟩
theorem cok_131 : COK (7, 108, 0, 101, 1) := ⟨by decide +kernel, by decide +kernel, aT_in (sg_4 (i := 72) rfl) rfl, aT_in (sg_4 (i := 74) rfl) rfl, aT_in (sg_0 (i := 13) rfl) rfl⟩
theorem cok_132 : COK (7, 104, 0, 102, 1) := ⟨by decide +kernel, by decide +kernel, aT_in (sg_4 (i := 76) rfl) rfl, aT_in (sg_4 (i := 78) rfl) rfl, aT_in (sg_0 (i := 14) rfl) rfl⟩
theorem cok_133 : COK (7, 111, 0, 103, 1) := ⟨by decide +kernel, by decide +kernel, aT_in (sg_4 (i := 80) rfl) rfl, aT_in (sg_4 (i := 82) rfl) rfl, aT_in (sg_0 (i := 15) rfl) rfl⟩
theorem cok_134 : COK (7, 114, 0, 104, 1) := ⟨by decide +kernel, by decide +kernel, aT_in (sg_4 (i := 84) rfl) rfl, aT_in (sg_4 (i := 86) rfl) rfl, aT_in (sg_0 (i := 16) rfl) rfl⟩
theorem cok_135 : COK (0, 282, 0, 105, 0) := ⟨by decide +kernel, by decide +kernel, aT_in (sg_4 (i := 88) rfl) rfl, aT_in (sg_4 (i := 89) rfl) rfl, aT_in (sg_4 (i := 90) rfl) rfl⟩
theorem cok_136 : COK (7, 52, 1, 106, 2) := ⟨by decide +kernel, by decide +kernel, aT_in (sg_4 (i := 94) rfl) rfl, aT_in (sg_4 (i := 95) rfl) rfl⟩
theorem cok_137 : COK (44, 316, 5, 0, 0) := trivial
theorem cok_138 : COK (44, 304, 6, 0, 2) := aT_in (sg_4 (i := 104) rfl) rfl
theorem cok_139 : COK (44, 150, 4, 0, 5) := aT_in (sg_4 (i := 105) rfl) rfl
theorem cok_140 : COK (7, 58, 2, 107, 3) := ⟨by decide +kernel, by decide +kernel, aT_in (sg_4 (i := 108) rfl) rfl, aT_in (sg_4 (i := 109) rfl) rfl, by decide +kernel, by decide +kernel⟩
theorem cok_141 : COK (10, 3, 3, 0, 0) := aT_in (sg_4 (i := 111) rfl) rfl
theorem cok_142 : COK (40, 98, 0, 108, 3) := ⟨by decide +kernel, by decide +kernel, aT_in (sg_4 (i := 124) rfl) rfl, aT_in (sg_4 (i := 125) rfl) rfl, aT_in (sg_4 (i := 126) rfl) rfl⟩
theorem cok_143 : COK (0, 293, 0, 109, 3) := ⟨by decide +kernel, by decide +kernel, aT_in (sg_4 (i := 128) rfl) rfl, aT_in (sg_4 (i := 129) rfl) rfl, aT_in (sg_4 (i := 130) rfl) rfl⟩
theorem cok_144 : COK (40, 103, 0, 110, 2) := ⟨by decide +kernel, by decide +kernel, aT_in (sg_4 (i := 132) rfl) rfl, aT_in (sg_4 (i := 133) rfl) rfl, aT_in (sg_4 (i := 134) rfl) rfl⟩
theorem cok_145 : COK (0, 298, 0, 111, 2) := ⟨by decide +kernel, by decide +kernel, aT_in (sg_4 (i := 136) rfl) rfl, aT_in (sg_4 (i := 137) rfl) rfl, aT_in (sg_4 (i := 138) rfl) rfl⟩
theorem cok_146 : COK (40, 107, 0, 112, 3) := ⟨by decide +kernel, by decide +kernel, aT_in (sg_4 (i := 140) rfl) rfl, aT_in (sg_4 (i := 141) rfl) rfl, aT_in (sg_4 (i := 142) rfl) rfl⟩
theorem cok_147 : COK (0, 301, 0, 113, 3) := ⟨by decide +kernel, by decide +kernel, aT_in (sg_4 (i := 144) rfl) rfl, aT_in (sg_4 (i := 146) rfl) rfl, aT_in (sg_0 (i := 17) rfl) rfl⟩
theorem cok_148 : COK (0, 304, 0, 114, 4) := ⟨by decide +kernel, by decide +kernel, aT_in (sg_4 (i := 148) rfl) rfl, aT_in (sg_4 (i := 149) rfl) rfl, aT_in (sg_4 (i := 150) rfl) rfl⟩
theorem cok_149 : COK (1, 30, 0, 115, 5) := ⟨by decide +kernel, by decide +kernel, aT_in (sg_4 (i := 152) rfl) rfl, aT_in (sg_4 (i := 154) rfl) rfl, aT_in (sg_0 (i := 18) rfl) rfl⟩
theorem cok_150 : COK (1, 34, 1, 116, 2) := ⟨by decide +kernel, by decide +kernel, aT_in (sg_4 (i := 156) rfl) rfl, aT_in (sg_4 (i := 157) rfl) rfl⟩
theorem cok_151 : COK (1, 40, 0, 59, 2) := ⟨by decide +kernel, by decide +kernel, aT_in (sg_4 (i := 159) rfl) rfl, aT_in (sg_3 (i := 141) rfl) rfl, aT_in (sg_3 (i := 142) rfl) rfl⟩
theorem cok_152 : COK (1, 80, 0, 117, 2) := ⟨by decide +kernel, by decide +kernel, aT_in (sg_4 (i := 160) rfl) rfl, aT_in (sg_4 (i := 162) rfl) rfl, aT_in (sg_0 (i := 19) rfl) rfl⟩
theorem cok_153 : COK (1, 90, 0, 24, 0) := ⟨by decide +kernel, by decide +kernel, aT_in (sg_4 (i := 164) rfl) rfl, aT_in (sg_2 (i := 230) rfl) rfl, aT_in (sg_2 (i := 231) rfl) rfl⟩
theorem cok_154 : COK (1, 61, 11, 27, 1) := ⟨by decide +kernel, by decide +kernel, sg_4 (i := 165) rfl, aT_in (sg_3 (i := 2) rfl) rfl⟩
theorem cok_155 : COK (1, 112, 0, 31, 1) := ⟨by decide +kernel, by decide +kernel, aT_in (sg_4 (i := 166) rfl) rfl, aT_in (sg_3 (i := 17) rfl) rfl, aT_in (sg_3 (i := 18) rfl) rfl⟩
theorem cok_156 : COK (1, 65, 0, 118, 1) := ⟨by decide +kernel, by decide +kernel, aT_in (sg_4 (i := 167) rfl) rfl, aT_in (sg_4 (i := 169) rfl) rfl, aT_in (sg_0 (i := 20) rfl) rfl⟩
theorem cok_157 : COK (1, 69, 0, 119, 3) := ⟨by decide +kernel, by decide +kernel, aT_in (sg_4 (i := 171) rfl) rfl, aT_in (sg_4 (i := 173) rfl) rfl, aT_in (sg_0 (i := 21) rfl) rfl⟩
theorem cok_158 : COK (1, 126, 0, 111, 2) := ⟨by decide +kernel, by decide +kernel, aT_in (sg_4 (i := 175) rfl) rfl, aT_in (sg_4 (i := 137) rfl) rfl, aT_in (sg_4 (i := 138) rfl) rfl⟩
theorem cok_159 : COK (1, 139, 0, 120, 1) := ⟨by decide +kernel, by decide +kernel, aT_in (sg_4 (i := 176) rfl) rfl, aT_in (sg_4 (i := 177) rfl) rfl, aT_in (sg_4 (i := 178) rfl) rfl⟩
theorem cok_160 : COK (1, 146, 6, 0, 2) := aT_in (sg_4 (i := 180) rfl) rfl
theorem cok_161 : COK (1, 151, 0, 121, 1) := ⟨by decide +kernel, by decide +kernel, aT_in (sg_4 (i := 181) rfl) rfl, aT_in (sg_4 (i := 182) rfl) rfl, aT_in (sg_4 (i := 183) rfl) rfl⟩
theorem cok_162 : COK (1, 154, 0, 122, 1) := ⟨by decide +kernel, by decide +kernel, aT_in (sg_4 (i := 185) rfl) rfl, aT_in (sg_4 (i := 187) rfl) rfl, aT_in (sg_0 (i := 22) rfl) rfl⟩
theorem cok_163 : COK (1, 161, 11, 12, 3) := ⟨by decide +kernel, by decide +kernel, sg_4 (i := 189) rfl, aT_in (sg_2 (i := 178) rfl) rfl⟩
theorem cok_164 : COK (1, 157, 1, 123, 3) := ⟨by decide +kernel, by decide +kernel, aT_in (sg_4 (i := 190) rfl) rfl, aT_in (sg_4 (i := 191) rfl) rfl⟩
theorem cok_165 : COK (40, 111, 0, 124, 3) := ⟨by decide +kernel, by decide +kernel, aT_in (sg_4 (i := 193) rfl) rfl, aT_in (sg_4 (i := 194) rfl) rfl, aT_in (sg_4 (i := 195) rfl) rfl⟩
theorem cok_166 : COK (40, 115, 0, 125, 3) := ⟨by decide +kernel, by decide +kernel, aT_in (sg_4 (i := 197) rfl) rfl, aT_in (sg_4 (i := 198) rfl) rfl, aT_in (sg_4 (i := 199) rfl) rfl⟩
theorem cok_167 : COK (0, 308, 0, 126, 3) := ⟨by decide +kernel, by decide +kernel, aT_in (sg_4 (i := 201) rfl) rfl, aT_in (sg_4 (i := 202) rfl) rfl, aT_in (sg_4 (i := 203) rfl) rfl⟩
theorem cok_168 : COK (1, 76, 0, 33, 1) := ⟨by decide +kernel, by decide +kernel, aT_in (sg_4 (i := 205) rfl) rfl, aT_in (sg_3 (i := 26) rfl) rfl, aT_in (sg_3 (i := 27) rfl) rfl⟩
theorem cok_169 : COK (40, 119, 0, 127, 3) := ⟨by decide +kernel, by decide +kernel, aT_in (sg_4 (i := 206) rfl) rfl, aT_in (sg_4 (i := 207) rfl) rfl, aT_in (sg_4 (i := 208) rfl) rfl⟩
theorem cok_170 : COK (0, 312, 0, 128, 3) := ⟨by decide +kernel, by decide +kernel, aT_in (sg_4 (i := 210) rfl) rfl, aT_in (sg_4 (i := 211) rfl) rfl, aT_in (sg_4 (i := 212) rfl) rfl⟩
theorem cok_171 : COK (40, 123, 0, 129, 2) := ⟨by decide +kernel, by decide +kernel, aT_in (sg_4 (i := 214) rfl) rfl, aT_in (sg_4 (i := 215) rfl) rfl, aT_in (sg_4 (i := 216) rfl) rfl⟩
theorem cok_172 : COK (40, 127, 0, 130, 1) := ⟨by decide +kernel, by decide +kernel, aT_in (sg_4 (i := 218) rfl) rfl, aT_in (sg_4 (i := 219) rfl) rfl, aT_in (sg_4 (i := 220) rfl) rfl⟩
theorem cok_173 : COK (0, 316, 1, 131, 1) := ⟨by decide +kernel, by decide +kernel, aT_in (sg_4 (i := 222) rfl) rfl, aT_in (sg_4 (i := 223) rfl) rfl⟩
theorem cok_174 : COK (0, 319, 0, 132, 1) := ⟨by decide +kernel, by decide +kernel, aT_in (sg_4 (i := 225) rfl) rfl, aT_in (sg_4 (i := 226) rfl) rfl, aT_in (sg_4 (i := 227) rfl) rfl⟩
theorem cok_175 : COK (8, 37, 0, 51, 2) := ⟨by decide +kernel, by decide +kernel, aT_in (sg_4 (i := 229) rfl) rfl, aT_in (sg_3 (i := 109) rfl) rfl, aT_in (sg_3 (i := 110) rfl) rfl⟩
theorem cok_176 : COK (8, 48, 0, 20, 0) := ⟨by decide +kernel, by decide +kernel, aT_in (sg_4 (i := 230) rfl) rfl, aT_in (sg_2 (i := 213) rfl) rfl, aT_in (sg_2 (i := 214) rfl) rfl⟩
theorem cok_177 : COK (8, 54, 0, 133, 1) := ⟨by decide +kernel, by decide +kernel, aT_in (sg_4 (i := 231) rfl) rfl, aT_in (sg_4 (i := 233) rfl) rfl, aT_in (sg_0 (i := 23) rfl) rfl⟩
theorem cok_178 : COK (8, 90, 7, 0, 2) := aT_in (sg_4 (i := 235) rfl) rfl
theorem cok_179 : COK (8, 95, 0, 134, 2) := ⟨by decide +kernel, by decide +kernel, aT_in (sg_4 (i := 236) rfl) rfl, aT_in (sg_4 (i := 238) rfl) rfl, aT_in (sg_0 (i := 24) rfl) rfl⟩
theorem cok_180 : COK (8, 105, 0, 135, 2) := ⟨by decide +kernel, by decide +kernel, aT_in (sg_5 (i := 0) rfl) rfl, aT_in (sg_5 (i := 2) rfl) rfl, aT_in (sg_0 (i := 25) rfl) rfl⟩
theorem cok_181 : COK (8, 125, 0, 59, 2) := ⟨by decide +kernel, by decide +kernel, aT_in (sg_5 (i := 4) rfl) rfl, aT_in (sg_3 (i := 141) rfl) rfl, aT_in (sg_3 (i := 142) rfl) rfl⟩
theorem cok_182 : COK (8, 108, 6, 0, 2) := aT_in (sg_5 (i := 5) rfl) rfl
theorem cok_183 : COK (8, 111, 0, 41, 0) := ⟨by decide +kernel, by decide +kernel, aT_in (sg_5 (i := 6) rfl) rfl, aT_in (sg_3 (i := 62) rfl) rfl, aT_in (sg_3 (i := 63) rfl) rfl⟩
theorem cok_184 : COK (8, 115, 0, 42, 6) := ⟨by decide +kernel, by decide +kernel, aT_in (sg_5 (i := 7) rfl) rfl, aT_in (sg_3 (i := 67) rfl) rfl, aT_in (sg_3 (i := 68) rfl) rfl⟩
theorem cok_185 : COK (8, 122, 0, 43, 1) := ⟨by decide +kernel, by decide +kernel, aT_in (sg_5 (i := 8) rfl) rfl, aT_in (sg_3 (i := 71) rfl) rfl, aT_in (sg_3 (i := 72) rfl) rfl⟩
theorem cok_186 : COK (8, 76, 0, 136, 1) := ⟨by decide +kernel, by decide +kernel, aT_in (sg_5 (i := 9) rfl) rfl, aT_in (sg_5 (i := 11) rfl) rfl, aT_in (sg_0 (i := 26) rfl) rfl⟩
theorem cok_187 : COK (8, 138, 0, 24, 0) := ⟨by decide +kernel, by decide +kernel, aT_in (sg_5 (i := 13) rfl) rfl, aT_in (sg_2 (i := 230) rfl) rfl, aT_in (sg_2 (i := 231) rfl) rfl⟩
theorem cok_188 : COK (8, 142, 0, 50, 2) := ⟨by decide +kernel, by decide +kernel, aT_in (sg_5 (i := 14) rfl) rfl, aT_in (sg_3 (i := 105) rfl) rfl, aT_in (sg_3 (i := 106) rfl) rfl⟩
theorem cok_189 : COK (8, 152, 0, 31, 1) := ⟨by decide +kernel, by decide +kernel, aT_in (sg_5 (i := 15) rfl) rfl, aT_in (sg_3 (i := 17) rfl) rfl, aT_in (sg_3 (i := 18) rfl) rfl⟩
theorem cok_190 : COK (8, 159, 0, 52, 2) := ⟨by decide +kernel, by decide +kernel, aT_in (sg_5 (i := 16) rfl) rfl, aT_in (sg_3 (i := 114) rfl) rfl, aT_in (sg_3 (i := 115) rfl) rfl⟩
theorem cok_191 : COK (8, 80, 0, 60, 2) := ⟨by decide +kernel, by decide +kernel, aT_in (sg_5 (i := 17) rfl) rfl, aT_in (sg_3 (i := 145) rfl) rfl, aT_in (sg_3 (i := 146) rfl) rfl⟩
theorem cok_192 : COK (8, 84, 0, 137, 0) := ⟨by decide +kernel, by decide +kernel, aT_in (sg_5 (i := 18) rfl) rfl, aT_in (sg_5 (i := 20) rfl) rfl, aT_in (sg_0 (i := 27) rfl) rfl⟩
theorem cok_193 : COK (8, 162, 0, 114, 4) := ⟨by decide +kernel, by decide +kernel, aT_in (sg_5 (i := 22) rfl) rfl, aT_in (sg_4 (i := 149) rfl) rfl, aT_in (sg_4 (i := 150) rfl) rfl⟩
theorem cok_194 : COK (8, 171, 0, 33, 1) := ⟨by decide +kernel, by decide +kernel, aT_in (sg_5 (i := 23) rfl) rfl, aT_in (sg_3 (i := 26) rfl) rfl, aT_in (sg_3 (i := 27) rfl) rfl⟩
theorem cok_195 : COK (8, 174, 0, 126, 3) := ⟨by decide +kernel, by decide +kernel, aT_in (sg_5 (i := 24) rfl) rfl, aT_in (sg_4 (i := 202) rfl) rfl, aT_in (sg_4 (i := 203) rfl) rfl⟩
theorem cok_196 : COK (8, 178, 11, 138, 1) := ⟨by decide +kernel, by decide +kernel, sg_5 (i := 25) rfl, aT_in (sg_5 (i := 26) rfl) rfl⟩
theorem cok_197 : COK (40, 131, 0, 139, 1) := ⟨by decide +kernel, by decide +kernel, aT_in (sg_5 (i := 28) rfl) rfl, aT_in (sg_5 (i := 29) rfl) rfl, aT_in (sg_5 (i := 30) rfl) rfl⟩
theorem cok_198 : COK (0, 322, 1, 140, 1) := ⟨by decide +kernel, by decide +kernel, aT_in (sg_5 (i := 32) rfl) rfl, aT_in (sg_5 (i := 33) rfl) rfl⟩
theorem cok_199 : COK (0, 325, 0, 141, 0) := ⟨by decide +kernel, by decide +kernel, aT_in (sg_5 (i := 35) rfl) rfl, aT_in (sg_5 (i := 36) rfl) rfl, aT_in (sg_5 (i := 37) rfl) rfl⟩
theorem cok_200 : COK (40, 135, 0, 142, 1) := ⟨by decide +kernel, by decide +kernel, aT_in (sg_5 (i := 39) rfl) rfl, aT_in (sg_5 (i := 40) rfl) rfl, aT_in (sg_5 (i := 41) rfl) rfl⟩
theorem cok_201 : COK (0, 332, 0, 143, 1) := ⟨by decide +kernel, by decide +kernel, aT_in (sg_5 (i := 43) rfl) rfl, aT_in (sg_5 (i := 44) rfl) rfl, aT_in (sg_5 (i := 45) rfl) rfl⟩
theorem cok_202 : COK (3, 191, 0, 144, 2) := ⟨by decide +kernel, by decide +kernel, aT_in (sg_5 (i := 47) rfl) rfl, aT_in (sg_5 (i := 49) rfl) rfl, aT_in (sg_0 (i := 28) rfl) rfl⟩
theorem cok_203 : COK (40, 139, 0, 145, 4) := ⟨by decide +kernel, by decide +kernel, aT_in (sg_5 (i := 51) rfl) rfl, aT_in (sg_5 (i := 52) rfl) rfl, aT_in (sg_5 (i := 53) rfl) rfl⟩
theorem cok_204 : COK (0, 335, 1, 146, 4) := ⟨by decide +kernel, by decide +kernel, aT_in (sg_5 (i := 55) rfl) rfl, aT_in (sg_5 (i := 56) rfl) rfl⟩
theorem cok_205 : COK (0, 350, 1, 147, 1) := ⟨by decide +kernel, by decide +kernel, aT_in (sg_5 (i := 58) rfl) rfl, aT_in (sg_5 (i := 59) rfl) rfl⟩
theorem cok_206 : COK (0, 339, 0, 148, 1) := ⟨by decide +kernel, by decide +kernel, aT_in (sg_5 (i := 61) rfl) rfl, aT_in (sg_5 (i := 62) rfl) rfl, aT_in (sg_5 (i := 63) rfl) rfl⟩
theorem cok_207 : COK (11, 19, 1, 149, 2) := ⟨by decide +kernel, by decide +kernel, aT_in (sg_5 (i := 65) rfl) rfl, aT_in (sg_5 (i := 66) rfl) rfl⟩
theorem cok_208 : COK (0, 343, 0, 150, 3) := ⟨by decide +kernel, by decide +kernel, aT_in (sg_5 (i := 68) rfl) rfl, aT_in (sg_5 (i := 69) rfl) rfl, aT_in (sg_5 (i := 70) rfl) rfl⟩
theorem cok_209 : COK (11, 25, 11, 12, 3) := ⟨by decide +kernel, by decide +kernel, sg_5 (i := 72) rfl, aT_in (sg_2 (i := 178) rfl) rfl⟩
theorem cok_210 : COK (11, 29, 0, 151, 3) := ⟨by decide +kernel, by decide +kernel, aT_in (sg_5 (i := 73) rfl) rfl, aT_in (sg_5 (i := 75) rfl) rfl, aT_in (sg_0 (i := 29) rfl) rfl⟩
theorem cok_211 : COK (11, 33, 1, 152, 2) := ⟨by decide +kernel, by decide +kernel, aT_in (sg_5 (i := 77) rfl) rfl, aT_in (sg_5 (i := 78) rfl) rfl⟩
theorem cok_212 : COK (11, 41, 6, 0, 2) := aT_in (sg_5 (i := 80) rfl) rfl
theorem cok_213 : COK (11, 37, 0, 153, 4) := ⟨by decide +kernel, by decide +kernel, aT_in (sg_5 (i := 81) rfl) rfl, aT_in (sg_5 (i := 83) rfl) rfl, aT_in (sg_0 (i := 30) rfl) rfl⟩
theorem cok_214 : COK (11, 46, 1, 154, 1) := ⟨by decide +kernel, by decide +kernel, aT_in (sg_5 (i := 85) rfl) rfl, aT_in (sg_5 (i := 86) rfl) rfl⟩
theorem cok_215 : COK (11, 69, 7, 0, 2) := aT_in (sg_5 (i := 88) rfl) rfl
theorem cok_216 : COK (11, 50, 1, 155, 1) := ⟨by decide +kernel, by decide +kernel, aT_in (sg_5 (i := 89) rfl) rfl, aT_in (sg_5 (i := 90) rfl) rfl⟩
theorem cok_217 : COK (11, 53, 0, 150, 3) := ⟨by decide +kernel, by decide +kernel, aT_in (sg_5 (i := 92) rfl) rfl, aT_in (sg_5 (i := 69) rfl) rfl, aT_in (sg_5 (i := 70) rfl) rfl⟩
theorem cok_218 : COK (40, 143, 0, 156, 5) := ⟨by decide +kernel, by decide +kernel, aT_in (sg_5 (i := 93) rfl) rfl, aT_in (sg_5 (i := 94) rfl) rfl, aT_in (sg_5 (i := 95) rfl) rfl⟩
theorem cok_219 : COK (0, 347, 0, 157, 3) := ⟨by decide +kernel, by decide +kernel, aT_in (sg_5 (i := 97) rfl) rfl, aT_in (sg_5 (i := 98) rfl) rfl, aT_in (sg_5 (i := 99) rfl) rfl⟩
theorem cok_220 : COK (40, 147, 0, 158, 4) := ⟨by decide +kernel, by decide +kernel, aT_in (sg_5 (i := 101) rfl) rfl, aT_in (sg_5 (i := 102) rfl) rfl, aT_in (sg_5 (i := 103) rfl) rfl⟩
theorem cok_221 : COK (0, 353, 0, 159, 4) := ⟨by decide +kernel, by decide +kernel, aT_in (sg_5 (i := 105) rfl) rfl, aT_in (sg_5 (i := 106) rfl) rfl, aT_in (sg_5 (i := 107) rfl) rfl⟩
theorem cok_222 : COK (11, 65, 11, 131, 1) := ⟨by decide +kernel, by decide +kernel, sg_5 (i := 109) rfl, aT_in (sg_4 (i := 223) rfl) rfl⟩
theorem cok_223 : COK (40, 151, 0, 160, 3) := ⟨by decide +kernel, by decide +kernel, aT_in (sg_5 (i := 110) rfl) rfl, aT_in (sg_5 (i := 111) rfl) rfl, aT_in (sg_5 (i := 112) rfl) rfl⟩
theorem cok_224 : COK (0, 357, 0, 161, 2) := ⟨by decide +kernel, by decide +kernel, aT_in (sg_5 (i := 114) rfl) rfl, aT_in (sg_5 (i := 115) rfl) rfl, aT_in (sg_5 (i := 116) rfl) rfl⟩
theorem cok_225 : COK (9, 20, 1, 116, 2) := ⟨by decide +kernel, by decide +kernel, aT_in (sg_5 (i := 118) rfl) rfl, aT_in (sg_4 (i := 157) rfl) rfl⟩
theorem cok_226 : COK (40, 155, 0, 162, 3) := ⟨by decide +kernel, by decide +kernel, aT_in (sg_5 (i := 119) rfl) rfl, aT_in (sg_5 (i := 120) rfl) rfl, aT_in (sg_5 (i := 121) rfl) rfl⟩
theorem cok_227 : COK (0, 360, 0, 163, 2) := ⟨by decide +kernel, by decide +kernel, aT_in (sg_5 (i := 123) rfl) rfl, aT_in (sg_5 (i := 124) rfl) rfl, aT_in (sg_5 (i := 125) rfl) rfl⟩
theorem cok_228 : COK (40, 159, 0, 164, 5) := ⟨by decide +kernel, by decide +kernel, aT_in (sg_5 (i := 127) rfl) rfl, aT_in (sg_5 (i := 128) rfl) rfl, aT_in (sg_5 (i := 129) rfl) rfl⟩
theorem cok_229 : COK (0, 366, 0, 165, 2) := ⟨by decide +kernel, by decide +kernel, aT_in (sg_5 (i := 131) rfl) rfl, aT_in (sg_5 (i := 132) rfl) rfl, aT_in (sg_5 (i := 133) rfl) rfl⟩
theorem cok_230 : COK (0, 369, 4, 0, 5) := aT_in (sg_5 (i := 135) rfl) rfl
theorem cok_231 : COK (40, 163, 0, 166, 0) := ⟨by decide +kernel, by decide +kernel, aT_in (sg_5 (i := 136) rfl) rfl, aT_in (sg_5 (i := 137) rfl) rfl, aT_in (sg_5 (i := 138) rfl) rfl⟩
theorem cok_232 : COK (0, 375, 0, 167, 1) := ⟨by decide +kernel, by decide +kernel, aT_in (sg_5 (i := 140) rfl) rfl, aT_in (sg_5 (i := 141) rfl) rfl, aT_in (sg_5 (i := 142) rfl) rfl⟩
theorem cok_233 : COK (3, 74, 4, 0, 5) := aT_in (sg_5 (i := 144) rfl) rfl
theorem cok_234 : COK (3, 80, 0, 168, 1) := ⟨by decide +kernel, by decide +kernel, aT_in (sg_5 (i := 145) rfl) rfl, aT_in (sg_5 (i := 146) rfl) rfl, aT_in (sg_5 (i := 147) rfl) rfl⟩
theorem cok_235 : COK (6, 41, 0, 16, 4) := ⟨by decide +kernel, by decide +kernel, aT_in (sg_5 (i := 149) rfl) rfl, aT_in (sg_2 (i := 196) rfl) rfl, aT_in (sg_2 (i := 197) rfl) rfl⟩
theorem cok_236 : COK (3, 84, 0, 169, 1) := ⟨by decide +kernel, by decide +kernel, aT_in (sg_5 (i := 150) rfl) rfl, aT_in (sg_5 (i := 151) rfl) rfl, aT_in (sg_5 (i := 152) rfl) rfl⟩
theorem cok_237 : COK (2, 23, 0, 29, 3) := ⟨by decide +kernel, by decide +kernel, aT_in (sg_5 (i := 154) rfl) rfl, aT_in (sg_3 (i := 9) rfl) rfl, aT_in (sg_3 (i := 10) rfl) rfl⟩
theorem cok_238 : COK (3, 87, 0, 170, 1) := ⟨by decide +kernel, by decide +kernel, aT_in (sg_5 (i := 155) rfl) rfl, aT_in (sg_5 (i := 156) rfl) rfl, aT_in (sg_5 (i := 157) rfl) rfl⟩
theorem cok_239 : COK (5, 42, 0, 42, 6) := ⟨by decide +kernel, by decide +kernel, aT_in (sg_5 (i := 159) rfl) rfl, aT_in (sg_3 (i := 67) rfl) rfl, aT_in (sg_3 (i := 68) rfl) rfl⟩
theorem cok_240 : COK (3, 100, 0, 109, 3) := ⟨by decide +kernel, by decide +kernel, aT_in (sg_5 (i := 160) rfl) rfl, aT_in (sg_4 (i := 129) rfl) rfl, aT_in (sg_4 (i := 130) rfl) rfl⟩
theorem cok_241 : COK (40, 168, 0, 171, 0) := ⟨by decide +kernel, by decide +kernel, aT_in (sg_5 (i := 161) rfl) rfl, aT_in (sg_5 (i := 162) rfl) rfl, aT_in (sg_5 (i := 163) rfl) rfl⟩
theorem cok_242 : COK (40, 172, 0, 172, 1) := ⟨by decide +kernel, by decide +kernel, aT_in (sg_5 (i := 165) rfl) rfl, aT_in (sg_5 (i := 166) rfl) rfl, aT_in (sg_5 (i := 167) rfl) rfl⟩
theorem cok_243 : COK (0, 378, 0, 173, 0) := ⟨by decide +kernel, by decide +kernel, aT_in (sg_5 (i := 169) rfl) rfl, aT_in (sg_5 (i := 170) rfl) rfl, aT_in (sg_5 (i := 171) rfl) rfl⟩
theorem cok_244 : COK (0, 381, 0, 174, 0) := ⟨by decide +kernel, by decide +kernel, aT_in (sg_5 (i := 173) rfl) rfl, aT_in (sg_5 (i := 174) rfl) rfl, aT_in (sg_5 (i := 175) rfl) rfl⟩
theorem cok_245 : COK (0, 384, 0, 175, 0) := ⟨by decide +kernel, by decide +kernel, aT_in (sg_5 (i := 177) rfl) rfl, aT_in (sg_5 (i := 178) rfl) rfl, aT_in (sg_5 (i := 179) rfl) rfl⟩
theorem cok_246 : COK (40, 12, 2, 176, 0) := ⟨by decide +kernel, by decide +kernel, aT_in (sg_5 (i := 183) rfl) rfl, aT_in (sg_5 (i := 184) rfl) rfl, by decide +kernel, by decide +kernel⟩
theorem cok_247 : COK (12, 1, 3, 0, 0) := aT_in (sg_5 (i := 186) rfl) rfl
theorem cok_248 : COK (40, 17, 0, 177, 4) := ⟨by decide +kernel, by decide +kernel, aT_in (sg_6 (i := 29) rfl) rfl, aT_in (sg_6 (i := 30) rfl) rfl, aT_in (sg_6 (i := 31) rfl) rfl⟩
theorem cok_249 : COK (12, 69, 1, 178, 3) := ⟨by decide +kernel, by decide +kernel, aT_in (sg_6 (i := 33) rfl) rfl, aT_in (sg_6 (i := 34) rfl) rfl⟩
theorem cok_250 : COK (12, 78, 0, 179, 1) := ⟨by decide +kernel, by decide +kernel, aT_in (sg_6 (i := 37) rfl) rfl, aT_in (sg_6 (i := 39) rfl) rfl, aT_in (sg_0 (i := 31) rfl) rfl⟩
theorem cok_251 : COK (12, 83, 0, 180, 3) := ⟨by decide +kernel, by decide +kernel, aT_in (sg_6 (i := 42) rfl) rfl, aT_in (sg_6 (i := 44) rfl) rfl, aT_in (sg_0 (i := 32) rfl) rfl⟩
theorem cok_252 : COK (40, 22, 0, 181, 3) := ⟨by decide +kernel, by decide +kernel, aT_in (sg_6 (i := 46) rfl) rfl, aT_in (sg_6 (i := 47) rfl) rfl, aT_in (sg_6 (i := 48) rfl) rfl⟩
theorem cok_253 : COK (12, 87, 0, 182, 1) := ⟨by decide +kernel, by decide +kernel, aT_in (sg_6 (i := 50) rfl) rfl, aT_in (sg_6 (i := 52) rfl) rfl, aT_in (sg_0 (i := 33) rfl) rfl⟩
theorem cok_254 : COK (40, 27, 0, 183, 2) := ⟨by decide +kernel, by decide +kernel, aT_in (sg_6 (i := 54) rfl) rfl, aT_in (sg_6 (i := 55) rfl) rfl, aT_in (sg_6 (i := 56) rfl) rfl⟩
theorem cok_255 : COK (12, 73, 0, 184, 2) := ⟨by decide +kernel, by decide +kernel, aT_in (sg_6 (i := 58) rfl) rfl, aT_in (sg_6 (i := 60) rfl) rfl, aT_in (sg_0 (i := 34) rfl) rfl⟩
theorem cok_256 : COK (40, 32, 0, 185, 1) := ⟨by decide +kernel, by decide +kernel, aT_in (sg_6 (i := 62) rfl) rfl, aT_in (sg_6 (i := 63) rfl) rfl, aT_in (sg_6 (i := 64) rfl) rfl⟩
theorem cok_257 : COK (12, 91, 0, 186, 1) := ⟨by decide +kernel, by decide +kernel, aT_in (sg_6 (i := 66) rfl) rfl, aT_in (sg_6 (i := 68) rfl) rfl, aT_in (sg_0 (i := 35) rfl) rfl⟩
theorem cok_258 : COK (40, 36, 0, 187, 2) := ⟨by decide +kernel, by decide +kernel, aT_in (sg_6 (i := 71) rfl) rfl, aT_in (sg_6 (i := 72) rfl) rfl, aT_in (sg_6 (i := 73) rfl) rfl⟩
theorem cok_259 : COK (12, 104, 0, 188, 2) := ⟨by decide +kernel, by decide +kernel, aT_in (sg_6 (i := 75) rfl) rfl, aT_in (sg_6 (i := 77) rfl) rfl, aT_in (sg_0 (i := 36) rfl) rfl⟩
theorem cok_260 : COK (12, 95, 0, 189, 1) := ⟨by decide +kernel, by decide +kernel, aT_in (sg_6 (i := 79) rfl) rfl, aT_in (sg_6 (i := 81) rfl) rfl, aT_in (sg_0 (i := 37) rfl) rfl⟩
theorem cok_261 : COK (12, 98, 0, 190, 2) := ⟨by decide +kernel, by decide +kernel, aT_in (sg_6 (i := 83) rfl) rfl, aT_in (sg_6 (i := 85) rfl) rfl, aT_in (sg_0 (i := 38) rfl) rfl⟩
theorem cok_262 : COK (12, 101, 0, 191, 1) := ⟨by decide +kernel, by decide +kernel, aT_in (sg_6 (i := 87) rfl) rfl, aT_in (sg_6 (i := 89) rfl) rfl, aT_in (sg_0 (i := 39) rfl) rfl⟩
theorem cok_263 : COK (12, 107, 0, 192, 3) := ⟨by decide +kernel, by decide +kernel, aT_in (sg_6 (i := 91) rfl) rfl, aT_in (sg_6 (i := 93) rfl) rfl, aT_in (sg_0 (i := 40) rfl) rfl⟩
theorem cok_264 : COK (12, 111, 0, 193, 2) := ⟨by decide +kernel, by decide +kernel, aT_in (sg_6 (i := 95) rfl) rfl, aT_in (sg_6 (i := 97) rfl) rfl, aT_in (sg_0 (i := 41) rfl) rfl⟩
theorem cok_265 : COK (40, 41, 0, 194, 3) := ⟨by decide +kernel, by decide +kernel, aT_in (sg_6 (i := 99) rfl) rfl, aT_in (sg_6 (i := 100) rfl) rfl, aT_in (sg_6 (i := 101) rfl) rfl⟩
theorem cok_266 : COK (40, 45, 0, 195, 2) := ⟨by decide +kernel, by decide +kernel, aT_in (sg_6 (i := 103) rfl) rfl, aT_in (sg_6 (i := 104) rfl) rfl, aT_in (sg_6 (i := 105) rfl) rfl⟩
theorem cok_267 : COK (12, 114, 0, 196, 1) := ⟨by decide +kernel, by decide +kernel, aT_in (sg_6 (i := 107) rfl) rfl, aT_in (sg_6 (i := 109) rfl) rfl, aT_in (sg_0 (i := 42) rfl) rfl⟩
theorem cok_268 : COK (40, 49, 0, 197, 1) := ⟨by decide +kernel, by decide +kernel, aT_in (sg_6 (i := 111) rfl) rfl, aT_in (sg_6 (i := 112) rfl) rfl, aT_in (sg_6 (i := 113) rfl) rfl⟩
theorem cok_269 : COK (12, 128, 0, 198, 1) := ⟨by decide +kernel, by decide +kernel, aT_in (sg_6 (i := 115) rfl) rfl, aT_in (sg_6 (i := 117) rfl) rfl, aT_in (sg_0 (i := 43) rfl) rfl⟩
theorem cok_270 : COK (12, 121, 0, 199, 1) := ⟨by decide +kernel, by decide +kernel, aT_in (sg_6 (i := 119) rfl) rfl, aT_in (sg_6 (i := 121) rfl) rfl, aT_in (sg_0 (i := 44) rfl) rfl⟩
theorem cok_271 : COK (12, 117, 0, 200, 2) := ⟨by decide +kernel, by decide +kernel, aT_in (sg_6 (i := 123) rfl) rfl, aT_in (sg_6 (i := 125) rfl) rfl, aT_in (sg_0 (i := 45) rfl) rfl⟩
theorem cok_272 : COK (12, 125, 0, 201, 1) := ⟨by decide +kernel, by decide +kernel, aT_in (sg_6 (i := 127) rfl) rfl, aT_in (sg_6 (i := 129) rfl) rfl, aT_in (sg_0 (i := 46) rfl) rfl⟩
theorem cok_273 : COK (40, 53, 0, 202, 2) := ⟨by decide +kernel, by decide +kernel, aT_in (sg_6 (i := 131) rfl) rfl, aT_in (sg_6 (i := 132) rfl) rfl, aT_in (sg_6 (i := 133) rfl) rfl⟩
theorem cok_274 : COK (40, 58, 0, 203, 5) := ⟨by decide +kernel, by decide +kernel, aT_in (sg_6 (i := 136) rfl) rfl, aT_in (sg_6 (i := 137) rfl) rfl, aT_in (sg_6 (i := 138) rfl) rfl⟩
theorem cok_275 : COK (12, 136, 1, 204, 1) := ⟨by decide +kernel, by decide +kernel, aT_in (sg_6 (i := 141) rfl) rfl, aT_in (sg_6 (i := 142) rfl) rfl⟩
theorem cok_276 : COK (12, 140, 0, 205, 7) := ⟨by decide +kernel, by decide +kernel, aT_in (sg_6 (i := 145) rfl) rfl, aT_in (sg_6 (i := 147) rfl) rfl, aT_in (sg_0 (i := 47) rfl) rfl⟩
theorem cok_277 : COK (12, 132, 0, 206, 3) := ⟨by decide +kernel, by decide +kernel, aT_in (sg_6 (i := 149) rfl) rfl, aT_in (sg_6 (i := 151) rfl) rfl, aT_in (sg_0 (i := 48) rfl) rfl⟩
theorem cok_278 : COK (40, 62, 0, 207, 2) := ⟨by decide +kernel, by decide +kernel, aT_in (sg_6 (i := 153) rfl) rfl, aT_in (sg_6 (i := 154) rfl) rfl, aT_in (sg_6 (i := 155) rfl) rfl⟩
theorem cok_279 : COK (12, 144, 0, 208, 1) := ⟨by decide +kernel, by decide +kernel, aT_in (sg_6 (i := 157) rfl) rfl, aT_in (sg_6 (i := 159) rfl) rfl, aT_in (sg_0 (i := 49) rfl) rfl⟩
theorem cok_280 : COK (12, 147, 1, 209, 2) := ⟨by decide +kernel, by decide +kernel, aT_in (sg_6 (i := 161) rfl) rfl, aT_in (sg_6 (i := 162) rfl) rfl⟩
theorem cok_281 : COK (40, 66, 0, 210, 2) := ⟨by decide +kernel, by decide +kernel, aT_in (sg_6 (i := 165) rfl) rfl, aT_in (sg_6 (i := 166) rfl) rfl, aT_in (sg_6 (i := 167) rfl) rfl⟩
theorem cok_282 : COK (40, 70, 0, 211, 2) := ⟨by decide +kernel, by decide +kernel, aT_in (sg_6 (i := 169) rfl) rfl, aT_in (sg_6 (i := 170) rfl) rfl, aT_in (sg_6 (i := 171) rfl) rfl⟩
theorem cok_283 : COK (12, 158, 0, 212, 2) := ⟨by decide +kernel, by decide +kernel, aT_in (sg_6 (i := 173) rfl) rfl, aT_in (sg_6 (i := 175) rfl) rfl, aT_in (sg_0 (i := 50) rfl) rfl⟩
theorem cok_284 : COK (12, 151, 0, 213, 2) := ⟨by decide +kernel, by decide +kernel, aT_in (sg_6 (i := 177) rfl) rfl, aT_in (sg_6 (i := 179) rfl) rfl, aT_in (sg_0 (i := 51) rfl) rfl⟩
theorem cok_285 : COK (12, 155, 0, 214, 2) := ⟨by decide +kernel, by decide +kernel, aT_in (sg_6 (i := 181) rfl) rfl, aT_in (sg_6 (i := 183) rfl) rfl, aT_in (sg_0 (i := 52) rfl) rfl⟩
theorem cok_286 : COK (40, 74, 0, 215, 1) := ⟨by decide +kernel, by decide +kernel, aT_in (sg_6 (i := 185) rfl) rfl, aT_in (sg_6 (i := 186) rfl) rfl, aT_in (sg_6 (i := 187) rfl) rfl⟩
theorem cok_287 : COK (40, 78, 0, 216, 2) := ⟨by decide +kernel, by decide +kernel, aT_in (sg_6 (i := 189) rfl) rfl, aT_in (sg_6 (i := 190) rfl) rfl, aT_in (sg_6 (i := 191) rfl) rfl⟩
theorem cok_288 : COK (40, 82, 0, 217, 2) := ⟨by decide +kernel, by decide +kernel, aT_in (sg_6 (i := 193) rfl) rfl, aT_in (sg_6 (i := 194) rfl) rfl, aT_in (sg_6 (i := 195) rfl) rfl⟩
theorem cok_289 : COK (12, 161, 1, 218, 1) := ⟨by decide +kernel, by decide +kernel, aT_in (sg_6 (i := 197) rfl) rfl, aT_in (sg_6 (i := 198) rfl) rfl⟩
theorem cok_290 : COK (40, 86, 0, 219, 2) := ⟨by decide +kernel, by decide +kernel, aT_in (sg_6 (i := 200) rfl) rfl, aT_in (sg_6 (i := 201) rfl) rfl, aT_in (sg_6 (i := 202) rfl) rfl⟩
theorem cok_291 : COK (12, 164, 1, 220, 1) := ⟨by decide +kernel, by decide +kernel, aT_in (sg_6 (i := 204) rfl) rfl, aT_in (sg_6 (i := 205) rfl) rfl⟩
theorem cok_292 : COK (12, 167, 0, 221, 2) := ⟨by decide +kernel, by decide +kernel, aT_in (sg_6 (i := 207) rfl) rfl, aT_in (sg_6 (i := 209) rfl) rfl, aT_in (sg_0 (i := 53) rfl) rfl⟩
theorem cok_293 : COK (40, 93, 0, 222, 2) := ⟨by decide +kernel, by decide +kernel, aT_in (sg_6 (i := 211) rfl) rfl, aT_in (sg_6 (i := 212) rfl) rfl, aT_in (sg_6 (i := 213) rfl) rfl⟩
theorem cok_294 : COK (40, 97, 0, 223, 1) := ⟨by decide +kernel, by decide +kernel, aT_in (sg_6 (i := 215) rfl) rfl, aT_in (sg_6 (i := 216) rfl) rfl, aT_in (sg_6 (i := 217) rfl) rfl⟩
theorem cok_295 : COK (12, 229, 0, 224, 0) := ⟨by decide +kernel, by decide +kernel, aT_in (sg_6 (i := 219) rfl) rfl, aT_in (sg_6 (i := 221) rfl) rfl, aT_in (sg_0 (i := 54) rfl) rfl⟩
theorem cok_296 : COK (12, 213, 0, 225, 0) := ⟨by decide +kernel, by decide +kernel, aT_in (sg_6 (i := 223) rfl) rfl, aT_in (sg_6 (i := 225) rfl) rfl, aT_in (sg_0 (i := 55) rfl) rfl⟩
theorem cok_297 : COK (12, 179, 0, 226, 1) := ⟨by decide +kernel, by decide +kernel, aT_in (sg_6 (i := 227) rfl) rfl, aT_in (sg_6 (i := 229) rfl) rfl, aT_in (sg_0 (i := 56) rfl) rfl⟩
theorem cok_298 : COK (12, 185, 1, 227, 1) := ⟨by decide +kernel, by decide +kernel, aT_in (sg_6 (i := 231) rfl) rfl, aT_in (sg_6 (i := 232) rfl) rfl⟩
theorem cok_299 : COK (12, 188, 0, 228, 0) := ⟨by decide +kernel, by decide +kernel, aT_in (sg_6 (i := 234) rfl) rfl, aT_in (sg_6 (i := 236) rfl) rfl, aT_in (sg_0 (i := 57) rfl) rfl⟩
theorem cok_300 : COK (12, 192, 1, 229, 1) := ⟨by decide +kernel, by decide +kernel, aT_in (sg_6 (i := 238) rfl) rfl, aT_in (sg_6 (i := 239) rfl) rfl⟩
theorem cok_301 : COK (12, 198, 1, 230, 1) := ⟨by decide +kernel, by decide +kernel, aT_in (sg_7 (i := 1) rfl) rfl, aT_in (sg_7 (i := 2) rfl) rfl⟩
theorem cok_302 : COK (12, 226, 0, 231, 1) := ⟨by decide +kernel, by decide +kernel, aT_in (sg_7 (i := 4) rfl) rfl, aT_in (sg_7 (i := 6) rfl) rfl, aT_in (sg_0 (i := 58) rfl) rfl⟩
theorem cok_303 : COK (12, 216, 0, 232, 1) := ⟨by decide +kernel, by decide +kernel, aT_in (sg_7 (i := 8) rfl) rfl, aT_in (sg_7 (i := 10) rfl) rfl, aT_in (sg_0 (i := 59) rfl) rfl⟩
theorem cok_304 : COK (12, 210, 0, 233, 1) := ⟨by decide +kernel, by decide +kernel, aT_in (sg_7 (i := 12) rfl) rfl, aT_in (sg_7 (i := 14) rfl) rfl, aT_in (sg_0 (i := 60) rfl) rfl⟩
theorem cok_305 : COK (12, 219, 0, 234, 1) := ⟨by decide +kernel, by decide +kernel, aT_in (sg_7 (i := 16) rfl) rfl, aT_in (sg_7 (i := 18) rfl) rfl, aT_in (sg_0 (i := 61) rfl) rfl⟩
theorem cok_306 : COK (12, 207, 1, 235, 1) := ⟨by decide +kernel, by decide +kernel, aT_in (sg_7 (i := 20) rfl) rfl, aT_in (sg_7 (i := 21) rfl) rfl⟩
theorem cok_307 : COK (12, 222, 0, 236, 0) := ⟨by decide +kernel, by decide +kernel, aT_in (sg_7 (i := 23) rfl) rfl, aT_in (sg_7 (i := 25) rfl) rfl, aT_in (sg_0 (i := 62) rfl) rfl⟩
theorem cok_308 : COK (40, 102, 0, 237, 3) := ⟨by decide +kernel, by decide +kernel, aT_in (sg_7 (i := 27) rfl) rfl, aT_in (sg_7 (i := 28) rfl) rfl, aT_in (sg_7 (i := 29) rfl) rfl⟩
theorem cok_309 : COK (40, 106, 0, 238, 2) := ⟨by decide +kernel, by decide +kernel, aT_in (sg_7 (i := 31) rfl) rfl, aT_in (sg_7 (i := 32) rfl) rfl, aT_in (sg_7 (i := 33) rfl) rfl⟩
theorem cok_310 : COK (12, 235, 0, 239, 2) := ⟨by decide +kernel, by decide +kernel, aT_in (sg_7 (i := 35) rfl) rfl, aT_in (sg_7 (i := 37) rfl) rfl, aT_in (sg_0 (i := 63) rfl) rfl⟩
theorem cok_311 : COK (40, 110, 0, 240, 3) := ⟨by decide +kernel, by decide +kernel, aT_in (sg_7 (i := 39) rfl) rfl, aT_in (sg_7 (i := 40) rfl) rfl, aT_in (sg_7 (i := 41) rfl) rfl⟩
theorem cok_312 : COK (12, 245, 0, 241, 3) := ⟨by decide +kernel, by decide +kernel, aT_in (sg_7 (i := 43) rfl) rfl, aT_in (sg_7 (i := 45) rfl) rfl, aT_in (sg_0 (i := 64) rfl) rfl⟩
theorem cok_313 : COK (12, 248, 0, 242, 5) := ⟨by decide +kernel, by decide +kernel, aT_in (sg_7 (i := 47) rfl) rfl, aT_in (sg_7 (i := 49) rfl) rfl, aT_in (sg_0 (i := 65) rfl) rfl⟩
theorem cok_314 : COK (12, 241, 0, 243, 6) := ⟨by decide +kernel, by decide +kernel, aT_in (sg_7 (i := 51) rfl) rfl, aT_in (sg_7 (i := 53) rfl) rfl, aT_in (sg_0 (i := 66) rfl) rfl⟩
theorem cok_315 : COK (12, 238, 0, 244, 2) := ⟨by decide +kernel, by decide +kernel, aT_in (sg_7 (i := 55) rfl) rfl, aT_in (sg_7 (i := 57) rfl) rfl, aT_in (sg_0 (i := 67) rfl) rfl⟩
theorem cok_316 : COK (12, 232, 1, 245, 3) := ⟨by decide +kernel, by decide +kernel, aT_in (sg_7 (i := 59) rfl) rfl, aT_in (sg_7 (i := 60) rfl) rfl⟩
theorem cok_317 : COK (40, 114, 0, 246, 3) := ⟨by decide +kernel, by decide +kernel, aT_in (sg_7 (i := 62) rfl) rfl, aT_in (sg_7 (i := 63) rfl) rfl, aT_in (sg_7 (i := 64) rfl) rfl⟩
theorem cok_318 : COK (40, 118, 0, 247, 3) := ⟨by decide +kernel, by decide +kernel, aT_in (sg_7 (i := 66) rfl) rfl, aT_in (sg_7 (i := 67) rfl) rfl, aT_in (sg_7 (i := 68) rfl) rfl⟩
theorem cok_319 : COK (12, 252, 0, 248, 3) := ⟨by decide +kernel, by decide +kernel, aT_in (sg_7 (i := 70) rfl) rfl, aT_in (sg_7 (i := 72) rfl) rfl, aT_in (sg_0 (i := 68) rfl) rfl⟩
theorem cok_320 : COK (40, 122, 0, 249, 3) := ⟨by decide +kernel, by decide +kernel, aT_in (sg_7 (i := 74) rfl) rfl, aT_in (sg_7 (i := 75) rfl) rfl, aT_in (sg_7 (i := 76) rfl) rfl⟩
theorem cok_321 : COK (40, 126, 0, 250, 2) := ⟨by decide +kernel, by decide +kernel, aT_in (sg_7 (i := 78) rfl) rfl, aT_in (sg_7 (i := 79) rfl) rfl, aT_in (sg_7 (i := 80) rfl) rfl⟩
theorem cok_322 : COK (40, 130, 0, 251, 1) := ⟨by decide +kernel, by decide +kernel, aT_in (sg_7 (i := 82) rfl) rfl, aT_in (sg_7 (i := 83) rfl) rfl, aT_in (sg_7 (i := 84) rfl) rfl⟩
theorem cok_323 : COK (12, 270, 0, 252, 1) := ⟨by decide +kernel, by decide +kernel, aT_in (sg_7 (i := 86) rfl) rfl, aT_in (sg_7 (i := 88) rfl) rfl, aT_in (sg_0 (i := 69) rfl) rfl⟩
theorem cok_324 : COK (12, 258, 0, 253, 1) := ⟨by decide +kernel, by decide +kernel, aT_in (sg_7 (i := 90) rfl) rfl, aT_in (sg_7 (i := 92) rfl) rfl, aT_in (sg_0 (i := 70) rfl) rfl⟩
theorem cok_325 : COK (12, 261, 0, 254, 0) := ⟨by decide +kernel, by decide +kernel, aT_in (sg_7 (i := 94) rfl) rfl, aT_in (sg_7 (i := 96) rfl) rfl, aT_in (sg_0 (i := 71) rfl) rfl⟩
theorem cok_326 : COK (12, 255, 0, 255, 2) := ⟨by decide +kernel, by decide +kernel, aT_in (sg_7 (i := 98) rfl) rfl, aT_in (sg_7 (i := 100) rfl) rfl, aT_in (sg_0 (i := 72) rfl) rfl⟩
theorem cok_327 : COK (12, 264, 0, 256, 0) := ⟨by decide +kernel, by decide +kernel, aT_in (sg_7 (i := 102) rfl) rfl, aT_in (sg_7 (i := 104) rfl) rfl, aT_in (sg_0 (i := 73) rfl) rfl⟩
theorem cok_328 : COK (12, 267, 0, 257, 0) := ⟨by decide +kernel, by decide +kernel, aT_in (sg_7 (i := 106) rfl) rfl, aT_in (sg_7 (i := 108) rfl) rfl, aT_in (sg_0 (i := 74) rfl) rfl⟩
theorem cok_329 : COK (40, 134, 0, 258, 1) := ⟨by decide +kernel, by decide +kernel, aT_in (sg_7 (i := 110) rfl) rfl, aT_in (sg_7 (i := 111) rfl) rfl, aT_in (sg_7 (i := 112) rfl) rfl⟩
theorem cok_330 : COK (12, 273, 1, 259, 1) := ⟨by decide +kernel, by decide +kernel, aT_in (sg_7 (i := 114) rfl) rfl, aT_in (sg_7 (i := 115) rfl) rfl⟩
theorem cok_331 : COK (40, 138, 0, 260, 1) := ⟨by decide +kernel, by decide +kernel, aT_in (sg_7 (i := 117) rfl) rfl, aT_in (sg_7 (i := 118) rfl) rfl, aT_in (sg_7 (i := 119) rfl) rfl⟩
theorem cok_332 : COK (40, 142, 0, 261, 4) := ⟨by decide +kernel, by decide +kernel, aT_in (sg_7 (i := 121) rfl) rfl, aT_in (sg_7 (i := 122) rfl) rfl, aT_in (sg_7 (i := 123) rfl) rfl⟩
theorem cok_333 : COK (12, 289, 1, 262, 4) := ⟨by decide +kernel, by decide +kernel, aT_in (sg_7 (i := 125) rfl) rfl, aT_in (sg_7 (i := 126) rfl) rfl⟩
theorem cok_334 : COK (12, 293, 0, 263, 4) := ⟨by decide +kernel, by decide +kernel, aT_in (sg_7 (i := 128) rfl) rfl, aT_in (sg_7 (i := 130) rfl) rfl, aT_in (sg_0 (i := 75) rfl) rfl⟩
theorem cok_335 : COK (12, 276, 1, 264, 3) := ⟨by decide +kernel, by decide +kernel, aT_in (sg_7 (i := 132) rfl) rfl, aT_in (sg_7 (i := 133) rfl) rfl⟩
theorem cok_336 : COK (12, 286, 0, 265, 3) := ⟨by decide +kernel, by decide +kernel, aT_in (sg_7 (i := 135) rfl) rfl, aT_in (sg_7 (i := 137) rfl) rfl, aT_in (sg_0 (i := 76) rfl) rfl⟩
theorem cok_337 : COK (12, 279, 0, 266, 4) := ⟨by decide +kernel, by decide +kernel, aT_in (sg_7 (i := 139) rfl) rfl, aT_in (sg_7 (i := 141) rfl) rfl, aT_in (sg_0 (i := 77) rfl) rfl⟩
theorem cok_338 : COK (12, 283, 1, 267, 2) := ⟨by decide +kernel, by decide +kernel, aT_in (sg_7 (i := 143) rfl) rfl, aT_in (sg_7 (i := 144) rfl) rfl⟩
theorem cok_339 : COK (40, 146, 0, 268, 5) := ⟨by decide +kernel, by decide +kernel, aT_in (sg_7 (i := 146) rfl) rfl, aT_in (sg_7 (i := 147) rfl) rfl, aT_in (sg_7 (i := 148) rfl) rfl⟩
theorem cok_340 : COK (40, 150, 0, 269, 4) := ⟨by decide +kernel, by decide +kernel, aT_in (sg_7 (i := 150) rfl) rfl, aT_in (sg_7 (i := 151) rfl) rfl, aT_in (sg_7 (i := 152) rfl) rfl⟩
theorem cok_341 : COK (40, 154, 0, 270, 3) := ⟨by decide +kernel, by decide +kernel, aT_in (sg_7 (i := 154) rfl) rfl, aT_in (sg_7 (i := 155) rfl) rfl, aT_in (sg_7 (i := 156) rfl) rfl⟩
theorem cok_342 : COK (40, 158, 0, 271, 3) := ⟨by decide +kernel, by decide +kernel, aT_in (sg_7 (i := 158) rfl) rfl, aT_in (sg_7 (i := 159) rfl) rfl, aT_in (sg_7 (i := 160) rfl) rfl⟩
theorem cok_343 : COK (40, 162, 0, 272, 5) := ⟨by decide +kernel, by decide +kernel, aT_in (sg_7 (i := 162) rfl) rfl, aT_in (sg_7 (i := 163) rfl) rfl, aT_in (sg_7 (i := 164) rfl) rfl⟩
theorem cok_344 : COK (40, 167, 0, 273, 0) := ⟨by decide +kernel, by decide +kernel, aT_in (sg_7 (i := 166) rfl) rfl, aT_in (sg_7 (i := 167) rfl) rfl, aT_in (sg_7 (i := 168) rfl) rfl⟩
theorem cok_345 : COK (40, 171, 0, 274, 0) := ⟨by decide +kernel, by decide +kernel, aT_in (sg_7 (i := 170) rfl) rfl, aT_in (sg_7 (i := 171) rfl) rfl, aT_in (sg_7 (i := 172) rfl) rfl⟩
theorem cok_346 : COK (40, 175, 0, 275, 1) := ⟨by decide +kernel, by decide +kernel, aT_in (sg_7 (i := 174) rfl) rfl, aT_in (sg_7 (i := 175) rfl) rfl, aT_in (sg_7 (i := 176) rfl) rfl⟩
set_option maxRecDepth 100000 in
theorem cok_all : ∀ e ∈ ctab, COK e := List.forall_mem_cons.mpr ⟨cok_0, List.forall_mem_cons.mpr ⟨cok_1, List.forall_mem_cons.mpr ⟨cok_2, List.forall_mem_cons.mpr ⟨cok_3, List.forall_mem_cons.mpr ⟨cok_4, List.forall_mem_cons.mpr ⟨cok_5, List.forall_mem_cons.mpr ⟨cok_6, List.forall_mem_cons.mpr ⟨cok_7, List.forall_mem_cons.mpr ⟨cok_8, List.forall_mem_cons.mpr ⟨cok_9, List.forall_mem_cons.mpr ⟨cok_10, List.forall_mem_cons.mpr ⟨cok_11, List.forall_mem_cons.mpr ⟨cok_12, List.forall_mem_cons.mpr ⟨cok_13, List.forall_mem_cons.mpr ⟨cok_14, List.forall_mem_cons.mpr ⟨cok_15, List.forall_mem_cons.mpr ⟨cok_16, List.forall_mem_cons.mpr ⟨cok_17, List.forall_mem_cons.mpr ⟨cok_18, List.forall_mem_cons.mpr ⟨cok_19, List.forall_mem_cons.mpr ⟨cok_20, List.forall_mem_cons.mpr ⟨cok_21, List.forall_mem_cons.mpr ⟨cok_22, List.forall_mem_cons.mpr ⟨cok_23, List.forall_mem_cons.mpr ⟨cok_24, List.forall_mem_cons.mpr ⟨cok_25, List.forall_mem_cons.mpr ⟨cok_26, List.forall_mem_cons.mpr ⟨cok_27, List.forall_mem_cons.mpr ⟨cok_28, List.forall_mem_cons.mpr ⟨cok_29, List.forall_mem_cons.mpr ⟨cok_30, List.forall_mem_cons.mpr ⟨cok_31, List.forall_mem_cons.mpr ⟨cok_32, List.forall_mem_cons.mpr ⟨cok_33, List.forall_mem_cons.mpr ⟨cok_34, List.forall_mem_cons.mpr ⟨cok_35, List.forall_mem_cons.mpr ⟨cok_36, List.forall_mem_cons.mpr ⟨cok_37, List.forall_mem_cons.mpr ⟨cok_38, List.forall_mem_cons.mpr ⟨cok_39, List.forall_mem_cons.mpr ⟨cok_40, List.forall_mem_cons.mpr ⟨cok_41, List.forall_mem_cons.mpr ⟨cok_42, List.forall_mem_cons.mpr ⟨cok_43, List.forall_mem_cons.mpr ⟨cok_44, List.forall_mem_cons.mpr ⟨cok_45, List.forall_mem_cons.mpr ⟨cok_46, List.forall_mem_cons.mpr ⟨cok_47, List.forall_mem_cons.mpr ⟨cok_48, List.forall_mem_cons.mpr ⟨cok_49, List.forall_mem_cons.mpr ⟨cok_50, List.forall_mem_cons.mpr ⟨cok_51, List.forall_mem_cons.mpr ⟨cok_52, List.forall_mem_cons.mpr ⟨cok_53, List.forall_mem_cons.mpr ⟨cok_54, List.forall_mem_cons.mpr ⟨cok_55, List.forall_mem_cons.mpr ⟨cok_56, List.forall_mem_cons.mpr ⟨cok_57, List.forall_mem_cons.mpr ⟨cok_58, List.forall_mem_cons.mpr ⟨cok_59, List.forall_mem_cons.mpr ⟨cok_60, List.forall_mem_cons.mpr ⟨cok_61, List.forall_mem_cons.mpr ⟨cok_62, List.forall_mem_cons.mpr ⟨cok_63, List.forall_mem_cons.mpr ⟨cok_64, List.forall_mem_cons.mpr ⟨cok_65, List.forall_mem_cons.mpr ⟨cok_66, List.forall_mem_cons.mpr ⟨cok_67, List.forall_mem_cons.mpr ⟨cok_68, List.forall_mem_cons.mpr ⟨cok_69, List.forall_mem_cons.mpr ⟨cok_70, List.forall_mem_cons.mpr ⟨cok_71, List.forall_mem_cons.mpr ⟨cok_72, List.forall_mem_cons.mpr ⟨cok_73, List.forall_mem_cons.mpr ⟨cok_74, List.forall_mem_cons.mpr ⟨cok_75, List.forall_mem_cons.mpr ⟨cok_76, List.forall_mem_cons.mpr ⟨cok_77, List.forall_mem_cons.mpr ⟨cok_78, List.forall_mem_cons.mpr ⟨cok_79, List.forall_mem_cons.mpr ⟨cok_80, List.forall_mem_cons.mpr ⟨cok_81, List.forall_mem_cons.mpr ⟨cok_82, List.forall_mem_cons.mpr ⟨cok_83, List.forall_mem_cons.mpr ⟨cok_84, List.forall_mem_cons.mpr ⟨cok_85, List.forall_mem_cons.mpr ⟨cok_86, List.forall_mem_cons.mpr ⟨cok_87, List.forall_mem_cons.mpr ⟨cok_88, List.forall_mem_cons.mpr ⟨cok_89, List.forall_mem_cons.mpr ⟨cok_90, List.forall_mem_cons.mpr ⟨cok_91, List.forall_mem_cons.mpr ⟨cok_92, List.forall_mem_cons.mpr ⟨cok_93, List.forall_mem_cons.mpr ⟨cok_94, List.forall_mem_cons.mpr ⟨cok_95, List.forall_mem_cons.mpr ⟨cok_96, List.forall_mem_cons.mpr ⟨cok_97, List.forall_mem_cons.mpr ⟨cok_98, List.forall_mem_cons.mpr ⟨cok_99, List.forall_mem_cons.mpr ⟨cok_100, List.forall_mem_cons.mpr ⟨cok_101, List.forall_mem_cons.mpr ⟨cok_102, List.forall_mem_cons.mpr ⟨cok_103, List.forall_mem_cons.mpr ⟨cok_104, List.forall_mem_cons.mpr ⟨cok_105, List.forall_mem_cons.mpr ⟨cok_106, List.forall_mem_cons.mpr ⟨cok_107, List.forall_mem_cons.mpr ⟨cok_108, List.forall_mem_cons.mpr ⟨cok_109, List.forall_mem_cons.mpr ⟨cok_110, List.forall_mem_cons.mpr ⟨cok_111, List.forall_mem_cons.mpr ⟨cok_112, List.forall_mem_cons.mpr ⟨cok_113, List.forall_mem_cons.mpr ⟨cok_114, List.forall_mem_cons.mpr ⟨cok_115, List.forall_mem_cons.mpr ⟨cok_116, List.forall_mem_cons.mpr ⟨cok_117, List.forall_mem_cons.mpr ⟨cok_118, List.forall_mem_cons.mpr ⟨cok_119, List.forall_mem_cons.mpr ⟨cok_120, List.forall_mem_cons.mpr ⟨cok_121, List.forall_mem_cons.mpr ⟨cok_122, List.forall_mem_cons.mpr ⟨cok_123, List.forall_mem_cons.mpr ⟨cok_124, List.forall_mem_cons.mpr ⟨cok_125, List.forall_mem_cons.mpr ⟨cok_126, List.forall_mem_cons.mpr ⟨cok_127, List.forall_mem_cons.mpr ⟨cok_128, List.forall_mem_cons.mpr ⟨cok_129, List.forall_mem_cons.mpr ⟨cok_130, List.forall_mem_cons.mpr ⟨cok_131, List.forall_mem_cons.mpr ⟨cok_132, List.forall_mem_cons.mpr ⟨cok_133, List.forall_mem_cons.mpr ⟨cok_134, List.forall_mem_cons.mpr ⟨cok_135, List.forall_mem_cons.mpr ⟨cok_136, List.forall_mem_cons.mpr ⟨cok_137, List.forall_mem_cons.mpr ⟨cok_138, List.forall_mem_cons.mpr ⟨cok_139, List.forall_mem_cons.mpr ⟨cok_140, List.forall_mem_cons.mpr ⟨cok_141, List.forall_mem_cons.mpr ⟨cok_142, List.forall_mem_cons.mpr ⟨cok_143, List.forall_mem_cons.mpr ⟨cok_144, List.forall_mem_cons.mpr ⟨cok_145, List.forall_mem_cons.mpr ⟨cok_146, List.forall_mem_cons.mpr ⟨cok_147, List.forall_mem_cons.mpr ⟨cok_148, List.forall_mem_cons.mpr ⟨cok_149, List.forall_mem_cons.mpr ⟨cok_150, List.forall_mem_cons.mpr ⟨cok_151, List.forall_mem_cons.mpr ⟨cok_152, List.forall_mem_cons.mpr ⟨cok_153, List.forall_mem_cons.mpr ⟨cok_154, List.forall_mem_cons.mpr ⟨cok_155, List.forall_mem_cons.mpr ⟨cok_156, List.forall_mem_cons.mpr ⟨cok_157, List.forall_mem_cons.mpr ⟨cok_158, List.forall_mem_cons.mpr ⟨cok_159, List.forall_mem_cons.mpr ⟨cok_160, List.forall_mem_cons.mpr ⟨cok_161, List.forall_mem_cons.mpr ⟨cok_162, List.forall_mem_cons.mpr ⟨cok_163, List.forall_mem_cons.mpr ⟨cok_164, List.forall_mem_cons.mpr ⟨cok_165, List.forall_mem_cons.mpr ⟨cok_166, List.forall_mem_cons.mpr ⟨cok_167, List.forall_mem_cons.mpr ⟨cok_168, List.forall_mem_cons.mpr ⟨cok_169, List.forall_mem_cons.mpr ⟨cok_170, List.forall_mem_cons.mpr ⟨cok_171, List.forall_mem_cons.mpr ⟨cok_172, List.forall_mem_cons.mpr ⟨cok_173, List.forall_mem_cons.mpr ⟨cok_174, List.forall_mem_cons.mpr ⟨cok_175, List.forall_mem_cons.mpr ⟨cok_176, List.forall_mem_cons.mpr ⟨cok_177, List.forall_mem_cons.mpr ⟨cok_178, List.forall_mem_cons.mpr ⟨cok_179, List.forall_mem_cons.mpr ⟨cok_180, List.forall_mem_cons.mpr ⟨cok_181, List.forall_mem_cons.mpr ⟨cok_182, List.forall_mem_cons.mpr ⟨cok_183, List.forall_mem_cons.mpr ⟨cok_184, List.forall_mem_cons.mpr ⟨cok_185, List.forall_mem_cons.mpr ⟨cok_186, List.forall_mem_cons.mpr ⟨cok_187, List.forall_mem_cons.mpr ⟨cok_188, List.forall_mem_cons.mpr ⟨cok_189, List.forall_mem_cons.mpr ⟨cok_190, List.forall_mem_cons.mpr ⟨cok_191, List.forall_mem_cons.mpr ⟨cok_192, List.forall_mem_cons.mpr ⟨cok_193, List.forall_mem_cons.mpr ⟨cok_194, List.forall_mem_cons.mpr ⟨cok_195, List.forall_mem_cons.mpr ⟨cok_196, List.forall_mem_cons.mpr ⟨cok_197, List.forall_mem_cons.mpr ⟨cok_198, List.forall_mem_cons.mpr ⟨cok_199, List.forall_mem_cons.mpr ⟨cok_200, List.forall_mem_cons.mpr ⟨cok_201, List.forall_mem_cons.mpr ⟨cok_202, List.forall_mem_cons.mpr ⟨cok_203, List.forall_mem_cons.mpr ⟨cok_204, List.forall_mem_cons.mpr ⟨cok_205, List.forall_mem_cons.mpr ⟨cok_206, List.forall_mem_cons.mpr ⟨cok_207, List.forall_mem_cons.mpr ⟨cok_208, List.forall_mem_cons.mpr ⟨cok_209, List.forall_mem_cons.mpr ⟨cok_210, List.forall_mem_cons.mpr ⟨cok_211, List.forall_mem_cons.mpr ⟨cok_212, List.forall_mem_cons.mpr ⟨cok_213, List.forall_mem_cons.mpr ⟨cok_214, List.forall_mem_cons.mpr ⟨cok_215, List.forall_mem_cons.mpr ⟨cok_216, List.forall_mem_cons.mpr ⟨cok_217, List.forall_mem_cons.mpr ⟨cok_218, List.forall_mem_cons.mpr ⟨cok_219, List.forall_mem_cons.mpr ⟨cok_220, List.forall_mem_cons.mpr ⟨cok_221, List.forall_mem_cons.mpr ⟨cok_222, List.forall_mem_cons.mpr ⟨cok_223, List.forall_mem_cons.mpr ⟨cok_224, List.forall_mem_cons.mpr ⟨cok_225, List.forall_mem_cons.mpr ⟨cok_226, List.forall_mem_cons.mpr ⟨cok_227, List.forall_mem_cons.mpr ⟨cok_228, List.forall_mem_cons.mpr ⟨cok_229, List.forall_mem_cons.mpr ⟨cok_230, List.forall_mem_cons.mpr ⟨cok_231, List.forall_mem_cons.mpr ⟨cok_232, List.forall_mem_cons.mpr ⟨cok_233, List.forall_mem_cons.mpr ⟨cok_234, List.forall_mem_cons.mpr ⟨cok_235, List.forall_mem_cons.mpr ⟨cok_236, List.forall_mem_cons.mpr ⟨cok_237, List.forall_mem_cons.mpr ⟨cok_238, List.forall_mem_cons.mpr ⟨cok_239, List.forall_mem_cons.mpr ⟨cok_240, List.forall_mem_cons.mpr ⟨cok_241, List.forall_mem_cons.mpr ⟨cok_242, List.forall_mem_cons.mpr ⟨cok_243, List.forall_mem_cons.mpr ⟨cok_244, List.forall_mem_cons.mpr ⟨cok_245, List.forall_mem_cons.mpr ⟨cok_246, List.forall_mem_cons.mpr ⟨cok_247, List.forall_mem_cons.mpr ⟨cok_248, List.forall_mem_cons.mpr ⟨cok_249, List.forall_mem_cons.mpr ⟨cok_250, List.forall_mem_cons.mpr ⟨cok_251, List.forall_mem_cons.mpr ⟨cok_252, List.forall_mem_cons.mpr ⟨cok_253, List.forall_mem_cons.mpr ⟨cok_254, List.forall_mem_cons.mpr ⟨cok_255, List.forall_mem_cons.mpr ⟨cok_256, List.forall_mem_cons.mpr ⟨cok_257, List.forall_mem_cons.mpr ⟨cok_258, List.forall_mem_cons.mpr ⟨cok_259, List.forall_mem_cons.mpr ⟨cok_260, List.forall_mem_cons.mpr ⟨cok_261, List.forall_mem_cons.mpr ⟨cok_262, List.forall_mem_cons.mpr ⟨cok_263, List.forall_mem_cons.mpr ⟨cok_264, List.forall_mem_cons.mpr ⟨cok_265, List.forall_mem_cons.mpr ⟨cok_266, List.forall_mem_cons.mpr ⟨cok_267, List.forall_mem_cons.mpr ⟨cok_268, List.forall_mem_cons.mpr ⟨cok_269, List.forall_mem_cons.mpr ⟨cok_270, List.forall_mem_cons.mpr ⟨cok_271, List.forall_mem_cons.mpr ⟨cok_272, List.forall_mem_cons.mpr ⟨cok_273, List.forall_mem_cons.mpr ⟨cok_274, List.forall_mem_cons.mpr ⟨cok_275, List.forall_mem_cons.mpr ⟨cok_276, List.forall_mem_cons.mpr ⟨cok_277, List.forall_mem_cons.mpr ⟨cok_278, List.forall_mem_cons.mpr ⟨cok_279, List.forall_mem_cons.mpr ⟨cok_280, List.forall_mem_cons.mpr ⟨cok_281, List.forall_mem_cons.mpr ⟨cok_282, List.forall_mem_cons.mpr ⟨cok_283, List.forall_mem_cons.mpr ⟨cok_284, List.forall_mem_cons.mpr ⟨cok_285, List.forall_mem_cons.mpr ⟨cok_286, List.forall_mem_cons.mpr ⟨cok_287, List.forall_mem_cons.mpr ⟨cok_288, List.forall_mem_cons.mpr ⟨cok_289, List.forall_mem_cons.mpr ⟨cok_290, List.forall_mem_cons.mpr ⟨cok_291, List.forall_mem_cons.mpr ⟨cok_292, List.forall_mem_cons.mpr ⟨cok_293, List.forall_mem_cons.mpr ⟨cok_294, List.forall_mem_cons.mpr ⟨cok_295, List.forall_mem_cons.mpr ⟨cok_296, List.forall_mem_cons.mpr ⟨cok_297, List.forall_mem_cons.mpr ⟨cok_298, List.forall_mem_cons.mpr ⟨cok_299, List.forall_mem_cons.mpr ⟨cok_300, List.forall_mem_cons.mpr ⟨cok_301, List.forall_mem_cons.mpr ⟨cok_302, List.forall_mem_cons.mpr ⟨cok_303, List.forall_mem_cons.mpr ⟨cok_304, List.forall_mem_cons.mpr ⟨cok_305, List.forall_mem_cons.mpr ⟨cok_306, List.forall_mem_cons.mpr ⟨cok_307, List.forall_mem_cons.mpr ⟨cok_308, List.forall_mem_cons.mpr ⟨cok_309, List.forall_mem_cons.mpr ⟨cok_310, List.forall_mem_cons.mpr ⟨cok_311, List.forall_mem_cons.mpr ⟨cok_312, List.forall_mem_cons.mpr ⟨cok_313, List.forall_mem_cons.mpr ⟨cok_314, List.forall_mem_cons.mpr ⟨cok_315, List.forall_mem_cons.mpr ⟨cok_316, List.forall_mem_cons.mpr ⟨cok_317, List.forall_mem_cons.mpr ⟨cok_318, List.forall_mem_cons.mpr ⟨cok_319, List.forall_mem_cons.mpr ⟨cok_320, List.forall_mem_cons.mpr ⟨cok_321, List.forall_mem_cons.mpr ⟨cok_322, List.forall_mem_cons.mpr ⟨cok_323, List.forall_mem_cons.mpr ⟨cok_324, List.forall_mem_cons.mpr ⟨cok_325, List.forall_mem_cons.mpr ⟨cok_326, List.forall_mem_cons.mpr ⟨cok_327, List.forall_mem_cons.mpr ⟨cok_328, List.forall_mem_cons.mpr ⟨cok_329, List.forall_mem_cons.mpr ⟨cok_330, List.forall_mem_cons.mpr ⟨cok_331, List.forall_mem_cons.mpr ⟨cok_332, List.forall_mem_cons.mpr ⟨cok_333, List.forall_mem_cons.mpr ⟨cok_334, List.forall_mem_cons.mpr ⟨cok_335, List.forall_mem_cons.mpr ⟨cok_336, List.forall_mem_cons.mpr ⟨cok_337, List.forall_mem_cons.mpr ⟨cok_338, List.forall_mem_cons.mpr ⟨cok_339, List.forall_mem_cons.mpr ⟨cok_340, List.forall_mem_cons.mpr ⟨cok_341, List.forall_mem_cons.mpr ⟨cok_342, List.forall_mem_cons.mpr ⟨cok_343, List.forall_mem_cons.mpr ⟨cok_344, List.forall_mem_cons.mpr ⟨cok_345, List.forall_mem_cons.mpr ⟨cok_346, fun _ h => absurd h List.not_mem_nil⟩⟩⟩⟩⟩⟩⟩⟩⟩⟩⟩⟩⟩⟩⟩⟩⟩⟩⟩⟩⟩⟩⟩⟩⟩⟩⟩⟩⟩⟩⟩⟩⟩⟩⟩⟩⟩⟩⟩⟩⟩⟩⟩⟩⟩⟩⟩⟩⟩⟩⟩⟩⟩⟩⟩⟩⟩⟩⟩⟩⟩⟩⟩⟩⟩⟩⟩⟩⟩⟩⟩⟩⟩⟩⟩⟩⟩⟩⟩⟩⟩⟩⟩⟩⟩⟩⟩⟩⟩⟩⟩⟩⟩⟩⟩⟩⟩⟩⟩⟩⟩⟩⟩⟩⟩⟩⟩⟩⟩⟩⟩⟩⟩⟩⟩⟩⟩⟩⟩⟩⟩⟩⟩⟩⟩⟩⟩⟩⟩⟩⟩⟩⟩⟩⟩⟩⟩⟩⟩⟩⟩⟩⟩⟩⟩⟩⟩⟩⟩⟩⟩⟩⟩⟩⟩⟩⟩⟩⟩⟩⟩⟩⟩⟩⟩⟩⟩⟩⟩⟩⟩⟩⟩⟩⟩⟩⟩⟩⟩⟩⟩⟩⟩⟩⟩⟩⟩⟩⟩⟩⟩⟩⟩⟩⟩⟩⟩⟩⟩⟩⟩⟩⟩⟩⟩⟩⟩⟩⟩⟩⟩⟩⟩⟩⟩⟩⟩⟩⟩⟩⟩⟩⟩⟩⟩⟩⟩⟩⟩⟩⟩⟩⟩⟩⟩⟩⟩⟩⟩⟩⟩⟩⟩⟩⟩⟩⟩⟩⟩⟩⟩⟩⟩⟩⟩⟩⟩⟩⟩⟩⟩⟩⟩⟩⟩⟩⟩⟩⟩⟩⟩⟩⟩⟩⟩⟩⟩⟩⟩⟩⟩⟩⟩⟩⟩⟩⟩⟩⟩⟩⟩⟩⟩⟩⟩⟩⟩⟩⟩⟩⟩⟩⟩⟩⟩⟩⟩⟩⟩⟩⟩⟩⟩⟩⟩⟩⟩⟩⟩⟩⟩⟩⟩⟩⟩⟩⟩⟩⟩⟩⟩⟩⟩⟩⟩⟩⟩⟩⟩⟩⟩⟩⟩⟩⟩⟩⟩
theorem fok_0 : FOK (6, 7, 6, 0) := ⟨(cNm 6, aF6, 10), rfl, by decide +kernel, aT_in (sg_1 (i := 51) rfl) rfl, rfl⟩
theorem fok_1 : FOK (0, 129, 6, 0) := ⟨(cNm 6, aF6, 10), rfl, by decide +kernel, aT_in (sg_1 (i := 52) rfl) rfl, rfl⟩
theorem fok_2 : FOK (6, 13, 6, 1) := ⟨(cNm 6, aF6, 10), rfl, by decide +kernel, aT_in (sg_1 (i := 53) rfl) rfl, rfl⟩
theorem fok_3 : FOK (6, 16, 6, 2) := ⟨(cNm 6, aF6, 10), rfl, by decide +kernel, aT_in (sg_1 (i := 54) rfl) rfl, rfl⟩
theorem fok_4 : FOK (6, 19, 6, 3) := ⟨(cNm 6, aF6, 10), rfl, by decide +kernel, aT_in (sg_1 (i := 55) rfl) rfl, rfl⟩
theorem fok_5 : FOK (8, 87, 6, 3) := ⟨(cNm 6, aF6, 10), rfl, by decide +kernel, aT_in (sg_1 (i := 56) rfl) rfl, rfl⟩
theorem fok_6 : FOK (0, 120, 6, 3) := ⟨(cNm 6, aF6, 10), rfl, by decide +kernel, aT_in (sg_1 (i := 57) rfl) rfl, rfl⟩
theorem fok_7 : FOK (3, 131, 6, 3) := ⟨(cNm 6, aF6, 10), rfl, by decide +kernel, aT_in (sg_1 (i := 58) rfl) rfl, rfl⟩
theorem fok_8 : FOK (6, 22, 6, 4) := ⟨(cNm 6, aF6, 10), rfl, by decide +kernel, aT_in (sg_1 (i := 59) rfl) rfl, rfl⟩
theorem fok_9 : FOK (0, 126, 6, 4) := ⟨(cNm 6, aF6, 10), rfl, by decide +kernel, aT_in (sg_1 (i := 60) rfl) rfl, rfl⟩
theorem fok_10 : FOK (6, 25, 6, 5) := ⟨(cNm 6, aF6, 10), rfl, by decide +kernel, aT_in (sg_1 (i := 61) rfl) rfl, rfl⟩
theorem fok_11 : FOK (0, 112, 6, 5) := ⟨(cNm 6, aF6, 10), rfl, by decide +kernel, aT_in (sg_1 (i := 62) rfl) rfl, rfl⟩
theorem fok_12 : FOK (8, 132, 6, 5) := ⟨(cNm 6, aF6, 10), rfl, by decide +kernel, aT_in (sg_1 (i := 63) rfl) rfl, rfl⟩
theorem fok_13 : FOK (6, 28, 6, 6) := ⟨(cNm 6, aF6, 10), rfl, by decide +kernel, aT_in (sg_1 (i := 64) rfl) rfl, rfl⟩
theorem fok_14 : FOK (0, 132, 6, 6) := ⟨(cNm 6, aF6, 10), rfl, by decide +kernel, aT_in (sg_1 (i := 65) rfl) rfl, rfl⟩
theorem fok_15 : FOK (3, 164, 6, 6) := ⟨(cNm 6, aF6, 10), rfl, by decide +kernel, aT_in (sg_1 (i := 66) rfl) rfl, rfl⟩
theorem fok_16 : FOK (6, 31, 6, 7) := ⟨(cNm 6, aF6, 10), rfl, by decide +kernel, aT_in (sg_1 (i := 67) rfl) rfl, rfl⟩
theorem fok_17 : FOK (8, 99, 6, 7) := ⟨(cNm 6, aF6, 10), rfl, by decide +kernel, aT_in (sg_1 (i := 68) rfl) rfl, rfl⟩
theorem fok_18 : FOK (0, 141, 6, 7) := ⟨(cNm 6, aF6, 10), rfl, by decide +kernel, aT_in (sg_1 (i := 69) rfl) rfl, rfl⟩
theorem fok_19 : FOK (6, 34, 6, 8) := ⟨(cNm 6, aF6, 10), rfl, by decide +kernel, aT_in (sg_1 (i := 70) rfl) rfl, rfl⟩
theorem fok_20 : FOK (0, 106, 6, 8) := ⟨(cNm 6, aF6, 10), rfl, by decide +kernel, aT_in (sg_1 (i := 71) rfl) rfl, rfl⟩
theorem fok_21 : FOK (1, 55, 6, 8) := ⟨(cNm 6, aF6, 10), rfl, by decide +kernel, aT_in (sg_1 (i := 72) rfl) rfl, rfl⟩
theorem fok_22 : FOK (8, 128, 6, 8) := ⟨(cNm 6, aF6, 10), rfl, by decide +kernel, aT_in (sg_1 (i := 73) rfl) rfl, rfl⟩
theorem fok_23 : FOK (6, 38, 6, 9) := ⟨(cNm 6, aF6, 10), rfl, by decide +kernel, aT_in (sg_1 (i := 74) rfl) rfl, rfl⟩
theorem fok_24 : FOK (0, 109, 6, 9) := ⟨(cNm 6, aF6, 10), rfl, by decide +kernel, aT_in (sg_1 (i := 75) rfl) rfl, rfl⟩
theorem fok_25 : FOK (2, 7, 2, 0) := ⟨(cNm 2, aF2, 4), rfl, by decide +kernel, aT_in (sg_1 (i := 103) rfl) rfl, rfl⟩
theorem fok_26 : FOK (1, 73, 2, 0) := ⟨(cNm 2, aF2, 4), rfl, by decide +kernel, aT_in (sg_1 (i := 104) rfl) rfl, rfl⟩
theorem fok_27 : FOK (8, 168, 2, 0) := ⟨(cNm 2, aF2, 4), rfl, by decide +kernel, aT_in (sg_1 (i := 105) rfl) rfl, rfl⟩
theorem fok_28 : FOK (0, 165, 2, 0) := ⟨(cNm 2, aF2, 4), rfl, by decide +kernel, aT_in (sg_1 (i := 106) rfl) rfl, rfl⟩
theorem fok_29 : FOK (2, 13, 2, 1) := ⟨(cNm 2, aF2, 4), rfl, by decide +kernel, aT_in (sg_1 (i := 107) rfl) rfl, rfl⟩
theorem fok_30 : FOK (8, 34, 2, 1) := ⟨(cNm 2, aF2, 4), rfl, by decide +kernel, aT_in (sg_1 (i := 108) rfl) rfl, rfl⟩
theorem fok_31 : FOK (1, 120, 2, 1) := ⟨(cNm 2, aF2, 4), rfl, by decide +kernel, aT_in (sg_1 (i := 109) rfl) rfl, rfl⟩
theorem fok_32 : FOK (0, 162, 2, 1) := ⟨(cNm 2, aF2, 4), rfl, by decide +kernel, aT_in (sg_1 (i := 110) rfl) rfl, rfl⟩
theorem fok_33 : FOK (2, 16, 2, 2) := ⟨(cNm 2, aF2, 4), rfl, by decide +kernel, aT_in (sg_1 (i := 111) rfl) rfl, rfl⟩
theorem fok_34 : FOK (8, 29, 2, 2) := ⟨(cNm 2, aF2, 4), rfl, by decide +kernel, aT_in (sg_1 (i := 112) rfl) rfl, rfl⟩
theorem fok_35 : FOK (1, 50, 2, 2) := ⟨(cNm 2, aF2, 4), rfl, by decide +kernel, aT_in (sg_1 (i := 113) rfl) rfl, rfl⟩
theorem fok_36 : FOK (0, 168, 2, 2) := ⟨(cNm 2, aF2, 4), rfl, by decide +kernel, aT_in (sg_1 (i := 114) rfl) rfl, rfl⟩
theorem fok_37 : FOK (3, 155, 2, 2) := ⟨(cNm 2, aF2, 4), rfl, by decide +kernel, aT_in (sg_1 (i := 115) rfl) rfl, rfl⟩
theorem fok_38 : FOK (2, 19, 2, 3) := ⟨(cNm 2, aF2, 4), rfl, by decide +kernel, aT_in (sg_1 (i := 116) rfl) rfl, rfl⟩
theorem fok_39 : FOK (1, 123, 2, 3) := ⟨(cNm 2, aF2, 4), rfl, by decide +kernel, aT_in (sg_1 (i := 117) rfl) rfl, rfl⟩
theorem fok_40 : FOK (0, 171, 2, 3) := ⟨(cNm 2, aF2, 4), rfl, by decide +kernel, aT_in (sg_1 (i := 118) rfl) rfl, rfl⟩
theorem fok_41 : FOK (5, 9, 5, 0) := ⟨(cNm 5, aF5, 10), rfl, by decide +kernel, aT_in (sg_1 (i := 133) rfl) rfl, rfl⟩
theorem fok_42 : FOK (1, 24, 5, 0) := ⟨(cNm 5, aF5, 10), rfl, by decide +kernel, aT_in (sg_1 (i := 134) rfl) rfl, rfl⟩
theorem fok_43 : FOK (8, 146, 5, 0) := ⟨(cNm 5, aF5, 10), rfl, by decide +kernel, aT_in (sg_1 (i := 135) rfl) rfl, rfl⟩
theorem fok_44 : FOK (0, 210, 5, 0) := ⟨(cNm 5, aF5, 10), rfl, by decide +kernel, aT_in (sg_1 (i := 136) rfl) rfl, rfl⟩
theorem fok_45 : FOK (3, 158, 5, 0) := ⟨(cNm 5, aF5, 10), rfl, by decide +kernel, aT_in (sg_1 (i := 137) rfl) rfl, rfl⟩
theorem fok_46 : FOK (5, 15, 5, 1) := ⟨(cNm 5, aF5, 10), rfl, by decide +kernel, aT_in (sg_1 (i := 138) rfl) rfl, rfl⟩
theorem fok_47 : FOK (8, 135, 5, 1) := ⟨(cNm 5, aF5, 10), rfl, by decide +kernel, aT_in (sg_1 (i := 139) rfl) rfl, rfl⟩
theorem fok_48 : FOK (1, 100, 5, 1) := ⟨(cNm 5, aF5, 10), rfl, by decide +kernel, aT_in (sg_1 (i := 140) rfl) rfl, rfl⟩
theorem fok_49 : FOK (3, 161, 5, 1) := ⟨(cNm 5, aF5, 10), rfl, by decide +kernel, aT_in (sg_1 (i := 141) rfl) rfl, rfl⟩
theorem fok_50 : FOK (0, 227, 5, 1) := ⟨(cNm 5, aF5, 10), rfl, by decide +kernel, aT_in (sg_1 (i := 142) rfl) rfl, rfl⟩
theorem fok_51 : FOK (5, 18, 5, 2) := ⟨(cNm 5, aF5, 10), rfl, by decide +kernel, aT_in (sg_1 (i := 143) rfl) rfl, rfl⟩
theorem fok_52 : FOK (1, 103, 5, 2) := ⟨(cNm 5, aF5, 10), rfl, by decide +kernel, aT_in (sg_1 (i := 144) rfl) rfl, rfl⟩
theorem fok_53 : FOK (8, 156, 5, 2) := ⟨(cNm 5, aF5, 10), rfl, by decide +kernel, aT_in (sg_1 (i := 145) rfl) rfl, rfl⟩
theorem fok_54 : FOK (3, 152, 5, 2) := ⟨(cNm 5, aF5, 10), rfl, by decide +kernel, aT_in (sg_1 (i := 146) rfl) rfl, rfl⟩
theorem fok_55 : FOK (0, 237, 5, 2) := ⟨(cNm 5, aF5, 10), rfl, by decide +kernel, aT_in (sg_1 (i := 147) rfl) rfl, rfl⟩
theorem fok_56 : FOK (5, 21, 5, 3) := ⟨(cNm 5, aF5, 10), rfl, by decide +kernel, aT_in (sg_1 (i := 148) rfl) rfl, rfl⟩
theorem fok_57 : FOK (1, 97, 5, 3) := ⟨(cNm 5, aF5, 10), rfl, by decide +kernel, aT_in (sg_1 (i := 149) rfl) rfl, rfl⟩
theorem fok_58 : FOK (0, 240, 5, 3) := ⟨(cNm 5, aF5, 10), rfl, by decide +kernel, aT_in (sg_1 (i := 150) rfl) rfl, rfl⟩
theorem fok_59 : FOK (5, 24, 5, 4) := ⟨(cNm 5, aF5, 10), rfl, by decide +kernel, aT_in (sg_1 (i := 151) rfl) rfl, rfl⟩
theorem fok_60 : FOK (1, 94, 5, 4) := ⟨(cNm 5, aF5, 10), rfl, by decide +kernel, aT_in (sg_1 (i := 152) rfl) rfl, rfl⟩
theorem fok_61 : FOK (3, 174, 5, 4) := ⟨(cNm 5, aF5, 10), rfl, by decide +kernel, aT_in (sg_1 (i := 153) rfl) rfl, rfl⟩
theorem fok_62 : FOK (0, 243, 5, 4) := ⟨(cNm 5, aF5, 10), rfl, by decide +kernel, aT_in (sg_1 (i := 154) rfl) rfl, rfl⟩
theorem fok_63 : FOK (5, 27, 5, 5) := ⟨(cNm 5, aF5, 10), rfl, by decide +kernel, aT_in (sg_1 (i := 155) rfl) rfl, rfl⟩
theorem fok_64 : FOK (1, 87, 5, 5) := ⟨(cNm 5, aF5, 10), rfl, by decide +kernel, aT_in (sg_1 (i := 156) rfl) rfl, rfl⟩
theorem fok_65 : FOK (0, 246, 5, 5) := ⟨(cNm 5, aF5, 10), rfl, by decide +kernel, aT_in (sg_1 (i := 157) rfl) rfl, rfl⟩
theorem fok_66 : FOK (5, 30, 5, 6) := ⟨(cNm 5, aF5, 10), rfl, by decide +kernel, aT_in (sg_1 (i := 158) rfl) rfl, rfl⟩
theorem fok_67 : FOK (8, 70, 5, 6) := ⟨(cNm 5, aF5, 10), rfl, by decide +kernel, aT_in (sg_1 (i := 159) rfl) rfl, rfl⟩
theorem fok_68 : FOK (1, 106, 5, 6) := ⟨(cNm 5, aF5, 10), rfl, by decide +kernel, aT_in (sg_1 (i := 160) rfl) rfl, rfl⟩
theorem fok_69 : FOK (0, 249, 5, 6) := ⟨(cNm 5, aF5, 10), rfl, by decide +kernel, aT_in (sg_1 (i := 161) rfl) rfl, rfl⟩
theorem fok_70 : FOK (5, 33, 5, 7) := ⟨(cNm 5, aF5, 10), rfl, by decide +kernel, aT_in (sg_1 (i := 162) rfl) rfl, rfl⟩
theorem fok_71 : FOK (8, 149, 5, 7) := ⟨(cNm 5, aF5, 10), rfl, by decide +kernel, aT_in (sg_1 (i := 163) rfl) rfl, rfl⟩
theorem fok_72 : FOK (1, 109, 5, 7) := ⟨(cNm 5, aF5, 10), rfl, by decide +kernel, aT_in (sg_1 (i := 164) rfl) rfl, rfl⟩
theorem fok_73 : FOK (3, 143, 5, 7) := ⟨(cNm 5, aF5, 10), rfl, by decide +kernel, aT_in (sg_1 (i := 165) rfl) rfl, rfl⟩
theorem fok_74 : FOK (0, 252, 5, 7) := ⟨(cNm 5, aF5, 10), rfl, by decide +kernel, aT_in (sg_1 (i := 166) rfl) rfl, rfl⟩
theorem fok_75 : FOK (5, 36, 5, 8) := ⟨(cNm 5, aF5, 10), rfl, by decide +kernel, aT_in (sg_1 (i := 167) rfl) rfl, rfl⟩
theorem fok_76 : FOK (8, 119, 5, 8) := ⟨(cNm 5, aF5, 10), rfl, by decide +kernel, aT_in (sg_1 (i := 168) rfl) rfl, rfl⟩
theorem fok_77 : FOK (1, 84, 5, 8) := ⟨(cNm 5, aF5, 10), rfl, by decide +kernel, aT_in (sg_1 (i := 169) rfl) rfl, rfl⟩
theorem fok_78 : FOK (0, 217, 5, 8) := ⟨(cNm 5, aF5, 10), rfl, by decide +kernel, aT_in (sg_1 (i := 170) rfl) rfl, rfl⟩
theorem fok_79 : FOK (5, 39, 5, 9) := ⟨(cNm 5, aF5, 10), rfl, by decide +kernel, aT_in (sg_1 (i := 171) rfl) rfl, rfl⟩
theorem fok_80 : FOK (8, 65, 5, 9) := ⟨(cNm 5, aF5, 10), rfl, by decide +kernel, aT_in (sg_1 (i := 172) rfl) rfl, rfl⟩
theorem fok_81 : FOK (3, 167, 5, 9) := ⟨(cNm 5, aF5, 10), rfl, by decide +kernel, aT_in (sg_1 (i := 173) rfl) rfl, rfl⟩
theorem fok_82 : FOK (0, 220, 5, 9) := ⟨(cNm 5, aF5, 10), rfl, by decide +kernel, aT_in (sg_1 (i := 174) rfl) rfl, rfl⟩
theorem fok_83 : FOK (4, 7, 4, 0) := ⟨(cNm 4, aF4, 3), rfl, by decide +kernel, aT_in (sg_1 (i := 201) rfl) rfl, rfl⟩
theorem fok_84 : FOK (3, 90, 4, 0) := ⟨(cNm 4, aF4, 3), rfl, by decide +kernel, aT_in (sg_1 (i := 202) rfl) rfl, rfl⟩
theorem fok_85 : FOK (1, 133, 4, 0) := ⟨(cNm 4, aF4, 3), rfl, by decide +kernel, aT_in (sg_1 (i := 203) rfl) rfl, rfl⟩
theorem fok_86 : FOK (4, 13, 4, 1) := ⟨(cNm 4, aF4, 3), rfl, by decide +kernel, aT_in (sg_1 (i := 204) rfl) rfl, rfl⟩
theorem fok_87 : FOK (3, 94, 4, 1) := ⟨(cNm 4, aF4, 3), rfl, by decide +kernel, aT_in (sg_1 (i := 205) rfl) rfl, rfl⟩
theorem fok_88 : FOK (4, 17, 4, 2) := ⟨(cNm 4, aF4, 3), rfl, by decide +kernel, aT_in (sg_1 (i := 206) rfl) rfl, rfl⟩
theorem fok_89 : FOK (3, 97, 4, 2) := ⟨(cNm 4, aF4, 3), rfl, by decide +kernel, aT_in (sg_1 (i := 207) rfl) rfl, rfl⟩
theorem fok_90 : FOK (3, 11, 3, 0) := ⟨(cNm 3, aF3, 14), rfl, by decide +kernel, aT_in (sg_1 (i := 215) rfl) rfl, rfl⟩
theorem fok_91 : FOK (8, 44, 3, 0) := ⟨(cNm 3, aF3, 14), rfl, by decide +kernel, aT_in (sg_1 (i := 216) rfl) rfl, rfl⟩
theorem fok_92 : FOK (0, 92, 3, 0) := ⟨(cNm 3, aF3, 14), rfl, by decide +kernel, aT_in (sg_1 (i := 217) rfl) rfl, rfl⟩
theorem fok_93 : FOK (1, 46, 3, 0) := ⟨(cNm 3, aF3, 14), rfl, by decide +kernel, aT_in (sg_1 (i := 218) rfl) rfl, rfl⟩
theorem fok_94 : FOK (3, 19, 3, 1) := ⟨(cNm 3, aF3, 14), rfl, by decide +kernel, aT_in (sg_1 (i := 219) rfl) rfl, rfl⟩
theorem fok_95 : FOK (8, 25, 3, 1) := ⟨(cNm 3, aF3, 14), rfl, by decide +kernel, aT_in (sg_1 (i := 220) rfl) rfl, rfl⟩
theorem fok_96 : FOK (1, 116, 3, 1) := ⟨(cNm 3, aF3, 14), rfl, by decide +kernel, aT_in (sg_1 (i := 221) rfl) rfl, rfl⟩
theorem fok_97 : FOK (0, 150, 3, 1) := ⟨(cNm 3, aF3, 14), rfl, by decide +kernel, aT_in (sg_1 (i := 222) rfl) rfl, rfl⟩
theorem fok_98 : FOK (3, 25, 3, 2) := ⟨(cNm 3, aF3, 14), rfl, by decide +kernel, aT_in (sg_1 (i := 223) rfl) rfl, rfl⟩
theorem fok_99 : FOK (8, 61, 3, 2) := ⟨(cNm 3, aF3, 14), rfl, by decide +kernel, aT_in (sg_1 (i := 224) rfl) rfl, rfl⟩
theorem fok_100 : FOK (0, 206, 3, 2) := ⟨(cNm 3, aF3, 14), rfl, by decide +kernel, aT_in (sg_1 (i := 225) rfl) rfl, rfl⟩
theorem fok_101 : FOK (3, 31, 3, 3) := ⟨(cNm 3, aF3, 14), rfl, by decide +kernel, aT_in (sg_1 (i := 226) rfl) rfl, rfl⟩
theorem fok_102 : FOK (1, 129, 3, 3) := ⟨(cNm 3, aF3, 14), rfl, by decide +kernel, aT_in (sg_1 (i := 227) rfl) rfl, rfl⟩
theorem fok_103 : FOK (0, 289, 3, 3) := ⟨(cNm 3, aF3, 14), rfl, by decide +kernel, aT_in (sg_1 (i := 228) rfl) rfl, rfl⟩
theorem fok_104 : FOK (3, 37, 3, 4) := ⟨(cNm 3, aF3, 14), rfl, by decide +kernel, aT_in (sg_1 (i := 229) rfl) rfl, rfl⟩
theorem fok_105 : FOK (0, 278, 3, 4) := ⟨(cNm 3, aF3, 14), rfl, by decide +kernel, aT_in (sg_1 (i := 230) rfl) rfl, rfl⟩
theorem fok_106 : FOK (3, 41, 3, 5) := ⟨(cNm 3, aF3, 14), rfl, by decide +kernel, aT_in (sg_1 (i := 231) rfl) rfl, rfl⟩
theorem fok_107 : FOK (0, 258, 3, 5) := ⟨(cNm 3, aF3, 14), rfl, by decide +kernel, aT_in (sg_1 (i := 232) rfl) rfl, rfl⟩
theorem fok_108 : FOK (3, 45, 3, 6) := ⟨(cNm 3, aF3, 14), rfl, by decide +kernel, aT_in (sg_1 (i := 233) rfl) rfl, rfl⟩
theorem fok_109 : FOK (3, 48, 3, 7) := ⟨(cNm 3, aF3, 14), rfl, by decide +kernel, aT_in (sg_1 (i := 234) rfl) rfl, rfl⟩
theorem fok_110 : FOK (0, 88, 3, 7) := ⟨(cNm 3, aF3, 14), rfl, by decide +kernel, aT_in (sg_1 (i := 235) rfl) rfl, rfl⟩
theorem fok_111 : FOK (8, 41, 3, 7) := ⟨(cNm 3, aF3, 14), rfl, by decide +kernel, aT_in (sg_1 (i := 236) rfl) rfl, rfl⟩
theorem fok_112 : FOK (3, 52, 3, 8) := ⟨(cNm 3, aF3, 14), rfl, by decide +kernel, aT_in (sg_1 (i := 237) rfl) rfl, rfl⟩
theorem fok_113 : FOK (8, 19, 3, 8) := ⟨(cNm 3, aF3, 14), rfl, by decide +kernel, aT_in (sg_1 (i := 238) rfl) rfl, rfl⟩
theorem fok_114 : FOK (0, 147, 3, 8) := ⟨(cNm 3, aF3, 14), rfl, by decide +kernel, aT_in (sg_1 (i := 239) rfl) rfl, rfl⟩
theorem fok_115 : FOK (3, 55, 3, 9) := ⟨(cNm 3, aF3, 14), rfl, by decide +kernel, aT_in (sg_2 (i := 0) rfl) rfl, rfl⟩
theorem fok_116 : FOK (8, 58, 3, 9) := ⟨(cNm 3, aF3, 14), rfl, by decide +kernel, aT_in (sg_2 (i := 1) rfl) rfl, rfl⟩
theorem fok_117 : FOK (0, 188, 3, 9) := ⟨(cNm 3, aF3, 14), rfl, by decide +kernel, aT_in (sg_2 (i := 2) rfl) rfl, rfl⟩
theorem fok_118 : FOK (3, 58, 3, 10) := ⟨(cNm 3, aF3, 14), rfl, by decide +kernel, aT_in (sg_2 (i := 3) rfl) rfl, rfl⟩
theorem fok_119 : FOK (0, 286, 3, 10) := ⟨(cNm 3, aF3, 14), rfl, by decide +kernel, aT_in (sg_2 (i := 4) rfl) rfl, rfl⟩
theorem fok_120 : FOK (3, 61, 3, 11) := ⟨(cNm 3, aF3, 14), rfl, by decide +kernel, aT_in (sg_2 (i := 5) rfl) rfl, rfl⟩
theorem fok_121 : FOK (0, 66, 3, 11) := ⟨(cNm 3, aF3, 14), rfl, by decide +kernel, aT_in (sg_2 (i := 6) rfl) rfl, rfl⟩
theorem fok_122 : FOK (8, 73, 3, 11) := ⟨(cNm 3, aF3, 14), rfl, by decide +kernel, aT_in (sg_2 (i := 7) rfl) rfl, rfl⟩
theorem fok_123 : FOK (3, 64, 3, 12) := ⟨(cNm 3, aF3, 14), rfl, by decide +kernel, aT_in (sg_2 (i := 8) rfl) rfl, rfl⟩
theorem fok_124 : FOK (8, 102, 3, 12) := ⟨(cNm 3, aF3, 14), rfl, by decide +kernel, aT_in (sg_2 (i := 9) rfl) rfl, rfl⟩
theorem fok_125 : FOK (0, 387, 3, 12) := ⟨(cNm 3, aF3, 14), rfl, by decide +kernel, aT_in (sg_2 (i := 10) rfl) rfl, rfl⟩
theorem fok_126 : FOK (3, 67, 3, 13) := ⟨(cNm 3, aF3, 14), rfl, by decide +kernel, aT_in (sg_2 (i := 11) rfl) rfl, rfl⟩
theorem fok_127 : FOK (0, 123, 3, 13) := ⟨(cNm 3, aF3, 14), rfl, by decide +kernel, aT_in (sg_2 (i := 12) rfl) rfl, rfl⟩
theorem fok_128 : FOK (1, 20, 1, 0) := ⟨(cNm 1, aF1, 3), rfl, by decide +kernel, aT_in (sg_2 (i := 48) rfl) rfl, rfl⟩
theorem fok_129 : FOK (1, 11, 1, 1) := ⟨(cNm 1, aF1, 3), rfl, by decide +kernel, aT_in (sg_2 (i := 49) rfl) rfl, rfl⟩
theorem fok_130 : FOK (1, 17, 1, 2) := ⟨(cNm 1, aF1, 3), rfl, by decide +kernel, aT_in (sg_2 (i := 50) rfl) rfl, rfl⟩
theorem fok_131 : FOK (8, 9, 8, 0) := ⟨(cNm 8, aF8, 2), rfl, by decide +kernel, aT_in (sg_2 (i := 64) rfl) rfl, rfl⟩
theorem fok_132 : FOK (8, 15, 8, 1) := ⟨(cNm 8, aF8, 2), rfl, by decide +kernel, aT_in (sg_2 (i := 65) rfl) rfl, rfl⟩
theorem fok_133 : FOK (7, 11, 7, 0) := ⟨(cNm 7, aF7, 9), rfl, by decide +kernel, aT_in (sg_2 (i := 77) rfl) rfl, rfl⟩
theorem fok_134 : FOK (7, 15, 7, 1) := ⟨(cNm 7, aF7, 9), rfl, by decide +kernel, aT_in (sg_2 (i := 78) rfl) rfl, rfl⟩
theorem fok_135 : FOK (0, 272, 7, 1) := ⟨(cNm 7, aF7, 9), rfl, by decide +kernel, aT_in (sg_2 (i := 79) rfl) rfl, rfl⟩
theorem fok_136 : FOK (7, 19, 7, 2) := ⟨(cNm 7, aF7, 9), rfl, by decide +kernel, aT_in (sg_2 (i := 80) rfl) rfl, rfl⟩
theorem fok_137 : FOK (7, 22, 7, 3) := ⟨(cNm 7, aF7, 9), rfl, by decide +kernel, aT_in (sg_2 (i := 81) rfl) rfl, rfl⟩
theorem fok_138 : FOK (7, 25, 7, 4) := ⟨(cNm 7, aF7, 9), rfl, by decide +kernel, aT_in (sg_2 (i := 82) rfl) rfl, rfl⟩
theorem fok_139 : FOK (7, 28, 7, 5) := ⟨(cNm 7, aF7, 9), rfl, by decide +kernel, aT_in (sg_2 (i := 83) rfl) rfl, rfl⟩
theorem fok_140 : FOK (7, 31, 7, 6) := ⟨(cNm 7, aF7, 9), rfl, by decide +kernel, aT_in (sg_2 (i := 84) rfl) rfl, rfl⟩
theorem fok_141 : FOK (7, 34, 7, 7) := ⟨(cNm 7, aF7, 9), rfl, by decide +kernel, aT_in (sg_2 (i := 85) rfl) rfl, rfl⟩
theorem fok_142 : FOK (7, 37, 7, 8) := ⟨(cNm 7, aF7, 9), rfl, by decide +kernel, aT_in (sg_2 (i := 86) rfl) rfl, rfl⟩
theorem fok_143 : FOK (11, 11, 11, 0) := ⟨(cNm 11, aF11, 2), rfl, by decide +kernel, aT_in (sg_2 (i := 112) rfl) rfl, rfl⟩
theorem fok_144 : FOK (11, 15, 11, 1) := ⟨(cNm 11, aF11, 2), rfl, by decide +kernel, aT_in (sg_2 (i := 113) rfl) rfl, rfl⟩
theorem fok_145 : FOK (9, 9, 9, 0) := ⟨(cNm 9, aF9, 3), rfl, by decide +kernel, aT_in (sg_2 (i := 127) rfl) rfl, rfl⟩
theorem fok_146 : FOK (11, 61, 9, 0) := ⟨(cNm 9, aF9, 3), rfl, by decide +kernel, aT_in (sg_2 (i := 128) rfl) rfl, rfl⟩
theorem fok_147 : FOK (0, 329, 9, 0) := ⟨(cNm 9, aF9, 3), rfl, by decide +kernel, aT_in (sg_2 (i := 129) rfl) rfl, rfl⟩
theorem fok_148 : FOK (9, 13, 9, 1) := ⟨(cNm 9, aF9, 3), rfl, by decide +kernel, aT_in (sg_2 (i := 130) rfl) rfl, rfl⟩
theorem fok_149 : FOK (0, 363, 9, 1) := ⟨(cNm 9, aF9, 3), rfl, by decide +kernel, aT_in (sg_2 (i := 131) rfl) rfl, rfl⟩
theorem fok_150 : FOK (9, 17, 9, 2) := ⟨(cNm 9, aF9, 3), rfl, by decide +kernel, aT_in (sg_2 (i := 132) rfl) rfl, rfl⟩
theorem fok_151 : FOK (11, 56, 9, 2) := ⟨(cNm 9, aF9, 3), rfl, by decide +kernel, aT_in (sg_2 (i := 133) rfl) rfl, rfl⟩
theorem fok_152 : FOK (0, 328, 9, 2) := ⟨(cNm 9, aF9, 3), rfl, by decide +kernel, aT_in (sg_2 (i := 134) rfl) rfl, rfl⟩
theorem fok_153 : FOK (0, 10, 0, 0) := ⟨(cNm 0, aF0, 9), rfl, by decide +kernel, aT_in (sg_2 (i := 142) rfl) rfl, rfl⟩
theorem fok_154 : FOK (0, 16, 0, 1) := ⟨(cNm 0, aF0, 9), rfl, by decide +kernel, aT_in (sg_2 (i := 143) rfl) rfl, rfl⟩
theorem fok_155 : FOK (0, 24, 0, 2) := ⟨(cNm 0, aF0, 9), rfl, by decide +kernel, aT_in (sg_2 (i := 144) rfl) rfl, rfl⟩
theorem fok_156 : FOK (0, 33, 0, 3) := ⟨(cNm 0, aF0, 9), rfl, by decide +kernel, aT_in (sg_2 (i := 145) rfl) rfl, rfl⟩
theorem fok_157 : FOK (0, 40, 0, 4) := ⟨(cNm 0, aF0, 9), rfl, by decide +kernel, aT_in (sg_2 (i := 146) rfl) rfl, rfl⟩
theorem fok_158 : FOK (0, 47, 0, 5) := ⟨(cNm 0, aF0, 9), rfl, by decide +kernel, aT_in (sg_2 (i := 147) rfl) rfl, rfl⟩
theorem fok_159 : FOK (0, 53, 0, 6) := ⟨(cNm 0, aF0, 9), rfl, by decide +kernel, aT_in (sg_2 (i := 148) rfl) rfl, rfl⟩
theorem fok_160 : FOK (0, 57, 0, 7) := ⟨(cNm 0, aF0, 9), rfl, by decide +kernel, aT_in (sg_2 (i := 149) rfl) rfl, rfl⟩
theorem fok_161 : FOK (0, 61, 0, 8) := ⟨(cNm 0, aF0, 9), rfl, by decide +kernel, aT_in (sg_2 (i := 150) rfl) rfl, rfl⟩
theorem fok_162 : FOK (10, 9, 10, 0) := ⟨(cNm 10, aF10, 3), rfl, by decide +kernel, aT_in (sg_4 (i := 112) rfl) rfl, rfl⟩
theorem fok_163 : FOK (1, 143, 10, 0) := ⟨(cNm 10, aF10, 3), rfl, by decide +kernel, aT_in (sg_4 (i := 113) rfl) rfl, rfl⟩
theorem fok_164 : FOK (10, 15, 10, 1) := ⟨(cNm 10, aF10, 3), rfl, by decide +kernel, aT_in (sg_4 (i := 114) rfl) rfl, rfl⟩
theorem fok_165 : FOK (10, 19, 10, 2) := ⟨(cNm 10, aF10, 3), rfl, by decide +kernel, aT_in (sg_4 (i := 115) rfl) rfl, rfl⟩
theorem fok_166 : FOK (12, 7, 12, 0) := ⟨(cNm 12, aF12, 26), rfl, by decide +kernel, aT_in (sg_5 (i := 188) rfl) rfl, rfl⟩
theorem fok_167 : FOK (12, 13, 12, 1) := ⟨(cNm 12, aF12, 26), rfl, by decide +kernel, aT_in (sg_5 (i := 189) rfl) rfl, rfl⟩
theorem fok_168 : FOK (12, 297, 12, 2) := ⟨(cNm 12, aF12, 26), rfl, by decide +kernel, aT_in (sg_5 (i := 190) rfl) rfl, rfl⟩
theorem fok_169 : FOK (12, 65, 12, 3) := ⟨(cNm 12, aF12, 26), rfl, by decide +kernel, aT_in (sg_5 (i := 191) rfl) rfl, rfl⟩
theorem fok_170 : FOK (12, 16, 12, 4) := ⟨(cNm 12, aF12, 26), rfl, by decide +kernel, aT_in (sg_5 (i := 192) rfl) rfl, rfl⟩
theorem fok_171 : FOK (12, 20, 12, 5) := ⟨(cNm 12, aF12, 26), rfl, by decide +kernel, aT_in (sg_5 (i := 193) rfl) rfl, rfl⟩
theorem fok_172 : FOK (12, 23, 12, 6) := ⟨(cNm 12, aF12, 26), rfl, by decide +kernel, aT_in (sg_5 (i := 194) rfl) rfl, rfl⟩
theorem fok_173 : FOK (12, 26, 12, 7) := ⟨(cNm 12, aF12, 26), rfl, by decide +kernel, aT_in (sg_5 (i := 195) rfl) rfl, rfl⟩
theorem fok_174 : FOK (12, 170, 12, 8) := ⟨(cNm 12, aF12, 26), rfl, by decide +kernel, aT_in (sg_5 (i := 196) rfl) rfl, rfl⟩
theorem fok_175 : FOK (12, 30, 12, 9) := ⟨(cNm 12, aF12, 26), rfl, by decide +kernel, aT_in (sg_5 (i := 197) rfl) rfl, rfl⟩
theorem fok_176 : FOK (12, 34, 12, 10) := ⟨(cNm 12, aF12, 26), rfl, by decide +kernel, aT_in (sg_5 (i := 198) rfl) rfl, rfl⟩
theorem fok_177 : FOK (12, 37, 12, 11) := ⟨(cNm 12, aF12, 26), rfl, by decide +kernel, aT_in (sg_5 (i := 199) rfl) rfl, rfl⟩
theorem fok_178 : FOK (12, 40, 12, 12) := ⟨(cNm 12, aF12, 26), rfl, by decide +kernel, aT_in (sg_5 (i := 200) rfl) rfl, rfl⟩
theorem fok_179 : FOK (12, 43, 12, 13) := ⟨(cNm 12, aF12, 26), rfl, by decide +kernel, aT_in (sg_5 (i := 201) rfl) rfl, rfl⟩
theorem fok_180 : FOK (12, 46, 12, 14) := ⟨(cNm 12, aF12, 26), rfl, by decide +kernel, aT_in (sg_5 (i := 202) rfl) rfl, rfl⟩
theorem fok_181 : FOK (12, 176, 12, 15) := ⟨(cNm 12, aF12, 26), rfl, by decide +kernel, aT_in (sg_5 (i := 203) rfl) rfl, rfl⟩
theorem fok_182 : FOK (12, 173, 12, 16) := ⟨(cNm 12, aF12, 26), rfl, by decide +kernel, aT_in (sg_5 (i := 204) rfl) rfl, rfl⟩
theorem fok_183 : FOK (12, 182, 12, 17) := ⟨(cNm 12, aF12, 26), rfl, by decide +kernel, aT_in (sg_5 (i := 205) rfl) rfl, rfl⟩
theorem fok_184 : FOK (12, 195, 12, 18) := ⟨(cNm 12, aF12, 26), rfl, by decide +kernel, aT_in (sg_5 (i := 206) rfl) rfl, rfl⟩
theorem fok_185 : FOK (12, 201, 12, 19) := ⟨(cNm 12, aF12, 26), rfl, by decide +kernel, aT_in (sg_5 (i := 207) rfl) rfl, rfl⟩
theorem fok_186 : FOK (12, 204, 12, 20) := ⟨(cNm 12, aF12, 26), rfl, by decide +kernel, aT_in (sg_5 (i := 208) rfl) rfl, rfl⟩
theorem fok_187 : FOK (12, 50, 12, 21) := ⟨(cNm 12, aF12, 26), rfl, by decide +kernel, aT_in (sg_5 (i := 209) rfl) rfl, rfl⟩
theorem fok_188 : FOK (12, 53, 12, 22) := ⟨(cNm 12, aF12, 26), rfl, by decide +kernel, aT_in (sg_5 (i := 210) rfl) rfl, rfl⟩
theorem fok_189 : FOK (12, 56, 12, 23) := ⟨(cNm 12, aF12, 26), rfl, by decide +kernel, aT_in (sg_5 (i := 211) rfl) rfl, rfl⟩
theorem fok_190 : FOK (12, 59, 12, 24) := ⟨(cNm 12, aF12, 26), rfl, by decide +kernel, aT_in (sg_5 (i := 212) rfl) rfl, rfl⟩
theorem fok_191 : FOK (12, 62, 12, 25) := ⟨(cNm 12, aF12, 26), rfl, by decide +kernel, aT_in (sg_5 (i := 213) rfl) rfl, rfl⟩
set_option maxRecDepth 100000 in
theorem fok_all : ∀ e ∈ ftab, FOK e := List.forall_mem_cons.mpr ⟨fok_0, List.forall_mem_cons.mpr ⟨fok_1, List.forall_mem_cons.mpr ⟨fok_2, List.forall_mem_cons.mpr ⟨fok_3, List.forall_mem_cons.mpr ⟨fok_4, List.forall_mem_cons.mpr ⟨fok_5, List.forall_mem_cons.mpr ⟨fok_6, List.forall_mem_cons.mpr ⟨fok_7, List.forall_mem_cons.mpr ⟨fok_8, List.forall_mem_cons.mpr ⟨fok_9, List.forall_mem_cons.mpr ⟨fok_10, List.forall_mem_cons.mpr ⟨fok_11, List.forall_mem_cons.mpr ⟨fok_12, List.forall_mem_cons.mpr ⟨fok_13, List.forall_mem_cons.mpr ⟨fok_14, List.forall_mem_cons.mpr ⟨fok_15, List.forall_mem_cons.mpr ⟨fok_16, List.forall_mem_cons.mpr ⟨fok_17, List.forall_mem_cons.mpr ⟨fok_18, List.forall_mem_cons.mpr ⟨fok_19, List.forall_mem_cons.mpr ⟨fok_20, List.forall_mem_cons.mpr ⟨fok_21, List.forall_mem_cons.mpr ⟨fok_22, List.forall_mem_cons.mpr ⟨fok_23, List.forall_mem_cons.mpr ⟨fok_24, List.forall_mem_cons.mpr ⟨fok_25, List.forall_mem_cons.mpr ⟨fok_26, List.forall_mem_cons.mpr ⟨fok_27, List.forall_mem_cons.mpr ⟨fok_28, List.forall_mem_cons.mpr ⟨fok_29, List.forall_mem_cons.mpr ⟨fok_30, List.forall_mem_cons.mpr ⟨fok_31, List.forall_mem_cons.mpr ⟨fok_32, List.forall_mem_cons.mpr ⟨fok_33, List.forall_mem_cons.mpr ⟨fok_34, List.forall_mem_cons.mpr ⟨fok_35, List.forall_mem_cons.mpr ⟨fok_36, List.forall_mem_cons.mpr ⟨fok_37, List.forall_mem_cons.mpr ⟨fok_38, List.forall_mem_cons.mpr ⟨fok_39, List.forall_mem_cons.mpr ⟨fok_40, List.forall_mem_cons.mpr ⟨fok_41, List.forall_mem_cons.mpr ⟨fok_42, List.forall_mem_cons.mpr ⟨fok_43, List.forall_mem_cons.mpr ⟨fok_44, List.forall_mem_cons.mpr ⟨fok_45, List.forall_mem_cons.mpr ⟨fok_46, List.forall_mem_cons.mpr ⟨fok_47, List.forall_mem_cons.mpr ⟨fok_48, List.forall_mem_cons.mpr ⟨fok_49, List.forall_mem_cons.mpr ⟨fok_50, List.forall_mem_cons.mpr ⟨fok_51, List.forall_mem_cons.mpr ⟨fok_52, List.forall_mem_cons.mpr ⟨fok_53, List.forall_mem_cons.mpr ⟨fok_54, List.forall_mem_cons.mpr ⟨fok_55, List.forall_mem_cons.mpr ⟨fok_56, List.forall_mem_cons.mpr ⟨fok_57, List.forall_mem_cons.mpr ⟨fok_58, List.forall_mem_cons.mpr ⟨fok_59, List.forall_mem_cons.mpr ⟨fok_60, List.forall_mem_cons.mpr ⟨fok_61, List.forall_mem_cons.mpr ⟨fok_62, List.forall_mem_cons.mpr ⟨fok_63, List.forall_mem_cons.mpr ⟨fok_64, List.forall_mem_cons.mpr ⟨fok_65, List.forall_mem_cons.mpr ⟨fok_66, List.forall_mem_cons.mpr ⟨fok_67, List.forall_mem_cons.mpr ⟨fok_68, List.forall_mem_cons.mpr ⟨fok_69, List.forall_mem_cons.mpr ⟨fok_70, List.forall_mem_cons.mpr ⟨fok_71, List.forall_mem_cons.mpr ⟨fok_72, List.forall_mem_cons.mpr ⟨fok_73, List.forall_mem_cons.mpr ⟨fok_74, List.forall_mem_cons.mpr ⟨fok_75, List.forall_mem_cons.mpr ⟨fok_76, List.forall_mem_cons.mpr ⟨fok_77, List.forall_mem_cons.mpr ⟨fok_78, List.forall_mem_cons.mpr ⟨fok_79, List.forall_mem_cons.mpr ⟨fok_80, List.forall_mem_cons.mpr ⟨fok_81, List.forall_mem_cons.mpr ⟨fok_82, List.forall_mem_cons.mpr ⟨fok_83, List.forall_mem_cons.mpr ⟨fok_84, List.forall_mem_cons.mpr ⟨fok_85, List.forall_mem_cons.mpr ⟨fok_86, List.forall_mem_cons.mpr ⟨fok_87, List.forall_mem_cons.mpr ⟨fok_88, List.forall_mem_cons.mpr ⟨fok_89, List.forall_mem_cons.mpr ⟨fok_90, List.forall_mem_cons.mpr ⟨fok_91, List.forall_mem_cons.mpr ⟨fok_92, List.forall_mem_cons.mpr ⟨fok_93, List.forall_mem_cons.mpr ⟨fok_94, List.forall_mem_cons.mpr ⟨fok_95, List.forall_mem_cons.mpr ⟨fok_96, List.forall_mem_cons.mpr ⟨fok_97, List.forall_mem_cons.mpr ⟨fok_98, List.forall_mem_cons.mpr ⟨fok_99, List.forall_mem_cons.mpr ⟨fok_100, List.forall_mem_cons.mpr ⟨fok_101, List.forall_mem_cons.mpr ⟨fok_102, List.forall_mem_cons.mpr ⟨fok_103, List.forall_mem_cons.mpr ⟨fok_104, List.forall_mem_cons.mpr ⟨fok_105, List.forall_mem_cons.mpr ⟨fok_106, List.forall_mem_cons.mpr ⟨fok_107, List.forall_mem_cons.mpr ⟨fok_108, List.forall_mem_cons.mpr ⟨fok_109, List.forall_mem_cons.mpr ⟨fok_110, List.forall_mem_cons.mpr ⟨fok_111, List.forall_mem_cons.mpr ⟨fok_112, List.forall_mem_cons.mpr ⟨fok_113, List.forall_mem_cons.mpr ⟨fok_114, List.forall_mem_cons.mpr ⟨fok_115, List.forall_mem_cons.mpr ⟨fok_116, List.forall_mem_cons.mpr ⟨fok_117, List.forall_mem_cons.mpr ⟨fok_118, List.forall_mem_cons.mpr ⟨fok_119, List.forall_mem_cons.mpr ⟨fok_120, List.forall_mem_cons.mpr ⟨fok_121, List.forall_mem_cons.mpr ⟨fok_122, List.forall_mem_cons.mpr ⟨fok_123, List.forall_mem_cons.mpr ⟨fok_124, List.forall_mem_cons.mpr ⟨fok_125, List.forall_mem_cons.mpr ⟨fok_126, List.forall_mem_cons.mpr ⟨fok_127, List.forall_mem_cons.mpr ⟨fok_128, List.forall_mem_cons.mpr ⟨fok_129, List.forall_mem_cons.mpr ⟨fok_130, List.forall_mem_cons.mpr ⟨fok_131, List.forall_mem_cons.mpr ⟨fok_132, List.forall_mem_cons.mpr ⟨fok_133, List.forall_mem_cons.mpr ⟨fok_134, List.forall_mem_cons.mpr ⟨fok_135, List.forall_mem_cons.mpr ⟨fok_136, List.forall_mem_cons.mpr ⟨fok_137, List.forall_mem_cons.mpr ⟨fok_138, List.forall_mem_cons.mpr ⟨fok_139, List.forall_mem_cons.mpr ⟨fok_140, List.forall_mem_cons.mpr ⟨fok_141, List.forall_mem_cons.mpr ⟨fok_142, List.forall_mem_cons.mpr ⟨fok_143, List.forall_mem_cons.mpr ⟨fok_144, List.forall_mem_cons.mpr ⟨fok_145, List.forall_mem_cons.mpr ⟨fok_146, List.forall_mem_cons.mpr ⟨fok_147, List.forall_mem_cons.mpr ⟨fok_148, List.forall_mem_cons.mpr ⟨fok_149, List.forall_mem_cons.mpr ⟨fok_150, List.forall_mem_cons.mpr ⟨fok_151, List.forall_mem_cons.mpr ⟨fok_152, List.forall_mem_cons.mpr ⟨fok_153, List.forall_mem_cons.mpr ⟨fok_154, List.forall_mem_cons.mpr ⟨fok_155, List.forall_mem_cons.mpr ⟨fok_156, List.forall_mem_cons.mpr ⟨fok_157, List.forall_mem_cons.mpr ⟨fok_158, List.forall_mem_cons.mpr ⟨fok_159, List.forall_mem_cons.mpr ⟨fok_160, List.forall_mem_cons.mpr ⟨fok_161, List.forall_mem_cons.mpr ⟨fok_162, List.forall_mem_cons.mpr ⟨fok_163, List.forall_mem_cons.mpr ⟨fok_164, List.forall_mem_cons.mpr ⟨fok_165, List.forall_mem_cons.mpr ⟨fok_166, List.forall_mem_cons.mpr ⟨fok_167, List.forall_mem_cons.mpr ⟨fok_168, List.forall_mem_cons.mpr ⟨fok_169, List.forall_mem_cons.mpr ⟨fok_170, List.forall_mem_cons.mpr ⟨fok_171, List.forall_mem_cons.mpr ⟨fok_172, List.forall_mem_cons.mpr ⟨fok_173, List.forall_mem_cons.mpr ⟨fok_174, List.forall_mem_cons.mpr ⟨fok_175, List.forall_mem_cons.mpr ⟨fok_176, List.forall_mem_cons.mpr ⟨fok_177, List.forall_mem_cons.mpr ⟨fok_178, List.forall_mem_cons.mpr ⟨fok_179, List.forall_mem_cons.mpr ⟨fok_180, List.forall_mem_cons.mpr ⟨fok_181, List.forall_mem_cons.mpr ⟨fok_182, List.forall_mem_cons.mpr ⟨fok_183, List.forall_mem_cons.mpr ⟨fok_184, List.forall_mem_cons.mpr ⟨fok_185, List.forall_mem_cons.mpr ⟨fok_186, List.forall_mem_cons.mpr ⟨fok_187, List.forall_mem_cons.mpr ⟨fok_188, List.forall_mem_cons.mpr ⟨fok_189, List.forall_mem_cons.mpr ⟨fok_190, List.forall_mem_cons.mpr ⟨fok_191, fun _ h => absurd h List.not_mem_nil⟩⟩⟩⟩⟩⟩⟩⟩⟩⟩⟩⟩⟩⟩⟩⟩⟩⟩⟩⟩⟩⟩⟩⟩⟩⟩⟩⟩⟩⟩⟩⟩⟩⟩⟩⟩⟩⟩⟩⟩⟩⟩⟩⟩⟩⟩⟩⟩⟩⟩⟩⟩⟩⟩⟩⟩⟩⟩⟩⟩⟩⟩⟩⟩⟩⟩⟩⟩⟩⟩⟩⟩⟩⟩⟩⟩⟩⟩⟩⟩⟩⟩⟩⟩⟩⟩⟩⟩⟩⟩⟩⟩⟩⟩⟩⟩⟩⟩⟩⟩⟩⟩⟩⟩⟩⟩⟩⟩⟩⟩⟩⟩⟩⟩⟩⟩⟩⟩⟩⟩⟩⟩⟩⟩⟩⟩⟩⟩⟩⟩⟩⟩⟩⟩⟩⟩⟩⟩⟩⟩⟩⟩⟩⟩⟩⟩⟩⟩⟩⟩⟩⟩⟩⟩⟩⟩⟩⟩⟩⟩⟩⟩⟩⟩⟩⟩⟩⟩⟩⟩⟩⟩⟩⟩⟩⟩⟩⟩⟩⟩⟩⟩⟩⟩⟩⟩⟩⟩⟩⟩⟩⟩
theorem kok_all : ∀ e ∈ ktab, Cond.constant (cNm e.1) e.2.1 e.2.2 ∈ aT := List.forall_mem_cons.mpr ⟨aT_in (sg_2 (i := 189) rfl) rfl, List.forall_mem_cons.mpr ⟨aT_in (sg_2 (i := 194) rfl) rfl, List.forall_mem_cons.mpr ⟨aT_in (sg_2 (i := 216) rfl) rfl, List.forall_mem_cons.mpr ⟨aT_in (sg_3 (i := 50) rfl) rfl, List.forall_mem_cons.mpr ⟨aT_in (sg_3 (i := 55) rfl) rfl, List.forall_mem_cons.mpr ⟨aT_in (sg_3 (i := 56) rfl) rfl, List.forall_mem_cons.mpr ⟨aT_in (sg_3 (i := 94) rfl) rfl, List.forall_mem_cons.mpr ⟨aT_in (sg_4 (i := 30) rfl) rfl, List.forall_mem_cons.mpr ⟨aT_in (sg_4 (i := 55) rfl) rfl, List.forall_mem_cons.mpr ⟨aT_in (sg_4 (i := 59) rfl) rfl, List.forall_mem_cons.mpr ⟨aT_in (sg_5 (i := 187) rfl) rfl, List.forall_mem_cons.mpr ⟨aT_in (sg_6 (i := 36) rfl) rfl, List.forall_mem_cons.mpr ⟨aT_in (sg_6 (i := 41) rfl) rfl, List.forall_mem_cons.mpr ⟨aT_in (sg_6 (i := 70) rfl) rfl, List.forall_mem_cons.mpr ⟨aT_in (sg_6 (i := 135) rfl) rfl, List.forall_mem_cons.mpr ⟨aT_in (sg_6 (i := 140) rfl) rfl, List.forall_mem_cons.mpr ⟨aT_in (sg_6 (i := 144) rfl) rfl, List.forall_mem_cons.mpr ⟨aT_in (sg_6 (i := 164) rfl) rfl, fun _ h => absurd h List.not_mem_nil⟩⟩⟩⟩⟩⟩⟩⟩⟩⟩⟩⟩⟩⟩⟩⟩⟩⟩
theorem klok_all : ∀ e ∈ kltab, Cond.constantLong (cNm e.1) e.2.1 e.2.2 ∈ aT := List.forall_mem_cons.mpr ⟨aT_in (sg_7 (i := 178) rfl) rfl, fun _ h => absurd h List.not_mem_nil⟩
theorem nok_0 : NOK (40, 7, 0) := ⟨(cNm 0, aF0, 9), rfl, aT_in (sg_1 (i := 22) rfl) rfl, aT_in (sg_1 (i := 23) rfl) rfl, aT_in (sg_1 (i := 1) rfl) rfl⟩
theorem nok_1 : NOK (0, 7, 3) := ⟨(cNm 3, aF3, 14), rfl, aT_in (sg_1 (i := 30) rfl) rfl, aT_in (sg_1 (i := 31) rfl) rfl, aT_in (sg_1 (i := 2) rfl) rfl⟩
theorem nok_2 : NOK (3, 9, 6) := ⟨(cNm 6, aF6, 10), rfl, aT_in (sg_1 (i := 36) rfl) rfl, aT_in (sg_1 (i := 46) rfl) rfl, aT_in (sg_1 (i := 3) rfl) rfl⟩
theorem nok_3 : NOK (3, 17, 2) := ⟨(cNm 2, aF2, 4), rfl, aT_in (sg_1 (i := 38) rfl) rfl, aT_in (sg_1 (i := 98) rfl) rfl, aT_in (sg_1 (i := 4) rfl) rfl⟩
theorem nok_4 : NOK (3, 23, 5) := ⟨(cNm 5, aF5, 10), rfl, aT_in (sg_1 (i := 40) rfl) rfl, aT_in (sg_1 (i := 128) rfl) rfl, aT_in (sg_1 (i := 5) rfl) rfl⟩
theorem nok_5 : NOK (3, 29, 4) := ⟨(cNm 4, aF4, 3), rfl, aT_in (sg_1 (i := 42) rfl) rfl, aT_in (sg_1 (i := 196) rfl) rfl, aT_in (sg_1 (i := 6) rfl) rfl⟩
theorem nok_6 : NOK (3, 35, 10) := ⟨(cNm 10, aF10, 3), rfl, aT_in (sg_1 (i := 44) rfl) rfl, aT_in (sg_4 (i := 93) rfl) rfl, aT_in (sg_1 (i := 19) rfl) rfl⟩
theorem nok_7 : NOK (0, 19, 1) := ⟨(cNm 1, aF1, 3), rfl, aT_in (sg_2 (i := 42) rfl) rfl, aT_in (sg_2 (i := 43) rfl) rfl, aT_in (sg_1 (i := 7) rfl) rfl⟩
theorem nok_8 : NOK (0, 28, 8) := ⟨(cNm 8, aF8, 2), rfl, aT_in (sg_2 (i := 58) rfl) rfl, aT_in (sg_2 (i := 59) rfl) rfl, aT_in (sg_1 (i := 8) rfl) rfl⟩
theorem nok_9 : NOK (0, 37, 7) := ⟨(cNm 7, aF7, 9), rfl, aT_in (sg_2 (i := 71) rfl) rfl, aT_in (sg_2 (i := 72) rfl) rfl, aT_in (sg_1 (i := 9) rfl) rfl⟩
theorem nok_10 : NOK (0, 44, 11) := ⟨(cNm 11, aF11, 2), rfl, aT_in (sg_2 (i := 106) rfl) rfl, aT_in (sg_2 (i := 107) rfl) rfl, aT_in (sg_1 (i := 10) rfl) rfl⟩
theorem nok_11 : NOK (0, 51, 9) := ⟨(cNm 9, aF9, 3), rfl, aT_in (sg_2 (i := 120) rfl) rfl, aT_in (sg_2 (i := 122) rfl) rfl, aT_in (sg_1 (i := 11) rfl) rfl⟩
theorem nok_12 : NOK (7, 50, 10) := ⟨(cNm 10, aF10, 3), rfl, aT_in (sg_4 (i := 92) rfl) rfl, aT_in (sg_4 (i := 93) rfl) rfl, aT_in (sg_1 (i := 19) rfl) rfl⟩
theorem nok_13 : NOK (40, 10, 12) := ⟨(cNm 12, aF12, 26), rfl, aT_in (sg_5 (i := 181) rfl) rfl, aT_in (sg_5 (i := 182) rfl) rfl, aT_in (sg_1 (i := 12) rfl) rfl⟩
set_option maxRecDepth 100000 in
theorem nok_all : ∀ e ∈ ntab, NOK e := List.forall_mem_cons.mpr ⟨nok_0, List.forall_mem_cons.mpr ⟨nok_1, List.forall_mem_cons.mpr ⟨nok_2, List.forall_mem_cons.mpr ⟨nok_3, List.forall_mem_cons.mpr ⟨nok_4, List.forall_mem_cons.mpr ⟨nok_5, List.forall_mem_cons.mpr ⟨nok_6, List.forall_mem_cons.mpr ⟨nok_7, List.forall_mem_cons.mpr ⟨nok_8, List.forall_mem_cons.mpr ⟨nok_9, List.forall_mem_cons.mpr ⟨nok_10, List.forall_mem_cons.mpr ⟨nok_11, List.forall_mem_cons.mpr ⟨nok_12, List.forall_mem_cons.mpr ⟨nok_13, fun _ h => absurd h List.not_mem_nil⟩⟩⟩⟩⟩⟩⟩⟩⟩⟩⟩⟩⟩⟩
def okCls (ci : Nat) : Prop := ∀ r : vw_C, aCl[ci]? = some r → r.1 = cNm ci ∧ (∀ w ∈ u_ws r.1 r.2.1 r.2.2, w ∈ aT) ∧ (∀ k, k < r.2.2 → parseFieldDescriptor (r.2.1 k).2.2.1 = some (aTy ci k)) ∧ (∀ a, a < r.2.2 → ∀ b, b < r.2.2 → a ≠ b → (r.2.1 a).2.1 ≠ (r.2.1 b).2.1)
theorem okc_0 : okCls 0 := fun r h => by
  cases h
  exact ⟨rfl, (List.forall_mem_cons.mpr ⟨aT_in (sg_2 (i := 151) rfl) rfl, List.forall_mem_cons.mpr ⟨aT_in (sg_2 (i := 153) rfl) rfl, List.forall_mem_cons.mpr ⟨aT_in (sg_2 (i := 155) rfl) rfl, List.forall_mem_cons.mpr ⟨aT_in (sg_2 (i := 157) rfl) rfl, List.forall_mem_cons.mpr ⟨aT_in (sg_2 (i := 159) rfl) rfl, List.forall_mem_cons.mpr ⟨aT_in (sg_2 (i := 161) rfl) rfl, List.forall_mem_cons.mpr ⟨aT_in (sg_2 (i := 163) rfl) rfl, List.forall_mem_cons.mpr ⟨aT_in (sg_2 (i := 165) rfl) rfl, List.forall_mem_cons.mpr ⟨aT_in (sg_2 (i := 167) rfl) rfl, fun _ h => absurd h List.not_mem_nil⟩⟩⟩⟩⟩⟩⟩⟩⟩), by decide +kernel, by decide +kernel⟩
theorem okc_1 : okCls 1 := fun r h => by
  cases h
  exact ⟨rfl, (List.forall_mem_cons.mpr ⟨aT_in (sg_2 (i := 51) rfl) rfl, List.forall_mem_cons.mpr ⟨aT_in (sg_2 (i := 53) rfl) rfl, List.forall_mem_cons.mpr ⟨aT_in (sg_2 (i := 55) rfl) rfl, fun _ h => absurd h List.not_mem_nil⟩⟩⟩), by decide +kernel, by decide +kernel⟩
theorem okc_2 : okCls 2 := fun r h => by
  cases h
  exact ⟨rfl, (List.forall_mem_cons.mpr ⟨aT_in (sg_1 (i := 119) rfl) rfl, List.forall_mem_cons.mpr ⟨aT_in (sg_1 (i := 121) rfl) rfl, List.forall_mem_cons.mpr ⟨aT_in (sg_1 (i := 123) rfl) rfl, List.forall_mem_cons.mpr ⟨aT_in (sg_1 (i := 125) rfl) rfl, fun _ h => absurd h List.not_mem_nil⟩⟩⟩⟩), by decide +kernel, by decide +kernel⟩
theorem okc_3 : okCls 3 := fun r h => by
  cases h
  exact ⟨rfl, (List.forall_mem_cons.mpr ⟨aT_in (sg_2 (i := 13) rfl) rfl, List.forall_mem_cons.mpr ⟨aT_in (sg_2 (i := 15) rfl) rfl, List.forall_mem_cons.mpr ⟨aT_in (sg_2 (i := 17) rfl) rfl, List.forall_mem_cons.mpr ⟨aT_in (sg_2 (i := 19) rfl) rfl, List.forall_mem_cons.mpr ⟨aT_in (sg_2 (i := 21) rfl) rfl, List.forall_mem_cons.mpr ⟨aT_in (sg_2 (i := 23) rfl) rfl, List.forall_mem_cons.mpr ⟨aT_in (sg_2 (i := 25) rfl) rfl, List.forall_mem_cons.mpr ⟨aT_in (sg_2 (i := 27) rfl) rfl, List.forall_mem_cons.mpr ⟨aT_in (sg_2 (i := 29) rfl) rfl, List.forall_mem_cons.mpr ⟨aT_in (sg_2 (i := 31) rfl) rfl, List.forall_mem_cons.mpr ⟨aT_in (sg_2 (i := 33) rfl) rfl, List.forall_mem_cons.mpr ⟨aT_in (sg_2 (i := 35) rfl) rfl, List.forall_mem_cons.mpr ⟨aT_in (sg_2 (i := 37) rfl) rfl, List.forall_mem_cons.mpr ⟨aT_in (sg_2 (i := 39) rfl) rfl, fun _ h => absurd h List.not_mem_nil⟩⟩⟩⟩⟩⟩⟩⟩⟩⟩⟩⟩⟩⟩), by decide +kernel, by decide +kernel⟩
theorem okc_4 : okCls 4 := fun r h => by
  cases h
  exact ⟨rfl, (List.forall_mem_cons.mpr ⟨aT_in (sg_1 (i := 208) rfl) rfl, List.forall_mem_cons.mpr ⟨aT_in (sg_1 (i := 210) rfl) rfl, List.forall_mem_cons.mpr ⟨aT_in (sg_1 (i := 212) rfl) rfl, fun _ h => absurd h List.not_mem_nil⟩⟩⟩), by decide +kernel, by decide +kernel⟩
theorem okc_5 : okCls 5 := fun r h => by
  cases h
  exact ⟨rfl, (List.forall_mem_cons.mpr ⟨aT_in (sg_1 (i := 175) rfl) rfl, List.forall_mem_cons.mpr ⟨aT_in (sg_1 (i := 177) rfl) rfl, List.forall_mem_cons.mpr ⟨aT_in (sg_1 (i := 179) rfl) rfl, List.forall_mem_cons.mpr ⟨aT_in (sg_1 (i := 181) rfl) rfl, List.forall_mem_cons.mpr ⟨aT_in (sg_1 (i := 183) rfl) rfl, List.forall_mem_cons.mpr ⟨aT_in (sg_1 (i := 185) rfl) rfl, List.forall_mem_cons.mpr ⟨aT_in (sg_1 (i := 187) rfl) rfl, List.forall_mem_cons.mpr ⟨aT_in (sg_1 (i := 189) rfl) rfl, List.forall_mem_cons.mpr ⟨aT_in (sg_1 (i := 191) rfl) rfl, List.forall_mem_cons.mpr ⟨aT_in (sg_1 (i := 193) rfl) rfl, fun _ h => absurd h List.not_mem_nil⟩⟩⟩⟩⟩⟩⟩⟩⟩⟩), by decide +kernel, by decide +kernel⟩
theorem okc_6 : okCls 6 := fun r h => by
  cases h
  exact ⟨rfl, (List.forall_mem_cons.mpr ⟨aT_in (sg_1 (i := 76) rfl) rfl, List.forall_mem_cons.mpr ⟨aT_in (sg_1 (i := 78) rfl) rfl, List.forall_mem_cons.mpr ⟨aT_in (sg_1 (i := 80) rfl) rfl, List.forall_mem_cons.mpr ⟨aT_in (sg_1 (i := 82) rfl) rfl, List.forall_mem_cons.mpr ⟨aT_in (sg_1 (i := 84) rfl) rfl, List.forall_mem_cons.mpr ⟨aT_in (sg_1 (i := 86) rfl) rfl, List.forall_mem_cons.mpr ⟨aT_in (sg_1 (i := 88) rfl) rfl, List.forall_mem_cons.mpr ⟨aT_in (sg_1 (i := 90) rfl) rfl, List.forall_mem_cons.mpr ⟨aT_in (sg_1 (i := 92) rfl) rfl, List.forall_mem_cons.mpr ⟨aT_in (sg_1 (i := 94) rfl) rfl, fun _ h => absurd h List.not_mem_nil⟩⟩⟩⟩⟩⟩⟩⟩⟩⟩), by decide +kernel, by decide +kernel⟩
theorem okc_7 : okCls 7 := fun r h => by
  cases h
  exact ⟨rfl, (List.forall_mem_cons.mpr ⟨aT_in (sg_2 (i := 87) rfl) rfl, List.forall_mem_cons.mpr ⟨aT_in (sg_2 (i := 89) rfl) rfl, List.forall_mem_cons.mpr ⟨aT_in (sg_2 (i := 91) rfl) rfl, List.forall_mem_cons.mpr ⟨aT_in (sg_2 (i := 93) rfl) rfl, List.forall_mem_cons.mpr ⟨aT_in (sg_2 (i := 95) rfl) rfl, List.forall_mem_cons.mpr ⟨aT_in (sg_2 (i := 97) rfl) rfl, List.forall_mem_cons.mpr ⟨aT_in (sg_2 (i := 99) rfl) rfl, List.forall_mem_cons.mpr ⟨aT_in (sg_2 (i := 101) rfl) rfl, List.forall_mem_cons.mpr ⟨aT_in (sg_2 (i := 103) rfl) rfl, fun _ h => absurd h List.not_mem_nil⟩⟩⟩⟩⟩⟩⟩⟩⟩), by decide +kernel, by decide +kernel⟩
theorem okc_8 : okCls 8 := fun r h => by
  cases h
  exact ⟨rfl, (List.forall_mem_cons.mpr ⟨aT_in (sg_2 (i := 66) rfl) rfl, List.forall_mem_cons.mpr ⟨aT_in (sg_2 (i := 68) rfl) rfl, fun _ h => absurd h List.not_mem_nil⟩⟩), by decide +kernel, by decide +kernel⟩
theorem okc_9 : okCls 9 := fun r h => by
  cases h
  exact ⟨rfl, (List.forall_mem_cons.mpr ⟨aT_in (sg_2 (i := 135) rfl) rfl, List.forall_mem_cons.mpr ⟨aT_in (sg_2 (i := 137) rfl) rfl, List.forall_mem_cons.mpr ⟨aT_in (sg_2 (i := 139) rfl) rfl, fun _ h => absurd h List.not_mem_nil⟩⟩⟩), by decide +kernel, by decide +kernel⟩
theorem okc_10 : okCls 10 := fun r h => by
  cases h
  exact ⟨rfl, (List.forall_mem_cons.mpr ⟨aT_in (sg_4 (i := 116) rfl) rfl, List.forall_mem_cons.mpr ⟨aT_in (sg_4 (i := 118) rfl) rfl, List.forall_mem_cons.mpr ⟨aT_in (sg_4 (i := 120) rfl) rfl, fun _ h => absurd h List.not_mem_nil⟩⟩⟩), by decide +kernel, by decide +kernel⟩
theorem okc_11 : okCls 11 := fun r h => by
  cases h
  exact ⟨rfl, (List.forall_mem_cons.mpr ⟨aT_in (sg_2 (i := 114) rfl) rfl, List.forall_mem_cons.mpr ⟨aT_in (sg_2 (i := 116) rfl) rfl, fun _ h => absurd h List.not_mem_nil⟩⟩), by decide +kernel, by decide +kernel⟩
theorem okc_12 : okCls 12 := fun r h => by
  cases h
  exact ⟨rfl, (List.forall_mem_cons.mpr ⟨aT_in (sg_5 (i := 214) rfl) rfl, List.forall_mem_cons.mpr ⟨aT_in (sg_5 (i := 216) rfl) rfl, List.forall_mem_cons.mpr ⟨aT_in (sg_5 (i := 218) rfl) rfl, List.forall_mem_cons.mpr ⟨aT_in (sg_5 (i := 220) rfl) rfl, List.forall_mem_cons.mpr ⟨aT_in (sg_5 (i := 222) rfl) rfl, List.forall_mem_cons.mpr ⟨aT_in (sg_5 (i := 224) rfl) rfl, List.forall_mem_cons.mpr ⟨aT_in (sg_5 (i := 226) rfl) rfl, List.forall_mem_cons.mpr ⟨aT_in (sg_5 (i := 228) rfl) rfl, List.forall_mem_cons.mpr ⟨aT_in (sg_5 (i := 230) rfl) rfl, List.forall_mem_cons.mpr ⟨aT_in (sg_5 (i := 232) rfl) rfl, List.forall_mem_cons.mpr ⟨aT_in (sg_5 (i := 234) rfl) rfl, List.forall_mem_cons.mpr ⟨aT_in (sg_5 (i := 236) rfl) rfl, List.forall_mem_cons.mpr ⟨aT_in (sg_5 (i := 238) rfl) rfl, List.forall_mem_cons.mpr ⟨aT_in (sg_6 (i := 0) rfl) rfl, List.forall_mem_cons.mpr ⟨aT_in (sg_6 (i := 2) rfl) rfl, List.forall_mem_cons.mpr ⟨aT_in (sg_6 (i := 4) rfl) rfl, List.forall_mem_cons.mpr ⟨aT_in (sg_6 (i := 6) rfl) rfl, List.forall_mem_cons.mpr ⟨aT_in (sg_6 (i := 8) rfl) rfl, List.forall_mem_cons.mpr ⟨aT_in (sg_6 (i := 10) rfl) rfl, List.forall_mem_cons.mpr ⟨aT_in (sg_6 (i := 12) rfl) rfl, List.forall_mem_cons.mpr ⟨aT_in (sg_6 (i := 14) rfl) rfl, List.forall_mem_cons.mpr ⟨aT_in (sg_6 (i := 16) rfl) rfl, List.forall_mem_cons.mpr ⟨aT_in (sg_6 (i := 18) rfl) rfl, List.forall_mem_cons.mpr ⟨aT_in (sg_6 (i := 20) rfl) rfl, List.forall_mem_cons.mpr ⟨aT_in (sg_6 (i := 22) rfl) rfl, List.forall_mem_cons.mpr ⟨aT_in (sg_6 (i := 24) rfl) rfl, fun _ h => absurd h List.not_mem_nil⟩⟩⟩⟩⟩⟩⟩⟩⟩⟩⟩⟩⟩⟩⟩⟩⟩⟩⟩⟩⟩⟩⟩⟩⟩⟩), by decide +kernel, by decide +kernel⟩
theorem okCls_all {ci : Nat} {r : vw_C} (h : aCl[ci]? = some r) : okCls ci := by
  have hl : ci < 13 := (List.getElem?_eq_some_iff.mp h).1
  revert ci
  intro ci h hl
  exact (lt_s (lt_s (lt_s (lt_s (lt_s (lt_s (lt_s (lt_s (lt_s (lt_s (lt_s (lt_s (lt_s (lt_0) okc_0) okc_1) okc_2) okc_3) okc_4) okc_5) okc_6) okc_7) okc_8) okc_9) okc_10) okc_11) okc_12) ci hl
