section
-- ===== PART A: goes FIRST, ahead of the names: the tables' words, and 'selects' of the private methods out of them =====
/-- a private method of a class that the tables say can be made, by its rows of tables_1 -/
def lw_okq (q : MethodName × Nat) : Prop := (q.1.cls ≠ "java/lang/invoke/MethodHandle" ∧ q.1.cls ≠ "java/lang/invoke/VarHandle") ∧ Cond.instantiable q.1.cls q.2 ∈ tables_1 ∧ Cond.privateMethod q.1 ∈ tables_1 ∧ Cond.instanceMethod q.1 ∈ tables_1
theorem lw_p0 : lw_okq (⟨"OutageScreen", "bad", "()I"⟩, 8) := ⟨⟨by decide +kernel, by decide +kernel⟩, List.mem_of_getElem? (i := 14) (by decide +kernel), List.mem_of_getElem? (i := 233) (by decide +kernel), List.mem_of_getElem? (i := 234) (by decide +kernel)⟩
theorem lw_p1 : lw_okq (⟨"OutageScreen", "full", "()I"⟩, 8) := ⟨⟨by decide +kernel, by decide +kernel⟩, List.mem_of_getElem? (i := 14) (by decide +kernel), List.mem_of_getElem? (i := 277) (by decide +kernel), List.mem_of_getElem? (i := 278) (by decide +kernel)⟩
theorem lw_p2 : lw_okq (⟨"OutageScreen", "isBridge", "(I)Z"⟩, 8) := ⟨⟨by decide +kernel, by decide +kernel⟩, List.mem_of_getElem? (i := 14) (by decide +kernel), List.mem_of_getElem? (i := 334) (by decide +kernel), List.mem_of_getElem? (i := 335) (by decide +kernel)⟩
theorem lw_p3 : lw_okq (⟨"OutageScreen$Study", "findIslands", "()V"⟩, 12) := ⟨⟨by decide +kernel, by decide +kernel⟩, List.mem_of_getElem? (i := 116) (by decide +kernel), List.mem_of_getElem? (i := 342) (by decide +kernel), List.mem_of_getElem? (i := 343) (by decide +kernel)⟩
theorem lw_p4 : lw_okq (⟨"OutageScreen$Study", "merge", "(II)V"⟩, 12) := ⟨⟨by decide +kernel, by decide +kernel⟩, List.mem_of_getElem? (i := 116) (by decide +kernel), List.mem_of_getElem? (i := 346) (by decide +kernel), List.mem_of_getElem? (i := 347) (by decide +kernel)⟩
theorem lw_p5 : lw_okq (⟨"OutageScreen$Study", "startRow", "(III)V"⟩, 12) := ⟨⟨by decide +kernel, by decide +kernel⟩, List.mem_of_getElem? (i := 116) (by decide +kernel), List.mem_of_getElem? (i := 362) (by decide +kernel), List.mem_of_getElem? (i := 363) (by decide +kernel)⟩
theorem lw_p6 : lw_okq (⟨"OutageScreen$Study", "addTerms", "(III)V"⟩, 12) := ⟨⟨by decide +kernel, by decide +kernel⟩, List.mem_of_getElem? (i := 116) (by decide +kernel), List.mem_of_getElem? (i := 366) (by decide +kernel), List.mem_of_getElem? (i := 367) (by decide +kernel)⟩
theorem lw_p7 : lw_okq (⟨"OutageScreen$Study", "eliminate", "()V"⟩, 12) := ⟨⟨by decide +kernel, by decide +kernel⟩, List.mem_of_getElem? (i := 116) (by decide +kernel), List.mem_of_getElem? (i := 370) (by decide +kernel), List.mem_of_getElem? (i := 371) (by decide +kernel)⟩
theorem lw_p8 : lw_okq (⟨"OutageScreen$Study", "readFlows", "()V"⟩, 12) := ⟨⟨by decide +kernel, by decide +kernel⟩, List.mem_of_getElem? (i := 116) (by decide +kernel), List.mem_of_getElem? (i := 374) (by decide +kernel), List.mem_of_getElem? (i := 375) (by decide +kernel)⟩
theorem lw_p9 : lw_okq (⟨"OutageScreen$Study", "across", "(II)J"⟩, 12) := ⟨⟨by decide +kernel, by decide +kernel⟩, List.mem_of_getElem? (i := 116) (by decide +kernel), List.mem_of_getElem? (i := 378) (by decide +kernel), List.mem_of_getElem? (i := 379) (by decide +kernel)⟩
theorem lw_p10 : lw_okq (⟨"OutageScreen", "no", "()I"⟩, 8) := ⟨⟨by decide +kernel, by decide +kernel⟩, List.mem_of_getElem? (i := 14) (by decide +kernel), List.mem_of_getElem? (i := 425) (by decide +kernel), List.mem_of_getElem? (i := 426) (by decide +kernel)⟩
theorem lw_p11 : lw_okq (⟨"OutageScreen$Study", "weigh", "(IJJ)V"⟩, 12) := ⟨⟨by decide +kernel, by decide +kernel⟩, List.mem_of_getElem? (i := 116) (by decide +kernel), List.mem_of_getElem? (i := 443) (by decide +kernel), List.mem_of_getElem? (i := 444) (by decide +kernel)⟩
theorem lw_p12 : lw_okq (⟨"OutageScreen", "rankLines", "()V"⟩, 8) := ⟨⟨by decide +kernel, by decide +kernel⟩, List.mem_of_getElem? (i := 14) (by decide +kernel), List.mem_of_getElem? (i := 458) (by decide +kernel), List.mem_of_getElem? (i := 459) (by decide +kernel)⟩
theorem lw_p13 : lw_okq (⟨"OutageScreen", "rank", "(II)V"⟩, 8) := ⟨⟨by decide +kernel, by decide +kernel⟩, List.mem_of_getElem? (i := 14) (by decide +kernel), List.mem_of_getElem? (i := 462) (by decide +kernel), List.mem_of_getElem? (i := 463) (by decide +kernel)⟩
theorem lw_p14 : lw_okq (⟨"OutageScreen", "rankPairs", "()V"⟩, 8) := ⟨⟨by decide +kernel, by decide +kernel⟩, List.mem_of_getElem? (i := 14) (by decide +kernel), List.mem_of_getElem? (i := 480) (by decide +kernel), List.mem_of_getElem? (i := 481) (by decide +kernel)⟩
theorem lw_p15 : lw_okq (⟨"OutageScreen", "bridges", "()I"⟩, 8) := ⟨⟨by decide +kernel, by decide +kernel⟩, List.mem_of_getElem? (i := 14) (by decide +kernel), List.mem_of_getElem? (i := 518) (by decide +kernel), List.mem_of_getElem? (i := 519) (by decide +kernel)⟩
def lw_privs_1 : List (MethodName × Nat) := [(⟨"OutageScreen", "bad", "()I"⟩, 8), (⟨"OutageScreen", "full", "()I"⟩, 8), (⟨"OutageScreen", "isBridge", "(I)Z"⟩, 8), (⟨"OutageScreen$Study", "findIslands", "()V"⟩, 12), (⟨"OutageScreen$Study", "merge", "(II)V"⟩, 12), (⟨"OutageScreen$Study", "startRow", "(III)V"⟩, 12), (⟨"OutageScreen$Study", "addTerms", "(III)V"⟩, 12), (⟨"OutageScreen$Study", "eliminate", "()V"⟩, 12), (⟨"OutageScreen$Study", "readFlows", "()V"⟩, 12), (⟨"OutageScreen$Study", "across", "(II)J"⟩, 12), (⟨"OutageScreen", "no", "()I"⟩, 8), (⟨"OutageScreen$Study", "weigh", "(IJJ)V"⟩, 12), (⟨"OutageScreen", "rankLines", "()V"⟩, 8), (⟨"OutageScreen", "rank", "(II)V"⟩, 8), (⟨"OutageScreen", "rankPairs", "()V"⟩, 8), (⟨"OutageScreen", "bridges", "()I"⟩, 8)]
theorem lw_r1 : ∀ q ∈ lw_privs_1, lw_okq q := List.forall_mem_cons.mpr ⟨lw_p0, List.forall_mem_cons.mpr ⟨lw_p1, List.forall_mem_cons.mpr ⟨lw_p2, List.forall_mem_cons.mpr ⟨lw_p3, List.forall_mem_cons.mpr ⟨lw_p4, List.forall_mem_cons.mpr ⟨lw_p5, List.forall_mem_cons.mpr ⟨lw_p6, List.forall_mem_cons.mpr ⟨lw_p7, List.forall_mem_cons.mpr ⟨lw_p8, List.forall_mem_cons.mpr ⟨lw_p9, List.forall_mem_cons.mpr ⟨lw_p10, List.forall_mem_cons.mpr ⟨lw_p11, List.forall_mem_cons.mpr ⟨lw_p12, List.forall_mem_cons.mpr ⟨lw_p13, List.forall_mem_cons.mpr ⟨lw_p14, List.forall_mem_cons.mpr ⟨lw_p15, fun _ h => absurd h List.not_mem_nil⟩⟩⟩⟩⟩⟩⟩⟩⟩⟩⟩⟩⟩⟩⟩⟩
theorem lw_p16 : lw_okq (⟨"OutageScreen$Script", "skipBlanks", "()V"⟩, 5) := ⟨⟨by decide +kernel, by decide +kernel⟩, List.mem_of_getElem? (i := 91) (by decide +kernel), List.mem_of_getElem? (i := 562) (by decide +kernel), List.mem_of_getElem? (i := 563) (by decide +kernel)⟩
theorem lw_p17 : lw_okq (⟨"OutageScreen$Script", "readWord", "()Z"⟩, 5) := ⟨⟨by decide +kernel, by decide +kernel⟩, List.mem_of_getElem? (i := 91) (by decide +kernel), List.mem_of_getElem? (i := 570) (by decide +kernel), List.mem_of_getElem? (i := 571) (by decide +kernel)⟩
theorem lw_p18 : lw_okq (⟨"OutageScreen$Script", "isWord", "(Ljava/lang/String;I)Z"⟩, 5) := ⟨⟨by decide +kernel, by decide +kernel⟩, List.mem_of_getElem? (i := 91) (by decide +kernel), List.mem_of_getElem? (i := 589) (by decide +kernel), List.mem_of_getElem? (i := 590) (by decide +kernel)⟩
theorem lw_p19 : lw_okq (⟨"OutageScreen$Script", "readNumber", "(IZ)Z"⟩, 5) := ⟨⟨by decide +kernel, by decide +kernel⟩, List.mem_of_getElem? (i := 91) (by decide +kernel), List.mem_of_getElem? (i := 644) (by decide +kernel), List.mem_of_getElem? (i := 645) (by decide +kernel)⟩
theorem lw_p20 : lw_okq (⟨"OutageScreen$Script", "sees", "(I)Z"⟩, 5) := ⟨⟨by decide +kernel, by decide +kernel⟩, List.mem_of_getElem? (i := 91) (by decide +kernel), List.mem_of_getElem? (i := 648) (by decide +kernel), List.mem_of_getElem? (i := 649) (by decide +kernel)⟩
theorem lw_p21 : lw_okq (⟨"OutageScreen$Script", "seesDigit", "()Z"⟩, 5) := ⟨⟨by decide +kernel, by decide +kernel⟩, List.mem_of_getElem? (i := 91) (by decide +kernel), List.mem_of_getElem? (i := 652) (by decide +kernel), List.mem_of_getElem? (i := 653) (by decide +kernel)⟩
theorem lw_p22 : lw_okq (⟨"OutageScreen", "obeys", "(I[I)Z"⟩, 8) := ⟨⟨by decide +kernel, by decide +kernel⟩, List.mem_of_getElem? (i := 14) (by decide +kernel), List.mem_of_getElem? (i := 659) (by decide +kernel), List.mem_of_getElem? (i := 660) (by decide +kernel)⟩
theorem lw_p23 : lw_okq (⟨"OutageScreen", "obeysShort", "(II)Z"⟩, 8) := ⟨⟨by decide +kernel, by decide +kernel⟩, List.mem_of_getElem? (i := 14) (by decide +kernel), List.mem_of_getElem? (i := 663) (by decide +kernel), List.mem_of_getElem? (i := 664) (by decide +kernel)⟩
theorem lw_p24 : lw_okq (⟨"OutageScreenModel", "refuses", "(I)I"⟩, 28) := ⟨⟨by decide +kernel, by decide +kernel⟩, List.mem_of_getElem? (i := 695) (by decide +kernel), List.mem_of_getElem? (i := 798) (by decide +kernel), List.mem_of_getElem? (i := 799) (by decide +kernel)⟩
theorem lw_p25 : lw_okq (⟨"OutageScreenModel", "aside", "()V"⟩, 28) := ⟨⟨by decide +kernel, by decide +kernel⟩, List.mem_of_getElem? (i := 695) (by decide +kernel), List.mem_of_getElem? (i := 802) (by decide +kernel), List.mem_of_getElem? (i := 803) (by decide +kernel)⟩
theorem lw_p26 : lw_okq (⟨"OutageScreenModel", "keeps", "()V"⟩, 28) := ⟨⟨by decide +kernel, by decide +kernel⟩, List.mem_of_getElem? (i := 695) (by decide +kernel), List.mem_of_getElem? (i := 806) (by decide +kernel), List.mem_of_getElem? (i := 807) (by decide +kernel)⟩
theorem lw_p27 : lw_okq (⟨"OutageScreenModel", "beginsNow", "(I)I"⟩, 28) := ⟨⟨by decide +kernel, by decide +kernel⟩, List.mem_of_getElem? (i := 695) (by decide +kernel), List.mem_of_getElem? (i := 810) (by decide +kernel), List.mem_of_getElem? (i := 811) (by decide +kernel)⟩
theorem lw_p28 : lw_okq (⟨"OutageScreenModel", "mayFeed", "(II)Z"⟩, 28) := ⟨⟨by decide +kernel, by decide +kernel⟩, List.mem_of_getElem? (i := 695) (by decide +kernel), List.mem_of_getElem? (i := 818) (by decide +kernel), List.mem_of_getElem? (i := 819) (by decide +kernel)⟩
theorem lw_p29 : lw_okq (⟨"OutageScreenModel", "isBus", "(I)Z"⟩, 28) := ⟨⟨by decide +kernel, by decide +kernel⟩, List.mem_of_getElem? (i := 695) (by decide +kernel), List.mem_of_getElem? (i := 822) (by decide +kernel), List.mem_of_getElem? (i := 823) (by decide +kernel)⟩
theorem lw_p30 : lw_okq (⟨"OutageScreenModel", "isLineTold", "(IIII)Z"⟩, 28) := ⟨⟨by decide +kernel, by decide +kernel⟩, List.mem_of_getElem? (i := 695) (by decide +kernel), List.mem_of_getElem? (i := 832) (by decide +kernel), List.mem_of_getElem? (i := 833) (by decide +kernel)⟩
theorem lw_p31 : lw_okq (⟨"OutageScreenModel", "lineNow", "(IIII)I"⟩, 28) := ⟨⟨by decide +kernel, by decide +kernel⟩, List.mem_of_getElem? (i := 695) (by decide +kernel), List.mem_of_getElem? (i := 838) (by decide +kernel), List.mem_of_getElem? (i := 839) (by decide +kernel)⟩
def lw_privs_2 : List (MethodName × Nat) := [(⟨"OutageScreen$Script", "skipBlanks", "()V"⟩, 5), (⟨"OutageScreen$Script", "readWord", "()Z"⟩, 5), (⟨"OutageScreen$Script", "isWord", "(Ljava/lang/String;I)Z"⟩, 5), (⟨"OutageScreen$Script", "readNumber", "(IZ)Z"⟩, 5), (⟨"OutageScreen$Script", "sees", "(I)Z"⟩, 5), (⟨"OutageScreen$Script", "seesDigit", "()Z"⟩, 5), (⟨"OutageScreen", "obeys", "(I[I)Z"⟩, 8), (⟨"OutageScreen", "obeysShort", "(II)Z"⟩, 8), (⟨"OutageScreenModel", "refuses", "(I)I"⟩, 28), (⟨"OutageScreenModel", "aside", "()V"⟩, 28), (⟨"OutageScreenModel", "keeps", "()V"⟩, 28), (⟨"OutageScreenModel", "beginsNow", "(I)I"⟩, 28), (⟨"OutageScreenModel", "mayFeed", "(II)Z"⟩, 28), (⟨"OutageScreenModel", "isBus", "(I)Z"⟩, 28), (⟨"OutageScreenModel", "isLineTold", "(IIII)Z"⟩, 28), (⟨"OutageScreenModel", "lineNow", "(IIII)I"⟩, 28)]
theorem lw_r2 : ∀ q ∈ lw_privs_2, lw_okq q := List.forall_mem_cons.mpr ⟨lw_p16, List.forall_mem_cons.mpr ⟨lw_p17, List.forall_mem_cons.mpr ⟨lw_p18, List.forall_mem_cons.mpr ⟨lw_p19, List.forall_mem_cons.mpr ⟨lw_p20, List.forall_mem_cons.mpr ⟨lw_p21, List.forall_mem_cons.mpr ⟨lw_p22, List.forall_mem_cons.mpr ⟨lw_p23, List.forall_mem_cons.mpr ⟨lw_p24, List.forall_mem_cons.mpr ⟨lw_p25, List.forall_mem_cons.mpr ⟨lw_p26, List.forall_mem_cons.mpr ⟨lw_p27, List.forall_mem_cons.mpr ⟨lw_p28, List.forall_mem_cons.mpr ⟨lw_p29, List.forall_mem_cons.mpr ⟨lw_p30, List.forall_mem_cons.mpr ⟨lw_p31, fun _ h => absurd h List.not_mem_nil⟩⟩⟩⟩⟩⟩⟩⟩⟩⟩⟩⟩⟩⟩⟩⟩
theorem lw_p32 : lw_okq (⟨"OutageScreenModel", "isLine", "(I)Z"⟩, 28) := ⟨⟨by decide +kernel, by decide +kernel⟩, List.mem_of_getElem? (i := 695) (by decide +kernel), List.mem_of_getElem? (i := 846) (by decide +kernel), List.mem_of_getElem? (i := 847) (by decide +kernel)⟩
theorem lw_p33 : lw_okq (⟨"OutageScreenModel", "dropsNow", "(I)I"⟩, 28) := ⟨⟨by decide +kernel, by decide +kernel⟩, List.mem_of_getElem? (i := 695) (by decide +kernel), List.mem_of_getElem? (i := 850) (by decide +kernel), List.mem_of_getElem? (i := 851) (by decide +kernel)⟩
theorem lw_p34 : lw_okq (⟨"OutageScreenModel", "becomes", "(III)I"⟩, 28) := ⟨⟨by decide +kernel, by decide +kernel⟩, List.mem_of_getElem? (i := 695) (by decide +kernel), List.mem_of_getElem? (i := 858) (by decide +kernel), List.mem_of_getElem? (i := 859) (by decide +kernel)⟩
theorem lw_p35 : lw_okq (⟨"OutageScreenModel", "lineAt", "(II)I"⟩, 28) := ⟨⟨by decide +kernel, by decide +kernel⟩, List.mem_of_getElem? (i := 695) (by decide +kernel), List.mem_of_getElem? (i := 862) (by decide +kernel), List.mem_of_getElem? (i := 863) (by decide +kernel)⟩
theorem lw_p36 : lw_okq (⟨"OutageScreenModel", "maySet", "(III)Z"⟩, 28) := ⟨⟨by decide +kernel, by decide +kernel⟩, List.mem_of_getElem? (i := 695) (by decide +kernel), List.mem_of_getElem? (i := 870) (by decide +kernel), List.mem_of_getElem? (i := 871) (by decide +kernel)⟩
theorem lw_p37 : lw_okq (⟨"OutageScreenModel", "isBridge", "(I)Z"⟩, 28) := ⟨⟨by decide +kernel, by decide +kernel⟩, List.mem_of_getElem? (i := 695) (by decide +kernel), List.mem_of_getElem? (i := 878) (by decide +kernel), List.mem_of_getElem? (i := 879) (by decide +kernel)⟩
theorem lw_p38 : lw_okq (⟨"OutageScreenModel", "isIn", "(I)Z"⟩, 28) := ⟨⟨by decide +kernel, by decide +kernel⟩, List.mem_of_getElem? (i := 695) (by decide +kernel), List.mem_of_getElem? (i := 882) (by decide +kernel), List.mem_of_getElem? (i := 883) (by decide +kernel)⟩
theorem lw_p39 : lw_okq (⟨"OutageScreenModel", "inSet", "()I"⟩, 28) := ⟨⟨by decide +kernel, by decide +kernel⟩, List.mem_of_getElem? (i := 695) (by decide +kernel), List.mem_of_getElem? (i := 886) (by decide +kernel), List.mem_of_getElem? (i := 887) (by decide +kernel)⟩
theorem lw_p40 : lw_okq (⟨"OutageScreenModel", "parts", "(I)V"⟩, 28) := ⟨⟨by decide +kernel, by decide +kernel⟩, List.mem_of_getElem? (i := 695) (by decide +kernel), List.mem_of_getElem? (i := 890) (by decide +kernel), List.mem_of_getElem? (i := 891) (by decide +kernel)⟩
theorem lw_p41 : lw_okq (⟨"OutageScreenModel", "asTold", "()V"⟩, 28) := ⟨⟨by decide +kernel, by decide +kernel⟩, List.mem_of_getElem? (i := 695) (by decide +kernel), List.mem_of_getElem? (i := 901) (by decide +kernel), List.mem_of_getElem? (i := 902) (by decide +kernel)⟩
theorem lw_p42 : lw_okq (⟨"OutageScreenModel", "solves", "(I)V"⟩, 28) := ⟨⟨by decide +kernel, by decide +kernel⟩, List.mem_of_getElem? (i := 695) (by decide +kernel), List.mem_of_getElem? (i := 905) (by decide +kernel), List.mem_of_getElem? (i := 906) (by decide +kernel)⟩
theorem lw_p43 : lw_okq (⟨"OutageScreenModel", "treesOf", "(II)J"⟩, 28) := ⟨⟨by decide +kernel, by decide +kernel⟩, List.mem_of_getElem? (i := 695) (by decide +kernel), List.mem_of_getElem? (i := 909) (by decide +kernel), List.mem_of_getElem? (i := 910) (by decide +kernel)⟩
theorem lw_p44 : lw_okq (⟨"OutageScreenModel", "gathers", "(I)V"⟩, 28) := ⟨⟨by decide +kernel, by decide +kernel⟩, List.mem_of_getElem? (i := 695) (by decide +kernel), List.mem_of_getElem? (i := 913) (by decide +kernel), List.mem_of_getElem? (i := 914) (by decide +kernel)⟩
theorem lw_p45 : lw_okq (⟨"OutageScreenModel", "laysSquare", "(II)V"⟩, 28) := ⟨⟨by decide +kernel, by decide +kernel⟩, List.mem_of_getElem? (i := 695) (by decide +kernel), List.mem_of_getElem? (i := 917) (by decide +kernel), List.mem_of_getElem? (i := 918) (by decide +kernel)⟩
theorem lw_p46 : lw_okq (⟨"OutageScreenModel", "determinant", "()J"⟩, 28) := ⟨⟨by decide +kernel, by decide +kernel⟩, List.mem_of_getElem? (i := 695) (by decide +kernel), List.mem_of_getElem? (i := 921) (by decide +kernel), List.mem_of_getElem? (i := 922) (by decide +kernel)⟩
theorem lw_p47 : lw_okq (⟨"OutageScreenModel", "swapsRows", "(II)V"⟩, 28) := ⟨⟨by decide +kernel, by decide +kernel⟩, List.mem_of_getElem? (i := 695) (by decide +kernel), List.mem_of_getElem? (i := 925) (by decide +kernel), List.mem_of_getElem? (i := 926) (by decide +kernel)⟩
def lw_privs_3 : List (MethodName × Nat) := [(⟨"OutageScreenModel", "isLine", "(I)Z"⟩, 28), (⟨"OutageScreenModel", "dropsNow", "(I)I"⟩, 28), (⟨"OutageScreenModel", "becomes", "(III)I"⟩, 28), (⟨"OutageScreenModel", "lineAt", "(II)I"⟩, 28), (⟨"OutageScreenModel", "maySet", "(III)Z"⟩, 28), (⟨"OutageScreenModel", "isBridge", "(I)Z"⟩, 28), (⟨"OutageScreenModel", "isIn", "(I)Z"⟩, 28), (⟨"OutageScreenModel", "inSet", "()I"⟩, 28), (⟨"OutageScreenModel", "parts", "(I)V"⟩, 28), (⟨"OutageScreenModel", "asTold", "()V"⟩, 28), (⟨"OutageScreenModel", "solves", "(I)V"⟩, 28), (⟨"OutageScreenModel", "treesOf", "(II)J"⟩, 28), (⟨"OutageScreenModel", "gathers", "(I)V"⟩, 28), (⟨"OutageScreenModel", "laysSquare", "(II)V"⟩, 28), (⟨"OutageScreenModel", "determinant", "()J"⟩, 28), (⟨"OutageScreenModel", "swapsRows", "(II)V"⟩, 28)]
theorem lw_r3 : ∀ q ∈ lw_privs_3, lw_okq q := List.forall_mem_cons.mpr ⟨lw_p32, List.forall_mem_cons.mpr ⟨lw_p33, List.forall_mem_cons.mpr ⟨lw_p34, List.forall_mem_cons.mpr ⟨lw_p35, List.forall_mem_cons.mpr ⟨lw_p36, List.forall_mem_cons.mpr ⟨lw_p37, List.forall_mem_cons.mpr ⟨lw_p38, List.forall_mem_cons.mpr ⟨lw_p39, List.forall_mem_cons.mpr ⟨lw_p40, List.forall_mem_cons.mpr ⟨lw_p41, List.forall_mem_cons.mpr ⟨lw_p42, List.forall_mem_cons.mpr ⟨lw_p43, List.forall_mem_cons.mpr ⟨lw_p44, List.forall_mem_cons.mpr ⟨lw_p45, List.forall_mem_cons.mpr ⟨lw_p46, List.forall_mem_cons.mpr ⟨lw_p47, fun _ h => absurd h List.not_mem_nil⟩⟩⟩⟩⟩⟩⟩⟩⟩⟩⟩⟩⟩⟩⟩⟩
theorem lw_p48 : lw_okq (⟨"OutageScreenModel", "flowTold", "(III)J"⟩, 28) := ⟨⟨by decide +kernel, by decide +kernel⟩, List.mem_of_getElem? (i := 695) (by decide +kernel), List.mem_of_getElem? (i := 929) (by decide +kernel), List.mem_of_getElem? (i := 930) (by decide +kernel)⟩
theorem lw_p49 : lw_okq (⟨"OutageScreenModel", "flowOf", "(II)J"⟩, 28) := ⟨⟨by decide +kernel, by decide +kernel⟩, List.mem_of_getElem? (i := 695) (by decide +kernel), List.mem_of_getElem? (i := 933) (by decide +kernel), List.mem_of_getElem? (i := 934) (by decide +kernel)⟩
theorem lw_p50 : lw_okq (⟨"OutageScreenModel", "oneOf", "(II)V"⟩, 28) := ⟨⟨by decide +kernel, by decide +kernel⟩, List.mem_of_getElem? (i := 695) (by decide +kernel), List.mem_of_getElem? (i := 951) (by decide +kernel), List.mem_of_getElem? (i := 952) (by decide +kernel)⟩
theorem lw_p51 : lw_okq (⟨"OutageScreenModel", "judges", "(I)V"⟩, 28) := ⟨⟨by decide +kernel, by decide +kernel⟩, List.mem_of_getElem? (i := 695) (by decide +kernel), List.mem_of_getElem? (i := 982) (by decide +kernel), List.mem_of_getElem? (i := 983) (by decide +kernel)⟩
theorem lw_p52 : lw_okq (⟨"OutageScreenModel", "ranksAll", "(Z)V"⟩, 28) := ⟨⟨by decide +kernel, by decide +kernel⟩, List.mem_of_getElem? (i := 695) (by decide +kernel), List.mem_of_getElem? (i := 990) (by decide +kernel), List.mem_of_getElem? (i := 991) (by decide +kernel)⟩
theorem lw_p53 : lw_okq (⟨"OutageScreenModel", "ranks", "(II)V"⟩, 28) := ⟨⟨by decide +kernel, by decide +kernel⟩, List.mem_of_getElem? (i := 695) (by decide +kernel), List.mem_of_getElem? (i := 994) (by decide +kernel), List.mem_of_getElem? (i := 995) (by decide +kernel)⟩
theorem lw_p54 : lw_okq (⟨"OutageScreenModel", "carries", "(III)I"⟩, 28) := ⟨⟨by decide +kernel, by decide +kernel⟩, List.mem_of_getElem? (i := 695) (by decide +kernel), List.mem_of_getElem? (i := 1010) (by decide +kernel), List.mem_of_getElem? (i := 1011) (by decide +kernel)⟩
theorem lw_p55 : lw_okq (⟨"OutageScreenModel", "countOf", "(I)I"⟩, 28) := ⟨⟨by decide +kernel, by decide +kernel⟩, List.mem_of_getElem? (i := 695) (by decide +kernel), List.mem_of_getElem? (i := 1019) (by decide +kernel), List.mem_of_getElem? (i := 1020) (by decide +kernel)⟩
theorem lw_p56 : lw_okq (⟨"OutageScreenModel", "order", "(Z)I"⟩, 28) := ⟨⟨by decide +kernel, by decide +kernel⟩, List.mem_of_getElem? (i := 695) (by decide +kernel), List.mem_of_getElem? (i := 1036) (by decide +kernel), List.mem_of_getElem? (i := 1037) (by decide +kernel)⟩
theorem lw_p57 : lw_okq (⟨"OutageScreenModel", "word", "()I"⟩, 28) := ⟨⟨by decide +kernel, by decide +kernel⟩, List.mem_of_getElem? (i := 695) (by decide +kernel), List.mem_of_getElem? (i := 1040) (by decide +kernel), List.mem_of_getElem? (i := 1041) (by decide +kernel)⟩
theorem lw_p58 : lw_okq (⟨"OutageScreenModel", "here", "()I"⟩, 28) := ⟨⟨by decide +kernel, by decide +kernel⟩, List.mem_of_getElem? (i := 695) (by decide +kernel), List.mem_of_getElem? (i := 1044) (by decide +kernel), List.mem_of_getElem? (i := 1045) (by decide +kernel)⟩
theorem lw_p59 : lw_okq (⟨"OutageScreenModel", "isLetter", "(I)Z"⟩, 28) := ⟨⟨by decide +kernel, by decide +kernel⟩, List.mem_of_getElem? (i := 695) (by decide +kernel), List.mem_of_getElem? (i := 1048) (by decide +kernel), List.mem_of_getElem? (i := 1049) (by decide +kernel)⟩
theorem lw_p60 : lw_okq (⟨"OutageScreenModel", "number", "(IZ)Z"⟩, 28) := ⟨⟨by decide +kernel, by decide +kernel⟩, List.mem_of_getElem? (i := 695) (by decide +kernel), List.mem_of_getElem? (i := 1057) (by decide +kernel), List.mem_of_getElem? (i := 1058) (by decide +kernel)⟩
theorem lw_p61 : lw_okq (⟨"OutageScreenModel", "isFigure", "(I)Z"⟩, 28) := ⟨⟨by decide +kernel, by decide +kernel⟩, List.mem_of_getElem? (i := 695) (by decide +kernel), List.mem_of_getElem? (i := 1061) (by decide +kernel), List.mem_of_getElem? (i := 1062) (by decide +kernel)⟩
theorem lw_p62 : lw_okq (⟨"OutageScreenModel", "isDone", "(I)Z"⟩, 28) := ⟨⟨by decide +kernel, by decide +kernel⟩, List.mem_of_getElem? (i := 695) (by decide +kernel), List.mem_of_getElem? (i := 1067) (by decide +kernel), List.mem_of_getElem? (i := 1068) (by decide +kernel)⟩
theorem lw_p63 : lw_okq (⟨"OutageScreenModel", "toldOf", "(I)I"⟩, 28) := ⟨⟨by decide +kernel, by decide +kernel⟩, List.mem_of_getElem? (i := 695) (by decide +kernel), List.mem_of_getElem? (i := 1079) (by decide +kernel), List.mem_of_getElem? (i := 1080) (by decide +kernel)⟩
def lw_privs_4 : List (MethodName × Nat) := [(⟨"OutageScreenModel", "flowTold", "(III)J"⟩, 28), (⟨"OutageScreenModel", "flowOf", "(II)J"⟩, 28), (⟨"OutageScreenModel", "oneOf", "(II)V"⟩, 28), (⟨"OutageScreenModel", "judges", "(I)V"⟩, 28), (⟨"OutageScreenModel", "ranksAll", "(Z)V"⟩, 28), (⟨"OutageScreenModel", "ranks", "(II)V"⟩, 28), (⟨"OutageScreenModel", "carries", "(III)I"⟩, 28), (⟨"OutageScreenModel", "countOf", "(I)I"⟩, 28), (⟨"OutageScreenModel", "order", "(Z)I"⟩, 28), (⟨"OutageScreenModel", "word", "()I"⟩, 28), (⟨"OutageScreenModel", "here", "()I"⟩, 28), (⟨"OutageScreenModel", "isLetter", "(I)Z"⟩, 28), (⟨"OutageScreenModel", "number", "(IZ)Z"⟩, 28), (⟨"OutageScreenModel", "isFigure", "(I)Z"⟩, 28), (⟨"OutageScreenModel", "isDone", "(I)Z"⟩, 28), (⟨"OutageScreenModel", "toldOf", "(I)I"⟩, 28)]
theorem lw_r4 : ∀ q ∈ lw_privs_4, lw_okq q := List.forall_mem_cons.mpr ⟨lw_p48, List.forall_mem_cons.mpr ⟨lw_p49, List.forall_mem_cons.mpr ⟨lw_p50, List.forall_mem_cons.mpr ⟨lw_p51, List.forall_mem_cons.mpr ⟨lw_p52, List.forall_mem_cons.mpr ⟨lw_p53, List.forall_mem_cons.mpr ⟨lw_p54, List.forall_mem_cons.mpr ⟨lw_p55, List.forall_mem_cons.mpr ⟨lw_p56, List.forall_mem_cons.mpr ⟨lw_p57, List.forall_mem_cons.mpr ⟨lw_p58, List.forall_mem_cons.mpr ⟨lw_p59, List.forall_mem_cons.mpr ⟨lw_p60, List.forall_mem_cons.mpr ⟨lw_p61, List.forall_mem_cons.mpr ⟨lw_p62, List.forall_mem_cons.mpr ⟨lw_p63, fun _ h => absurd h List.not_mem_nil⟩⟩⟩⟩⟩⟩⟩⟩⟩⟩⟩⟩⟩⟩⟩⟩
def lw_privs : List (MethodName × Nat) := lw_privs_1 ++ (lw_privs_2 ++ (lw_privs_3 ++ (lw_privs_4)))
def lw_tbl : List Cond := k2_sels lw_privs ++ tables_1
theorem lw_privs_ok : ∀ q ∈ lw_privs, lw_okq q := by
  show ∀ q ∈ lw_privs_1 ++ (lw_privs_2 ++ (lw_privs_3 ++ (lw_privs_4))), lw_okq q
  exact List.forall_mem_append.mpr ⟨lw_r1, List.forall_mem_append.mpr ⟨lw_r2, List.forall_mem_append.mpr ⟨lw_r3, lw_r4⟩⟩⟩
end
section
/-! ===== BEGIN printed: names, fields, word lists, decode rows ===== -/
def RX0 : String := "OutageScreen$Grid"
def TX0 : u_T := fun k => match k with
  | 0 => ("OutageScreen$Grid", "own", "[I", true)
  | 1 => ("OutageScreen$Grid", "from", "[I", true)
  | 2 => ("OutageScreen$Grid", "to", "[I", true)
  | 3 => ("OutageScreen$Grid", "strength", "[I", true)
  | 4 => ("OutageScreen$Grid", "limit", "[I", true)
  | 5 => ("OutageScreen$Grid", "serves", "[Z", true)
  | 6 => ("OutageScreen$Grid", "buses", "I", false)
  | _ => ("OutageScreen$Grid", "lines", "I", false)
def tyX0 : Nat → FieldType := fun k => match k with
  | 0 => .array .int
  | 1 => .array .int
  | 2 => .array .int
  | 3 => .array .int
  | 4 => .array .int
  | 5 => .array .boolean
  | 6 => .int
  | _ => .int
abbrev wsX00 : List Cond := u_ws RX0 TX0 8
theorem nmX0 : ∀ a, a < 8 → ∀ b, b < 8 → a ≠ b → (TX0 a).2.1 ≠ (TX0 b).2.1 := by decide +kernel
theorem tyX0_ok : ∀ k, k < 8 → parseFieldDescriptor (TX0 k).2.2.1 = some (tyX0 k) := by decide +kernel
abbrev cX0_init : ByteArray := prog_2_method_1_code
def yX0_init : MethodName := ⟨RX0, "<init>", "()V"⟩
abbrev cX0_hasBus : ByteArray := prog_2_method_2_code
def yX0_hasBus : MethodName := ⟨RX0, "hasBus", "(I)Z"⟩
abbrev cX0_hasLine : ByteArray := prog_2_method_3_code
def yX0_hasLine : MethodName := ⟨RX0, "hasLine", "(I)Z"⟩
abbrev cX0_isFull : ByteArray := prog_2_method_4_code
def yX0_isFull : MethodName := ⟨RX0, "isFull", "()Z"⟩
abbrev cX0_serving : ByteArray := prog_2_method_5_code
def yX0_serving : MethodName := ⟨RX0, "serving", "()I"⟩
abbrev cX0_canHave : ByteArray := prog_2_method_6_code
def yX0_canHave : MethodName := ⟨RX0, "canHave", "(I)Z"⟩
abbrev cX0_restart : ByteArray := prog_2_method_7_code
def yX0_restart : MethodName := ⟨RX0, "restart", "(I)I"⟩
abbrev cX0_canInject : ByteArray := prog_2_method_8_code
def yX0_canInject : MethodName := ⟨RX0, "canInject", "(II)Z"⟩
abbrev cX0_inject : ByteArray := prog_2_method_9_code
def yX0_inject : MethodName := ⟨RX0, "inject", "(II)I"⟩
abbrev cX0_canJoin : ByteArray := prog_2_method_10_code
def yX0_canJoin : MethodName := ⟨RX0, "canJoin", "(IIII)Z"⟩
abbrev cX0_join : ByteArray := prog_2_method_11_code
def yX0_join : MethodName := ⟨RX0, "join", "(IIII)I"⟩
abbrev cX0_remove : ByteArray := prog_2_method_12_code
def yX0_remove : MethodName := ⟨RX0, "remove", "(I)I"⟩
abbrev cX0_turn : ByteArray := prog_2_method_13_code
def yX0_turn : MethodName := ⟨RX0, "turn", "(IZ)I"⟩
abbrev cX0_canStrengthen : ByteArray := prog_2_method_14_code
def yX0_canStrengthen : MethodName := ⟨RX0, "canStrengthen", "(II)Z"⟩
abbrev cX0_strengthen : ByteArray := prog_2_method_15_code
def yX0_strengthen : MethodName := ⟨RX0, "strengthen", "(II)I"⟩
abbrev cX0_canBound : ByteArray := prog_2_method_16_code
def yX0_canBound : MethodName := ⟨RX0, "canBound", "(II)Z"⟩
abbrev cX0_bound : ByteArray := prog_2_method_17_code
def yX0_bound : MethodName := ⟨RX0, "bound", "(II)I"⟩
abbrev cX0_copy : ByteArray := prog_2_method_18_code
def yX0_copy : MethodName := ⟨RX0, "copy", "(LOutageScreen$Grid;)V"⟩
def RX1 : String := "OutageScreen$Past"
def TX1 : u_T := fun k => match k with
  | 0 => ("OutageScreen$Past", "kept", "[LOutageScreen$Grid;", true)
  | 1 => ("OutageScreen$Past", "oldest", "I", false)
  | _ => ("OutageScreen$Past", "size", "I", false)
def tyX1 : Nat → FieldType := fun k => match k with
  | 0 => .array (.object "OutageScreen$Grid")
  | 1 => .int
  | _ => .int
abbrev wsX10 : List Cond := u_ws RX1 TX1 3
theorem nmX1 : ∀ a, a < 3 → ∀ b, b < 3 → a ≠ b → (TX1 a).2.1 ≠ (TX1 b).2.1 := by decide +kernel
theorem tyX1_ok : ∀ k, k < 3 → parseFieldDescriptor (TX1 k).2.2.1 = some (tyX1 k) := by decide +kernel
abbrev cX1_init : ByteArray := prog_3_method_1_code
def yX1_init : MethodName := ⟨RX1, "<init>", "()V"⟩
abbrev cX1_keep : ByteArray := prog_3_method_2_code
def yX1_keep : MethodName := ⟨RX1, "keep", "(LOutageScreen$Grid;)V"⟩
abbrev cX1_restore : ByteArray := prog_3_method_3_code
def yX1_restore : MethodName := ⟨RX1, "restore", "(LOutageScreen$Grid;)I"⟩
def RX2 : String := "OutageScreen$Ranking"
def TX2 : u_T := fun k => match k with
  | 0 => ("OutageScreen$Ranking", "first", "[I", true)
  | 1 => ("OutageScreen$Ranking", "second", "[I", true)
  | 2 => ("OutageScreen$Ranking", "top", "[J", true)
  | 3 => ("OutageScreen$Ranking", "bottom", "[J", true)
  | _ => ("OutageScreen$Ranking", "size", "I", false)
def tyX2 : Nat → FieldType := fun k => match k with
  | 0 => .array .int
  | 1 => .array .int
  | 2 => .array .long
  | 3 => .array .long
  | _ => .int
abbrev wsX20 : List Cond := u_ws RX2 TX2 5
theorem nmX2 : ∀ a, a < 5 → ∀ b, b < 5 → a ≠ b → (TX2 a).2.1 ≠ (TX2 b).2.1 := by decide +kernel
theorem tyX2_ok : ∀ k, k < 5 → parseFieldDescriptor (TX2 k).2.2.1 = some (tyX2 k) := by decide +kernel
abbrev cX2_init : ByteArray := prog_4_method_1_code
def yX2_init : MethodName := ⟨RX2, "<init>", "()V"⟩
abbrev cX2_has : ByteArray := prog_4_method_2_code
def yX2_has : MethodName := ⟨RX2, "has", "(I)Z"⟩
abbrev cX2_insert : ByteArray := prog_4_method_3_code
def yX2_insert : MethodName := ⟨RX2, "insert", "(IIJJ)V"⟩
abbrev cX2_overloaded : ByteArray := prog_4_method_4_code
def yX2_overloaded : MethodName := ⟨RX2, "overloaded", "()I"⟩
def RX3 : String := "OutageScreen$Script"
def TX3 : u_T := fun k => match k with
  | 0 => ("OutageScreen$Script", "bytes", "[I", true)
  | 1 => ("OutageScreen$Script", "numbers", "[I", true)
  | 2 => ("OutageScreen$Script", "length", "I", false)
  | 3 => ("OutageScreen$Script", "at", "I", false)
  | _ => ("OutageScreen$Script", "kind", "I", false)
def tyX3 : Nat → FieldType := fun k => match k with
  | 0 => .array .int
  | 1 => .array .int
  | 2 => .int
  | 3 => .int
  | _ => .int
abbrev wsX30 : List Cond := u_ws RX3 TX3 5
theorem nmX3 : ∀ a, a < 5 → ∀ b, b < 5 → a ≠ b → (TX3 a).2.1 ≠ (TX3 b).2.1 := by decide +kernel
theorem tyX3_ok : ∀ k, k < 5 → parseFieldDescriptor (TX3 k).2.2.1 = some (tyX3 k) := by decide +kernel
abbrev cX3_init : ByteArray := prog_5_method_1_code
def yX3_init : MethodName := ⟨RX3, "<init>", "()V"⟩
abbrev cX3_isFull : ByteArray := prog_5_method_2_code
def yX3_isFull : MethodName := ⟨RX3, "isFull", "()Z"⟩
abbrev cX3_append : ByteArray := prog_5_method_3_code
def yX3_append : MethodName := ⟨RX3, "append", "(I)I"⟩
abbrev cX3_empty : ByteArray := prog_5_method_4_code
def yX3_empty : MethodName := ⟨RX3, "empty", "()I"⟩
abbrev cX3_rewind : ByteArray := prog_5_method_5_code
def yX3_rewind : MethodName := ⟨RX3, "rewind", "()V"⟩
abbrev cX3_findFault : ByteArray := prog_5_method_6_code
def yX3_findFault : MethodName := ⟨RX3, "findFault", "()I"⟩
abbrev cX3_hasMore : ByteArray := prog_5_method_7_code
def yX3_hasMore : MethodName := ⟨RX3, "hasMore", "()Z"⟩
abbrev cX3_readCommand : ByteArray := prog_5_method_8_code
def yX3_readCommand : MethodName := ⟨RX3, "readCommand", "()Z"⟩
abbrev cX3_readWord : ByteArray := prog_5_method_9_code
def yX3_readWord : MethodName := ⟨RX3, "readWord", "()Z"⟩
abbrev cX3_isWord : ByteArray := prog_5_method_10_code
def yX3_isWord : MethodName := ⟨RX3, "isWord", "(Ljava/lang/String;I)Z"⟩
abbrev cX3_readNumber : ByteArray := prog_5_method_11_code
def yX3_readNumber : MethodName := ⟨RX3, "readNumber", "(IZ)Z"⟩
abbrev cX3_skipBlanks : ByteArray := prog_5_method_12_code
def yX3_skipBlanks : MethodName := ⟨RX3, "skipBlanks", "()V"⟩
abbrev cX3_sees : ByteArray := prog_5_method_13_code
def yX3_sees : MethodName := ⟨RX3, "sees", "(I)Z"⟩
abbrev cX3_seesDigit : ByteArray := prog_5_method_14_code
def yX3_seesDigit : MethodName := ⟨RX3, "seesDigit", "()Z"⟩
abbrev cX3_isLetter : ByteArray := prog_5_method_15_code
def yX3_isLetter : MethodName := ⟨RX3, "isLetter", "(I)Z"⟩
abbrev cX3_wordOf : ByteArray := prog_5_method_16_code
def yX3_wordOf : MethodName := ⟨RX3, "wordOf", "(I)Ljava/lang/String;"⟩
abbrev cX3_numbersOf : ByteArray := prog_5_method_17_code
def yX3_numbersOf : MethodName := ⟨RX3, "numbersOf", "(I)I"⟩
def RX4 : String := "OutageScreen$Study"
def TX4 : u_T := fun k => match k with
  | 0 => ("OutageScreen$Study", "grid", "LOutageScreen$Grid;", true)
  | 1 => ("OutageScreen$Study", "live", "[Z", true)
  | 2 => ("OutageScreen$Study", "slack", "[I", true)
  | 3 => ("OutageScreen$Study", "rows", "[[J", true)
  | 4 => ("OutageScreen$Study", "turned", "[J", true)
  | 5 => ("OutageScreen$Study", "carried", "[J", true)
  | 6 => ("OutageScreen$Study", "probed", "[J", true)
  | 7 => ("OutageScreen$Study", "whole", "J", false)
  | 8 => ("OutageScreen$Study", "worstLine", "I", false)
  | 9 => ("OutageScreen$Study", "worstTop", "J", false)
  | 10 => ("OutageScreen$Study", "worstBottom", "J", false)
  | _ => ("OutageScreen$Study", "overloads", "I", false)
def tyX4 : Nat → FieldType := fun k => match k with
  | 0 => .object "OutageScreen$Grid"
  | 1 => .array .boolean
  | 2 => .array .int
  | 3 => .array (.array .long)
  | 4 => .array .long
  | 5 => .array .long
  | 6 => .array .long
  | 7 => .long
  | 8 => .int
  | 9 => .long
  | 10 => .long
  | _ => .int
abbrev wsX40 : List Cond := u_ws RX4 TX4 12
theorem nmX4 : ∀ a, a < 12 → ∀ b, b < 12 → a ≠ b → (TX4 a).2.1 ≠ (TX4 b).2.1 := by decide +kernel
theorem tyX4_ok : ∀ k, k < 12 → parseFieldDescriptor (TX4 k).2.2.1 = some (tyX4 k) := by decide +kernel
abbrev cX4_init : ByteArray := prog_6_method_1_code
def yX4_init : MethodName := ⟨RX4, "<init>", "(LOutageScreen$Grid;)V"⟩
abbrev cX4_take : ByteArray := prog_6_method_2_code
def yX4_take : MethodName := ⟨RX4, "take", "(II)V"⟩
abbrev cX4_narrow : ByteArray := prog_6_method_3_code
def yX4_narrow : MethodName := ⟨RX4, "narrow", "(I)V"⟩
abbrev cX4_findIslands : ByteArray := prog_6_method_4_code
def yX4_findIslands : MethodName := ⟨RX4, "findIslands", "()V"⟩
abbrev cX4_merge : ByteArray := prog_6_method_5_code
def yX4_merge : MethodName := ⟨RX4, "merge", "(II)V"⟩
abbrev cX4_joins : ByteArray := prog_6_method_6_code
def yX4_joins : MethodName := ⟨RX4, "joins", "(II)Z"⟩
abbrev cX4_islands : ByteArray := prog_6_method_7_code
def yX4_islands : MethodName := ⟨RX4, "islands", "()I"⟩
abbrev cX4_ownSum : ByteArray := prog_6_method_8_code
def yX4_ownSum : MethodName := ⟨RX4, "ownSum", "(I)I"⟩
abbrev cX4_solve : ByteArray := prog_6_method_9_code
def yX4_solve : MethodName := ⟨RX4, "solve", "(II)V"⟩
abbrev cX4_startRow : ByteArray := prog_6_method_10_code
def yX4_startRow : MethodName := ⟨RX4, "startRow", "(III)V"⟩
abbrev cX4_addTerms : ByteArray := prog_6_method_11_code
def yX4_addTerms : MethodName := ⟨RX4, "addTerms", "(III)V"⟩
abbrev cX4_eliminate : ByteArray := prog_6_method_12_code
def yX4_eliminate : MethodName := ⟨RX4, "eliminate", "()V"⟩
abbrev cX4_readFlows : ByteArray := prog_6_method_13_code
def yX4_readFlows : MethodName := ⟨RX4, "readFlows", "()V"⟩
abbrev cX4_across : ByteArray := prog_6_method_14_code
def yX4_across : MethodName := ⟨RX4, "across", "(II)J"⟩
abbrev cX4_load : ByteArray := prog_6_method_15_code
def yX4_load : MethodName := ⟨RX4, "load", "()V"⟩
abbrev cX4_weigh : ByteArray := prog_6_method_16_code
def yX4_weigh : MethodName := ⟨RX4, "weigh", "(IJJ)V"⟩
abbrev cX4_room : ByteArray := prog_6_method_17_code
def yX4_room : MethodName := ⟨RX4, "room", "(II)I"⟩
abbrev cX4_roomOf : ByteArray := prog_6_method_18_code
def yX4_roomOf : MethodName := ⟨RX4, "roomOf", "(JJJ)J"⟩
def RX5 : String := "OutageScreen"
def TX5 : u_T := fun k => match k with
  | 0 => ("OutageScreen", "grid", "LOutageScreen$Grid;", true)
  | 1 => ("OutageScreen", "past", "LOutageScreen$Past;", true)
  | 2 => ("OutageScreen", "script", "LOutageScreen$Script;", true)
  | 3 => ("OutageScreen", "study", "LOutageScreen$Study;", true)
  | 4 => ("OutageScreen", "ranking", "LOutageScreen$Ranking;", true)
  | 5 => ("OutageScreen", "bads", "I", false)
  | 6 => ("OutageScreen", "nos", "I", false)
  | _ => ("OutageScreen", "fulls", "I", false)
def tyX5 : Nat → FieldType := fun k => match k with
  | 0 => .object "OutageScreen$Grid"
  | 1 => .object "OutageScreen$Past"
  | 2 => .object "OutageScreen$Script"
  | 3 => .object "OutageScreen$Study"
  | 4 => .object "OutageScreen$Ranking"
  | 5 => .int
  | 6 => .int
  | _ => .int
abbrev wsX50 : List Cond := u_ws RX5 TX5 8
theorem nmX5 : ∀ a, a < 8 → ∀ b, b < 8 → a ≠ b → (TX5 a).2.1 ≠ (TX5 b).2.1 := by decide +kernel
theorem tyX5_ok : ∀ k, k < 8 → parseFieldDescriptor (TX5 k).2.2.1 = some (tyX5 k) := by decide +kernel
abbrev cX5_init : ByteArray := prog_1_method_1_code
def yX5_init : MethodName := ⟨RX5, "<init>", "()V"⟩
abbrev cX5_begins : ByteArray := prog_1_method_2_code
def yX5_begins : MethodName := ⟨RX5, "begins", "(I)I"⟩
abbrev cX5_feeds : ByteArray := prog_1_method_3_code
def yX5_feeds : MethodName := ⟨RX5, "feeds", "(II)I"⟩
abbrev cX5_line : ByteArray := prog_1_method_4_code
def yX5_line : MethodName := ⟨RX5, "line", "(IIII)I"⟩
abbrev cX5_drops : ByteArray := prog_1_method_5_code
def yX5_drops : MethodName := ⟨RX5, "drops", "(I)I"⟩
abbrev cX5_switches : ByteArray := prog_1_method_6_code
def yX5_switches : MethodName := ⟨RX5, "switches", "(II)I"⟩
abbrev cX5_sets : ByteArray := prog_1_method_7_code
def yX5_sets : MethodName := ⟨RX5, "sets", "(III)I"⟩
abbrev cX5_of : ByteArray := prog_1_method_8_code
def yX5_of : MethodName := ⟨RX5, "of", "(II)I"⟩
abbrev cX5_flow : ByteArray := prog_1_method_9_code
def yX5_flow : MethodName := ⟨RX5, "flow", "(II)J"⟩
abbrev cX5_angle : ByteArray := prog_1_method_10_code
def yX5_angle : MethodName := ⟨RX5, "angle", "(II)J"⟩
abbrev cX5_factor : ByteArray := prog_1_method_11_code
def yX5_factor : MethodName := ⟨RX5, "factor", "(III)J"⟩
abbrev cX5_island : ByteArray := prog_1_method_12_code
def yX5_island : MethodName := ⟨RX5, "island", "(I)I"⟩
abbrev cX5_trees : ByteArray := prog_1_method_13_code
def yX5_trees : MethodName := ⟨RX5, "trees", "(I)J"⟩
abbrev cX5_fed : ByteArray := prog_1_method_14_code
def yX5_fed : MethodName := ⟨RX5, "fed", "(I)I"⟩
abbrev cX5_outage : ByteArray := prog_1_method_15_code
def yX5_outage : MethodName := ⟨RX5, "outage", "(III)J"⟩
abbrev cX5_spread : ByteArray := prog_1_method_16_code
def yX5_spread : MethodName := ⟨RX5, "spread", "(III)J"⟩
abbrev cX5_worst : ByteArray := prog_1_method_17_code
def yX5_worst : MethodName := ⟨RX5, "worst", "(II)J"⟩
abbrev cX5_ranked : ByteArray := prog_1_method_18_code
def yX5_ranked : MethodName := ⟨RX5, "ranked", "(I)I"⟩
abbrev cX5_pair : ByteArray := prog_1_method_19_code
def yX5_pair : MethodName := ⟨RX5, "pair", "(II)J"⟩
abbrev cX5_shift : ByteArray := prog_1_method_20_code
def yX5_shift : MethodName := ⟨RX5, "shift", "(I)I"⟩
abbrev cX5_transfer : ByteArray := prog_1_method_21_code
def yX5_transfer : MethodName := ⟨RX5, "transfer", "(III)I"⟩
abbrev cX5_count : ByteArray := prog_1_method_22_code
def yX5_count : MethodName := ⟨RX5, "count", "(I)I"⟩
abbrev cX5_type : ByteArray := prog_1_method_23_code
def yX5_type : MethodName := ⟨RX5, "type", "(I)I"⟩
abbrev cX5_clear : ByteArray := prog_1_method_24_code
def yX5_clear : MethodName := ⟨RX5, "clear", "()I"⟩
abbrev cX5_does : ByteArray := prog_1_method_25_code
def yX5_does : MethodName := ⟨RX5, "does", "()I"⟩
abbrev cX5_back : ByteArray := prog_1_method_26_code
def yX5_back : MethodName := ⟨RX5, "back", "()I"⟩
abbrev cX5_told : ByteArray := prog_1_method_27_code
def yX5_told : MethodName := ⟨RX5, "told", "(I)I"⟩
abbrev cX5_digest : ByteArray := prog_1_method_28_code
def yX5_digest : MethodName := ⟨RX5, "digest", "()J"⟩
abbrev cX5_bad : ByteArray := prog_1_method_29_code
def yX5_bad : MethodName := ⟨RX5, "bad", "()I"⟩
abbrev cX5_no : ByteArray := prog_1_method_30_code
def yX5_no : MethodName := ⟨RX5, "no", "()I"⟩
abbrev cX5_full : ByteArray := prog_1_method_31_code
def yX5_full : MethodName := ⟨RX5, "full", "()I"⟩
abbrev cX5_isBridge : ByteArray := prog_1_method_32_code
def yX5_isBridge : MethodName := ⟨RX5, "isBridge", "(I)Z"⟩
abbrev cX5_bridges : ByteArray := prog_1_method_33_code
def yX5_bridges : MethodName := ⟨RX5, "bridges", "()I"⟩
abbrev cX5_rankLines : ByteArray := prog_1_method_34_code
def yX5_rankLines : MethodName := ⟨RX5, "rankLines", "()V"⟩
abbrev cX5_rankPairs : ByteArray := prog_1_method_35_code
def yX5_rankPairs : MethodName := ⟨RX5, "rankPairs", "()V"⟩
abbrev cX5_rank : ByteArray := prog_1_method_36_code
def yX5_rank : MethodName := ⟨RX5, "rank", "(II)V"⟩
abbrev cX5_obeys : ByteArray := prog_1_method_37_code
def yX5_obeys : MethodName := ⟨RX5, "obeys", "(I[I)Z"⟩
abbrev cX5_obeysShort : ByteArray := prog_1_method_38_code
def yX5_obeysShort : MethodName := ⟨RX5, "obeysShort", "(II)Z"⟩
abbrev cX5_within : ByteArray := prog_1_method_39_code
def yX5_within : MethodName := ⟨RX5, "within", "(III)Z"⟩
abbrev cX5_isFlag : ByteArray := prog_1_method_40_code
def yX5_isFlag : MethodName := ⟨RX5, "isFlag", "(I)Z"⟩
abbrev cX5_mixed : ByteArray := prog_1_method_41_code
def yX5_mixed : MethodName := ⟨RX5, "mixed", "(JJ)J"⟩
abbrev cX5_part : ByteArray := prog_1_method_42_code
def yX5_part : MethodName := ⟨RX5, "part", "(JJI)J"⟩
abbrev cX5_commonDivisor : ByteArray := prog_1_method_43_code
def yX5_commonDivisor : MethodName := ⟨RX5, "commonDivisor", "(JJ)J"⟩
abbrev cX5_isGreater : ByteArray := prog_1_method_44_code
def yX5_isGreater : MethodName := ⟨RX5, "isGreater", "(JJJJ)Z"⟩
def RX6 : String := "OutageScreenModel"
def TX6 : u_T := fun k => match k with
  | 0 => ("OutageScreenModel", "s", "[I", true)
  | 1 => ("OutageScreenModel", "past", "[I", true)
  | 2 => ("OutageScreenModel", "kept", "[I", true)
  | 3 => ("OutageScreenModel", "known", "I", false)
  | 4 => ("OutageScreenModel", "refused", "[I", true)
  | 5 => ("OutageScreenModel", "text", "[I", true)
  | 6 => ("OutageScreenModel", "typed", "I", false)
  | 7 => ("OutageScreenModel", "at", "I", false)
  | 8 => ("OutageScreenModel", "feed", "[J", true)
  | 9 => ("OutageScreenModel", "island", "[I", true)
  | 10 => ("OutageScreenModel", "above", "[J", true)
  | 11 => ("OutageScreenModel", "below", "[J", true)
  | 12 => ("OutageScreenModel", "square", "[J", true)
  | 13 => ("OutageScreenModel", "member", "[I", true)
  | 14 => ("OutageScreenModel", "members", "I", false)
  | 15 => ("OutageScreenModel", "worstLine", "I", false)
  | 16 => ("OutageScreenModel", "worstAbove", "J", false)
  | 17 => ("OutageScreenModel", "worstBelow", "J", false)
  | 18 => ("OutageScreenModel", "over", "I", false)
  | 19 => ("OutageScreenModel", "rankOne", "[I", true)
  | 20 => ("OutageScreenModel", "rankOther", "[I", true)
  | 21 => ("OutageScreenModel", "rankAbove", "[J", true)
  | 22 => ("OutageScreenModel", "rankBelow", "[J", true)
  | 23 => ("OutageScreenModel", "ranks", "I", false)
  | 24 => ("OutageScreenModel", "overRanks", "I", false)
  | 25 => ("OutageScreenModel", "first", "[J", true)
  | 26 => ("OutageScreenModel", "words", "[I", true)
  | _ => ("OutageScreenModel", "numbers", "[I", true)
def tyX6 : Nat → FieldType := fun k => match k with
  | 0 => .array .int
  | 1 => .array .int
  | 2 => .array .int
  | 3 => .int
  | 4 => .array .int
  | 5 => .array .int
  | 6 => .int
  | 7 => .int
  | 8 => .array .long
  | 9 => .array .int
  | 10 => .array .long
  | 11 => .array .long
  | 12 => .array .long
  | 13 => .array .int
  | 14 => .int
  | 15 => .int
  | 16 => .long
  | 17 => .long
  | 18 => .int
  | 19 => .array .int
  | 20 => .array .int
  | 21 => .array .long
  | 22 => .array .long
  | 23 => .int
  | 24 => .int
  | 25 => .array .long
  | 26 => .array .int
  | _ => .array .int
abbrev wsX60 : List Cond := u_ws RX6 TX6 28
theorem nmX6 : ∀ a, a < 28 → ∀ b, b < 28 → a ≠ b → (TX6 a).2.1 ≠ (TX6 b).2.1 := by decide +kernel
theorem tyX6_ok : ∀ k, k < 28 → parseFieldDescriptor (TX6 k).2.2.1 = some (tyX6 k) := by decide +kernel
abbrev cX6_init : ByteArray := prog_8_method_1_code
def yX6_init : MethodName := ⟨RX6, "<init>", "()V"⟩
abbrev cX6_in : ByteArray := prog_8_method_2_code
def yX6_in : MethodName := ⟨RX6, "in", "(JJJ)Z"⟩
abbrev cX6_refuses : ByteArray := prog_8_method_3_code
def yX6_refuses : MethodName := ⟨RX6, "refuses", "(I)I"⟩
abbrev cX6_lineAt : ByteArray := prog_8_method_4_code
def yX6_lineAt : MethodName := ⟨RX6, "lineAt", "(II)I"⟩
abbrev cX6_isBus : ByteArray := prog_8_method_5_code
def yX6_isBus : MethodName := ⟨RX6, "isBus", "(I)Z"⟩
abbrev cX6_isLine : ByteArray := prog_8_method_6_code
def yX6_isLine : MethodName := ⟨RX6, "isLine", "(I)Z"⟩
abbrev cX6_isIn : ByteArray := prog_8_method_7_code
def yX6_isIn : MethodName := ⟨RX6, "isIn", "(I)Z"⟩
abbrev cX6_has : ByteArray := prog_8_method_8_code
def yX6_has : MethodName := ⟨RX6, "has", "(II)Z"⟩
abbrev cX6_inSet : ByteArray := prog_8_method_9_code
def yX6_inSet : MethodName := ⟨RX6, "inSet", "()I"⟩
abbrev cX6_common : ByteArray := prog_8_method_10_code
def yX6_common : MethodName := ⟨RX6, "common", "(JJ)J"⟩
abbrev cX6_part : ByteArray := prog_8_method_11_code
def yX6_part : MethodName := ⟨RX6, "part", "(JJI)J"⟩
abbrev cX6_parts : ByteArray := prog_8_method_12_code
def yX6_parts : MethodName := ⟨RX6, "parts", "(I)V"⟩
abbrev cX6_gathers : ByteArray := prog_8_method_13_code
def yX6_gathers : MethodName := ⟨RX6, "gathers", "(I)V"⟩
abbrev cX6_laysSquare : ByteArray := prog_8_method_14_code
def yX6_laysSquare : MethodName := ⟨RX6, "laysSquare", "(II)V"⟩
abbrev cX6_swapsRows : ByteArray := prog_8_method_15_code
def yX6_swapsRows : MethodName := ⟨RX6, "swapsRows", "(II)V"⟩
abbrev cX6_determinant : ByteArray := prog_8_method_16_code
def yX6_determinant : MethodName := ⟨RX6, "determinant", "()J"⟩
abbrev cX6_treesOf : ByteArray := prog_8_method_17_code
def yX6_treesOf : MethodName := ⟨RX6, "treesOf", "(II)J"⟩
abbrev cX6_solves : ByteArray := prog_8_method_18_code
def yX6_solves : MethodName := ⟨RX6, "solves", "(I)V"⟩
abbrev cX6_asTold : ByteArray := prog_8_method_19_code
def yX6_asTold : MethodName := ⟨RX6, "asTold", "()V"⟩
abbrev cX6_oneOf : ByteArray := prog_8_method_20_code
def yX6_oneOf : MethodName := ⟨RX6, "oneOf", "(II)V"⟩
abbrev cX6_flowOf : ByteArray := prog_8_method_21_code
def yX6_flowOf : MethodName := ⟨RX6, "flowOf", "(II)J"⟩
abbrev cX6_flowTold : ByteArray := prog_8_method_22_code
def yX6_flowTold : MethodName := ⟨RX6, "flowTold", "(III)J"⟩
abbrev cX6_aside : ByteArray := prog_8_method_23_code
def yX6_aside : MethodName := ⟨RX6, "aside", "()V"⟩
abbrev cX6_keeps : ByteArray := prog_8_method_24_code
def yX6_keeps : MethodName := ⟨RX6, "keeps", "()V"⟩
abbrev cX6_areBuses : ByteArray := prog_8_method_25_code
def yX6_areBuses : MethodName := ⟨RX6, "areBuses", "(I)Z"⟩
abbrev cX6_beginsNow : ByteArray := prog_8_method_26_code
def yX6_beginsNow : MethodName := ⟨RX6, "beginsNow", "(I)I"⟩
abbrev cX6_begins : ByteArray := prog_8_method_27_code
def yX6_begins : MethodName := ⟨RX6, "begins", "(I)I"⟩
abbrev cX6_mayFeed : ByteArray := prog_8_method_28_code
def yX6_mayFeed : MethodName := ⟨RX6, "mayFeed", "(II)Z"⟩
abbrev cX6_feeds : ByteArray := prog_8_method_29_code
def yX6_feeds : MethodName := ⟨RX6, "feeds", "(II)I"⟩
abbrev cX6_isLineTold : ByteArray := prog_8_method_30_code
def yX6_isLineTold : MethodName := ⟨RX6, "isLineTold", "(IIII)Z"⟩
abbrev cX6_lineNow : ByteArray := prog_8_method_31_code
def yX6_lineNow : MethodName := ⟨RX6, "lineNow", "(IIII)I"⟩
abbrev cX6_line : ByteArray := prog_8_method_32_code
def yX6_line : MethodName := ⟨RX6, "line", "(IIII)I"⟩
abbrev cX6_dropsNow : ByteArray := prog_8_method_33_code
def yX6_dropsNow : MethodName := ⟨RX6, "dropsNow", "(I)I"⟩
abbrev cX6_drops : ByteArray := prog_8_method_34_code
def yX6_drops : MethodName := ⟨RX6, "drops", "(I)I"⟩
abbrev cX6_becomes : ByteArray := prog_8_method_35_code
def yX6_becomes : MethodName := ⟨RX6, "becomes", "(III)I"⟩
abbrev cX6_switches : ByteArray := prog_8_method_36_code
def yX6_switches : MethodName := ⟨RX6, "switches", "(II)I"⟩
abbrev cX6_maySet : ByteArray := prog_8_method_37_code
def yX6_maySet : MethodName := ⟨RX6, "maySet", "(III)Z"⟩
abbrev cX6_sets : ByteArray := prog_8_method_38_code
def yX6_sets : MethodName := ⟨RX6, "sets", "(III)I"⟩
abbrev cX6_isBridge : ByteArray := prog_8_method_39_code
def yX6_isBridge : MethodName := ⟨RX6, "isBridge", "(I)Z"⟩
abbrev cX6_of : ByteArray := prog_8_method_40_code
def yX6_of : MethodName := ⟨RX6, "of", "(II)I"⟩
abbrev cX6_flow : ByteArray := prog_8_method_41_code
def yX6_flow : MethodName := ⟨RX6, "flow", "(II)J"⟩
abbrev cX6_angle : ByteArray := prog_8_method_42_code
def yX6_angle : MethodName := ⟨RX6, "angle", "(II)J"⟩
abbrev cX6_factor : ByteArray := prog_8_method_43_code
def yX6_factor : MethodName := ⟨RX6, "factor", "(III)J"⟩
abbrev cX6_island : ByteArray := prog_8_method_44_code
def yX6_island : MethodName := ⟨RX6, "island", "(I)I"⟩
abbrev cX6_trees : ByteArray := prog_8_method_45_code
def yX6_trees : MethodName := ⟨RX6, "trees", "(I)J"⟩
abbrev cX6_fed : ByteArray := prog_8_method_46_code
def yX6_fed : MethodName := ⟨RX6, "fed", "(I)I"⟩
abbrev cX6_outage : ByteArray := prog_8_method_47_code
def yX6_outage : MethodName := ⟨RX6, "outage", "(III)J"⟩
abbrev cX6_spread : ByteArray := prog_8_method_48_code
def yX6_spread : MethodName := ⟨RX6, "spread", "(III)J"⟩
abbrev cX6_judges : ByteArray := prog_8_method_49_code
def yX6_judges : MethodName := ⟨RX6, "judges", "(I)V"⟩
abbrev cX6_worst : ByteArray := prog_8_method_50_code
def yX6_worst : MethodName := ⟨RX6, "worst", "(II)J"⟩
abbrev cX6_ranks : ByteArray := prog_8_method_51_code
def yX6_ranks : MethodName := ⟨RX6, "ranks", "(II)V"⟩
abbrev cX6_ranksAll : ByteArray := prog_8_method_52_code
def yX6_ranksAll : MethodName := ⟨RX6, "ranksAll", "(Z)V"⟩
abbrev cX6_ranked : ByteArray := prog_8_method_53_code
def yX6_ranked : MethodName := ⟨RX6, "ranked", "(I)I"⟩
abbrev cX6_pair : ByteArray := prog_8_method_54_code
def yX6_pair : MethodName := ⟨RX6, "pair", "(II)J"⟩
abbrev cX6_shift : ByteArray := prog_8_method_55_code
def yX6_shift : MethodName := ⟨RX6, "shift", "(I)I"⟩
abbrev cX6_carries : ByteArray := prog_8_method_56_code
def yX6_carries : MethodName := ⟨RX6, "carries", "(III)I"⟩
abbrev cX6_transfer : ByteArray := prog_8_method_57_code
def yX6_transfer : MethodName := ⟨RX6, "transfer", "(III)I"⟩
abbrev cX6_countOf : ByteArray := prog_8_method_58_code
def yX6_countOf : MethodName := ⟨RX6, "countOf", "(I)I"⟩
abbrev cX6_count : ByteArray := prog_8_method_59_code
def yX6_count : MethodName := ⟨RX6, "count", "(I)I"⟩
abbrev cX6_type : ByteArray := prog_8_method_60_code
def yX6_type : MethodName := ⟨RX6, "type", "(I)I"⟩
abbrev cX6_clear : ByteArray := prog_8_method_61_code
def yX6_clear : MethodName := ⟨RX6, "clear", "()I"⟩
abbrev cX6_here : ByteArray := prog_8_method_62_code
def yX6_here : MethodName := ⟨RX6, "here", "()I"⟩
abbrev cX6_isLetter : ByteArray := prog_8_method_63_code
def yX6_isLetter : MethodName := ⟨RX6, "isLetter", "(I)Z"⟩
abbrev cX6_isFigure : ByteArray := prog_8_method_64_code
def yX6_isFigure : MethodName := ⟨RX6, "isFigure", "(I)Z"⟩
abbrev cX6_word : ByteArray := prog_8_method_65_code
def yX6_word : MethodName := ⟨RX6, "word", "()I"⟩
abbrev cX6_number : ByteArray := prog_8_method_66_code
def yX6_number : MethodName := ⟨RX6, "number", "(IZ)Z"⟩
abbrev cX6_manyOf : ByteArray := prog_8_method_67_code
def yX6_manyOf : MethodName := ⟨RX6, "manyOf", "(I)I"⟩
abbrev cX6_isDone : ByteArray := prog_8_method_68_code
def yX6_isDone : MethodName := ⟨RX6, "isDone", "(I)Z"⟩
abbrev cX6_order : ByteArray := prog_8_method_69_code
def yX6_order : MethodName := ⟨RX6, "order", "(Z)I"⟩
abbrev cX6_does : ByteArray := prog_8_method_70_code
def yX6_does : MethodName := ⟨RX6, "does", "()I"⟩
abbrev cX6_back : ByteArray := prog_8_method_71_code
def yX6_back : MethodName := ⟨RX6, "back", "()I"⟩
abbrev cX6_toldOf : ByteArray := prog_8_method_72_code
def yX6_toldOf : MethodName := ⟨RX6, "toldOf", "(I)I"⟩
abbrev cX6_told : ByteArray := prog_8_method_73_code
def yX6_told : MethodName := ⟨RX6, "told", "(I)I"⟩
abbrev cX6_digest : ByteArray := prog_8_method_74_code
def yX6_digest : MethodName := ⟨RX6, "digest", "()J"⟩
def RJ9 : String := "java/lang/Math"
def TJ9 : u_T := fun k => match k with
  | _ => ("", "", "", false)
def tyJ9 : Nat → FieldType := fun k => match k with
  | _ => .int
abbrev wsJ90 : List Cond := u_ws RJ9 TJ9 0
theorem nmJ9 : ∀ a, a < 0 → ∀ b, b < 0 → a ≠ b → (TJ9 a).2.1 ≠ (TJ9 b).2.1 := by decide +kernel
theorem tyJ9_ok : ∀ k, k < 0 → parseFieldDescriptor (TJ9 k).2.2.1 = some (tyJ9 k) := by decide +kernel
abbrev cJ9_abs_067f4 : ByteArray := prog_9_method_61_code
def yJ9_abs_067f4 : MethodName := ⟨RJ9, "abs", "(J)J"⟩
abbrev cJ9_max_7cf53 : ByteArray := prog_9_method_65_code
def yJ9_max_7cf53 : MethodName := ⟨RJ9, "max", "(II)I"⟩
abbrev cJ9_min_7cf53 : ByteArray := prog_9_method_69_code
def yJ9_min_7cf53 : MethodName := ⟨RJ9, "min", "(II)I"⟩
abbrev cJ9_min_f86c9 : ByteArray := prog_9_method_70_code
def yJ9_min_f86c9 : MethodName := ⟨RJ9, "min", "(JJ)J"⟩
def RJ0 : String := "java/lang/String"
def TJ0 : u_T := fun k => match k with
  | _ => ("", "", "", false)
def tyJ0 : Nat → FieldType := fun k => match k with
  | _ => .int
abbrev wsJ00 : List Cond := u_ws RJ0 TJ0 0
theorem nmJ0 : ∀ a, a < 0 → ∀ b, b < 0 → a ≠ b → (TJ0 a).2.1 ≠ (TJ0 b).2.1 := by decide +kernel
theorem tyJ0_ok : ∀ k, k < 0 → parseFieldDescriptor (TJ0 k).2.2.1 = some (tyJ0 k) := by decide +kernel
abbrev cJ0_length_8abf5 : ByteArray := prog_10_method_54_code
def yJ0_length_8abf5 : MethodName := ⟨RJ0, "length", "()I"⟩
abbrev cJ0_charAt_5068e : ByteArray := prog_10_method_56_code
def yJ0_charAt_5068e : MethodName := ⟨RJ0, "charAt", "(I)C"⟩
abbrev cJ0_coder_7d493 : ByteArray := prog_10_method_152_code
def yJ0_coder_7d493 : MethodName := ⟨RJ0, "coder", "()B"⟩
abbrev cJ0_isLatin1_aae02 : ByteArray := prog_10_method_154_code
def yJ0_isLatin1_aae02 : MethodName := ⟨RJ0, "isLatin1", "()Z"⟩
abbrev cJ0_checkIndex_df160 : ByteArray := prog_10_method_155_code
def yJ0_checkIndex_df160 : MethodName := ⟨RJ0, "checkIndex", "(II)V"⟩
def RJ1 : String := "java/lang/StringLatin1"
def TJ1 : u_T := fun k => match k with
  | _ => ("", "", "", false)
def tyJ1 : Nat → FieldType := fun k => match k with
  | _ => .int
abbrev wsJ10 : List Cond := u_ws RJ1 TJ1 0
theorem nmJ1 : ∀ a, a < 0 → ∀ b, b < 0 → a ≠ b → (TJ1 a).2.1 ≠ (TJ1 b).2.1 := by decide +kernel
theorem tyJ1_ok : ∀ k, k < 0 → parseFieldDescriptor (TJ1 k).2.2.1 = some (tyJ1 k) := by decide +kernel
abbrev cJ1_charAt_3b067 : ByteArray := prog_11_method_2_code
def yJ1_charAt_3b067 : MethodName := ⟨RJ1, "charAt", "([BI)C"⟩
def RJ2 : String := "java/lang/StringUTF16"
def TJ2 : u_T := fun k => match k with
  | _ => ("", "", "", false)
def tyJ2 : Nat → FieldType := fun k => match k with
  | _ => .int
abbrev wsJ20 : List Cond := u_ws RJ2 TJ2 0
theorem nmJ2 : ∀ a, a < 0 → ∀ b, b < 0 → a ≠ b → (TJ2 a).2.1 ≠ (TJ2 b).2.1 := by decide +kernel
theorem tyJ2_ok : ∀ k, k < 0 → parseFieldDescriptor (TJ2 k).2.2.1 = some (tyJ2 k) := by decide +kernel
abbrev cJ2_getChar_3b067 : ByteArray := prog_12_method_5_code
def yJ2_getChar_3b067 : MethodName := ⟨RJ2, "getChar", "([BI)C"⟩
abbrev cJ2_length_9d52b : ByteArray := prog_12_method_6_code
def yJ2_length_9d52b : MethodName := ⟨RJ2, "length", "([B)I"⟩
abbrev cJ2_charAt_3b067 : ByteArray := prog_12_method_83_code
def yJ2_charAt_3b067 : MethodName := ⟨RJ2, "charAt", "([BI)C"⟩
abbrev cJ2_checkIndex_2214a : ByteArray := prog_12_method_91_code
def yJ2_checkIndex_2214a : MethodName := ⟨RJ2, "checkIndex", "(I[B)V"⟩
def RJ3 : String := "jdk/internal/util/Preconditions"
def TJ3 : u_T := fun k => match k with
  | _ => ("", "", "", false)
def tyJ3 : Nat → FieldType := fun k => match k with
  | _ => .int
abbrev wsJ30 : List Cond := u_ws RJ3 TJ3 0
theorem nmJ3 : ∀ a, a < 0 → ∀ b, b < 0 → a ≠ b → (TJ3 a).2.1 ≠ (TJ3 b).2.1 := by decide +kernel
theorem tyJ3_ok : ∀ k, k < 0 → parseFieldDescriptor (TJ3 k).2.2.1 = some (tyJ3 k) := by decide +kernel
abbrev cJ3_checkIndex_8e157 : ByteArray := prog_13_method_11_code
def yJ3_checkIndex_8e157 : MethodName := ⟨RJ3, "checkIndex", "(IILjava/util/function/BiFunction;)I"⟩
def RL : String := "OutageScreenLaw"
abbrev cL_law : ByteArray := code
def yL_law : MethodName := ⟨RL, "law", "([I)Z"⟩
end
section
theorem dX0_init_0 : decode cX0_init 0 = .ok (.aload_n 0, 1) := by decide +kernel
theorem dX0_init_1 : decode cX0_init 1 = .ok (.invokespecial 3, 3) := by decide +kernel
theorem dX0_init_4 : decode cX0_init 4 = .ok (.aload_n 0, 1) := by decide +kernel
theorem dX0_init_5 : decode cX0_init 5 = .ok (.bipush 6, 2) := by decide +kernel
theorem dX0_init_7 : decode cX0_init 7 = .ok (.newarray .int, 2) := by decide +kernel
theorem dX0_init_9 : decode cX0_init 9 = .ok (.putfield 9, 3) := by decide +kernel
theorem dX0_init_12 : decode cX0_init 12 = .ok (.aload_n 0, 1) := by decide +kernel
theorem dX0_init_13 : decode cX0_init 13 = .ok (.bipush 10, 2) := by decide +kernel
theorem dX0_init_15 : decode cX0_init 15 = .ok (.newarray .int, 2) := by decide +kernel
theorem dX0_init_17 : decode cX0_init 17 = .ok (.putfield 15, 3) := by decide +kernel
theorem dX0_init_20 : decode cX0_init 20 = .ok (.aload_n 0, 1) := by decide +kernel
theorem dX0_init_21 : decode cX0_init 21 = .ok (.bipush 10, 2) := by decide +kernel
theorem dX0_init_23 : decode cX0_init 23 = .ok (.newarray .int, 2) := by decide +kernel
theorem dX0_init_25 : decode cX0_init 25 = .ok (.putfield 18, 3) := by decide +kernel
theorem dX0_init_28 : decode cX0_init 28 = .ok (.aload_n 0, 1) := by decide +kernel
theorem dX0_init_29 : decode cX0_init 29 = .ok (.bipush 10, 2) := by decide +kernel
theorem dX0_init_31 : decode cX0_init 31 = .ok (.newarray .int, 2) := by decide +kernel
theorem dX0_init_33 : decode cX0_init 33 = .ok (.putfield 21, 3) := by decide +kernel
theorem dX0_init_36 : decode cX0_init 36 = .ok (.aload_n 0, 1) := by decide +kernel
theorem dX0_init_37 : decode cX0_init 37 = .ok (.bipush 10, 2) := by decide +kernel
theorem dX0_init_39 : decode cX0_init 39 = .ok (.newarray .int, 2) := by decide +kernel
theorem dX0_init_41 : decode cX0_init 41 = .ok (.putfield 24, 3) := by decide +kernel
theorem dX0_init_44 : decode cX0_init 44 = .ok (.aload_n 0, 1) := by decide +kernel
theorem dX0_init_45 : decode cX0_init 45 = .ok (.bipush 10, 2) := by decide +kernel
theorem dX0_init_47 : decode cX0_init 47 = .ok (.newarray .boolean, 2) := by decide +kernel
theorem dX0_init_49 : decode cX0_init 49 = .ok (.putfield 27, 3) := by decide +kernel
theorem dX0_init_52 : decode cX0_init 52 = .ok (.aload_n 0, 1) := by decide +kernel
theorem dX0_init_53 : decode cX0_init 53 = .ok (.iconst 4, 1) := by decide +kernel
theorem dX0_init_54 : decode cX0_init 54 = .ok (.putfield 31, 3) := by decide +kernel
theorem dX0_init_57 : decode cX0_init 57 = .ok (.return_, 1) := by decide +kernel
theorem dX0_hasBus_0 : decode cX0_hasBus 0 = .ok (.iload_n 1, 1) := by decide +kernel
theorem dX0_hasBus_1 : decode cX0_hasBus 1 = .ok (.ifCond .lt 15, 3) := by decide +kernel
theorem dX0_hasBus_4 : decode cX0_hasBus 4 = .ok (.iload_n 1, 1) := by decide +kernel
theorem dX0_hasBus_5 : decode cX0_hasBus 5 = .ok (.aload_n 0, 1) := by decide +kernel
theorem dX0_hasBus_6 : decode cX0_hasBus 6 = .ok (.getfield 31, 3) := by decide +kernel
theorem dX0_hasBus_9 : decode cX0_hasBus 9 = .ok (.if_icmp .ge 7, 3) := by decide +kernel
theorem dX0_hasBus_12 : decode cX0_hasBus 12 = .ok (.iconst 1, 1) := by decide +kernel
theorem dX0_hasBus_13 : decode cX0_hasBus 13 = .ok (.goto 4, 3) := by decide +kernel
theorem dX0_hasBus_16 : decode cX0_hasBus 16 = .ok (.iconst 0, 1) := by decide +kernel
theorem dX0_hasBus_17 : decode cX0_hasBus 17 = .ok (.ireturn, 1) := by decide +kernel
theorem dX0_hasLine_0 : decode cX0_hasLine 0 = .ok (.iload_n 1, 1) := by decide +kernel
theorem dX0_hasLine_1 : decode cX0_hasLine 1 = .ok (.ifCond .lt 15, 3) := by decide +kernel
theorem dX0_hasLine_4 : decode cX0_hasLine 4 = .ok (.iload_n 1, 1) := by decide +kernel
theorem dX0_hasLine_5 : decode cX0_hasLine 5 = .ok (.aload_n 0, 1) := by decide +kernel
theorem dX0_hasLine_6 : decode cX0_hasLine 6 = .ok (.getfield 35, 3) := by decide +kernel
theorem dX0_hasLine_9 : decode cX0_hasLine 9 = .ok (.if_icmp .ge 7, 3) := by decide +kernel
theorem dX0_hasLine_12 : decode cX0_hasLine 12 = .ok (.iconst 1, 1) := by decide +kernel
theorem dX0_hasLine_13 : decode cX0_hasLine 13 = .ok (.goto 4, 3) := by decide +kernel
theorem dX0_hasLine_16 : decode cX0_hasLine 16 = .ok (.iconst 0, 1) := by decide +kernel
theorem dX0_hasLine_17 : decode cX0_hasLine 17 = .ok (.ireturn, 1) := by decide +kernel
theorem dX0_isFull_0 : decode cX0_isFull 0 = .ok (.aload_n 0, 1) := by decide +kernel
theorem dX0_isFull_1 : decode cX0_isFull 1 = .ok (.getfield 35, 3) := by decide +kernel
theorem dX0_isFull_4 : decode cX0_isFull 4 = .ok (.bipush 10, 2) := by decide +kernel
theorem dX0_isFull_6 : decode cX0_isFull 6 = .ok (.if_icmp .lt 7, 3) := by decide +kernel
theorem dX0_isFull_9 : decode cX0_isFull 9 = .ok (.iconst 1, 1) := by decide +kernel
theorem dX0_isFull_10 : decode cX0_isFull 10 = .ok (.goto 4, 3) := by decide +kernel
theorem dX0_isFull_13 : decode cX0_isFull 13 = .ok (.iconst 0, 1) := by decide +kernel
theorem dX0_isFull_14 : decode cX0_isFull 14 = .ok (.ireturn, 1) := by decide +kernel
theorem dX0_serving_0 : decode cX0_serving 0 = .ok (.iconst 0, 1) := by decide +kernel
theorem dX0_serving_1 : decode cX0_serving 1 = .ok (.istore_n 1, 1) := by decide +kernel
theorem dX0_serving_2 : decode cX0_serving 2 = .ok (.iconst 0, 1) := by decide +kernel
theorem dX0_serving_3 : decode cX0_serving 3 = .ok (.istore_n 2, 1) := by decide +kernel
theorem dX0_serving_4 : decode cX0_serving 4 = .ok (.iload_n 2, 1) := by decide +kernel
theorem dX0_serving_5 : decode cX0_serving 5 = .ok (.aload_n 0, 1) := by decide +kernel
theorem dX0_serving_6 : decode cX0_serving 6 = .ok (.getfield 35, 3) := by decide +kernel
theorem dX0_serving_9 : decode cX0_serving 9 = .ok (.if_icmp .ge 21, 3) := by decide +kernel
theorem dX0_serving_12 : decode cX0_serving 12 = .ok (.aload_n 0, 1) := by decide +kernel
theorem dX0_serving_13 : decode cX0_serving 13 = .ok (.getfield 27, 3) := by decide +kernel
theorem dX0_serving_16 : decode cX0_serving 16 = .ok (.iload_n 2, 1) := by decide +kernel
theorem dX0_serving_17 : decode cX0_serving 17 = .ok (.baload, 1) := by decide +kernel
theorem dX0_serving_18 : decode cX0_serving 18 = .ok (.ifCond .eq 6, 3) := by decide +kernel
theorem dX0_serving_21 : decode cX0_serving 21 = .ok (.iinc 1 1, 3) := by decide +kernel
theorem dX0_serving_24 : decode cX0_serving 24 = .ok (.iinc 2 1, 3) := by decide +kernel
theorem dX0_serving_27 : decode cX0_serving 27 = .ok (.goto (-23), 3) := by decide +kernel
theorem dX0_serving_30 : decode cX0_serving 30 = .ok (.iload_n 1, 1) := by decide +kernel
theorem dX0_serving_31 : decode cX0_serving 31 = .ok (.ireturn, 1) := by decide +kernel
theorem dX0_canHave_0 : decode cX0_canHave 0 = .ok (.iload_n 0, 1) := by decide +kernel
theorem dX0_canHave_1 : decode cX0_canHave 1 = .ok (.iconst 2, 1) := by decide +kernel
theorem dX0_canHave_2 : decode cX0_canHave 2 = .ok (.bipush 6, 2) := by decide +kernel
theorem dX0_canHave_4 : decode cX0_canHave 4 = .ok (.invokestatic 38, 3) := by decide +kernel
theorem dX0_canHave_7 : decode cX0_canHave 7 = .ok (.ireturn, 1) := by decide +kernel
theorem dX0_restart_0 : decode cX0_restart 0 = .ok (.aload_n 0, 1) := by decide +kernel
theorem dX0_restart_1 : decode cX0_restart 1 = .ok (.getfield 31, 3) := by decide +kernel
theorem dX0_restart_4 : decode cX0_restart 4 = .ok (.istore_n 2, 1) := by decide +kernel
theorem dX0_restart_5 : decode cX0_restart 5 = .ok (.aload_n 0, 1) := by decide +kernel
theorem dX0_restart_6 : decode cX0_restart 6 = .ok (.iload_n 1, 1) := by decide +kernel
theorem dX0_restart_7 : decode cX0_restart 7 = .ok (.putfield 31, 3) := by decide +kernel
theorem dX0_restart_10 : decode cX0_restart 10 = .ok (.aload_n 0, 1) := by decide +kernel
theorem dX0_restart_11 : decode cX0_restart 11 = .ok (.iconst 0, 1) := by decide +kernel
theorem dX0_restart_12 : decode cX0_restart 12 = .ok (.putfield 35, 3) := by decide +kernel
theorem dX0_restart_15 : decode cX0_restart 15 = .ok (.iconst 0, 1) := by decide +kernel
theorem dX0_restart_16 : decode cX0_restart 16 = .ok (.istore_n 3, 1) := by decide +kernel
theorem dX0_restart_17 : decode cX0_restart 17 = .ok (.iload_n 3, 1) := by decide +kernel
theorem dX0_restart_18 : decode cX0_restart 18 = .ok (.bipush 6, 2) := by decide +kernel
theorem dX0_restart_20 : decode cX0_restart 20 = .ok (.if_icmp .ge 16, 3) := by decide +kernel
theorem dX0_restart_23 : decode cX0_restart 23 = .ok (.aload_n 0, 1) := by decide +kernel
theorem dX0_restart_24 : decode cX0_restart 24 = .ok (.getfield 9, 3) := by decide +kernel
theorem dX0_restart_27 : decode cX0_restart 27 = .ok (.iload_n 3, 1) := by decide +kernel
theorem dX0_restart_28 : decode cX0_restart 28 = .ok (.iconst 0, 1) := by decide +kernel
theorem dX0_restart_29 : decode cX0_restart 29 = .ok (.iastore, 1) := by decide +kernel
theorem dX0_restart_30 : decode cX0_restart 30 = .ok (.iinc 3 1, 3) := by decide +kernel
theorem dX0_restart_33 : decode cX0_restart 33 = .ok (.goto (-16), 3) := by decide +kernel
theorem dX0_restart_36 : decode cX0_restart 36 = .ok (.iload_n 2, 1) := by decide +kernel
theorem dX0_restart_37 : decode cX0_restart 37 = .ok (.ireturn, 1) := by decide +kernel
theorem dX0_canInject_0 : decode cX0_canInject 0 = .ok (.aload_n 0, 1) := by decide +kernel
theorem dX0_canInject_1 : decode cX0_canInject 1 = .ok (.iload_n 1, 1) := by decide +kernel
theorem dX0_canInject_2 : decode cX0_canInject 2 = .ok (.invokevirtual 42, 3) := by decide +kernel
theorem dX0_canInject_5 : decode cX0_canInject 5 = .ok (.ifCond .eq 18, 3) := by decide +kernel
theorem dX0_canInject_8 : decode cX0_canInject 8 = .ok (.iload_n 2, 1) := by decide +kernel
theorem dX0_canInject_9 : decode cX0_canInject 9 = .ok (.bipush (-99), 2) := by decide +kernel
theorem dX0_canInject_11 : decode cX0_canInject 11 = .ok (.bipush 99, 2) := by decide +kernel
theorem dX0_canInject_13 : decode cX0_canInject 13 = .ok (.invokestatic 38, 3) := by decide +kernel
theorem dX0_canInject_16 : decode cX0_canInject 16 = .ok (.ifCond .eq 7, 3) := by decide +kernel
theorem dX0_canInject_19 : decode cX0_canInject 19 = .ok (.iconst 1, 1) := by decide +kernel
theorem dX0_canInject_20 : decode cX0_canInject 20 = .ok (.goto 4, 3) := by decide +kernel
theorem dX0_canInject_23 : decode cX0_canInject 23 = .ok (.iconst 0, 1) := by decide +kernel
theorem dX0_canInject_24 : decode cX0_canInject 24 = .ok (.ireturn, 1) := by decide +kernel
theorem dX0_inject_0 : decode cX0_inject 0 = .ok (.aload_n 0, 1) := by decide +kernel
theorem dX0_inject_1 : decode cX0_inject 1 = .ok (.getfield 9, 3) := by decide +kernel
theorem dX0_inject_4 : decode cX0_inject 4 = .ok (.iload_n 1, 1) := by decide +kernel
theorem dX0_inject_5 : decode cX0_inject 5 = .ok (.iaload, 1) := by decide +kernel
theorem dX0_inject_6 : decode cX0_inject 6 = .ok (.istore_n 3, 1) := by decide +kernel
theorem dX0_inject_7 : decode cX0_inject 7 = .ok (.aload_n 0, 1) := by decide +kernel
theorem dX0_inject_8 : decode cX0_inject 8 = .ok (.getfield 9, 3) := by decide +kernel
theorem dX0_inject_11 : decode cX0_inject 11 = .ok (.iload_n 1, 1) := by decide +kernel
theorem dX0_inject_12 : decode cX0_inject 12 = .ok (.iload_n 2, 1) := by decide +kernel
theorem dX0_inject_13 : decode cX0_inject 13 = .ok (.iastore, 1) := by decide +kernel
theorem dX0_inject_14 : decode cX0_inject 14 = .ok (.iload_n 3, 1) := by decide +kernel
theorem dX0_inject_15 : decode cX0_inject 15 = .ok (.ireturn, 1) := by decide +kernel
theorem dX0_canJoin_0 : decode cX0_canJoin 0 = .ok (.aload_n 0, 1) := by decide +kernel
theorem dX0_canJoin_1 : decode cX0_canJoin 1 = .ok (.iload_n 1, 1) := by decide +kernel
theorem dX0_canJoin_2 : decode cX0_canJoin 2 = .ok (.invokevirtual 42, 3) := by decide +kernel
theorem dX0_canJoin_5 : decode cX0_canJoin 5 = .ok (.ifCond .eq 41, 3) := by decide +kernel
theorem dX0_canJoin_8 : decode cX0_canJoin 8 = .ok (.aload_n 0, 1) := by decide +kernel
theorem dX0_canJoin_9 : decode cX0_canJoin 9 = .ok (.iload_n 2, 1) := by decide +kernel
theorem dX0_canJoin_10 : decode cX0_canJoin 10 = .ok (.invokevirtual 42, 3) := by decide +kernel
theorem dX0_canJoin_13 : decode cX0_canJoin 13 = .ok (.ifCond .eq 33, 3) := by decide +kernel
theorem dX0_canJoin_16 : decode cX0_canJoin 16 = .ok (.iload_n 1, 1) := by decide +kernel
theorem dX0_canJoin_17 : decode cX0_canJoin 17 = .ok (.iload_n 2, 1) := by decide +kernel
theorem dX0_canJoin_18 : decode cX0_canJoin 18 = .ok (.if_icmp .eq 28, 3) := by decide +kernel
theorem dX0_canJoin_21 : decode cX0_canJoin 21 = .ok (.iload_n 3, 1) := by decide +kernel
theorem dX0_canJoin_22 : decode cX0_canJoin 22 = .ok (.iconst 1, 1) := by decide +kernel
theorem dX0_canJoin_23 : decode cX0_canJoin 23 = .ok (.iconst 5, 1) := by decide +kernel
theorem dX0_canJoin_24 : decode cX0_canJoin 24 = .ok (.invokestatic 38, 3) := by decide +kernel
theorem dX0_canJoin_27 : decode cX0_canJoin 27 = .ok (.ifCond .eq 19, 3) := by decide +kernel
theorem dX0_canJoin_30 : decode cX0_canJoin 30 = .ok (.iload 4, 2) := by decide +kernel
theorem dX0_canJoin_32 : decode cX0_canJoin 32 = .ok (.iconst 1, 1) := by decide +kernel
theorem dX0_canJoin_33 : decode cX0_canJoin 33 = .ok (.sipush 999, 3) := by decide +kernel
theorem dX0_canJoin_36 : decode cX0_canJoin 36 = .ok (.invokestatic 38, 3) := by decide +kernel
theorem dX0_canJoin_39 : decode cX0_canJoin 39 = .ok (.ifCond .eq 7, 3) := by decide +kernel
theorem dX0_canJoin_42 : decode cX0_canJoin 42 = .ok (.iconst 1, 1) := by decide +kernel
theorem dX0_canJoin_43 : decode cX0_canJoin 43 = .ok (.goto 4, 3) := by decide +kernel
theorem dX0_canJoin_46 : decode cX0_canJoin 46 = .ok (.iconst 0, 1) := by decide +kernel
theorem dX0_canJoin_47 : decode cX0_canJoin 47 = .ok (.ireturn, 1) := by decide +kernel
theorem dX0_join_0 : decode cX0_join 0 = .ok (.aload_n 0, 1) := by decide +kernel
theorem dX0_join_1 : decode cX0_join 1 = .ok (.getfield 35, 3) := by decide +kernel
theorem dX0_join_4 : decode cX0_join 4 = .ok (.istore 5, 2) := by decide +kernel
theorem dX0_join_6 : decode cX0_join 6 = .ok (.aload_n 0, 1) := by decide +kernel
theorem dX0_join_7 : decode cX0_join 7 = .ok (.getfield 15, 3) := by decide +kernel
theorem dX0_join_10 : decode cX0_join 10 = .ok (.iload 5, 2) := by decide +kernel
theorem dX0_join_12 : decode cX0_join 12 = .ok (.iload_n 1, 1) := by decide +kernel
theorem dX0_join_13 : decode cX0_join 13 = .ok (.iastore, 1) := by decide +kernel
theorem dX0_join_14 : decode cX0_join 14 = .ok (.aload_n 0, 1) := by decide +kernel
theorem dX0_join_15 : decode cX0_join 15 = .ok (.getfield 18, 3) := by decide +kernel
theorem dX0_join_18 : decode cX0_join 18 = .ok (.iload 5, 2) := by decide +kernel
theorem dX0_join_20 : decode cX0_join 20 = .ok (.iload_n 2, 1) := by decide +kernel
theorem dX0_join_21 : decode cX0_join 21 = .ok (.iastore, 1) := by decide +kernel
theorem dX0_join_22 : decode cX0_join 22 = .ok (.aload_n 0, 1) := by decide +kernel
theorem dX0_join_23 : decode cX0_join 23 = .ok (.getfield 21, 3) := by decide +kernel
theorem dX0_join_26 : decode cX0_join 26 = .ok (.iload 5, 2) := by decide +kernel
theorem dX0_join_28 : decode cX0_join 28 = .ok (.iload_n 3, 1) := by decide +kernel
theorem dX0_join_29 : decode cX0_join 29 = .ok (.iastore, 1) := by decide +kernel
theorem dX0_join_30 : decode cX0_join 30 = .ok (.aload_n 0, 1) := by decide +kernel
theorem dX0_join_31 : decode cX0_join 31 = .ok (.getfield 24, 3) := by decide +kernel
theorem dX0_join_34 : decode cX0_join 34 = .ok (.iload 5, 2) := by decide +kernel
theorem dX0_join_36 : decode cX0_join 36 = .ok (.iload 4, 2) := by decide +kernel
theorem dX0_join_38 : decode cX0_join 38 = .ok (.iastore, 1) := by decide +kernel
theorem dX0_join_39 : decode cX0_join 39 = .ok (.aload_n 0, 1) := by decide +kernel
theorem dX0_join_40 : decode cX0_join 40 = .ok (.getfield 27, 3) := by decide +kernel
theorem dX0_join_43 : decode cX0_join 43 = .ok (.iload 5, 2) := by decide +kernel
theorem dX0_join_45 : decode cX0_join 45 = .ok (.iconst 1, 1) := by decide +kernel
theorem dX0_join_46 : decode cX0_join 46 = .ok (.bastore, 1) := by decide +kernel
theorem dX0_join_47 : decode cX0_join 47 = .ok (.aload_n 0, 1) := by decide +kernel
theorem dX0_join_48 : decode cX0_join 48 = .ok (.dup, 1) := by decide +kernel
theorem dX0_join_49 : decode cX0_join 49 = .ok (.getfield 35, 3) := by decide +kernel
theorem dX0_join_52 : decode cX0_join 52 = .ok (.iconst 1, 1) := by decide +kernel
theorem dX0_join_53 : decode cX0_join 53 = .ok (.iadd, 1) := by decide +kernel
theorem dX0_join_54 : decode cX0_join 54 = .ok (.putfield 35, 3) := by decide +kernel
theorem dX0_join_57 : decode cX0_join 57 = .ok (.iload 5, 2) := by decide +kernel
theorem dX0_join_59 : decode cX0_join 59 = .ok (.ireturn, 1) := by decide +kernel
theorem dX0_remove_0 : decode cX0_remove 0 = .ok (.iload_n 1, 1) := by decide +kernel
theorem dX0_remove_1 : decode cX0_remove 1 = .ok (.istore_n 2, 1) := by decide +kernel
theorem dX0_remove_2 : decode cX0_remove 2 = .ok (.iload_n 2, 1) := by decide +kernel
theorem dX0_remove_3 : decode cX0_remove 3 = .ok (.iconst 1, 1) := by decide +kernel
theorem dX0_remove_4 : decode cX0_remove 4 = .ok (.iadd, 1) := by decide +kernel
theorem dX0_remove_5 : decode cX0_remove 5 = .ok (.aload_n 0, 1) := by decide +kernel
theorem dX0_remove_6 : decode cX0_remove 6 = .ok (.getfield 35, 3) := by decide +kernel
theorem dX0_remove_9 : decode cX0_remove 9 = .ok (.if_icmp .ge 79, 3) := by decide +kernel
theorem dX0_remove_12 : decode cX0_remove 12 = .ok (.aload_n 0, 1) := by decide +kernel
theorem dX0_remove_13 : decode cX0_remove 13 = .ok (.getfield 15, 3) := by decide +kernel
theorem dX0_remove_16 : decode cX0_remove 16 = .ok (.iload_n 2, 1) := by decide +kernel
theorem dX0_remove_17 : decode cX0_remove 17 = .ok (.aload_n 0, 1) := by decide +kernel
theorem dX0_remove_18 : decode cX0_remove 18 = .ok (.getfield 15, 3) := by decide +kernel
theorem dX0_remove_21 : decode cX0_remove 21 = .ok (.iload_n 2, 1) := by decide +kernel
theorem dX0_remove_22 : decode cX0_remove 22 = .ok (.iconst 1, 1) := by decide +kernel
theorem dX0_remove_23 : decode cX0_remove 23 = .ok (.iadd, 1) := by decide +kernel
theorem dX0_remove_24 : decode cX0_remove 24 = .ok (.iaload, 1) := by decide +kernel
theorem dX0_remove_25 : decode cX0_remove 25 = .ok (.iastore, 1) := by decide +kernel
theorem dX0_remove_26 : decode cX0_remove 26 = .ok (.aload_n 0, 1) := by decide +kernel
theorem dX0_remove_27 : decode cX0_remove 27 = .ok (.getfield 18, 3) := by decide +kernel
theorem dX0_remove_30 : decode cX0_remove 30 = .ok (.iload_n 2, 1) := by decide +kernel
theorem dX0_remove_31 : decode cX0_remove 31 = .ok (.aload_n 0, 1) := by decide +kernel
theorem dX0_remove_32 : decode cX0_remove 32 = .ok (.getfield 18, 3) := by decide +kernel
theorem dX0_remove_35 : decode cX0_remove 35 = .ok (.iload_n 2, 1) := by decide +kernel
theorem dX0_remove_36 : decode cX0_remove 36 = .ok (.iconst 1, 1) := by decide +kernel
theorem dX0_remove_37 : decode cX0_remove 37 = .ok (.iadd, 1) := by decide +kernel
theorem dX0_remove_38 : decode cX0_remove 38 = .ok (.iaload, 1) := by decide +kernel
theorem dX0_remove_39 : decode cX0_remove 39 = .ok (.iastore, 1) := by decide +kernel
theorem dX0_remove_40 : decode cX0_remove 40 = .ok (.aload_n 0, 1) := by decide +kernel
theorem dX0_remove_41 : decode cX0_remove 41 = .ok (.getfield 21, 3) := by decide +kernel
theorem dX0_remove_44 : decode cX0_remove 44 = .ok (.iload_n 2, 1) := by decide +kernel
theorem dX0_remove_45 : decode cX0_remove 45 = .ok (.aload_n 0, 1) := by decide +kernel
theorem dX0_remove_46 : decode cX0_remove 46 = .ok (.getfield 21, 3) := by decide +kernel
theorem dX0_remove_49 : decode cX0_remove 49 = .ok (.iload_n 2, 1) := by decide +kernel
theorem dX0_remove_50 : decode cX0_remove 50 = .ok (.iconst 1, 1) := by decide +kernel
theorem dX0_remove_51 : decode cX0_remove 51 = .ok (.iadd, 1) := by decide +kernel
theorem dX0_remove_52 : decode cX0_remove 52 = .ok (.iaload, 1) := by decide +kernel
theorem dX0_remove_53 : decode cX0_remove 53 = .ok (.iastore, 1) := by decide +kernel
theorem dX0_remove_54 : decode cX0_remove 54 = .ok (.aload_n 0, 1) := by decide +kernel
theorem dX0_remove_55 : decode cX0_remove 55 = .ok (.getfield 24, 3) := by decide +kernel
theorem dX0_remove_58 : decode cX0_remove 58 = .ok (.iload_n 2, 1) := by decide +kernel
theorem dX0_remove_59 : decode cX0_remove 59 = .ok (.aload_n 0, 1) := by decide +kernel
theorem dX0_remove_60 : decode cX0_remove 60 = .ok (.getfield 24, 3) := by decide +kernel
theorem dX0_remove_63 : decode cX0_remove 63 = .ok (.iload_n 2, 1) := by decide +kernel
theorem dX0_remove_64 : decode cX0_remove 64 = .ok (.iconst 1, 1) := by decide +kernel
theorem dX0_remove_65 : decode cX0_remove 65 = .ok (.iadd, 1) := by decide +kernel
theorem dX0_remove_66 : decode cX0_remove 66 = .ok (.iaload, 1) := by decide +kernel
theorem dX0_remove_67 : decode cX0_remove 67 = .ok (.iastore, 1) := by decide +kernel
theorem dX0_remove_68 : decode cX0_remove 68 = .ok (.aload_n 0, 1) := by decide +kernel
theorem dX0_remove_69 : decode cX0_remove 69 = .ok (.getfield 27, 3) := by decide +kernel
theorem dX0_remove_72 : decode cX0_remove 72 = .ok (.iload_n 2, 1) := by decide +kernel
theorem dX0_remove_73 : decode cX0_remove 73 = .ok (.aload_n 0, 1) := by decide +kernel
theorem dX0_remove_74 : decode cX0_remove 74 = .ok (.getfield 27, 3) := by decide +kernel
theorem dX0_remove_77 : decode cX0_remove 77 = .ok (.iload_n 2, 1) := by decide +kernel
theorem dX0_remove_78 : decode cX0_remove 78 = .ok (.iconst 1, 1) := by decide +kernel
theorem dX0_remove_79 : decode cX0_remove 79 = .ok (.iadd, 1) := by decide +kernel
theorem dX0_remove_80 : decode cX0_remove 80 = .ok (.baload, 1) := by decide +kernel
theorem dX0_remove_81 : decode cX0_remove 81 = .ok (.bastore, 1) := by decide +kernel
theorem dX0_remove_82 : decode cX0_remove 82 = .ok (.iinc 2 1, 3) := by decide +kernel
theorem dX0_remove_85 : decode cX0_remove 85 = .ok (.goto (-83), 3) := by decide +kernel
theorem dX0_remove_88 : decode cX0_remove 88 = .ok (.aload_n 0, 1) := by decide +kernel
theorem dX0_remove_89 : decode cX0_remove 89 = .ok (.dup, 1) := by decide +kernel
theorem dX0_remove_90 : decode cX0_remove 90 = .ok (.getfield 35, 3) := by decide +kernel
theorem dX0_remove_93 : decode cX0_remove 93 = .ok (.iconst 1, 1) := by decide +kernel
theorem dX0_remove_94 : decode cX0_remove 94 = .ok (.isub, 1) := by decide +kernel
theorem dX0_remove_95 : decode cX0_remove 95 = .ok (.putfield 35, 3) := by decide +kernel
theorem dX0_remove_98 : decode cX0_remove 98 = .ok (.aload_n 0, 1) := by decide +kernel
theorem dX0_remove_99 : decode cX0_remove 99 = .ok (.getfield 35, 3) := by decide +kernel
theorem dX0_remove_102 : decode cX0_remove 102 = .ok (.ireturn, 1) := by decide +kernel
theorem dX0_turn_0 : decode cX0_turn 0 = .ok (.aload_n 0, 1) := by decide +kernel
theorem dX0_turn_1 : decode cX0_turn 1 = .ok (.getfield 27, 3) := by decide +kernel
theorem dX0_turn_4 : decode cX0_turn 4 = .ok (.iload_n 1, 1) := by decide +kernel
theorem dX0_turn_5 : decode cX0_turn 5 = .ok (.baload, 1) := by decide +kernel
theorem dX0_turn_6 : decode cX0_turn 6 = .ok (.ifCond .eq 7, 3) := by decide +kernel
theorem dX0_turn_9 : decode cX0_turn 9 = .ok (.iconst 1, 1) := by decide +kernel
theorem dX0_turn_10 : decode cX0_turn 10 = .ok (.goto 4, 3) := by decide +kernel
theorem dX0_turn_13 : decode cX0_turn 13 = .ok (.iconst 0, 1) := by decide +kernel
theorem dX0_turn_14 : decode cX0_turn 14 = .ok (.istore_n 3, 1) := by decide +kernel
theorem dX0_turn_15 : decode cX0_turn 15 = .ok (.aload_n 0, 1) := by decide +kernel
theorem dX0_turn_16 : decode cX0_turn 16 = .ok (.getfield 27, 3) := by decide +kernel
theorem dX0_turn_19 : decode cX0_turn 19 = .ok (.iload_n 1, 1) := by decide +kernel
theorem dX0_turn_20 : decode cX0_turn 20 = .ok (.iload_n 2, 1) := by decide +kernel
theorem dX0_turn_21 : decode cX0_turn 21 = .ok (.bastore, 1) := by decide +kernel
theorem dX0_turn_22 : decode cX0_turn 22 = .ok (.iload_n 3, 1) := by decide +kernel
theorem dX0_turn_23 : decode cX0_turn 23 = .ok (.ireturn, 1) := by decide +kernel
theorem dX0_canStrengthen_0 : decode cX0_canStrengthen 0 = .ok (.aload_n 0, 1) := by decide +kernel
theorem dX0_canStrengthen_1 : decode cX0_canStrengthen 1 = .ok (.iload_n 1, 1) := by decide +kernel
theorem dX0_canStrengthen_2 : decode cX0_canStrengthen 2 = .ok (.invokevirtual 46, 3) := by decide +kernel
theorem dX0_canStrengthen_5 : decode cX0_canStrengthen 5 = .ok (.ifCond .eq 16, 3) := by decide +kernel
theorem dX0_canStrengthen_8 : decode cX0_canStrengthen 8 = .ok (.iload_n 2, 1) := by decide +kernel
theorem dX0_canStrengthen_9 : decode cX0_canStrengthen 9 = .ok (.iconst 1, 1) := by decide +kernel
theorem dX0_canStrengthen_10 : decode cX0_canStrengthen 10 = .ok (.iconst 5, 1) := by decide +kernel
theorem dX0_canStrengthen_11 : decode cX0_canStrengthen 11 = .ok (.invokestatic 38, 3) := by decide +kernel
theorem dX0_canStrengthen_14 : decode cX0_canStrengthen 14 = .ok (.ifCond .eq 7, 3) := by decide +kernel
theorem dX0_canStrengthen_17 : decode cX0_canStrengthen 17 = .ok (.iconst 1, 1) := by decide +kernel
theorem dX0_canStrengthen_18 : decode cX0_canStrengthen 18 = .ok (.goto 4, 3) := by decide +kernel
theorem dX0_canStrengthen_21 : decode cX0_canStrengthen 21 = .ok (.iconst 0, 1) := by decide +kernel
theorem dX0_canStrengthen_22 : decode cX0_canStrengthen 22 = .ok (.ireturn, 1) := by decide +kernel
theorem dX0_strengthen_0 : decode cX0_strengthen 0 = .ok (.aload_n 0, 1) := by decide +kernel
theorem dX0_strengthen_1 : decode cX0_strengthen 1 = .ok (.getfield 21, 3) := by decide +kernel
theorem dX0_strengthen_4 : decode cX0_strengthen 4 = .ok (.iload_n 1, 1) := by decide +kernel
theorem dX0_strengthen_5 : decode cX0_strengthen 5 = .ok (.iaload, 1) := by decide +kernel
theorem dX0_strengthen_6 : decode cX0_strengthen 6 = .ok (.istore_n 3, 1) := by decide +kernel
theorem dX0_strengthen_7 : decode cX0_strengthen 7 = .ok (.aload_n 0, 1) := by decide +kernel
theorem dX0_strengthen_8 : decode cX0_strengthen 8 = .ok (.getfield 21, 3) := by decide +kernel
theorem dX0_strengthen_11 : decode cX0_strengthen 11 = .ok (.iload_n 1, 1) := by decide +kernel
theorem dX0_strengthen_12 : decode cX0_strengthen 12 = .ok (.iload_n 2, 1) := by decide +kernel
theorem dX0_strengthen_13 : decode cX0_strengthen 13 = .ok (.iastore, 1) := by decide +kernel
theorem dX0_strengthen_14 : decode cX0_strengthen 14 = .ok (.iload_n 3, 1) := by decide +kernel
theorem dX0_strengthen_15 : decode cX0_strengthen 15 = .ok (.ireturn, 1) := by decide +kernel
theorem dX0_canBound_0 : decode cX0_canBound 0 = .ok (.aload_n 0, 1) := by decide +kernel
theorem dX0_canBound_1 : decode cX0_canBound 1 = .ok (.iload_n 1, 1) := by decide +kernel
theorem dX0_canBound_2 : decode cX0_canBound 2 = .ok (.invokevirtual 46, 3) := by decide +kernel
theorem dX0_canBound_5 : decode cX0_canBound 5 = .ok (.ifCond .eq 18, 3) := by decide +kernel
theorem dX0_canBound_8 : decode cX0_canBound 8 = .ok (.iload_n 2, 1) := by decide +kernel
theorem dX0_canBound_9 : decode cX0_canBound 9 = .ok (.iconst 1, 1) := by decide +kernel
theorem dX0_canBound_10 : decode cX0_canBound 10 = .ok (.sipush 999, 3) := by decide +kernel
theorem dX0_canBound_13 : decode cX0_canBound 13 = .ok (.invokestatic 38, 3) := by decide +kernel
theorem dX0_canBound_16 : decode cX0_canBound 16 = .ok (.ifCond .eq 7, 3) := by decide +kernel
theorem dX0_canBound_19 : decode cX0_canBound 19 = .ok (.iconst 1, 1) := by decide +kernel
theorem dX0_canBound_20 : decode cX0_canBound 20 = .ok (.goto 4, 3) := by decide +kernel
theorem dX0_canBound_23 : decode cX0_canBound 23 = .ok (.iconst 0, 1) := by decide +kernel
theorem dX0_canBound_24 : decode cX0_canBound 24 = .ok (.ireturn, 1) := by decide +kernel
theorem dX0_bound_0 : decode cX0_bound 0 = .ok (.aload_n 0, 1) := by decide +kernel
theorem dX0_bound_1 : decode cX0_bound 1 = .ok (.getfield 24, 3) := by decide +kernel
theorem dX0_bound_4 : decode cX0_bound 4 = .ok (.iload_n 1, 1) := by decide +kernel
theorem dX0_bound_5 : decode cX0_bound 5 = .ok (.iaload, 1) := by decide +kernel
theorem dX0_bound_6 : decode cX0_bound 6 = .ok (.istore_n 3, 1) := by decide +kernel
theorem dX0_bound_7 : decode cX0_bound 7 = .ok (.aload_n 0, 1) := by decide +kernel
theorem dX0_bound_8 : decode cX0_bound 8 = .ok (.getfield 24, 3) := by decide +kernel
theorem dX0_bound_11 : decode cX0_bound 11 = .ok (.iload_n 1, 1) := by decide +kernel
theorem dX0_bound_12 : decode cX0_bound 12 = .ok (.iload_n 2, 1) := by decide +kernel
theorem dX0_bound_13 : decode cX0_bound 13 = .ok (.iastore, 1) := by decide +kernel
theorem dX0_bound_14 : decode cX0_bound 14 = .ok (.iload_n 3, 1) := by decide +kernel
theorem dX0_bound_15 : decode cX0_bound 15 = .ok (.ireturn, 1) := by decide +kernel
theorem dX0_copy_0 : decode cX0_copy 0 = .ok (.aload_n 0, 1) := by decide +kernel
theorem dX0_copy_1 : decode cX0_copy 1 = .ok (.aload_n 1, 1) := by decide +kernel
theorem dX0_copy_2 : decode cX0_copy 2 = .ok (.getfield 31, 3) := by decide +kernel
theorem dX0_copy_5 : decode cX0_copy 5 = .ok (.putfield 31, 3) := by decide +kernel
theorem dX0_copy_8 : decode cX0_copy 8 = .ok (.aload_n 0, 1) := by decide +kernel
theorem dX0_copy_9 : decode cX0_copy 9 = .ok (.aload_n 1, 1) := by decide +kernel
theorem dX0_copy_10 : decode cX0_copy 10 = .ok (.getfield 35, 3) := by decide +kernel
theorem dX0_copy_13 : decode cX0_copy 13 = .ok (.putfield 35, 3) := by decide +kernel
theorem dX0_copy_16 : decode cX0_copy 16 = .ok (.iconst 0, 1) := by decide +kernel
theorem dX0_copy_17 : decode cX0_copy 17 = .ok (.istore_n 2, 1) := by decide +kernel
theorem dX0_copy_18 : decode cX0_copy 18 = .ok (.iload_n 2, 1) := by decide +kernel
theorem dX0_copy_19 : decode cX0_copy 19 = .ok (.bipush 6, 2) := by decide +kernel
theorem dX0_copy_21 : decode cX0_copy 21 = .ok (.if_icmp .ge 21, 3) := by decide +kernel
theorem dX0_copy_24 : decode cX0_copy 24 = .ok (.aload_n 0, 1) := by decide +kernel
theorem dX0_copy_25 : decode cX0_copy 25 = .ok (.getfield 9, 3) := by decide +kernel
theorem dX0_copy_28 : decode cX0_copy 28 = .ok (.iload_n 2, 1) := by decide +kernel
theorem dX0_copy_29 : decode cX0_copy 29 = .ok (.aload_n 1, 1) := by decide +kernel
theorem dX0_copy_30 : decode cX0_copy 30 = .ok (.getfield 9, 3) := by decide +kernel
theorem dX0_copy_33 : decode cX0_copy 33 = .ok (.iload_n 2, 1) := by decide +kernel
theorem dX0_copy_34 : decode cX0_copy 34 = .ok (.iaload, 1) := by decide +kernel
theorem dX0_copy_35 : decode cX0_copy 35 = .ok (.iastore, 1) := by decide +kernel
theorem dX0_copy_36 : decode cX0_copy 36 = .ok (.iinc 2 1, 3) := by decide +kernel
theorem dX0_copy_39 : decode cX0_copy 39 = .ok (.goto (-21), 3) := by decide +kernel
theorem dX0_copy_42 : decode cX0_copy 42 = .ok (.iconst 0, 1) := by decide +kernel
theorem dX0_copy_43 : decode cX0_copy 43 = .ok (.istore_n 2, 1) := by decide +kernel
theorem dX0_copy_44 : decode cX0_copy 44 = .ok (.iload_n 2, 1) := by decide +kernel
theorem dX0_copy_45 : decode cX0_copy 45 = .ok (.bipush 10, 2) := by decide +kernel
theorem dX0_copy_47 : decode cX0_copy 47 = .ok (.if_icmp .ge 69, 3) := by decide +kernel
theorem dX0_copy_50 : decode cX0_copy 50 = .ok (.aload_n 0, 1) := by decide +kernel
theorem dX0_copy_51 : decode cX0_copy 51 = .ok (.getfield 15, 3) := by decide +kernel
theorem dX0_copy_54 : decode cX0_copy 54 = .ok (.iload_n 2, 1) := by decide +kernel
theorem dX0_copy_55 : decode cX0_copy 55 = .ok (.aload_n 1, 1) := by decide +kernel
theorem dX0_copy_56 : decode cX0_copy 56 = .ok (.getfield 15, 3) := by decide +kernel
theorem dX0_copy_59 : decode cX0_copy 59 = .ok (.iload_n 2, 1) := by decide +kernel
theorem dX0_copy_60 : decode cX0_copy 60 = .ok (.iaload, 1) := by decide +kernel
theorem dX0_copy_61 : decode cX0_copy 61 = .ok (.iastore, 1) := by decide +kernel
theorem dX0_copy_62 : decode cX0_copy 62 = .ok (.aload_n 0, 1) := by decide +kernel
theorem dX0_copy_63 : decode cX0_copy 63 = .ok (.getfield 18, 3) := by decide +kernel
theorem dX0_copy_66 : decode cX0_copy 66 = .ok (.iload_n 2, 1) := by decide +kernel
theorem dX0_copy_67 : decode cX0_copy 67 = .ok (.aload_n 1, 1) := by decide +kernel
theorem dX0_copy_68 : decode cX0_copy 68 = .ok (.getfield 18, 3) := by decide +kernel
theorem dX0_copy_71 : decode cX0_copy 71 = .ok (.iload_n 2, 1) := by decide +kernel
theorem dX0_copy_72 : decode cX0_copy 72 = .ok (.iaload, 1) := by decide +kernel
theorem dX0_copy_73 : decode cX0_copy 73 = .ok (.iastore, 1) := by decide +kernel
theorem dX0_copy_74 : decode cX0_copy 74 = .ok (.aload_n 0, 1) := by decide +kernel
theorem dX0_copy_75 : decode cX0_copy 75 = .ok (.getfield 21, 3) := by decide +kernel
theorem dX0_copy_78 : decode cX0_copy 78 = .ok (.iload_n 2, 1) := by decide +kernel
theorem dX0_copy_79 : decode cX0_copy 79 = .ok (.aload_n 1, 1) := by decide +kernel
theorem dX0_copy_80 : decode cX0_copy 80 = .ok (.getfield 21, 3) := by decide +kernel
theorem dX0_copy_83 : decode cX0_copy 83 = .ok (.iload_n 2, 1) := by decide +kernel
theorem dX0_copy_84 : decode cX0_copy 84 = .ok (.iaload, 1) := by decide +kernel
theorem dX0_copy_85 : decode cX0_copy 85 = .ok (.iastore, 1) := by decide +kernel
theorem dX0_copy_86 : decode cX0_copy 86 = .ok (.aload_n 0, 1) := by decide +kernel
theorem dX0_copy_87 : decode cX0_copy 87 = .ok (.getfield 24, 3) := by decide +kernel
theorem dX0_copy_90 : decode cX0_copy 90 = .ok (.iload_n 2, 1) := by decide +kernel
theorem dX0_copy_91 : decode cX0_copy 91 = .ok (.aload_n 1, 1) := by decide +kernel
theorem dX0_copy_92 : decode cX0_copy 92 = .ok (.getfield 24, 3) := by decide +kernel
theorem dX0_copy_95 : decode cX0_copy 95 = .ok (.iload_n 2, 1) := by decide +kernel
theorem dX0_copy_96 : decode cX0_copy 96 = .ok (.iaload, 1) := by decide +kernel
theorem dX0_copy_97 : decode cX0_copy 97 = .ok (.iastore, 1) := by decide +kernel
theorem dX0_copy_98 : decode cX0_copy 98 = .ok (.aload_n 0, 1) := by decide +kernel
theorem dX0_copy_99 : decode cX0_copy 99 = .ok (.getfield 27, 3) := by decide +kernel
theorem dX0_copy_102 : decode cX0_copy 102 = .ok (.iload_n 2, 1) := by decide +kernel
theorem dX0_copy_103 : decode cX0_copy 103 = .ok (.aload_n 1, 1) := by decide +kernel
theorem dX0_copy_104 : decode cX0_copy 104 = .ok (.getfield 27, 3) := by decide +kernel
theorem dX0_copy_107 : decode cX0_copy 107 = .ok (.iload_n 2, 1) := by decide +kernel
theorem dX0_copy_108 : decode cX0_copy 108 = .ok (.baload, 1) := by decide +kernel
theorem dX0_copy_109 : decode cX0_copy 109 = .ok (.bastore, 1) := by decide +kernel
theorem dX0_copy_110 : decode cX0_copy 110 = .ok (.iinc 2 1, 3) := by decide +kernel
theorem dX0_copy_113 : decode cX0_copy 113 = .ok (.goto (-69), 3) := by decide +kernel
theorem dX0_copy_116 : decode cX0_copy 116 = .ok (.return_, 1) := by decide +kernel
theorem dX1_init_0 : decode cX1_init 0 = .ok (.aload_n 0, 1) := by decide +kernel
theorem dX1_init_1 : decode cX1_init 1 = .ok (.invokespecial 3, 3) := by decide +kernel
theorem dX1_init_4 : decode cX1_init 4 = .ok (.aload_n 0, 1) := by decide +kernel
theorem dX1_init_5 : decode cX1_init 5 = .ok (.bipush 8, 2) := by decide +kernel
theorem dX1_init_7 : decode cX1_init 7 = .ok (.anewarray 9, 3) := by decide +kernel
theorem dX1_init_10 : decode cX1_init 10 = .ok (.putfield 11, 3) := by decide +kernel
theorem dX1_init_13 : decode cX1_init 13 = .ok (.iconst 0, 1) := by decide +kernel
theorem dX1_init_14 : decode cX1_init 14 = .ok (.istore_n 1, 1) := by decide +kernel
theorem dX1_init_15 : decode cX1_init 15 = .ok (.iload_n 1, 1) := by decide +kernel
theorem dX1_init_16 : decode cX1_init 16 = .ok (.bipush 8, 2) := by decide +kernel
theorem dX1_init_18 : decode cX1_init 18 = .ok (.if_icmp .ge 22, 3) := by decide +kernel
theorem dX1_init_21 : decode cX1_init 21 = .ok (.aload_n 0, 1) := by decide +kernel
theorem dX1_init_22 : decode cX1_init 22 = .ok (.getfield 11, 3) := by decide +kernel
theorem dX1_init_25 : decode cX1_init 25 = .ok (.iload_n 1, 1) := by decide +kernel
theorem dX1_init_26 : decode cX1_init 26 = .ok (.new 9, 3) := by decide +kernel
theorem dX1_init_29 : decode cX1_init 29 = .ok (.dup, 1) := by decide +kernel
theorem dX1_init_30 : decode cX1_init 30 = .ok (.invokespecial 17, 3) := by decide +kernel
theorem dX1_init_33 : decode cX1_init 33 = .ok (.aastore, 1) := by decide +kernel
theorem dX1_init_34 : decode cX1_init 34 = .ok (.iinc 1 1, 3) := by decide +kernel
theorem dX1_init_37 : decode cX1_init 37 = .ok (.goto (-22), 3) := by decide +kernel
theorem dX1_init_40 : decode cX1_init 40 = .ok (.return_, 1) := by decide +kernel
theorem dX1_keep_0 : decode cX1_keep 0 = .ok (.aload_n 0, 1) := by decide +kernel
theorem dX1_keep_1 : decode cX1_keep 1 = .ok (.getfield 18, 3) := by decide +kernel
theorem dX1_keep_4 : decode cX1_keep 4 = .ok (.bipush 8, 2) := by decide +kernel
theorem dX1_keep_6 : decode cX1_keep 6 = .ok (.if_icmp .ne 26, 3) := by decide +kernel
theorem dX1_keep_9 : decode cX1_keep 9 = .ok (.aload_n 0, 1) := by decide +kernel
theorem dX1_keep_10 : decode cX1_keep 10 = .ok (.aload_n 0, 1) := by decide +kernel
theorem dX1_keep_11 : decode cX1_keep 11 = .ok (.getfield 22, 3) := by decide +kernel
theorem dX1_keep_14 : decode cX1_keep 14 = .ok (.iconst 1, 1) := by decide +kernel
theorem dX1_keep_15 : decode cX1_keep 15 = .ok (.iadd, 1) := by decide +kernel
theorem dX1_keep_16 : decode cX1_keep 16 = .ok (.bipush 8, 2) := by decide +kernel
theorem dX1_keep_18 : decode cX1_keep 18 = .ok (.irem, 1) := by decide +kernel
theorem dX1_keep_19 : decode cX1_keep 19 = .ok (.putfield 22, 3) := by decide +kernel
theorem dX1_keep_22 : decode cX1_keep 22 = .ok (.aload_n 0, 1) := by decide +kernel
theorem dX1_keep_23 : decode cX1_keep 23 = .ok (.dup, 1) := by decide +kernel
theorem dX1_keep_24 : decode cX1_keep 24 = .ok (.getfield 18, 3) := by decide +kernel
theorem dX1_keep_27 : decode cX1_keep 27 = .ok (.iconst 1, 1) := by decide +kernel
theorem dX1_keep_28 : decode cX1_keep 28 = .ok (.isub, 1) := by decide +kernel
theorem dX1_keep_29 : decode cX1_keep 29 = .ok (.putfield 18, 3) := by decide +kernel
theorem dX1_keep_32 : decode cX1_keep 32 = .ok (.aload_n 0, 1) := by decide +kernel
theorem dX1_keep_33 : decode cX1_keep 33 = .ok (.getfield 11, 3) := by decide +kernel
theorem dX1_keep_36 : decode cX1_keep 36 = .ok (.aload_n 0, 1) := by decide +kernel
theorem dX1_keep_37 : decode cX1_keep 37 = .ok (.getfield 22, 3) := by decide +kernel
theorem dX1_keep_40 : decode cX1_keep 40 = .ok (.aload_n 0, 1) := by decide +kernel
theorem dX1_keep_41 : decode cX1_keep 41 = .ok (.getfield 18, 3) := by decide +kernel
theorem dX1_keep_44 : decode cX1_keep 44 = .ok (.iadd, 1) := by decide +kernel
theorem dX1_keep_45 : decode cX1_keep 45 = .ok (.bipush 8, 2) := by decide +kernel
theorem dX1_keep_47 : decode cX1_keep 47 = .ok (.irem, 1) := by decide +kernel
theorem dX1_keep_48 : decode cX1_keep 48 = .ok (.aaload, 1) := by decide +kernel
theorem dX1_keep_49 : decode cX1_keep 49 = .ok (.astore_n 2, 1) := by decide +kernel
theorem dX1_keep_50 : decode cX1_keep 50 = .ok (.aload_n 2, 1) := by decide +kernel
theorem dX1_keep_51 : decode cX1_keep 51 = .ok (.ifnull 8, 3) := by decide +kernel
theorem dX1_keep_54 : decode cX1_keep 54 = .ok (.aload_n 2, 1) := by decide +kernel
theorem dX1_keep_55 : decode cX1_keep 55 = .ok (.aload_n 1, 1) := by decide +kernel
theorem dX1_keep_56 : decode cX1_keep 56 = .ok (.invokevirtual 25, 3) := by decide +kernel
theorem dX1_keep_59 : decode cX1_keep 59 = .ok (.aload_n 0, 1) := by decide +kernel
theorem dX1_keep_60 : decode cX1_keep 60 = .ok (.dup, 1) := by decide +kernel
theorem dX1_keep_61 : decode cX1_keep 61 = .ok (.getfield 18, 3) := by decide +kernel
theorem dX1_keep_64 : decode cX1_keep 64 = .ok (.iconst 1, 1) := by decide +kernel
theorem dX1_keep_65 : decode cX1_keep 65 = .ok (.iadd, 1) := by decide +kernel
theorem dX1_keep_66 : decode cX1_keep 66 = .ok (.putfield 18, 3) := by decide +kernel
theorem dX1_keep_69 : decode cX1_keep 69 = .ok (.return_, 1) := by decide +kernel
theorem dX1_restore_0 : decode cX1_restore 0 = .ok (.aload_n 0, 1) := by decide +kernel
theorem dX1_restore_1 : decode cX1_restore 1 = .ok (.dup, 1) := by decide +kernel
theorem dX1_restore_2 : decode cX1_restore 2 = .ok (.getfield 18, 3) := by decide +kernel
theorem dX1_restore_5 : decode cX1_restore 5 = .ok (.iconst 1, 1) := by decide +kernel
theorem dX1_restore_6 : decode cX1_restore 6 = .ok (.isub, 1) := by decide +kernel
theorem dX1_restore_7 : decode cX1_restore 7 = .ok (.putfield 18, 3) := by decide +kernel
theorem dX1_restore_10 : decode cX1_restore 10 = .ok (.aload_n 0, 1) := by decide +kernel
theorem dX1_restore_11 : decode cX1_restore 11 = .ok (.getfield 11, 3) := by decide +kernel
theorem dX1_restore_14 : decode cX1_restore 14 = .ok (.aload_n 0, 1) := by decide +kernel
theorem dX1_restore_15 : decode cX1_restore 15 = .ok (.getfield 22, 3) := by decide +kernel
theorem dX1_restore_18 : decode cX1_restore 18 = .ok (.aload_n 0, 1) := by decide +kernel
theorem dX1_restore_19 : decode cX1_restore 19 = .ok (.getfield 18, 3) := by decide +kernel
theorem dX1_restore_22 : decode cX1_restore 22 = .ok (.iadd, 1) := by decide +kernel
theorem dX1_restore_23 : decode cX1_restore 23 = .ok (.bipush 8, 2) := by decide +kernel
theorem dX1_restore_25 : decode cX1_restore 25 = .ok (.irem, 1) := by decide +kernel
theorem dX1_restore_26 : decode cX1_restore 26 = .ok (.aaload, 1) := by decide +kernel
theorem dX1_restore_27 : decode cX1_restore 27 = .ok (.astore_n 2, 1) := by decide +kernel
theorem dX1_restore_28 : decode cX1_restore 28 = .ok (.aload_n 2, 1) := by decide +kernel
theorem dX1_restore_29 : decode cX1_restore 29 = .ok (.ifnull 8, 3) := by decide +kernel
theorem dX1_restore_32 : decode cX1_restore 32 = .ok (.aload_n 1, 1) := by decide +kernel
theorem dX1_restore_33 : decode cX1_restore 33 = .ok (.aload_n 2, 1) := by decide +kernel
theorem dX1_restore_34 : decode cX1_restore 34 = .ok (.invokevirtual 25, 3) := by decide +kernel
theorem dX1_restore_37 : decode cX1_restore 37 = .ok (.aload_n 0, 1) := by decide +kernel
theorem dX1_restore_38 : decode cX1_restore 38 = .ok (.getfield 18, 3) := by decide +kernel
theorem dX1_restore_41 : decode cX1_restore 41 = .ok (.ireturn, 1) := by decide +kernel
theorem dX2_init_0 : decode cX2_init 0 = .ok (.aload_n 0, 1) := by decide +kernel
theorem dX2_init_1 : decode cX2_init 1 = .ok (.invokespecial 3, 3) := by decide +kernel
theorem dX2_init_4 : decode cX2_init 4 = .ok (.aload_n 0, 1) := by decide +kernel
theorem dX2_init_5 : decode cX2_init 5 = .ok (.bipush 45, 2) := by decide +kernel
theorem dX2_init_7 : decode cX2_init 7 = .ok (.newarray .int, 2) := by decide +kernel
theorem dX2_init_9 : decode cX2_init 9 = .ok (.putfield 9, 3) := by decide +kernel
theorem dX2_init_12 : decode cX2_init 12 = .ok (.aload_n 0, 1) := by decide +kernel
theorem dX2_init_13 : decode cX2_init 13 = .ok (.bipush 45, 2) := by decide +kernel
theorem dX2_init_15 : decode cX2_init 15 = .ok (.newarray .int, 2) := by decide +kernel
theorem dX2_init_17 : decode cX2_init 17 = .ok (.putfield 15, 3) := by decide +kernel
theorem dX2_init_20 : decode cX2_init 20 = .ok (.aload_n 0, 1) := by decide +kernel
theorem dX2_init_21 : decode cX2_init 21 = .ok (.bipush 45, 2) := by decide +kernel
theorem dX2_init_23 : decode cX2_init 23 = .ok (.newarray .long, 2) := by decide +kernel
theorem dX2_init_25 : decode cX2_init 25 = .ok (.putfield 18, 3) := by decide +kernel
theorem dX2_init_28 : decode cX2_init 28 = .ok (.aload_n 0, 1) := by decide +kernel
theorem dX2_init_29 : decode cX2_init 29 = .ok (.bipush 45, 2) := by decide +kernel
theorem dX2_init_31 : decode cX2_init 31 = .ok (.newarray .long, 2) := by decide +kernel
theorem dX2_init_33 : decode cX2_init 33 = .ok (.putfield 22, 3) := by decide +kernel
theorem dX2_init_36 : decode cX2_init 36 = .ok (.return_, 1) := by decide +kernel
theorem dX2_has_0 : decode cX2_has 0 = .ok (.iload_n 1, 1) := by decide +kernel
theorem dX2_has_1 : decode cX2_has 1 = .ok (.ifCond .lt 15, 3) := by decide +kernel
theorem dX2_has_4 : decode cX2_has 4 = .ok (.iload_n 1, 1) := by decide +kernel
theorem dX2_has_5 : decode cX2_has 5 = .ok (.aload_n 0, 1) := by decide +kernel
theorem dX2_has_6 : decode cX2_has 6 = .ok (.getfield 25, 3) := by decide +kernel
theorem dX2_has_9 : decode cX2_has 9 = .ok (.if_icmp .ge 7, 3) := by decide +kernel
theorem dX2_has_12 : decode cX2_has 12 = .ok (.iconst 1, 1) := by decide +kernel
theorem dX2_has_13 : decode cX2_has 13 = .ok (.goto 4, 3) := by decide +kernel
theorem dX2_has_16 : decode cX2_has 16 = .ok (.iconst 0, 1) := by decide +kernel
theorem dX2_has_17 : decode cX2_has 17 = .ok (.ireturn, 1) := by decide +kernel
theorem dX2_insert_0 : decode cX2_insert 0 = .ok (.aload_n 0, 1) := by decide +kernel
theorem dX2_insert_1 : decode cX2_insert 1 = .ok (.getfield 25, 3) := by decide +kernel
theorem dX2_insert_4 : decode cX2_insert 4 = .ok (.bipush 45, 2) := by decide +kernel
theorem dX2_insert_6 : decode cX2_insert 6 = .ok (.if_icmp .lt 4, 3) := by decide +kernel
theorem dX2_insert_9 : decode cX2_insert 9 = .ok (.return_, 1) := by decide +kernel
theorem dX2_insert_10 : decode cX2_insert 10 = .ok (.aload_n 0, 1) := by decide +kernel
theorem dX2_insert_11 : decode cX2_insert 11 = .ok (.getfield 25, 3) := by decide +kernel
theorem dX2_insert_14 : decode cX2_insert 14 = .ok (.istore 7, 2) := by decide +kernel
theorem dX2_insert_16 : decode cX2_insert 16 = .ok (.iload 7, 2) := by decide +kernel
theorem dX2_insert_18 : decode cX2_insert 18 = .ok (.ifCond .le 100, 3) := by decide +kernel
theorem dX2_insert_21 : decode cX2_insert 21 = .ok (.lload_n 3, 1) := by decide +kernel
theorem dX2_insert_22 : decode cX2_insert 22 = .ok (.lload 5, 2) := by decide +kernel
theorem dX2_insert_24 : decode cX2_insert 24 = .ok (.aload_n 0, 1) := by decide +kernel
theorem dX2_insert_25 : decode cX2_insert 25 = .ok (.getfield 18, 3) := by decide +kernel
theorem dX2_insert_28 : decode cX2_insert 28 = .ok (.iload 7, 2) := by decide +kernel
theorem dX2_insert_30 : decode cX2_insert 30 = .ok (.iconst 1, 1) := by decide +kernel
theorem dX2_insert_31 : decode cX2_insert 31 = .ok (.isub, 1) := by decide +kernel
theorem dX2_insert_32 : decode cX2_insert 32 = .ok (.laload, 1) := by decide +kernel
theorem dX2_insert_33 : decode cX2_insert 33 = .ok (.aload_n 0, 1) := by decide +kernel
theorem dX2_insert_34 : decode cX2_insert 34 = .ok (.getfield 22, 3) := by decide +kernel
theorem dX2_insert_37 : decode cX2_insert 37 = .ok (.iload 7, 2) := by decide +kernel
theorem dX2_insert_39 : decode cX2_insert 39 = .ok (.iconst 1, 1) := by decide +kernel
theorem dX2_insert_40 : decode cX2_insert 40 = .ok (.isub, 1) := by decide +kernel
theorem dX2_insert_41 : decode cX2_insert 41 = .ok (.laload, 1) := by decide +kernel
theorem dX2_insert_42 : decode cX2_insert 42 = .ok (.invokestatic 29, 3) := by decide +kernel
theorem dX2_insert_45 : decode cX2_insert 45 = .ok (.ifCond .eq 73, 3) := by decide +kernel
theorem dX2_insert_48 : decode cX2_insert 48 = .ok (.aload_n 0, 1) := by decide +kernel
theorem dX2_insert_49 : decode cX2_insert 49 = .ok (.getfield 9, 3) := by decide +kernel
theorem dX2_insert_52 : decode cX2_insert 52 = .ok (.iload 7, 2) := by decide +kernel
theorem dX2_insert_54 : decode cX2_insert 54 = .ok (.aload_n 0, 1) := by decide +kernel
theorem dX2_insert_55 : decode cX2_insert 55 = .ok (.getfield 9, 3) := by decide +kernel
theorem dX2_insert_58 : decode cX2_insert 58 = .ok (.iload 7, 2) := by decide +kernel
theorem dX2_insert_60 : decode cX2_insert 60 = .ok (.iconst 1, 1) := by decide +kernel
theorem dX2_insert_61 : decode cX2_insert 61 = .ok (.isub, 1) := by decide +kernel
theorem dX2_insert_62 : decode cX2_insert 62 = .ok (.iaload, 1) := by decide +kernel
theorem dX2_insert_63 : decode cX2_insert 63 = .ok (.iastore, 1) := by decide +kernel
theorem dX2_insert_64 : decode cX2_insert 64 = .ok (.aload_n 0, 1) := by decide +kernel
theorem dX2_insert_65 : decode cX2_insert 65 = .ok (.getfield 15, 3) := by decide +kernel
theorem dX2_insert_68 : decode cX2_insert 68 = .ok (.iload 7, 2) := by decide +kernel
theorem dX2_insert_70 : decode cX2_insert 70 = .ok (.aload_n 0, 1) := by decide +kernel
theorem dX2_insert_71 : decode cX2_insert 71 = .ok (.getfield 15, 3) := by decide +kernel
theorem dX2_insert_74 : decode cX2_insert 74 = .ok (.iload 7, 2) := by decide +kernel
theorem dX2_insert_76 : decode cX2_insert 76 = .ok (.iconst 1, 1) := by decide +kernel
theorem dX2_insert_77 : decode cX2_insert 77 = .ok (.isub, 1) := by decide +kernel
theorem dX2_insert_78 : decode cX2_insert 78 = .ok (.iaload, 1) := by decide +kernel
theorem dX2_insert_79 : decode cX2_insert 79 = .ok (.iastore, 1) := by decide +kernel
theorem dX2_insert_80 : decode cX2_insert 80 = .ok (.aload_n 0, 1) := by decide +kernel
theorem dX2_insert_81 : decode cX2_insert 81 = .ok (.getfield 18, 3) := by decide +kernel
theorem dX2_insert_84 : decode cX2_insert 84 = .ok (.iload 7, 2) := by decide +kernel
theorem dX2_insert_86 : decode cX2_insert 86 = .ok (.aload_n 0, 1) := by decide +kernel
theorem dX2_insert_87 : decode cX2_insert 87 = .ok (.getfield 18, 3) := by decide +kernel
theorem dX2_insert_90 : decode cX2_insert 90 = .ok (.iload 7, 2) := by decide +kernel
theorem dX2_insert_92 : decode cX2_insert 92 = .ok (.iconst 1, 1) := by decide +kernel
theorem dX2_insert_93 : decode cX2_insert 93 = .ok (.isub, 1) := by decide +kernel
theorem dX2_insert_94 : decode cX2_insert 94 = .ok (.laload, 1) := by decide +kernel
theorem dX2_insert_95 : decode cX2_insert 95 = .ok (.lastore, 1) := by decide +kernel
theorem dX2_insert_96 : decode cX2_insert 96 = .ok (.aload_n 0, 1) := by decide +kernel
theorem dX2_insert_97 : decode cX2_insert 97 = .ok (.getfield 22, 3) := by decide +kernel
theorem dX2_insert_100 : decode cX2_insert 100 = .ok (.iload 7, 2) := by decide +kernel
theorem dX2_insert_102 : decode cX2_insert 102 = .ok (.aload_n 0, 1) := by decide +kernel
theorem dX2_insert_103 : decode cX2_insert 103 = .ok (.getfield 22, 3) := by decide +kernel
theorem dX2_insert_106 : decode cX2_insert 106 = .ok (.iload 7, 2) := by decide +kernel
theorem dX2_insert_108 : decode cX2_insert 108 = .ok (.iconst 1, 1) := by decide +kernel
theorem dX2_insert_109 : decode cX2_insert 109 = .ok (.isub, 1) := by decide +kernel
theorem dX2_insert_110 : decode cX2_insert 110 = .ok (.laload, 1) := by decide +kernel
theorem dX2_insert_111 : decode cX2_insert 111 = .ok (.lastore, 1) := by decide +kernel
theorem dX2_insert_112 : decode cX2_insert 112 = .ok (.iinc 7 (-1), 3) := by decide +kernel
theorem dX2_insert_115 : decode cX2_insert 115 = .ok (.goto (-99), 3) := by decide +kernel
theorem dX2_insert_118 : decode cX2_insert 118 = .ok (.aload_n 0, 1) := by decide +kernel
theorem dX2_insert_119 : decode cX2_insert 119 = .ok (.getfield 9, 3) := by decide +kernel
theorem dX2_insert_122 : decode cX2_insert 122 = .ok (.iload 7, 2) := by decide +kernel
theorem dX2_insert_124 : decode cX2_insert 124 = .ok (.iload_n 1, 1) := by decide +kernel
theorem dX2_insert_125 : decode cX2_insert 125 = .ok (.iastore, 1) := by decide +kernel
theorem dX2_insert_126 : decode cX2_insert 126 = .ok (.aload_n 0, 1) := by decide +kernel
theorem dX2_insert_127 : decode cX2_insert 127 = .ok (.getfield 15, 3) := by decide +kernel
theorem dX2_insert_130 : decode cX2_insert 130 = .ok (.iload 7, 2) := by decide +kernel
theorem dX2_insert_132 : decode cX2_insert 132 = .ok (.iload_n 2, 1) := by decide +kernel
theorem dX2_insert_133 : decode cX2_insert 133 = .ok (.iastore, 1) := by decide +kernel
theorem dX2_insert_134 : decode cX2_insert 134 = .ok (.aload_n 0, 1) := by decide +kernel
theorem dX2_insert_135 : decode cX2_insert 135 = .ok (.getfield 18, 3) := by decide +kernel
theorem dX2_insert_138 : decode cX2_insert 138 = .ok (.iload 7, 2) := by decide +kernel
theorem dX2_insert_140 : decode cX2_insert 140 = .ok (.lload_n 3, 1) := by decide +kernel
theorem dX2_insert_141 : decode cX2_insert 141 = .ok (.lastore, 1) := by decide +kernel
theorem dX2_insert_142 : decode cX2_insert 142 = .ok (.aload_n 0, 1) := by decide +kernel
theorem dX2_insert_143 : decode cX2_insert 143 = .ok (.getfield 22, 3) := by decide +kernel
theorem dX2_insert_146 : decode cX2_insert 146 = .ok (.iload 7, 2) := by decide +kernel
theorem dX2_insert_148 : decode cX2_insert 148 = .ok (.lload 5, 2) := by decide +kernel
theorem dX2_insert_150 : decode cX2_insert 150 = .ok (.lastore, 1) := by decide +kernel
theorem dX2_insert_151 : decode cX2_insert 151 = .ok (.aload_n 0, 1) := by decide +kernel
theorem dX2_insert_152 : decode cX2_insert 152 = .ok (.dup, 1) := by decide +kernel
theorem dX2_insert_153 : decode cX2_insert 153 = .ok (.getfield 25, 3) := by decide +kernel
theorem dX2_insert_156 : decode cX2_insert 156 = .ok (.iconst 1, 1) := by decide +kernel
theorem dX2_insert_157 : decode cX2_insert 157 = .ok (.iadd, 1) := by decide +kernel
theorem dX2_insert_158 : decode cX2_insert 158 = .ok (.putfield 25, 3) := by decide +kernel
theorem dX2_insert_161 : decode cX2_insert 161 = .ok (.return_, 1) := by decide +kernel
theorem dX2_overloaded_0 : decode cX2_overloaded 0 = .ok (.iconst 0, 1) := by decide +kernel
theorem dX2_overloaded_1 : decode cX2_overloaded 1 = .ok (.istore_n 1, 1) := by decide +kernel
theorem dX2_overloaded_2 : decode cX2_overloaded 2 = .ok (.iconst 0, 1) := by decide +kernel
theorem dX2_overloaded_3 : decode cX2_overloaded 3 = .ok (.istore_n 2, 1) := by decide +kernel
theorem dX2_overloaded_4 : decode cX2_overloaded 4 = .ok (.iload_n 2, 1) := by decide +kernel
theorem dX2_overloaded_5 : decode cX2_overloaded 5 = .ok (.aload_n 0, 1) := by decide +kernel
theorem dX2_overloaded_6 : decode cX2_overloaded 6 = .ok (.getfield 25, 3) := by decide +kernel
theorem dX2_overloaded_9 : decode cX2_overloaded 9 = .ok (.if_icmp .ge 28, 3) := by decide +kernel
theorem dX2_overloaded_12 : decode cX2_overloaded 12 = .ok (.aload_n 0, 1) := by decide +kernel
theorem dX2_overloaded_13 : decode cX2_overloaded 13 = .ok (.getfield 18, 3) := by decide +kernel
theorem dX2_overloaded_16 : decode cX2_overloaded 16 = .ok (.iload_n 2, 1) := by decide +kernel
theorem dX2_overloaded_17 : decode cX2_overloaded 17 = .ok (.laload, 1) := by decide +kernel
theorem dX2_overloaded_18 : decode cX2_overloaded 18 = .ok (.aload_n 0, 1) := by decide +kernel
theorem dX2_overloaded_19 : decode cX2_overloaded 19 = .ok (.getfield 22, 3) := by decide +kernel
theorem dX2_overloaded_22 : decode cX2_overloaded 22 = .ok (.iload_n 2, 1) := by decide +kernel
theorem dX2_overloaded_23 : decode cX2_overloaded 23 = .ok (.laload, 1) := by decide +kernel
theorem dX2_overloaded_24 : decode cX2_overloaded 24 = .ok (.lcmp, 1) := by decide +kernel
theorem dX2_overloaded_25 : decode cX2_overloaded 25 = .ok (.ifCond .le 6, 3) := by decide +kernel
theorem dX2_overloaded_28 : decode cX2_overloaded 28 = .ok (.iinc 1 1, 3) := by decide +kernel
theorem dX2_overloaded_31 : decode cX2_overloaded 31 = .ok (.iinc 2 1, 3) := by decide +kernel
theorem dX2_overloaded_34 : decode cX2_overloaded 34 = .ok (.goto (-30), 3) := by decide +kernel
theorem dX2_overloaded_37 : decode cX2_overloaded 37 = .ok (.iload_n 1, 1) := by decide +kernel
theorem dX2_overloaded_38 : decode cX2_overloaded 38 = .ok (.ireturn, 1) := by decide +kernel
theorem dX3_init_0 : decode cX3_init 0 = .ok (.aload_n 0, 1) := by decide +kernel
theorem dX3_init_1 : decode cX3_init 1 = .ok (.invokespecial 3, 3) := by decide +kernel
theorem dX3_init_4 : decode cX3_init 4 = .ok (.aload_n 0, 1) := by decide +kernel
theorem dX3_init_5 : decode cX3_init 5 = .ok (.bipush 120, 2) := by decide +kernel
theorem dX3_init_7 : decode cX3_init 7 = .ok (.newarray .int, 2) := by decide +kernel
theorem dX3_init_9 : decode cX3_init 9 = .ok (.putfield 9, 3) := by decide +kernel
theorem dX3_init_12 : decode cX3_init 12 = .ok (.aload_n 0, 1) := by decide +kernel
theorem dX3_init_13 : decode cX3_init 13 = .ok (.iconst 4, 1) := by decide +kernel
theorem dX3_init_14 : decode cX3_init 14 = .ok (.newarray .int, 2) := by decide +kernel
theorem dX3_init_16 : decode cX3_init 16 = .ok (.putfield 15, 3) := by decide +kernel
theorem dX3_init_19 : decode cX3_init 19 = .ok (.return_, 1) := by decide +kernel
theorem dX3_isFull_0 : decode cX3_isFull 0 = .ok (.aload_n 0, 1) := by decide +kernel
theorem dX3_isFull_1 : decode cX3_isFull 1 = .ok (.getfield 18, 3) := by decide +kernel
theorem dX3_isFull_4 : decode cX3_isFull 4 = .ok (.bipush 120, 2) := by decide +kernel
theorem dX3_isFull_6 : decode cX3_isFull 6 = .ok (.if_icmp .lt 7, 3) := by decide +kernel
theorem dX3_isFull_9 : decode cX3_isFull 9 = .ok (.iconst 1, 1) := by decide +kernel
theorem dX3_isFull_10 : decode cX3_isFull 10 = .ok (.goto 4, 3) := by decide +kernel
theorem dX3_isFull_13 : decode cX3_isFull 13 = .ok (.iconst 0, 1) := by decide +kernel
theorem dX3_isFull_14 : decode cX3_isFull 14 = .ok (.ireturn, 1) := by decide +kernel
theorem dX3_append_0 : decode cX3_append 0 = .ok (.aload_n 0, 1) := by decide +kernel
theorem dX3_append_1 : decode cX3_append 1 = .ok (.getfield 9, 3) := by decide +kernel
theorem dX3_append_4 : decode cX3_append 4 = .ok (.aload_n 0, 1) := by decide +kernel
theorem dX3_append_5 : decode cX3_append 5 = .ok (.getfield 18, 3) := by decide +kernel
theorem dX3_append_8 : decode cX3_append 8 = .ok (.iload_n 1, 1) := by decide +kernel
theorem dX3_append_9 : decode cX3_append 9 = .ok (.iastore, 1) := by decide +kernel
theorem dX3_append_10 : decode cX3_append 10 = .ok (.aload_n 0, 1) := by decide +kernel
theorem dX3_append_11 : decode cX3_append 11 = .ok (.dup, 1) := by decide +kernel
theorem dX3_append_12 : decode cX3_append 12 = .ok (.getfield 18, 3) := by decide +kernel
theorem dX3_append_15 : decode cX3_append 15 = .ok (.iconst 1, 1) := by decide +kernel
theorem dX3_append_16 : decode cX3_append 16 = .ok (.iadd, 1) := by decide +kernel
theorem dX3_append_17 : decode cX3_append 17 = .ok (.putfield 18, 3) := by decide +kernel
theorem dX3_append_20 : decode cX3_append 20 = .ok (.aload_n 0, 1) := by decide +kernel
theorem dX3_append_21 : decode cX3_append 21 = .ok (.getfield 18, 3) := by decide +kernel
theorem dX3_append_24 : decode cX3_append 24 = .ok (.ireturn, 1) := by decide +kernel
theorem dX3_empty_0 : decode cX3_empty 0 = .ok (.aload_n 0, 1) := by decide +kernel
theorem dX3_empty_1 : decode cX3_empty 1 = .ok (.getfield 18, 3) := by decide +kernel
theorem dX3_empty_4 : decode cX3_empty 4 = .ok (.istore_n 1, 1) := by decide +kernel
theorem dX3_empty_5 : decode cX3_empty 5 = .ok (.aload_n 0, 1) := by decide +kernel
theorem dX3_empty_6 : decode cX3_empty 6 = .ok (.iconst 0, 1) := by decide +kernel
theorem dX3_empty_7 : decode cX3_empty 7 = .ok (.putfield 18, 3) := by decide +kernel
theorem dX3_empty_10 : decode cX3_empty 10 = .ok (.iload_n 1, 1) := by decide +kernel
theorem dX3_empty_11 : decode cX3_empty 11 = .ok (.ireturn, 1) := by decide +kernel
theorem dX3_rewind_0 : decode cX3_rewind 0 = .ok (.aload_n 0, 1) := by decide +kernel
theorem dX3_rewind_1 : decode cX3_rewind 1 = .ok (.iconst 0, 1) := by decide +kernel
theorem dX3_rewind_2 : decode cX3_rewind 2 = .ok (.putfield 22, 3) := by decide +kernel
theorem dX3_rewind_5 : decode cX3_rewind 5 = .ok (.return_, 1) := by decide +kernel
theorem dX3_findFault_0 : decode cX3_findFault 0 = .ok (.aload_n 0, 1) := by decide +kernel
theorem dX3_findFault_1 : decode cX3_findFault 1 = .ok (.invokevirtual 25, 3) := by decide +kernel
theorem dX3_findFault_4 : decode cX3_findFault 4 = .ok (.aload_n 0, 1) := by decide +kernel
theorem dX3_findFault_5 : decode cX3_findFault 5 = .ok (.invokevirtual 28, 3) := by decide +kernel
theorem dX3_findFault_8 : decode cX3_findFault 8 = .ok (.ifCond .ne 8, 3) := by decide +kernel
theorem dX3_findFault_11 : decode cX3_findFault 11 = .ok (.aload_n 0, 1) := by decide +kernel
theorem dX3_findFault_12 : decode cX3_findFault 12 = .ok (.getfield 18, 3) := by decide +kernel
theorem dX3_findFault_15 : decode cX3_findFault 15 = .ok (.ireturn, 1) := by decide +kernel
theorem dX3_findFault_16 : decode cX3_findFault 16 = .ok (.iconst 0, 1) := by decide +kernel
theorem dX3_findFault_17 : decode cX3_findFault 17 = .ok (.istore_n 1, 1) := by decide +kernel
theorem dX3_findFault_18 : decode cX3_findFault 18 = .ok (.iload_n 1, 1) := by decide +kernel
theorem dX3_findFault_19 : decode cX3_findFault 19 = .ok (.bipush 120, 2) := by decide +kernel
theorem dX3_findFault_21 : decode cX3_findFault 21 = .ok (.if_icmp .ge 28, 3) := by decide +kernel
theorem dX3_findFault_24 : decode cX3_findFault 24 = .ok (.aload_n 0, 1) := by decide +kernel
theorem dX3_findFault_25 : decode cX3_findFault 25 = .ok (.invokevirtual 28, 3) := by decide +kernel
theorem dX3_findFault_28 : decode cX3_findFault 28 = .ok (.ifCond .eq 21, 3) := by decide +kernel
theorem dX3_findFault_31 : decode cX3_findFault 31 = .ok (.aload_n 0, 1) := by decide +kernel
theorem dX3_findFault_32 : decode cX3_findFault 32 = .ok (.invokevirtual 32, 3) := by decide +kernel
theorem dX3_findFault_35 : decode cX3_findFault 35 = .ok (.ifCond .ne 8, 3) := by decide +kernel
theorem dX3_findFault_38 : decode cX3_findFault 38 = .ok (.aload_n 0, 1) := by decide +kernel
theorem dX3_findFault_39 : decode cX3_findFault 39 = .ok (.getfield 22, 3) := by decide +kernel
theorem dX3_findFault_42 : decode cX3_findFault 42 = .ok (.ireturn, 1) := by decide +kernel
theorem dX3_findFault_43 : decode cX3_findFault 43 = .ok (.iinc 1 1, 3) := by decide +kernel
theorem dX3_findFault_46 : decode cX3_findFault 46 = .ok (.goto (-28), 3) := by decide +kernel
theorem dX3_findFault_49 : decode cX3_findFault 49 = .ok (.iconst (-1), 1) := by decide +kernel
theorem dX3_findFault_50 : decode cX3_findFault 50 = .ok (.ireturn, 1) := by decide +kernel
theorem dX3_hasMore_0 : decode cX3_hasMore 0 = .ok (.aload_n 0, 1) := by decide +kernel
theorem dX3_hasMore_1 : decode cX3_hasMore 1 = .ok (.invokevirtual 35, 3) := by decide +kernel
theorem dX3_hasMore_4 : decode cX3_hasMore 4 = .ok (.aload_n 0, 1) := by decide +kernel
theorem dX3_hasMore_5 : decode cX3_hasMore 5 = .ok (.getfield 22, 3) := by decide +kernel
theorem dX3_hasMore_8 : decode cX3_hasMore 8 = .ok (.aload_n 0, 1) := by decide +kernel
theorem dX3_hasMore_9 : decode cX3_hasMore 9 = .ok (.getfield 18, 3) := by decide +kernel
theorem dX3_hasMore_12 : decode cX3_hasMore 12 = .ok (.if_icmp .ge 7, 3) := by decide +kernel
theorem dX3_hasMore_15 : decode cX3_hasMore 15 = .ok (.iconst 1, 1) := by decide +kernel
theorem dX3_hasMore_16 : decode cX3_hasMore 16 = .ok (.goto 4, 3) := by decide +kernel
theorem dX3_hasMore_19 : decode cX3_hasMore 19 = .ok (.iconst 0, 1) := by decide +kernel
theorem dX3_hasMore_20 : decode cX3_hasMore 20 = .ok (.ireturn, 1) := by decide +kernel
theorem dX3_readCommand_0 : decode cX3_readCommand 0 = .ok (.aload_n 0, 1) := by decide +kernel
theorem dX3_readCommand_1 : decode cX3_readCommand 1 = .ok (.invokevirtual 38, 3) := by decide +kernel
theorem dX3_readCommand_4 : decode cX3_readCommand 4 = .ok (.ifCond .ne 5, 3) := by decide +kernel
theorem dX3_readCommand_7 : decode cX3_readCommand 7 = .ok (.iconst 0, 1) := by decide +kernel
theorem dX3_readCommand_8 : decode cX3_readCommand 8 = .ok (.ireturn, 1) := by decide +kernel
theorem dX3_readCommand_9 : decode cX3_readCommand 9 = .ok (.aload_n 0, 1) := by decide +kernel
theorem dX3_readCommand_10 : decode cX3_readCommand 10 = .ok (.getfield 41, 3) := by decide +kernel
theorem dX3_readCommand_13 : decode cX3_readCommand 13 = .ok (.invokestatic 44, 3) := by decide +kernel
theorem dX3_readCommand_16 : decode cX3_readCommand 16 = .ok (.istore_n 1, 1) := by decide +kernel
theorem dX3_readCommand_17 : decode cX3_readCommand 17 = .ok (.iconst 0, 1) := by decide +kernel
theorem dX3_readCommand_18 : decode cX3_readCommand 18 = .ok (.istore_n 2, 1) := by decide +kernel
theorem dX3_readCommand_19 : decode cX3_readCommand 19 = .ok (.iload_n 2, 1) := by decide +kernel
theorem dX3_readCommand_20 : decode cX3_readCommand 20 = .ok (.iload_n 1, 1) := by decide +kernel
theorem dX3_readCommand_21 : decode cX3_readCommand 21 = .ok (.if_icmp .ge 36, 3) := by decide +kernel
theorem dX3_readCommand_24 : decode cX3_readCommand 24 = .ok (.aload_n 0, 1) := by decide +kernel
theorem dX3_readCommand_25 : decode cX3_readCommand 25 = .ok (.iload_n 2, 1) := by decide +kernel
theorem dX3_readCommand_26 : decode cX3_readCommand 26 = .ok (.aload_n 0, 1) := by decide +kernel
theorem dX3_readCommand_27 : decode cX3_readCommand 27 = .ok (.getfield 41, 3) := by decide +kernel
theorem dX3_readCommand_30 : decode cX3_readCommand 30 = .ok (.ifCond .ne 12, 3) := by decide +kernel
theorem dX3_readCommand_33 : decode cX3_readCommand 33 = .ok (.iload_n 2, 1) := by decide +kernel
theorem dX3_readCommand_34 : decode cX3_readCommand 34 = .ok (.iconst 1, 1) := by decide +kernel
theorem dX3_readCommand_35 : decode cX3_readCommand 35 = .ok (.if_icmp .ne 7, 3) := by decide +kernel
theorem dX3_readCommand_38 : decode cX3_readCommand 38 = .ok (.iconst 1, 1) := by decide +kernel
theorem dX3_readCommand_39 : decode cX3_readCommand 39 = .ok (.goto 4, 3) := by decide +kernel
theorem dX3_readCommand_42 : decode cX3_readCommand 42 = .ok (.iconst 0, 1) := by decide +kernel
theorem dX3_readCommand_43 : decode cX3_readCommand 43 = .ok (.invokevirtual 48, 3) := by decide +kernel
theorem dX3_readCommand_46 : decode cX3_readCommand 46 = .ok (.ifCond .ne 5, 3) := by decide +kernel
theorem dX3_readCommand_49 : decode cX3_readCommand 49 = .ok (.iconst 0, 1) := by decide +kernel
theorem dX3_readCommand_50 : decode cX3_readCommand 50 = .ok (.ireturn, 1) := by decide +kernel
theorem dX3_readCommand_51 : decode cX3_readCommand 51 = .ok (.iinc 2 1, 3) := by decide +kernel
theorem dX3_readCommand_54 : decode cX3_readCommand 54 = .ok (.goto (-35), 3) := by decide +kernel
theorem dX3_readCommand_57 : decode cX3_readCommand 57 = .ok (.aload_n 0, 1) := by decide +kernel
theorem dX3_readCommand_58 : decode cX3_readCommand 58 = .ok (.invokevirtual 35, 3) := by decide +kernel
theorem dX3_readCommand_61 : decode cX3_readCommand 61 = .ok (.aload_n 0, 1) := by decide +kernel
theorem dX3_readCommand_62 : decode cX3_readCommand 62 = .ok (.bipush 59, 2) := by decide +kernel
theorem dX3_readCommand_64 : decode cX3_readCommand 64 = .ok (.invokevirtual 52, 3) := by decide +kernel
theorem dX3_readCommand_67 : decode cX3_readCommand 67 = .ok (.ifCond .ne 5, 3) := by decide +kernel
theorem dX3_readCommand_70 : decode cX3_readCommand 70 = .ok (.iconst 0, 1) := by decide +kernel
theorem dX3_readCommand_71 : decode cX3_readCommand 71 = .ok (.ireturn, 1) := by decide +kernel
theorem dX3_readCommand_72 : decode cX3_readCommand 72 = .ok (.aload_n 0, 1) := by decide +kernel
theorem dX3_readCommand_73 : decode cX3_readCommand 73 = .ok (.dup, 1) := by decide +kernel
theorem dX3_readCommand_74 : decode cX3_readCommand 74 = .ok (.getfield 22, 3) := by decide +kernel
theorem dX3_readCommand_77 : decode cX3_readCommand 77 = .ok (.iconst 1, 1) := by decide +kernel
theorem dX3_readCommand_78 : decode cX3_readCommand 78 = .ok (.iadd, 1) := by decide +kernel
theorem dX3_readCommand_79 : decode cX3_readCommand 79 = .ok (.putfield 22, 3) := by decide +kernel
theorem dX3_readCommand_82 : decode cX3_readCommand 82 = .ok (.iconst 1, 1) := by decide +kernel
theorem dX3_readCommand_83 : decode cX3_readCommand 83 = .ok (.ireturn, 1) := by decide +kernel
theorem dX3_readWord_0 : decode cX3_readWord 0 = .ok (.aload_n 0, 1) := by decide +kernel
theorem dX3_readWord_1 : decode cX3_readWord 1 = .ok (.getfield 22, 3) := by decide +kernel
theorem dX3_readWord_4 : decode cX3_readWord 4 = .ok (.istore_n 1, 1) := by decide +kernel
theorem dX3_readWord_5 : decode cX3_readWord 5 = .ok (.iload_n 1, 1) := by decide +kernel
theorem dX3_readWord_6 : decode cX3_readWord 6 = .ok (.aload_n 0, 1) := by decide +kernel
theorem dX3_readWord_7 : decode cX3_readWord 7 = .ok (.getfield 18, 3) := by decide +kernel
theorem dX3_readWord_10 : decode cX3_readWord 10 = .ok (.if_icmp .ge 21, 3) := by decide +kernel
theorem dX3_readWord_13 : decode cX3_readWord 13 = .ok (.aload_n 0, 1) := by decide +kernel
theorem dX3_readWord_14 : decode cX3_readWord 14 = .ok (.getfield 9, 3) := by decide +kernel
theorem dX3_readWord_17 : decode cX3_readWord 17 = .ok (.iload_n 1, 1) := by decide +kernel
theorem dX3_readWord_18 : decode cX3_readWord 18 = .ok (.iaload, 1) := by decide +kernel
theorem dX3_readWord_19 : decode cX3_readWord 19 = .ok (.invokestatic 56, 3) := by decide +kernel
theorem dX3_readWord_22 : decode cX3_readWord 22 = .ok (.ifCond .eq 9, 3) := by decide +kernel
theorem dX3_readWord_25 : decode cX3_readWord 25 = .ok (.iinc 1 1, 3) := by decide +kernel
theorem dX3_readWord_28 : decode cX3_readWord 28 = .ok (.goto (-23), 3) := by decide +kernel
theorem dX3_readWord_31 : decode cX3_readWord 31 = .ok (.iconst 0, 1) := by decide +kernel
theorem dX3_readWord_32 : decode cX3_readWord 32 = .ok (.istore_n 2, 1) := by decide +kernel
theorem dX3_readWord_33 : decode cX3_readWord 33 = .ok (.iload_n 2, 1) := by decide +kernel
theorem dX3_readWord_34 : decode cX3_readWord 34 = .ok (.bipush 8, 2) := by decide +kernel
theorem dX3_readWord_36 : decode cX3_readWord 36 = .ok (.if_icmp .ge 33, 3) := by decide +kernel
theorem dX3_readWord_39 : decode cX3_readWord 39 = .ok (.aload_n 0, 1) := by decide +kernel
theorem dX3_readWord_40 : decode cX3_readWord 40 = .ok (.iload_n 2, 1) := by decide +kernel
theorem dX3_readWord_41 : decode cX3_readWord 41 = .ok (.invokestatic 59, 3) := by decide +kernel
theorem dX3_readWord_44 : decode cX3_readWord 44 = .ok (.iload_n 1, 1) := by decide +kernel
theorem dX3_readWord_45 : decode cX3_readWord 45 = .ok (.invokevirtual 63, 3) := by decide +kernel
theorem dX3_readWord_48 : decode cX3_readWord 48 = .ok (.ifCond .eq 15, 3) := by decide +kernel
theorem dX3_readWord_51 : decode cX3_readWord 51 = .ok (.aload_n 0, 1) := by decide +kernel
theorem dX3_readWord_52 : decode cX3_readWord 52 = .ok (.iload_n 2, 1) := by decide +kernel
theorem dX3_readWord_53 : decode cX3_readWord 53 = .ok (.putfield 41, 3) := by decide +kernel
theorem dX3_readWord_56 : decode cX3_readWord 56 = .ok (.aload_n 0, 1) := by decide +kernel
theorem dX3_readWord_57 : decode cX3_readWord 57 = .ok (.iload_n 1, 1) := by decide +kernel
theorem dX3_readWord_58 : decode cX3_readWord 58 = .ok (.putfield 22, 3) := by decide +kernel
theorem dX3_readWord_61 : decode cX3_readWord 61 = .ok (.iconst 1, 1) := by decide +kernel
theorem dX3_readWord_62 : decode cX3_readWord 62 = .ok (.ireturn, 1) := by decide +kernel
theorem dX3_readWord_63 : decode cX3_readWord 63 = .ok (.iinc 2 1, 3) := by decide +kernel
theorem dX3_readWord_66 : decode cX3_readWord 66 = .ok (.goto (-33), 3) := by decide +kernel
theorem dX3_readWord_69 : decode cX3_readWord 69 = .ok (.iconst 0, 1) := by decide +kernel
theorem dX3_readWord_70 : decode cX3_readWord 70 = .ok (.ireturn, 1) := by decide +kernel
theorem dX3_isWord_0 : decode cX3_isWord 0 = .ok (.iload_n 2, 1) := by decide +kernel
theorem dX3_isWord_1 : decode cX3_isWord 1 = .ok (.aload_n 0, 1) := by decide +kernel
theorem dX3_isWord_2 : decode cX3_isWord 2 = .ok (.getfield 22, 3) := by decide +kernel
theorem dX3_isWord_5 : decode cX3_isWord 5 = .ok (.isub, 1) := by decide +kernel
theorem dX3_isWord_6 : decode cX3_isWord 6 = .ok (.aload_n 1, 1) := by decide +kernel
theorem dX3_isWord_7 : decode cX3_isWord 7 = .ok (.invokevirtual 67, 3) := by decide +kernel
theorem dX3_isWord_10 : decode cX3_isWord 10 = .ok (.if_icmp .eq 5, 3) := by decide +kernel
theorem dX3_isWord_13 : decode cX3_isWord 13 = .ok (.iconst 0, 1) := by decide +kernel
theorem dX3_isWord_14 : decode cX3_isWord 14 = .ok (.ireturn, 1) := by decide +kernel
theorem dX3_isWord_15 : decode cX3_isWord 15 = .ok (.iconst 0, 1) := by decide +kernel
theorem dX3_isWord_16 : decode cX3_isWord 16 = .ok (.istore_n 3, 1) := by decide +kernel
theorem dX3_isWord_17 : decode cX3_isWord 17 = .ok (.iload_n 3, 1) := by decide +kernel
theorem dX3_isWord_18 : decode cX3_isWord 18 = .ok (.aload_n 1, 1) := by decide +kernel
theorem dX3_isWord_19 : decode cX3_isWord 19 = .ok (.invokevirtual 67, 3) := by decide +kernel
theorem dX3_isWord_22 : decode cX3_isWord 22 = .ok (.if_icmp .ge 30, 3) := by decide +kernel
theorem dX3_isWord_25 : decode cX3_isWord 25 = .ok (.aload_n 0, 1) := by decide +kernel
theorem dX3_isWord_26 : decode cX3_isWord 26 = .ok (.getfield 9, 3) := by decide +kernel
theorem dX3_isWord_29 : decode cX3_isWord 29 = .ok (.aload_n 0, 1) := by decide +kernel
theorem dX3_isWord_30 : decode cX3_isWord 30 = .ok (.getfield 22, 3) := by decide +kernel
theorem dX3_isWord_33 : decode cX3_isWord 33 = .ok (.iload_n 3, 1) := by decide +kernel
theorem dX3_isWord_34 : decode cX3_isWord 34 = .ok (.iadd, 1) := by decide +kernel
theorem dX3_isWord_35 : decode cX3_isWord 35 = .ok (.iaload, 1) := by decide +kernel
theorem dX3_isWord_36 : decode cX3_isWord 36 = .ok (.aload_n 1, 1) := by decide +kernel
theorem dX3_isWord_37 : decode cX3_isWord 37 = .ok (.iload_n 3, 1) := by decide +kernel
theorem dX3_isWord_38 : decode cX3_isWord 38 = .ok (.invokevirtual 72, 3) := by decide +kernel
theorem dX3_isWord_41 : decode cX3_isWord 41 = .ok (.if_icmp .eq 5, 3) := by decide +kernel
theorem dX3_isWord_44 : decode cX3_isWord 44 = .ok (.iconst 0, 1) := by decide +kernel
theorem dX3_isWord_45 : decode cX3_isWord 45 = .ok (.ireturn, 1) := by decide +kernel
theorem dX3_isWord_46 : decode cX3_isWord 46 = .ok (.iinc 3 1, 3) := by decide +kernel
theorem dX3_isWord_49 : decode cX3_isWord 49 = .ok (.goto (-32), 3) := by decide +kernel
theorem dX3_isWord_52 : decode cX3_isWord 52 = .ok (.iconst 1, 1) := by decide +kernel
theorem dX3_isWord_53 : decode cX3_isWord 53 = .ok (.ireturn, 1) := by decide +kernel
theorem dX3_readNumber_0 : decode cX3_readNumber 0 = .ok (.aload_n 0, 1) := by decide +kernel
theorem dX3_readNumber_1 : decode cX3_readNumber 1 = .ok (.invokevirtual 35, 3) := by decide +kernel
theorem dX3_readNumber_4 : decode cX3_readNumber 4 = .ok (.iload_n 2, 1) := by decide +kernel
theorem dX3_readNumber_5 : decode cX3_readNumber 5 = .ok (.ifCond .eq 16, 3) := by decide +kernel
theorem dX3_readNumber_8 : decode cX3_readNumber 8 = .ok (.aload_n 0, 1) := by decide +kernel
theorem dX3_readNumber_9 : decode cX3_readNumber 9 = .ok (.bipush 45, 2) := by decide +kernel
theorem dX3_readNumber_11 : decode cX3_readNumber 11 = .ok (.invokevirtual 52, 3) := by decide +kernel
theorem dX3_readNumber_14 : decode cX3_readNumber 14 = .ok (.ifCond .eq 7, 3) := by decide +kernel
theorem dX3_readNumber_17 : decode cX3_readNumber 17 = .ok (.iconst 1, 1) := by decide +kernel
theorem dX3_readNumber_18 : decode cX3_readNumber 18 = .ok (.goto 4, 3) := by decide +kernel
theorem dX3_readNumber_21 : decode cX3_readNumber 21 = .ok (.iconst 0, 1) := by decide +kernel
theorem dX3_readNumber_22 : decode cX3_readNumber 22 = .ok (.istore_n 3, 1) := by decide +kernel
theorem dX3_readNumber_23 : decode cX3_readNumber 23 = .ok (.iload_n 3, 1) := by decide +kernel
theorem dX3_readNumber_24 : decode cX3_readNumber 24 = .ok (.ifCond .eq 13, 3) := by decide +kernel
theorem dX3_readNumber_27 : decode cX3_readNumber 27 = .ok (.aload_n 0, 1) := by decide +kernel
theorem dX3_readNumber_28 : decode cX3_readNumber 28 = .ok (.dup, 1) := by decide +kernel
theorem dX3_readNumber_29 : decode cX3_readNumber 29 = .ok (.getfield 22, 3) := by decide +kernel
theorem dX3_readNumber_32 : decode cX3_readNumber 32 = .ok (.iconst 1, 1) := by decide +kernel
theorem dX3_readNumber_33 : decode cX3_readNumber 33 = .ok (.iadd, 1) := by decide +kernel
theorem dX3_readNumber_34 : decode cX3_readNumber 34 = .ok (.putfield 22, 3) := by decide +kernel
theorem dX3_readNumber_37 : decode cX3_readNumber 37 = .ok (.aload_n 0, 1) := by decide +kernel
theorem dX3_readNumber_38 : decode cX3_readNumber 38 = .ok (.invokevirtual 76, 3) := by decide +kernel
theorem dX3_readNumber_41 : decode cX3_readNumber 41 = .ok (.ifCond .ne 5, 3) := by decide +kernel
theorem dX3_readNumber_44 : decode cX3_readNumber 44 = .ok (.iconst 0, 1) := by decide +kernel
theorem dX3_readNumber_45 : decode cX3_readNumber 45 = .ok (.ireturn, 1) := by decide +kernel
theorem dX3_readNumber_46 : decode cX3_readNumber 46 = .ok (.iconst 0, 1) := by decide +kernel
theorem dX3_readNumber_47 : decode cX3_readNumber 47 = .ok (.istore 4, 2) := by decide +kernel
theorem dX3_readNumber_49 : decode cX3_readNumber 49 = .ok (.iconst 0, 1) := by decide +kernel
theorem dX3_readNumber_50 : decode cX3_readNumber 50 = .ok (.istore 5, 2) := by decide +kernel
theorem dX3_readNumber_52 : decode cX3_readNumber 52 = .ok (.iload 5, 2) := by decide +kernel
theorem dX3_readNumber_54 : decode cX3_readNumber 54 = .ok (.iconst 3, 1) := by decide +kernel
theorem dX3_readNumber_55 : decode cX3_readNumber 55 = .ok (.if_icmp .ge 46, 3) := by decide +kernel
theorem dX3_readNumber_58 : decode cX3_readNumber 58 = .ok (.aload_n 0, 1) := by decide +kernel
theorem dX3_readNumber_59 : decode cX3_readNumber 59 = .ok (.invokevirtual 76, 3) := by decide +kernel
theorem dX3_readNumber_62 : decode cX3_readNumber 62 = .ok (.ifCond .eq 39, 3) := by decide +kernel
theorem dX3_readNumber_65 : decode cX3_readNumber 65 = .ok (.iload 4, 2) := by decide +kernel
theorem dX3_readNumber_67 : decode cX3_readNumber 67 = .ok (.bipush 10, 2) := by decide +kernel
theorem dX3_readNumber_69 : decode cX3_readNumber 69 = .ok (.imul, 1) := by decide +kernel
theorem dX3_readNumber_70 : decode cX3_readNumber 70 = .ok (.aload_n 0, 1) := by decide +kernel
theorem dX3_readNumber_71 : decode cX3_readNumber 71 = .ok (.getfield 9, 3) := by decide +kernel
theorem dX3_readNumber_74 : decode cX3_readNumber 74 = .ok (.aload_n 0, 1) := by decide +kernel
theorem dX3_readNumber_75 : decode cX3_readNumber 75 = .ok (.getfield 22, 3) := by decide +kernel
theorem dX3_readNumber_78 : decode cX3_readNumber 78 = .ok (.iaload, 1) := by decide +kernel
theorem dX3_readNumber_79 : decode cX3_readNumber 79 = .ok (.iadd, 1) := by decide +kernel
theorem dX3_readNumber_80 : decode cX3_readNumber 80 = .ok (.bipush 48, 2) := by decide +kernel
theorem dX3_readNumber_82 : decode cX3_readNumber 82 = .ok (.isub, 1) := by decide +kernel
theorem dX3_readNumber_83 : decode cX3_readNumber 83 = .ok (.istore 4, 2) := by decide +kernel
theorem dX3_readNumber_85 : decode cX3_readNumber 85 = .ok (.aload_n 0, 1) := by decide +kernel
theorem dX3_readNumber_86 : decode cX3_readNumber 86 = .ok (.dup, 1) := by decide +kernel
theorem dX3_readNumber_87 : decode cX3_readNumber 87 = .ok (.getfield 22, 3) := by decide +kernel
theorem dX3_readNumber_90 : decode cX3_readNumber 90 = .ok (.iconst 1, 1) := by decide +kernel
theorem dX3_readNumber_91 : decode cX3_readNumber 91 = .ok (.iadd, 1) := by decide +kernel
theorem dX3_readNumber_92 : decode cX3_readNumber 92 = .ok (.putfield 22, 3) := by decide +kernel
theorem dX3_readNumber_95 : decode cX3_readNumber 95 = .ok (.iinc 5 1, 3) := by decide +kernel
theorem dX3_readNumber_98 : decode cX3_readNumber 98 = .ok (.goto (-46), 3) := by decide +kernel
theorem dX3_readNumber_101 : decode cX3_readNumber 101 = .ok (.aload_n 0, 1) := by decide +kernel
theorem dX3_readNumber_102 : decode cX3_readNumber 102 = .ok (.getfield 15, 3) := by decide +kernel
theorem dX3_readNumber_105 : decode cX3_readNumber 105 = .ok (.iload_n 1, 1) := by decide +kernel
theorem dX3_readNumber_106 : decode cX3_readNumber 106 = .ok (.iload_n 3, 1) := by decide +kernel
theorem dX3_readNumber_107 : decode cX3_readNumber 107 = .ok (.ifCond .eq 9, 3) := by decide +kernel
theorem dX3_readNumber_110 : decode cX3_readNumber 110 = .ok (.iload 4, 2) := by decide +kernel
theorem dX3_readNumber_112 : decode cX3_readNumber 112 = .ok (.ineg, 1) := by decide +kernel
theorem dX3_readNumber_113 : decode cX3_readNumber 113 = .ok (.goto 5, 3) := by decide +kernel
theorem dX3_readNumber_116 : decode cX3_readNumber 116 = .ok (.iload 4, 2) := by decide +kernel
theorem dX3_readNumber_118 : decode cX3_readNumber 118 = .ok (.iastore, 1) := by decide +kernel
theorem dX3_readNumber_119 : decode cX3_readNumber 119 = .ok (.aload_n 0, 1) := by decide +kernel
theorem dX3_readNumber_120 : decode cX3_readNumber 120 = .ok (.invokevirtual 76, 3) := by decide +kernel
theorem dX3_readNumber_123 : decode cX3_readNumber 123 = .ok (.ifCond .ne 7, 3) := by decide +kernel
theorem dX3_readNumber_126 : decode cX3_readNumber 126 = .ok (.iconst 1, 1) := by decide +kernel
theorem dX3_readNumber_127 : decode cX3_readNumber 127 = .ok (.goto 4, 3) := by decide +kernel
theorem dX3_readNumber_130 : decode cX3_readNumber 130 = .ok (.iconst 0, 1) := by decide +kernel
theorem dX3_readNumber_131 : decode cX3_readNumber 131 = .ok (.ireturn, 1) := by decide +kernel
theorem dX3_skipBlanks_0 : decode cX3_skipBlanks 0 = .ok (.aload_n 0, 1) := by decide +kernel
theorem dX3_skipBlanks_1 : decode cX3_skipBlanks 1 = .ok (.getfield 22, 3) := by decide +kernel
theorem dX3_skipBlanks_4 : decode cX3_skipBlanks 4 = .ok (.aload_n 0, 1) := by decide +kernel
theorem dX3_skipBlanks_5 : decode cX3_skipBlanks 5 = .ok (.getfield 18, 3) := by decide +kernel
theorem dX3_skipBlanks_8 : decode cX3_skipBlanks 8 = .ok (.if_icmp .ge 30, 3) := by decide +kernel
theorem dX3_skipBlanks_11 : decode cX3_skipBlanks 11 = .ok (.aload_n 0, 1) := by decide +kernel
theorem dX3_skipBlanks_12 : decode cX3_skipBlanks 12 = .ok (.getfield 9, 3) := by decide +kernel
theorem dX3_skipBlanks_15 : decode cX3_skipBlanks 15 = .ok (.aload_n 0, 1) := by decide +kernel
theorem dX3_skipBlanks_16 : decode cX3_skipBlanks 16 = .ok (.getfield 22, 3) := by decide +kernel
theorem dX3_skipBlanks_19 : decode cX3_skipBlanks 19 = .ok (.iaload, 1) := by decide +kernel
theorem dX3_skipBlanks_20 : decode cX3_skipBlanks 20 = .ok (.bipush 32, 2) := by decide +kernel
theorem dX3_skipBlanks_22 : decode cX3_skipBlanks 22 = .ok (.if_icmp .ne 16, 3) := by decide +kernel
theorem dX3_skipBlanks_25 : decode cX3_skipBlanks 25 = .ok (.aload_n 0, 1) := by decide +kernel
theorem dX3_skipBlanks_26 : decode cX3_skipBlanks 26 = .ok (.dup, 1) := by decide +kernel
theorem dX3_skipBlanks_27 : decode cX3_skipBlanks 27 = .ok (.getfield 22, 3) := by decide +kernel
theorem dX3_skipBlanks_30 : decode cX3_skipBlanks 30 = .ok (.iconst 1, 1) := by decide +kernel
theorem dX3_skipBlanks_31 : decode cX3_skipBlanks 31 = .ok (.iadd, 1) := by decide +kernel
theorem dX3_skipBlanks_32 : decode cX3_skipBlanks 32 = .ok (.putfield 22, 3) := by decide +kernel
theorem dX3_skipBlanks_35 : decode cX3_skipBlanks 35 = .ok (.goto (-35), 3) := by decide +kernel
theorem dX3_skipBlanks_38 : decode cX3_skipBlanks 38 = .ok (.return_, 1) := by decide +kernel
theorem dX3_sees_0 : decode cX3_sees 0 = .ok (.aload_n 0, 1) := by decide +kernel
theorem dX3_sees_1 : decode cX3_sees 1 = .ok (.getfield 22, 3) := by decide +kernel
theorem dX3_sees_4 : decode cX3_sees 4 = .ok (.aload_n 0, 1) := by decide +kernel
theorem dX3_sees_5 : decode cX3_sees 5 = .ok (.getfield 18, 3) := by decide +kernel
theorem dX3_sees_8 : decode cX3_sees 8 = .ok (.if_icmp .ge 20, 3) := by decide +kernel
theorem dX3_sees_11 : decode cX3_sees 11 = .ok (.aload_n 0, 1) := by decide +kernel
theorem dX3_sees_12 : decode cX3_sees 12 = .ok (.getfield 9, 3) := by decide +kernel
theorem dX3_sees_15 : decode cX3_sees 15 = .ok (.aload_n 0, 1) := by decide +kernel
theorem dX3_sees_16 : decode cX3_sees 16 = .ok (.getfield 22, 3) := by decide +kernel
theorem dX3_sees_19 : decode cX3_sees 19 = .ok (.iaload, 1) := by decide +kernel
theorem dX3_sees_20 : decode cX3_sees 20 = .ok (.iload_n 1, 1) := by decide +kernel
theorem dX3_sees_21 : decode cX3_sees 21 = .ok (.if_icmp .ne 7, 3) := by decide +kernel
theorem dX3_sees_24 : decode cX3_sees 24 = .ok (.iconst 1, 1) := by decide +kernel
theorem dX3_sees_25 : decode cX3_sees 25 = .ok (.goto 4, 3) := by decide +kernel
theorem dX3_sees_28 : decode cX3_sees 28 = .ok (.iconst 0, 1) := by decide +kernel
theorem dX3_sees_29 : decode cX3_sees 29 = .ok (.ireturn, 1) := by decide +kernel
theorem dX3_seesDigit_0 : decode cX3_seesDigit 0 = .ok (.aload_n 0, 1) := by decide +kernel
theorem dX3_seesDigit_1 : decode cX3_seesDigit 1 = .ok (.getfield 22, 3) := by decide +kernel
theorem dX3_seesDigit_4 : decode cX3_seesDigit 4 = .ok (.aload_n 0, 1) := by decide +kernel
theorem dX3_seesDigit_5 : decode cX3_seesDigit 5 = .ok (.getfield 18, 3) := by decide +kernel
theorem dX3_seesDigit_8 : decode cX3_seesDigit 8 = .ok (.if_icmp .ge 26, 3) := by decide +kernel
theorem dX3_seesDigit_11 : decode cX3_seesDigit 11 = .ok (.aload_n 0, 1) := by decide +kernel
theorem dX3_seesDigit_12 : decode cX3_seesDigit 12 = .ok (.getfield 9, 3) := by decide +kernel
theorem dX3_seesDigit_15 : decode cX3_seesDigit 15 = .ok (.aload_n 0, 1) := by decide +kernel
theorem dX3_seesDigit_16 : decode cX3_seesDigit 16 = .ok (.getfield 22, 3) := by decide +kernel
theorem dX3_seesDigit_19 : decode cX3_seesDigit 19 = .ok (.iaload, 1) := by decide +kernel
theorem dX3_seesDigit_20 : decode cX3_seesDigit 20 = .ok (.bipush 48, 2) := by decide +kernel
theorem dX3_seesDigit_22 : decode cX3_seesDigit 22 = .ok (.bipush 57, 2) := by decide +kernel
theorem dX3_seesDigit_24 : decode cX3_seesDigit 24 = .ok (.invokestatic 79, 3) := by decide +kernel
theorem dX3_seesDigit_27 : decode cX3_seesDigit 27 = .ok (.ifCond .eq 7, 3) := by decide +kernel
theorem dX3_seesDigit_30 : decode cX3_seesDigit 30 = .ok (.iconst 1, 1) := by decide +kernel
theorem dX3_seesDigit_31 : decode cX3_seesDigit 31 = .ok (.goto 4, 3) := by decide +kernel
theorem dX3_seesDigit_34 : decode cX3_seesDigit 34 = .ok (.iconst 0, 1) := by decide +kernel
theorem dX3_seesDigit_35 : decode cX3_seesDigit 35 = .ok (.ireturn, 1) := by decide +kernel
theorem dX3_isLetter_0 : decode cX3_isLetter 0 = .ok (.iload_n 0, 1) := by decide +kernel
theorem dX3_isLetter_1 : decode cX3_isLetter 1 = .ok (.bipush 97, 2) := by decide +kernel
theorem dX3_isLetter_3 : decode cX3_isLetter 3 = .ok (.bipush 122, 2) := by decide +kernel
theorem dX3_isLetter_5 : decode cX3_isLetter 5 = .ok (.invokestatic 79, 3) := by decide +kernel
theorem dX3_isLetter_8 : decode cX3_isLetter 8 = .ok (.ireturn, 1) := by decide +kernel
theorem dX3_wordOf_0 : decode cX3_wordOf 0 = .ok (.iload_n 0, 1) := by decide +kernel
theorem dX3_wordOf_1 : decode cX3_wordOf 1 = .ok (.tableswitch 64 0 6 #[43, 46, 49, 52, 55, 58, 61], 43) := by decide +kernel
theorem dX3_wordOf_44 : decode cX3_wordOf 44 = .ok (.ldc 83, 2) := by decide +kernel
theorem dX3_wordOf_46 : decode cX3_wordOf 46 = .ok (.areturn, 1) := by decide +kernel
theorem dX3_wordOf_47 : decode cX3_wordOf 47 = .ok (.ldc 85, 2) := by decide +kernel
theorem dX3_wordOf_49 : decode cX3_wordOf 49 = .ok (.areturn, 1) := by decide +kernel
theorem dX3_wordOf_50 : decode cX3_wordOf 50 = .ok (.ldc 87, 2) := by decide +kernel
theorem dX3_wordOf_52 : decode cX3_wordOf 52 = .ok (.areturn, 1) := by decide +kernel
theorem dX3_wordOf_53 : decode cX3_wordOf 53 = .ok (.ldc 89, 2) := by decide +kernel
theorem dX3_wordOf_55 : decode cX3_wordOf 55 = .ok (.areturn, 1) := by decide +kernel
theorem dX3_wordOf_56 : decode cX3_wordOf 56 = .ok (.ldc 91, 2) := by decide +kernel
theorem dX3_wordOf_58 : decode cX3_wordOf 58 = .ok (.areturn, 1) := by decide +kernel
theorem dX3_wordOf_59 : decode cX3_wordOf 59 = .ok (.ldc 93, 2) := by decide +kernel
theorem dX3_wordOf_61 : decode cX3_wordOf 61 = .ok (.areturn, 1) := by decide +kernel
theorem dX3_wordOf_62 : decode cX3_wordOf 62 = .ok (.ldc 95, 2) := by decide +kernel
theorem dX3_wordOf_64 : decode cX3_wordOf 64 = .ok (.areturn, 1) := by decide +kernel
theorem dX3_wordOf_65 : decode cX3_wordOf 65 = .ok (.ldc 97, 2) := by decide +kernel
theorem dX3_wordOf_67 : decode cX3_wordOf 67 = .ok (.areturn, 1) := by decide +kernel
theorem dX3_numbersOf_0 : decode cX3_numbersOf 0 = .ok (.iload_n 0, 1) := by decide +kernel
theorem dX3_numbersOf_1 : decode cX3_numbersOf 1 = .ok (.tableswitch 43 0 5 #[41, 39, 43, 43, 41, 41], 39) := by decide +kernel
theorem dX3_numbersOf_40 : decode cX3_numbersOf 40 = .ok (.iconst 4, 1) := by decide +kernel
theorem dX3_numbersOf_41 : decode cX3_numbersOf 41 = .ok (.ireturn, 1) := by decide +kernel
theorem dX3_numbersOf_42 : decode cX3_numbersOf 42 = .ok (.iconst 2, 1) := by decide +kernel
theorem dX3_numbersOf_43 : decode cX3_numbersOf 43 = .ok (.ireturn, 1) := by decide +kernel
theorem dX3_numbersOf_44 : decode cX3_numbersOf 44 = .ok (.iconst 1, 1) := by decide +kernel
theorem dX3_numbersOf_45 : decode cX3_numbersOf 45 = .ok (.ireturn, 1) := by decide +kernel
theorem dX4_init_0 : decode cX4_init 0 = .ok (.aload_n 0, 1) := by decide +kernel
theorem dX4_init_1 : decode cX4_init 1 = .ok (.invokespecial 3, 3) := by decide +kernel
theorem dX4_init_4 : decode cX4_init 4 = .ok (.aload_n 0, 1) := by decide +kernel
theorem dX4_init_5 : decode cX4_init 5 = .ok (.bipush 10, 2) := by decide +kernel
theorem dX4_init_7 : decode cX4_init 7 = .ok (.newarray .boolean, 2) := by decide +kernel
theorem dX4_init_9 : decode cX4_init 9 = .ok (.putfield 9, 3) := by decide +kernel
theorem dX4_init_12 : decode cX4_init 12 = .ok (.aload_n 0, 1) := by decide +kernel
theorem dX4_init_13 : decode cX4_init 13 = .ok (.bipush 6, 2) := by decide +kernel
theorem dX4_init_15 : decode cX4_init 15 = .ok (.newarray .int, 2) := by decide +kernel
theorem dX4_init_17 : decode cX4_init 17 = .ok (.putfield 15, 3) := by decide +kernel
theorem dX4_init_20 : decode cX4_init 20 = .ok (.aload_n 0, 1) := by decide +kernel
theorem dX4_init_21 : decode cX4_init 21 = .ok (.bipush 6, 2) := by decide +kernel
theorem dX4_init_23 : decode cX4_init 23 = .ok (.bipush 8, 2) := by decide +kernel
theorem dX4_init_25 : decode cX4_init 25 = .ok (.multianewarray 19 2, 4) := by decide +kernel
theorem dX4_init_29 : decode cX4_init 29 = .ok (.putfield 21, 3) := by decide +kernel
theorem dX4_init_32 : decode cX4_init 32 = .ok (.aload_n 0, 1) := by decide +kernel
theorem dX4_init_33 : decode cX4_init 33 = .ok (.bipush 6, 2) := by decide +kernel
theorem dX4_init_35 : decode cX4_init 35 = .ok (.newarray .long, 2) := by decide +kernel
theorem dX4_init_37 : decode cX4_init 37 = .ok (.putfield 24, 3) := by decide +kernel
theorem dX4_init_40 : decode cX4_init 40 = .ok (.aload_n 0, 1) := by decide +kernel
theorem dX4_init_41 : decode cX4_init 41 = .ok (.bipush 10, 2) := by decide +kernel
theorem dX4_init_43 : decode cX4_init 43 = .ok (.newarray .long, 2) := by decide +kernel
theorem dX4_init_45 : decode cX4_init 45 = .ok (.putfield 28, 3) := by decide +kernel
theorem dX4_init_48 : decode cX4_init 48 = .ok (.aload_n 0, 1) := by decide +kernel
theorem dX4_init_49 : decode cX4_init 49 = .ok (.bipush 10, 2) := by decide +kernel
theorem dX4_init_51 : decode cX4_init 51 = .ok (.newarray .long, 2) := by decide +kernel
theorem dX4_init_53 : decode cX4_init 53 = .ok (.putfield 31, 3) := by decide +kernel
theorem dX4_init_56 : decode cX4_init 56 = .ok (.aload_n 0, 1) := by decide +kernel
theorem dX4_init_57 : decode cX4_init 57 = .ok (.lconst 1, 1) := by decide +kernel
theorem dX4_init_58 : decode cX4_init 58 = .ok (.putfield 34, 3) := by decide +kernel
theorem dX4_init_61 : decode cX4_init 61 = .ok (.aload_n 0, 1) := by decide +kernel
theorem dX4_init_62 : decode cX4_init 62 = .ok (.iconst (-1), 1) := by decide +kernel
theorem dX4_init_63 : decode cX4_init 63 = .ok (.putfield 38, 3) := by decide +kernel
theorem dX4_init_66 : decode cX4_init 66 = .ok (.aload_n 0, 1) := by decide +kernel
theorem dX4_init_67 : decode cX4_init 67 = .ok (.lconst 1, 1) := by decide +kernel
theorem dX4_init_68 : decode cX4_init 68 = .ok (.putfield 42, 3) := by decide +kernel
theorem dX4_init_71 : decode cX4_init 71 = .ok (.aload_n 0, 1) := by decide +kernel
theorem dX4_init_72 : decode cX4_init 72 = .ok (.aload_n 1, 1) := by decide +kernel
theorem dX4_init_73 : decode cX4_init 73 = .ok (.putfield 45, 3) := by decide +kernel
theorem dX4_init_76 : decode cX4_init 76 = .ok (.return_, 1) := by decide +kernel
theorem dX4_take_0 : decode cX4_take 0 = .ok (.iconst 0, 1) := by decide +kernel
theorem dX4_take_1 : decode cX4_take 1 = .ok (.istore_n 3, 1) := by decide +kernel
theorem dX4_take_2 : decode cX4_take 2 = .ok (.iload_n 3, 1) := by decide +kernel
theorem dX4_take_3 : decode cX4_take 3 = .ok (.bipush 10, 2) := by decide +kernel
theorem dX4_take_5 : decode cX4_take 5 = .ok (.if_icmp .ge 53, 3) := by decide +kernel
theorem dX4_take_8 : decode cX4_take 8 = .ok (.aload_n 0, 1) := by decide +kernel
theorem dX4_take_9 : decode cX4_take 9 = .ok (.getfield 9, 3) := by decide +kernel
theorem dX4_take_12 : decode cX4_take 12 = .ok (.iload_n 3, 1) := by decide +kernel
theorem dX4_take_13 : decode cX4_take 13 = .ok (.iload_n 3, 1) := by decide +kernel
theorem dX4_take_14 : decode cX4_take 14 = .ok (.aload_n 0, 1) := by decide +kernel
theorem dX4_take_15 : decode cX4_take 15 = .ok (.getfield 45, 3) := by decide +kernel
theorem dX4_take_18 : decode cX4_take 18 = .ok (.getfield 49, 3) := by decide +kernel
theorem dX4_take_21 : decode cX4_take 21 = .ok (.if_icmp .ge 29, 3) := by decide +kernel
theorem dX4_take_24 : decode cX4_take 24 = .ok (.aload_n 0, 1) := by decide +kernel
theorem dX4_take_25 : decode cX4_take 25 = .ok (.getfield 45, 3) := by decide +kernel
theorem dX4_take_28 : decode cX4_take 28 = .ok (.getfield 54, 3) := by decide +kernel
theorem dX4_take_31 : decode cX4_take 31 = .ok (.iload_n 3, 1) := by decide +kernel
theorem dX4_take_32 : decode cX4_take 32 = .ok (.baload, 1) := by decide +kernel
theorem dX4_take_33 : decode cX4_take 33 = .ok (.ifCond .eq 17, 3) := by decide +kernel
theorem dX4_take_36 : decode cX4_take 36 = .ok (.iload_n 3, 1) := by decide +kernel
theorem dX4_take_37 : decode cX4_take 37 = .ok (.iload_n 1, 1) := by decide +kernel
theorem dX4_take_38 : decode cX4_take 38 = .ok (.if_icmp .eq 12, 3) := by decide +kernel
theorem dX4_take_41 : decode cX4_take 41 = .ok (.iload_n 3, 1) := by decide +kernel
theorem dX4_take_42 : decode cX4_take 42 = .ok (.iload_n 2, 1) := by decide +kernel
theorem dX4_take_43 : decode cX4_take 43 = .ok (.if_icmp .eq 7, 3) := by decide +kernel
theorem dX4_take_46 : decode cX4_take 46 = .ok (.iconst 1, 1) := by decide +kernel
theorem dX4_take_47 : decode cX4_take 47 = .ok (.goto 4, 3) := by decide +kernel
theorem dX4_take_50 : decode cX4_take 50 = .ok (.iconst 0, 1) := by decide +kernel
theorem dX4_take_51 : decode cX4_take 51 = .ok (.bastore, 1) := by decide +kernel
theorem dX4_take_52 : decode cX4_take 52 = .ok (.iinc 3 1, 3) := by decide +kernel
theorem dX4_take_55 : decode cX4_take 55 = .ok (.goto (-53), 3) := by decide +kernel
theorem dX4_take_58 : decode cX4_take 58 = .ok (.aload_n 0, 1) := by decide +kernel
theorem dX4_take_59 : decode cX4_take 59 = .ok (.invokevirtual 57, 3) := by decide +kernel
theorem dX4_take_62 : decode cX4_take 62 = .ok (.return_, 1) := by decide +kernel
theorem dX4_narrow_0 : decode cX4_narrow 0 = .ok (.aload_n 0, 1) := by decide +kernel
theorem dX4_narrow_1 : decode cX4_narrow 1 = .ok (.getfield 15, 3) := by decide +kernel
theorem dX4_narrow_4 : decode cX4_narrow 4 = .ok (.iload_n 1, 1) := by decide +kernel
theorem dX4_narrow_5 : decode cX4_narrow 5 = .ok (.iaload, 1) := by decide +kernel
theorem dX4_narrow_6 : decode cX4_narrow 6 = .ok (.istore_n 2, 1) := by decide +kernel
theorem dX4_narrow_7 : decode cX4_narrow 7 = .ok (.iconst 0, 1) := by decide +kernel
theorem dX4_narrow_8 : decode cX4_narrow 8 = .ok (.istore_n 3, 1) := by decide +kernel
theorem dX4_narrow_9 : decode cX4_narrow 9 = .ok (.iload_n 3, 1) := by decide +kernel
theorem dX4_narrow_10 : decode cX4_narrow 10 = .ok (.aload_n 0, 1) := by decide +kernel
theorem dX4_narrow_11 : decode cX4_narrow 11 = .ok (.getfield 45, 3) := by decide +kernel
theorem dX4_narrow_14 : decode cX4_narrow 14 = .ok (.getfield 49, 3) := by decide +kernel
theorem dX4_narrow_17 : decode cX4_narrow 17 = .ok (.if_icmp .ge 47, 3) := by decide +kernel
theorem dX4_narrow_20 : decode cX4_narrow 20 = .ok (.aload_n 0, 1) := by decide +kernel
theorem dX4_narrow_21 : decode cX4_narrow 21 = .ok (.getfield 9, 3) := by decide +kernel
theorem dX4_narrow_24 : decode cX4_narrow 24 = .ok (.iload_n 3, 1) := by decide +kernel
theorem dX4_narrow_25 : decode cX4_narrow 25 = .ok (.aload_n 0, 1) := by decide +kernel
theorem dX4_narrow_26 : decode cX4_narrow 26 = .ok (.getfield 9, 3) := by decide +kernel
theorem dX4_narrow_29 : decode cX4_narrow 29 = .ok (.iload_n 3, 1) := by decide +kernel
theorem dX4_narrow_30 : decode cX4_narrow 30 = .ok (.baload, 1) := by decide +kernel
theorem dX4_narrow_31 : decode cX4_narrow 31 = .ok (.ifCond .eq 25, 3) := by decide +kernel
theorem dX4_narrow_34 : decode cX4_narrow 34 = .ok (.aload_n 0, 1) := by decide +kernel
theorem dX4_narrow_35 : decode cX4_narrow 35 = .ok (.getfield 15, 3) := by decide +kernel
theorem dX4_narrow_38 : decode cX4_narrow 38 = .ok (.aload_n 0, 1) := by decide +kernel
theorem dX4_narrow_39 : decode cX4_narrow 39 = .ok (.getfield 45, 3) := by decide +kernel
theorem dX4_narrow_42 : decode cX4_narrow 42 = .ok (.getfield 60, 3) := by decide +kernel
theorem dX4_narrow_45 : decode cX4_narrow 45 = .ok (.iload_n 3, 1) := by decide +kernel
theorem dX4_narrow_46 : decode cX4_narrow 46 = .ok (.iaload, 1) := by decide +kernel
theorem dX4_narrow_47 : decode cX4_narrow 47 = .ok (.iaload, 1) := by decide +kernel
theorem dX4_narrow_48 : decode cX4_narrow 48 = .ok (.iload_n 2, 1) := by decide +kernel
theorem dX4_narrow_49 : decode cX4_narrow 49 = .ok (.if_icmp .ne 7, 3) := by decide +kernel
theorem dX4_narrow_52 : decode cX4_narrow 52 = .ok (.iconst 1, 1) := by decide +kernel
theorem dX4_narrow_53 : decode cX4_narrow 53 = .ok (.goto 4, 3) := by decide +kernel
theorem dX4_narrow_56 : decode cX4_narrow 56 = .ok (.iconst 0, 1) := by decide +kernel
theorem dX4_narrow_57 : decode cX4_narrow 57 = .ok (.bastore, 1) := by decide +kernel
theorem dX4_narrow_58 : decode cX4_narrow 58 = .ok (.iinc 3 1, 3) := by decide +kernel
theorem dX4_narrow_61 : decode cX4_narrow 61 = .ok (.goto (-52), 3) := by decide +kernel
theorem dX4_narrow_64 : decode cX4_narrow 64 = .ok (.aload_n 0, 1) := by decide +kernel
theorem dX4_narrow_65 : decode cX4_narrow 65 = .ok (.invokevirtual 57, 3) := by decide +kernel
theorem dX4_narrow_68 : decode cX4_narrow 68 = .ok (.return_, 1) := by decide +kernel
theorem dX4_findIslands_0 : decode cX4_findIslands 0 = .ok (.iconst 0, 1) := by decide +kernel
theorem dX4_findIslands_1 : decode cX4_findIslands 1 = .ok (.istore_n 1, 1) := by decide +kernel
theorem dX4_findIslands_2 : decode cX4_findIslands 2 = .ok (.iload_n 1, 1) := by decide +kernel
theorem dX4_findIslands_3 : decode cX4_findIslands 3 = .ok (.bipush 6, 2) := by decide +kernel
theorem dX4_findIslands_5 : decode cX4_findIslands 5 = .ok (.if_icmp .ge 16, 3) := by decide +kernel
theorem dX4_findIslands_8 : decode cX4_findIslands 8 = .ok (.aload_n 0, 1) := by decide +kernel
theorem dX4_findIslands_9 : decode cX4_findIslands 9 = .ok (.getfield 15, 3) := by decide +kernel
theorem dX4_findIslands_12 : decode cX4_findIslands 12 = .ok (.iload_n 1, 1) := by decide +kernel
theorem dX4_findIslands_13 : decode cX4_findIslands 13 = .ok (.iload_n 1, 1) := by decide +kernel
theorem dX4_findIslands_14 : decode cX4_findIslands 14 = .ok (.iastore, 1) := by decide +kernel
theorem dX4_findIslands_15 : decode cX4_findIslands 15 = .ok (.iinc 1 1, 3) := by decide +kernel
theorem dX4_findIslands_18 : decode cX4_findIslands 18 = .ok (.goto (-16), 3) := by decide +kernel
theorem dX4_findIslands_21 : decode cX4_findIslands 21 = .ok (.iconst 0, 1) := by decide +kernel
theorem dX4_findIslands_22 : decode cX4_findIslands 22 = .ok (.istore_n 1, 1) := by decide +kernel
theorem dX4_findIslands_23 : decode cX4_findIslands 23 = .ok (.iload_n 1, 1) := by decide +kernel
theorem dX4_findIslands_24 : decode cX4_findIslands 24 = .ok (.aload_n 0, 1) := by decide +kernel
theorem dX4_findIslands_25 : decode cX4_findIslands 25 = .ok (.getfield 45, 3) := by decide +kernel
theorem dX4_findIslands_28 : decode cX4_findIslands 28 = .ok (.getfield 49, 3) := by decide +kernel
theorem dX4_findIslands_31 : decode cX4_findIslands 31 = .ok (.if_icmp .ge 50, 3) := by decide +kernel
theorem dX4_findIslands_34 : decode cX4_findIslands 34 = .ok (.aload_n 0, 1) := by decide +kernel
theorem dX4_findIslands_35 : decode cX4_findIslands 35 = .ok (.getfield 9, 3) := by decide +kernel
theorem dX4_findIslands_38 : decode cX4_findIslands 38 = .ok (.iload_n 1, 1) := by decide +kernel
theorem dX4_findIslands_39 : decode cX4_findIslands 39 = .ok (.baload, 1) := by decide +kernel
theorem dX4_findIslands_40 : decode cX4_findIslands 40 = .ok (.ifCond .eq 35, 3) := by decide +kernel
theorem dX4_findIslands_43 : decode cX4_findIslands 43 = .ok (.aload_n 0, 1) := by decide +kernel
theorem dX4_findIslands_44 : decode cX4_findIslands 44 = .ok (.aload_n 0, 1) := by decide +kernel
theorem dX4_findIslands_45 : decode cX4_findIslands 45 = .ok (.getfield 15, 3) := by decide +kernel
theorem dX4_findIslands_48 : decode cX4_findIslands 48 = .ok (.aload_n 0, 1) := by decide +kernel
theorem dX4_findIslands_49 : decode cX4_findIslands 49 = .ok (.getfield 45, 3) := by decide +kernel
theorem dX4_findIslands_52 : decode cX4_findIslands 52 = .ok (.getfield 60, 3) := by decide +kernel
theorem dX4_findIslands_55 : decode cX4_findIslands 55 = .ok (.iload_n 1, 1) := by decide +kernel
theorem dX4_findIslands_56 : decode cX4_findIslands 56 = .ok (.iaload, 1) := by decide +kernel
theorem dX4_findIslands_57 : decode cX4_findIslands 57 = .ok (.iaload, 1) := by decide +kernel
theorem dX4_findIslands_58 : decode cX4_findIslands 58 = .ok (.aload_n 0, 1) := by decide +kernel
theorem dX4_findIslands_59 : decode cX4_findIslands 59 = .ok (.getfield 15, 3) := by decide +kernel
theorem dX4_findIslands_62 : decode cX4_findIslands 62 = .ok (.aload_n 0, 1) := by decide +kernel
theorem dX4_findIslands_63 : decode cX4_findIslands 63 = .ok (.getfield 45, 3) := by decide +kernel
theorem dX4_findIslands_66 : decode cX4_findIslands 66 = .ok (.getfield 63, 3) := by decide +kernel
theorem dX4_findIslands_69 : decode cX4_findIslands 69 = .ok (.iload_n 1, 1) := by decide +kernel
theorem dX4_findIslands_70 : decode cX4_findIslands 70 = .ok (.iaload, 1) := by decide +kernel
theorem dX4_findIslands_71 : decode cX4_findIslands 71 = .ok (.iaload, 1) := by decide +kernel
theorem dX4_findIslands_72 : decode cX4_findIslands 72 = .ok (.invokevirtual 66, 3) := by decide +kernel
theorem dX4_findIslands_75 : decode cX4_findIslands 75 = .ok (.iinc 1 1, 3) := by decide +kernel
theorem dX4_findIslands_78 : decode cX4_findIslands 78 = .ok (.goto (-55), 3) := by decide +kernel
theorem dX4_findIslands_81 : decode cX4_findIslands 81 = .ok (.return_, 1) := by decide +kernel
theorem dX4_merge_0 : decode cX4_merge 0 = .ok (.iload_n 1, 1) := by decide +kernel
theorem dX4_merge_1 : decode cX4_merge 1 = .ok (.iload_n 2, 1) := by decide +kernel
theorem dX4_merge_2 : decode cX4_merge 2 = .ok (.if_icmp .ge 7, 3) := by decide +kernel
theorem dX4_merge_5 : decode cX4_merge 5 = .ok (.iload_n 1, 1) := by decide +kernel
theorem dX4_merge_6 : decode cX4_merge 6 = .ok (.goto 4, 3) := by decide +kernel
theorem dX4_merge_9 : decode cX4_merge 9 = .ok (.iload_n 2, 1) := by decide +kernel
theorem dX4_merge_10 : decode cX4_merge 10 = .ok (.istore_n 3, 1) := by decide +kernel
theorem dX4_merge_11 : decode cX4_merge 11 = .ok (.iload_n 1, 1) := by decide +kernel
theorem dX4_merge_12 : decode cX4_merge 12 = .ok (.iload_n 2, 1) := by decide +kernel
theorem dX4_merge_13 : decode cX4_merge 13 = .ok (.if_icmp .ge 7, 3) := by decide +kernel
theorem dX4_merge_16 : decode cX4_merge 16 = .ok (.iload_n 2, 1) := by decide +kernel
theorem dX4_merge_17 : decode cX4_merge 17 = .ok (.goto 4, 3) := by decide +kernel
theorem dX4_merge_20 : decode cX4_merge 20 = .ok (.iload_n 1, 1) := by decide +kernel
theorem dX4_merge_21 : decode cX4_merge 21 = .ok (.istore 4, 2) := by decide +kernel
theorem dX4_merge_23 : decode cX4_merge 23 = .ok (.iconst 0, 1) := by decide +kernel
theorem dX4_merge_24 : decode cX4_merge 24 = .ok (.istore 5, 2) := by decide +kernel
theorem dX4_merge_26 : decode cX4_merge 26 = .ok (.iload 5, 2) := by decide +kernel
theorem dX4_merge_28 : decode cX4_merge 28 = .ok (.aload_n 0, 1) := by decide +kernel
theorem dX4_merge_29 : decode cX4_merge 29 = .ok (.getfield 45, 3) := by decide +kernel
theorem dX4_merge_32 : decode cX4_merge 32 = .ok (.getfield 70, 3) := by decide +kernel
theorem dX4_merge_35 : decode cX4_merge 35 = .ok (.if_icmp .ge 29, 3) := by decide +kernel
theorem dX4_merge_38 : decode cX4_merge 38 = .ok (.aload_n 0, 1) := by decide +kernel
theorem dX4_merge_39 : decode cX4_merge 39 = .ok (.getfield 15, 3) := by decide +kernel
theorem dX4_merge_42 : decode cX4_merge 42 = .ok (.iload 5, 2) := by decide +kernel
theorem dX4_merge_44 : decode cX4_merge 44 = .ok (.iaload, 1) := by decide +kernel
theorem dX4_merge_45 : decode cX4_merge 45 = .ok (.iload 4, 2) := by decide +kernel
theorem dX4_merge_47 : decode cX4_merge 47 = .ok (.if_icmp .ne 11, 3) := by decide +kernel
theorem dX4_merge_50 : decode cX4_merge 50 = .ok (.aload_n 0, 1) := by decide +kernel
theorem dX4_merge_51 : decode cX4_merge 51 = .ok (.getfield 15, 3) := by decide +kernel
theorem dX4_merge_54 : decode cX4_merge 54 = .ok (.iload 5, 2) := by decide +kernel
theorem dX4_merge_56 : decode cX4_merge 56 = .ok (.iload_n 3, 1) := by decide +kernel
theorem dX4_merge_57 : decode cX4_merge 57 = .ok (.iastore, 1) := by decide +kernel
theorem dX4_merge_58 : decode cX4_merge 58 = .ok (.iinc 5 1, 3) := by decide +kernel
theorem dX4_merge_61 : decode cX4_merge 61 = .ok (.goto (-35), 3) := by decide +kernel
theorem dX4_merge_64 : decode cX4_merge 64 = .ok (.return_, 1) := by decide +kernel
theorem dX4_joins_0 : decode cX4_joins 0 = .ok (.aload_n 0, 1) := by decide +kernel
theorem dX4_joins_1 : decode cX4_joins 1 = .ok (.getfield 15, 3) := by decide +kernel
theorem dX4_joins_4 : decode cX4_joins 4 = .ok (.iload_n 1, 1) := by decide +kernel
theorem dX4_joins_5 : decode cX4_joins 5 = .ok (.iaload, 1) := by decide +kernel
theorem dX4_joins_6 : decode cX4_joins 6 = .ok (.aload_n 0, 1) := by decide +kernel
theorem dX4_joins_7 : decode cX4_joins 7 = .ok (.getfield 15, 3) := by decide +kernel
theorem dX4_joins_10 : decode cX4_joins 10 = .ok (.iload_n 2, 1) := by decide +kernel
theorem dX4_joins_11 : decode cX4_joins 11 = .ok (.iaload, 1) := by decide +kernel
theorem dX4_joins_12 : decode cX4_joins 12 = .ok (.if_icmp .ne 7, 3) := by decide +kernel
theorem dX4_joins_15 : decode cX4_joins 15 = .ok (.iconst 1, 1) := by decide +kernel
theorem dX4_joins_16 : decode cX4_joins 16 = .ok (.goto 4, 3) := by decide +kernel
theorem dX4_joins_19 : decode cX4_joins 19 = .ok (.iconst 0, 1) := by decide +kernel
theorem dX4_joins_20 : decode cX4_joins 20 = .ok (.ireturn, 1) := by decide +kernel
theorem dX4_islands_0 : decode cX4_islands 0 = .ok (.iconst 0, 1) := by decide +kernel
theorem dX4_islands_1 : decode cX4_islands 1 = .ok (.istore_n 1, 1) := by decide +kernel
theorem dX4_islands_2 : decode cX4_islands 2 = .ok (.iconst 0, 1) := by decide +kernel
theorem dX4_islands_3 : decode cX4_islands 3 = .ok (.istore_n 2, 1) := by decide +kernel
theorem dX4_islands_4 : decode cX4_islands 4 = .ok (.iload_n 2, 1) := by decide +kernel
theorem dX4_islands_5 : decode cX4_islands 5 = .ok (.aload_n 0, 1) := by decide +kernel
theorem dX4_islands_6 : decode cX4_islands 6 = .ok (.getfield 45, 3) := by decide +kernel
theorem dX4_islands_9 : decode cX4_islands 9 = .ok (.getfield 70, 3) := by decide +kernel
theorem dX4_islands_12 : decode cX4_islands 12 = .ok (.if_icmp .ge 22, 3) := by decide +kernel
theorem dX4_islands_15 : decode cX4_islands 15 = .ok (.aload_n 0, 1) := by decide +kernel
theorem dX4_islands_16 : decode cX4_islands 16 = .ok (.getfield 15, 3) := by decide +kernel
theorem dX4_islands_19 : decode cX4_islands 19 = .ok (.iload_n 2, 1) := by decide +kernel
theorem dX4_islands_20 : decode cX4_islands 20 = .ok (.iaload, 1) := by decide +kernel
theorem dX4_islands_21 : decode cX4_islands 21 = .ok (.iload_n 2, 1) := by decide +kernel
theorem dX4_islands_22 : decode cX4_islands 22 = .ok (.if_icmp .ne 6, 3) := by decide +kernel
theorem dX4_islands_25 : decode cX4_islands 25 = .ok (.iinc 1 1, 3) := by decide +kernel
theorem dX4_islands_28 : decode cX4_islands 28 = .ok (.iinc 2 1, 3) := by decide +kernel
theorem dX4_islands_31 : decode cX4_islands 31 = .ok (.goto (-27), 3) := by decide +kernel
theorem dX4_islands_34 : decode cX4_islands 34 = .ok (.iload_n 1, 1) := by decide +kernel
theorem dX4_islands_35 : decode cX4_islands 35 = .ok (.ireturn, 1) := by decide +kernel
theorem dX4_ownSum_0 : decode cX4_ownSum 0 = .ok (.iconst 0, 1) := by decide +kernel
theorem dX4_ownSum_1 : decode cX4_ownSum 1 = .ok (.istore_n 2, 1) := by decide +kernel
theorem dX4_ownSum_2 : decode cX4_ownSum 2 = .ok (.iconst 0, 1) := by decide +kernel
theorem dX4_ownSum_3 : decode cX4_ownSum 3 = .ok (.istore_n 3, 1) := by decide +kernel
theorem dX4_ownSum_4 : decode cX4_ownSum 4 = .ok (.iload_n 3, 1) := by decide +kernel
theorem dX4_ownSum_5 : decode cX4_ownSum 5 = .ok (.aload_n 0, 1) := by decide +kernel
theorem dX4_ownSum_6 : decode cX4_ownSum 6 = .ok (.getfield 45, 3) := by decide +kernel
theorem dX4_ownSum_9 : decode cX4_ownSum 9 = .ok (.getfield 70, 3) := by decide +kernel
theorem dX4_ownSum_12 : decode cX4_ownSum 12 = .ok (.if_icmp .ge 31, 3) := by decide +kernel
theorem dX4_ownSum_15 : decode cX4_ownSum 15 = .ok (.aload_n 0, 1) := by decide +kernel
theorem dX4_ownSum_16 : decode cX4_ownSum 16 = .ok (.getfield 15, 3) := by decide +kernel
theorem dX4_ownSum_19 : decode cX4_ownSum 19 = .ok (.iload_n 3, 1) := by decide +kernel
theorem dX4_ownSum_20 : decode cX4_ownSum 20 = .ok (.iaload, 1) := by decide +kernel
theorem dX4_ownSum_21 : decode cX4_ownSum 21 = .ok (.iload_n 1, 1) := by decide +kernel
theorem dX4_ownSum_22 : decode cX4_ownSum 22 = .ok (.if_icmp .ne 15, 3) := by decide +kernel
theorem dX4_ownSum_25 : decode cX4_ownSum 25 = .ok (.iload_n 2, 1) := by decide +kernel
theorem dX4_ownSum_26 : decode cX4_ownSum 26 = .ok (.aload_n 0, 1) := by decide +kernel
theorem dX4_ownSum_27 : decode cX4_ownSum 27 = .ok (.getfield 45, 3) := by decide +kernel
theorem dX4_ownSum_30 : decode cX4_ownSum 30 = .ok (.getfield 73, 3) := by decide +kernel
theorem dX4_ownSum_33 : decode cX4_ownSum 33 = .ok (.iload_n 3, 1) := by decide +kernel
theorem dX4_ownSum_34 : decode cX4_ownSum 34 = .ok (.iaload, 1) := by decide +kernel
theorem dX4_ownSum_35 : decode cX4_ownSum 35 = .ok (.iadd, 1) := by decide +kernel
theorem dX4_ownSum_36 : decode cX4_ownSum 36 = .ok (.istore_n 2, 1) := by decide +kernel
theorem dX4_ownSum_37 : decode cX4_ownSum 37 = .ok (.iinc 3 1, 3) := by decide +kernel
theorem dX4_ownSum_40 : decode cX4_ownSum 40 = .ok (.goto (-36), 3) := by decide +kernel
theorem dX4_ownSum_43 : decode cX4_ownSum 43 = .ok (.iload_n 2, 1) := by decide +kernel
theorem dX4_ownSum_44 : decode cX4_ownSum 44 = .ok (.ireturn, 1) := by decide +kernel
theorem dX4_solve_0 : decode cX4_solve 0 = .ok (.iconst 0, 1) := by decide +kernel
theorem dX4_solve_1 : decode cX4_solve 1 = .ok (.istore_n 3, 1) := by decide +kernel
theorem dX4_solve_2 : decode cX4_solve 2 = .ok (.iload_n 3, 1) := by decide +kernel
theorem dX4_solve_3 : decode cX4_solve 3 = .ok (.aload_n 0, 1) := by decide +kernel
theorem dX4_solve_4 : decode cX4_solve 4 = .ok (.getfield 45, 3) := by decide +kernel
theorem dX4_solve_7 : decode cX4_solve 7 = .ok (.getfield 70, 3) := by decide +kernel
theorem dX4_solve_10 : decode cX4_solve 10 = .ok (.if_icmp .ge 16, 3) := by decide +kernel
theorem dX4_solve_13 : decode cX4_solve 13 = .ok (.aload_n 0, 1) := by decide +kernel
theorem dX4_solve_14 : decode cX4_solve 14 = .ok (.iload_n 3, 1) := by decide +kernel
theorem dX4_solve_15 : decode cX4_solve 15 = .ok (.iload_n 1, 1) := by decide +kernel
theorem dX4_solve_16 : decode cX4_solve 16 = .ok (.iload_n 2, 1) := by decide +kernel
theorem dX4_solve_17 : decode cX4_solve 17 = .ok (.invokevirtual 76, 3) := by decide +kernel
theorem dX4_solve_20 : decode cX4_solve 20 = .ok (.iinc 3 1, 3) := by decide +kernel
theorem dX4_solve_23 : decode cX4_solve 23 = .ok (.goto (-21), 3) := by decide +kernel
theorem dX4_solve_26 : decode cX4_solve 26 = .ok (.iconst 0, 1) := by decide +kernel
theorem dX4_solve_27 : decode cX4_solve 27 = .ok (.istore_n 3, 1) := by decide +kernel
theorem dX4_solve_28 : decode cX4_solve 28 = .ok (.iload_n 3, 1) := by decide +kernel
theorem dX4_solve_29 : decode cX4_solve 29 = .ok (.aload_n 0, 1) := by decide +kernel
theorem dX4_solve_30 : decode cX4_solve 30 = .ok (.getfield 45, 3) := by decide +kernel
theorem dX4_solve_33 : decode cX4_solve 33 = .ok (.getfield 49, 3) := by decide +kernel
theorem dX4_solve_36 : decode cX4_solve 36 = .ok (.if_icmp .ge 80, 3) := by decide +kernel
theorem dX4_solve_39 : decode cX4_solve 39 = .ok (.aload_n 0, 1) := by decide +kernel
theorem dX4_solve_40 : decode cX4_solve 40 = .ok (.getfield 9, 3) := by decide +kernel
theorem dX4_solve_43 : decode cX4_solve 43 = .ok (.iload_n 3, 1) := by decide +kernel
theorem dX4_solve_44 : decode cX4_solve 44 = .ok (.baload, 1) := by decide +kernel
theorem dX4_solve_45 : decode cX4_solve 45 = .ok (.ifCond .eq 65, 3) := by decide +kernel
theorem dX4_solve_48 : decode cX4_solve 48 = .ok (.aload_n 0, 1) := by decide +kernel
theorem dX4_solve_49 : decode cX4_solve 49 = .ok (.aload_n 0, 1) := by decide +kernel
theorem dX4_solve_50 : decode cX4_solve 50 = .ok (.getfield 45, 3) := by decide +kernel
theorem dX4_solve_53 : decode cX4_solve 53 = .ok (.getfield 60, 3) := by decide +kernel
theorem dX4_solve_56 : decode cX4_solve 56 = .ok (.iload_n 3, 1) := by decide +kernel
theorem dX4_solve_57 : decode cX4_solve 57 = .ok (.iaload, 1) := by decide +kernel
theorem dX4_solve_58 : decode cX4_solve 58 = .ok (.aload_n 0, 1) := by decide +kernel
theorem dX4_solve_59 : decode cX4_solve 59 = .ok (.getfield 45, 3) := by decide +kernel
theorem dX4_solve_62 : decode cX4_solve 62 = .ok (.getfield 63, 3) := by decide +kernel
theorem dX4_solve_65 : decode cX4_solve 65 = .ok (.iload_n 3, 1) := by decide +kernel
theorem dX4_solve_66 : decode cX4_solve 66 = .ok (.iaload, 1) := by decide +kernel
theorem dX4_solve_67 : decode cX4_solve 67 = .ok (.aload_n 0, 1) := by decide +kernel
theorem dX4_solve_68 : decode cX4_solve 68 = .ok (.getfield 45, 3) := by decide +kernel
theorem dX4_solve_71 : decode cX4_solve 71 = .ok (.getfield 80, 3) := by decide +kernel
theorem dX4_solve_74 : decode cX4_solve 74 = .ok (.iload_n 3, 1) := by decide +kernel
theorem dX4_solve_75 : decode cX4_solve 75 = .ok (.iaload, 1) := by decide +kernel
theorem dX4_solve_76 : decode cX4_solve 76 = .ok (.invokevirtual 83, 3) := by decide +kernel
theorem dX4_solve_79 : decode cX4_solve 79 = .ok (.aload_n 0, 1) := by decide +kernel
theorem dX4_solve_80 : decode cX4_solve 80 = .ok (.aload_n 0, 1) := by decide +kernel
theorem dX4_solve_81 : decode cX4_solve 81 = .ok (.getfield 45, 3) := by decide +kernel
theorem dX4_solve_84 : decode cX4_solve 84 = .ok (.getfield 63, 3) := by decide +kernel
theorem dX4_solve_87 : decode cX4_solve 87 = .ok (.iload_n 3, 1) := by decide +kernel
theorem dX4_solve_88 : decode cX4_solve 88 = .ok (.iaload, 1) := by decide +kernel
theorem dX4_solve_89 : decode cX4_solve 89 = .ok (.aload_n 0, 1) := by decide +kernel
theorem dX4_solve_90 : decode cX4_solve 90 = .ok (.getfield 45, 3) := by decide +kernel
theorem dX4_solve_93 : decode cX4_solve 93 = .ok (.getfield 60, 3) := by decide +kernel
theorem dX4_solve_96 : decode cX4_solve 96 = .ok (.iload_n 3, 1) := by decide +kernel
theorem dX4_solve_97 : decode cX4_solve 97 = .ok (.iaload, 1) := by decide +kernel
theorem dX4_solve_98 : decode cX4_solve 98 = .ok (.aload_n 0, 1) := by decide +kernel
theorem dX4_solve_99 : decode cX4_solve 99 = .ok (.getfield 45, 3) := by decide +kernel
theorem dX4_solve_102 : decode cX4_solve 102 = .ok (.getfield 80, 3) := by decide +kernel
theorem dX4_solve_105 : decode cX4_solve 105 = .ok (.iload_n 3, 1) := by decide +kernel
theorem dX4_solve_106 : decode cX4_solve 106 = .ok (.iaload, 1) := by decide +kernel
theorem dX4_solve_107 : decode cX4_solve 107 = .ok (.invokevirtual 83, 3) := by decide +kernel
theorem dX4_solve_110 : decode cX4_solve 110 = .ok (.iinc 3 1, 3) := by decide +kernel
theorem dX4_solve_113 : decode cX4_solve 113 = .ok (.goto (-85), 3) := by decide +kernel
theorem dX4_solve_116 : decode cX4_solve 116 = .ok (.aload_n 0, 1) := by decide +kernel
theorem dX4_solve_117 : decode cX4_solve 117 = .ok (.invokevirtual 86, 3) := by decide +kernel
theorem dX4_solve_120 : decode cX4_solve 120 = .ok (.aload_n 0, 1) := by decide +kernel
theorem dX4_solve_121 : decode cX4_solve 121 = .ok (.invokevirtual 89, 3) := by decide +kernel
theorem dX4_solve_124 : decode cX4_solve 124 = .ok (.return_, 1) := by decide +kernel
theorem dX4_startRow_0 : decode cX4_startRow 0 = .ok (.aload_n 0, 1) := by decide +kernel
theorem dX4_startRow_1 : decode cX4_startRow 1 = .ok (.getfield 45, 3) := by decide +kernel
theorem dX4_startRow_4 : decode cX4_startRow 4 = .ok (.getfield 70, 3) := by decide +kernel
theorem dX4_startRow_7 : decode cX4_startRow 7 = .ok (.istore 4, 2) := by decide +kernel
theorem dX4_startRow_9 : decode cX4_startRow 9 = .ok (.aload_n 0, 1) := by decide +kernel
theorem dX4_startRow_10 : decode cX4_startRow 10 = .ok (.getfield 15, 3) := by decide +kernel
theorem dX4_startRow_13 : decode cX4_startRow 13 = .ok (.iload_n 1, 1) := by decide +kernel
theorem dX4_startRow_14 : decode cX4_startRow 14 = .ok (.iaload, 1) := by decide +kernel
theorem dX4_startRow_15 : decode cX4_startRow 15 = .ok (.iload_n 1, 1) := by decide +kernel
theorem dX4_startRow_16 : decode cX4_startRow 16 = .ok (.if_icmp .ne 7, 3) := by decide +kernel
theorem dX4_startRow_19 : decode cX4_startRow 19 = .ok (.iconst 1, 1) := by decide +kernel
theorem dX4_startRow_20 : decode cX4_startRow 20 = .ok (.goto 4, 3) := by decide +kernel
theorem dX4_startRow_23 : decode cX4_startRow 23 = .ok (.iconst 0, 1) := by decide +kernel
theorem dX4_startRow_24 : decode cX4_startRow 24 = .ok (.istore 5, 2) := by decide +kernel
theorem dX4_startRow_26 : decode cX4_startRow 26 = .ok (.iconst 0, 1) := by decide +kernel
theorem dX4_startRow_27 : decode cX4_startRow 27 = .ok (.istore 6, 2) := by decide +kernel
theorem dX4_startRow_29 : decode cX4_startRow 29 = .ok (.iload 6, 2) := by decide +kernel
theorem dX4_startRow_31 : decode cX4_startRow 31 = .ok (.iload 4, 2) := by decide +kernel
theorem dX4_startRow_33 : decode cX4_startRow 33 = .ok (.if_icmp .ge 34, 3) := by decide +kernel
theorem dX4_startRow_36 : decode cX4_startRow 36 = .ok (.aload_n 0, 1) := by decide +kernel
theorem dX4_startRow_37 : decode cX4_startRow 37 = .ok (.getfield 21, 3) := by decide +kernel
theorem dX4_startRow_40 : decode cX4_startRow 40 = .ok (.iload_n 1, 1) := by decide +kernel
theorem dX4_startRow_41 : decode cX4_startRow 41 = .ok (.aaload, 1) := by decide +kernel
theorem dX4_startRow_42 : decode cX4_startRow 42 = .ok (.iload 6, 2) := by decide +kernel
theorem dX4_startRow_44 : decode cX4_startRow 44 = .ok (.iload 5, 2) := by decide +kernel
theorem dX4_startRow_46 : decode cX4_startRow 46 = .ok (.ifCond .eq 13, 3) := by decide +kernel
theorem dX4_startRow_49 : decode cX4_startRow 49 = .ok (.iload 6, 2) := by decide +kernel
theorem dX4_startRow_51 : decode cX4_startRow 51 = .ok (.iload_n 1, 1) := by decide +kernel
theorem dX4_startRow_52 : decode cX4_startRow 52 = .ok (.if_icmp .ne 7, 3) := by decide +kernel
theorem dX4_startRow_55 : decode cX4_startRow 55 = .ok (.lconst 1, 1) := by decide +kernel
theorem dX4_startRow_56 : decode cX4_startRow 56 = .ok (.goto 4, 3) := by decide +kernel
theorem dX4_startRow_59 : decode cX4_startRow 59 = .ok (.lconst 0, 1) := by decide +kernel
theorem dX4_startRow_60 : decode cX4_startRow 60 = .ok (.lastore, 1) := by decide +kernel
theorem dX4_startRow_61 : decode cX4_startRow 61 = .ok (.iinc 6 1, 3) := by decide +kernel
theorem dX4_startRow_64 : decode cX4_startRow 64 = .ok (.goto (-35), 3) := by decide +kernel
theorem dX4_startRow_67 : decode cX4_startRow 67 = .ok (.aload_n 0, 1) := by decide +kernel
theorem dX4_startRow_68 : decode cX4_startRow 68 = .ok (.getfield 21, 3) := by decide +kernel
theorem dX4_startRow_71 : decode cX4_startRow 71 = .ok (.iload_n 1, 1) := by decide +kernel
theorem dX4_startRow_72 : decode cX4_startRow 72 = .ok (.aaload, 1) := by decide +kernel
theorem dX4_startRow_73 : decode cX4_startRow 73 = .ok (.iload 4, 2) := by decide +kernel
theorem dX4_startRow_75 : decode cX4_startRow 75 = .ok (.iload 5, 2) := by decide +kernel
theorem dX4_startRow_77 : decode cX4_startRow 77 = .ok (.ifCond .eq 7, 3) := by decide +kernel
theorem dX4_startRow_80 : decode cX4_startRow 80 = .ok (.lconst 0, 1) := by decide +kernel
theorem dX4_startRow_81 : decode cX4_startRow 81 = .ok (.goto 13, 3) := by decide +kernel
theorem dX4_startRow_84 : decode cX4_startRow 84 = .ok (.aload_n 0, 1) := by decide +kernel
theorem dX4_startRow_85 : decode cX4_startRow 85 = .ok (.getfield 45, 3) := by decide +kernel
theorem dX4_startRow_88 : decode cX4_startRow 88 = .ok (.getfield 73, 3) := by decide +kernel
theorem dX4_startRow_91 : decode cX4_startRow 91 = .ok (.iload_n 1, 1) := by decide +kernel
theorem dX4_startRow_92 : decode cX4_startRow 92 = .ok (.iaload, 1) := by decide +kernel
theorem dX4_startRow_93 : decode cX4_startRow 93 = .ok (.i2l, 1) := by decide +kernel
theorem dX4_startRow_94 : decode cX4_startRow 94 = .ok (.lastore, 1) := by decide +kernel
theorem dX4_startRow_95 : decode cX4_startRow 95 = .ok (.aload_n 0, 1) := by decide +kernel
theorem dX4_startRow_96 : decode cX4_startRow 96 = .ok (.getfield 21, 3) := by decide +kernel
theorem dX4_startRow_99 : decode cX4_startRow 99 = .ok (.iload_n 1, 1) := by decide +kernel
theorem dX4_startRow_100 : decode cX4_startRow 100 = .ok (.aaload, 1) := by decide +kernel
theorem dX4_startRow_101 : decode cX4_startRow 101 = .ok (.iload 4, 2) := by decide +kernel
theorem dX4_startRow_103 : decode cX4_startRow 103 = .ok (.iconst 1, 1) := by decide +kernel
theorem dX4_startRow_104 : decode cX4_startRow 104 = .ok (.iadd, 1) := by decide +kernel
theorem dX4_startRow_105 : decode cX4_startRow 105 = .ok (.iload 5, 2) := by decide +kernel
theorem dX4_startRow_107 : decode cX4_startRow 107 = .ok (.ifCond .eq 7, 3) := by decide +kernel
theorem dX4_startRow_110 : decode cX4_startRow 110 = .ok (.lconst 0, 1) := by decide +kernel
theorem dX4_startRow_111 : decode cX4_startRow 111 = .ok (.goto 25, 3) := by decide +kernel
theorem dX4_startRow_114 : decode cX4_startRow 114 = .ok (.iload_n 1, 1) := by decide +kernel
theorem dX4_startRow_115 : decode cX4_startRow 115 = .ok (.iload_n 2, 1) := by decide +kernel
theorem dX4_startRow_116 : decode cX4_startRow 116 = .ok (.if_icmp .ne 7, 3) := by decide +kernel
theorem dX4_startRow_119 : decode cX4_startRow 119 = .ok (.iconst 1, 1) := by decide +kernel
theorem dX4_startRow_120 : decode cX4_startRow 120 = .ok (.goto 4, 3) := by decide +kernel
theorem dX4_startRow_123 : decode cX4_startRow 123 = .ok (.iconst 0, 1) := by decide +kernel
theorem dX4_startRow_124 : decode cX4_startRow 124 = .ok (.iload_n 1, 1) := by decide +kernel
theorem dX4_startRow_125 : decode cX4_startRow 125 = .ok (.iload_n 3, 1) := by decide +kernel
theorem dX4_startRow_126 : decode cX4_startRow 126 = .ok (.if_icmp .ne 7, 3) := by decide +kernel
theorem dX4_startRow_129 : decode cX4_startRow 129 = .ok (.iconst 1, 1) := by decide +kernel
theorem dX4_startRow_130 : decode cX4_startRow 130 = .ok (.goto 4, 3) := by decide +kernel
theorem dX4_startRow_133 : decode cX4_startRow 133 = .ok (.iconst 0, 1) := by decide +kernel
theorem dX4_startRow_134 : decode cX4_startRow 134 = .ok (.isub, 1) := by decide +kernel
theorem dX4_startRow_135 : decode cX4_startRow 135 = .ok (.i2l, 1) := by decide +kernel
theorem dX4_startRow_136 : decode cX4_startRow 136 = .ok (.lastore, 1) := by decide +kernel
theorem dX4_startRow_137 : decode cX4_startRow 137 = .ok (.return_, 1) := by decide +kernel
theorem dX4_addTerms_0 : decode cX4_addTerms 0 = .ok (.aload_n 0, 1) := by decide +kernel
theorem dX4_addTerms_1 : decode cX4_addTerms 1 = .ok (.getfield 15, 3) := by decide +kernel
theorem dX4_addTerms_4 : decode cX4_addTerms 4 = .ok (.iload_n 1, 1) := by decide +kernel
theorem dX4_addTerms_5 : decode cX4_addTerms 5 = .ok (.iaload, 1) := by decide +kernel
theorem dX4_addTerms_6 : decode cX4_addTerms 6 = .ok (.iload_n 1, 1) := by decide +kernel
theorem dX4_addTerms_7 : decode cX4_addTerms 7 = .ok (.if_icmp .ne 4, 3) := by decide +kernel
theorem dX4_addTerms_10 : decode cX4_addTerms 10 = .ok (.return_, 1) := by decide +kernel
theorem dX4_addTerms_11 : decode cX4_addTerms 11 = .ok (.aload_n 0, 1) := by decide +kernel
theorem dX4_addTerms_12 : decode cX4_addTerms 12 = .ok (.getfield 21, 3) := by decide +kernel
theorem dX4_addTerms_15 : decode cX4_addTerms 15 = .ok (.iload_n 1, 1) := by decide +kernel
theorem dX4_addTerms_16 : decode cX4_addTerms 16 = .ok (.aaload, 1) := by decide +kernel
theorem dX4_addTerms_17 : decode cX4_addTerms 17 = .ok (.iload_n 1, 1) := by decide +kernel
theorem dX4_addTerms_18 : decode cX4_addTerms 18 = .ok (.dup2, 1) := by decide +kernel
theorem dX4_addTerms_19 : decode cX4_addTerms 19 = .ok (.laload, 1) := by decide +kernel
theorem dX4_addTerms_20 : decode cX4_addTerms 20 = .ok (.iload_n 3, 1) := by decide +kernel
theorem dX4_addTerms_21 : decode cX4_addTerms 21 = .ok (.i2l, 1) := by decide +kernel
theorem dX4_addTerms_22 : decode cX4_addTerms 22 = .ok (.ladd, 1) := by decide +kernel
theorem dX4_addTerms_23 : decode cX4_addTerms 23 = .ok (.lastore, 1) := by decide +kernel
theorem dX4_addTerms_24 : decode cX4_addTerms 24 = .ok (.aload_n 0, 1) := by decide +kernel
theorem dX4_addTerms_25 : decode cX4_addTerms 25 = .ok (.getfield 15, 3) := by decide +kernel
theorem dX4_addTerms_28 : decode cX4_addTerms 28 = .ok (.iload_n 2, 1) := by decide +kernel
theorem dX4_addTerms_29 : decode cX4_addTerms 29 = .ok (.iaload, 1) := by decide +kernel
theorem dX4_addTerms_30 : decode cX4_addTerms 30 = .ok (.iload_n 2, 1) := by decide +kernel
theorem dX4_addTerms_31 : decode cX4_addTerms 31 = .ok (.if_icmp .eq 16, 3) := by decide +kernel
theorem dX4_addTerms_34 : decode cX4_addTerms 34 = .ok (.aload_n 0, 1) := by decide +kernel
theorem dX4_addTerms_35 : decode cX4_addTerms 35 = .ok (.getfield 21, 3) := by decide +kernel
theorem dX4_addTerms_38 : decode cX4_addTerms 38 = .ok (.iload_n 1, 1) := by decide +kernel
theorem dX4_addTerms_39 : decode cX4_addTerms 39 = .ok (.aaload, 1) := by decide +kernel
theorem dX4_addTerms_40 : decode cX4_addTerms 40 = .ok (.iload_n 2, 1) := by decide +kernel
theorem dX4_addTerms_41 : decode cX4_addTerms 41 = .ok (.dup2, 1) := by decide +kernel
theorem dX4_addTerms_42 : decode cX4_addTerms 42 = .ok (.laload, 1) := by decide +kernel
theorem dX4_addTerms_43 : decode cX4_addTerms 43 = .ok (.iload_n 3, 1) := by decide +kernel
theorem dX4_addTerms_44 : decode cX4_addTerms 44 = .ok (.i2l, 1) := by decide +kernel
theorem dX4_addTerms_45 : decode cX4_addTerms 45 = .ok (.lsub, 1) := by decide +kernel
theorem dX4_addTerms_46 : decode cX4_addTerms 46 = .ok (.lastore, 1) := by decide +kernel
theorem dX4_addTerms_47 : decode cX4_addTerms 47 = .ok (.return_, 1) := by decide +kernel
theorem dX4_eliminate_0 : decode cX4_eliminate 0 = .ok (.aload_n 0, 1) := by decide +kernel
theorem dX4_eliminate_1 : decode cX4_eliminate 1 = .ok (.lconst 1, 1) := by decide +kernel
theorem dX4_eliminate_2 : decode cX4_eliminate 2 = .ok (.putfield 34, 3) := by decide +kernel
theorem dX4_eliminate_5 : decode cX4_eliminate 5 = .ok (.aload_n 0, 1) := by decide +kernel
theorem dX4_eliminate_6 : decode cX4_eliminate 6 = .ok (.getfield 45, 3) := by decide +kernel
theorem dX4_eliminate_9 : decode cX4_eliminate 9 = .ok (.getfield 70, 3) := by decide +kernel
theorem dX4_eliminate_12 : decode cX4_eliminate 12 = .ok (.istore_n 1, 1) := by decide +kernel
theorem dX4_eliminate_13 : decode cX4_eliminate 13 = .ok (.iconst 0, 1) := by decide +kernel
theorem dX4_eliminate_14 : decode cX4_eliminate 14 = .ok (.istore_n 2, 1) := by decide +kernel
theorem dX4_eliminate_15 : decode cX4_eliminate 15 = .ok (.iload_n 2, 1) := by decide +kernel
theorem dX4_eliminate_16 : decode cX4_eliminate 16 = .ok (.iload_n 1, 1) := by decide +kernel
theorem dX4_eliminate_17 : decode cX4_eliminate 17 = .ok (.if_icmp .ge 123, 3) := by decide +kernel
theorem dX4_eliminate_20 : decode cX4_eliminate 20 = .ok (.aload_n 0, 1) := by decide +kernel
theorem dX4_eliminate_21 : decode cX4_eliminate 21 = .ok (.getfield 34, 3) := by decide +kernel
theorem dX4_eliminate_24 : decode cX4_eliminate 24 = .ok (.lconst 0, 1) := by decide +kernel
theorem dX4_eliminate_25 : decode cX4_eliminate 25 = .ok (.lcmp, 1) := by decide +kernel
theorem dX4_eliminate_26 : decode cX4_eliminate 26 = .ok (.ifCond .eq 114, 3) := by decide +kernel
theorem dX4_eliminate_29 : decode cX4_eliminate 29 = .ok (.aload_n 0, 1) := by decide +kernel
theorem dX4_eliminate_30 : decode cX4_eliminate 30 = .ok (.getfield 21, 3) := by decide +kernel
theorem dX4_eliminate_33 : decode cX4_eliminate 33 = .ok (.iload_n 2, 1) := by decide +kernel
theorem dX4_eliminate_34 : decode cX4_eliminate 34 = .ok (.aaload, 1) := by decide +kernel
theorem dX4_eliminate_35 : decode cX4_eliminate 35 = .ok (.iload_n 2, 1) := by decide +kernel
theorem dX4_eliminate_36 : decode cX4_eliminate 36 = .ok (.laload, 1) := by decide +kernel
theorem dX4_eliminate_37 : decode cX4_eliminate 37 = .ok (.lstore_n 3, 1) := by decide +kernel
theorem dX4_eliminate_38 : decode cX4_eliminate 38 = .ok (.iconst 0, 1) := by decide +kernel
theorem dX4_eliminate_39 : decode cX4_eliminate 39 = .ok (.istore 5, 2) := by decide +kernel
theorem dX4_eliminate_41 : decode cX4_eliminate 41 = .ok (.iload 5, 2) := by decide +kernel
theorem dX4_eliminate_43 : decode cX4_eliminate 43 = .ok (.iload_n 1, 1) := by decide +kernel
theorem dX4_eliminate_44 : decode cX4_eliminate 44 = .ok (.if_icmp .ge 85, 3) := by decide +kernel
theorem dX4_eliminate_47 : decode cX4_eliminate 47 = .ok (.aload_n 0, 1) := by decide +kernel
theorem dX4_eliminate_48 : decode cX4_eliminate 48 = .ok (.getfield 21, 3) := by decide +kernel
theorem dX4_eliminate_51 : decode cX4_eliminate 51 = .ok (.iload 5, 2) := by decide +kernel
theorem dX4_eliminate_53 : decode cX4_eliminate 53 = .ok (.aaload, 1) := by decide +kernel
theorem dX4_eliminate_54 : decode cX4_eliminate 54 = .ok (.iload_n 2, 1) := by decide +kernel
theorem dX4_eliminate_55 : decode cX4_eliminate 55 = .ok (.laload, 1) := by decide +kernel
theorem dX4_eliminate_56 : decode cX4_eliminate 56 = .ok (.lstore 6, 2) := by decide +kernel
theorem dX4_eliminate_58 : decode cX4_eliminate 58 = .ok (.iload_n 2, 1) := by decide +kernel
theorem dX4_eliminate_59 : decode cX4_eliminate 59 = .ok (.iconst 1, 1) := by decide +kernel
theorem dX4_eliminate_60 : decode cX4_eliminate 60 = .ok (.iadd, 1) := by decide +kernel
theorem dX4_eliminate_61 : decode cX4_eliminate 61 = .ok (.istore 8, 2) := by decide +kernel
theorem dX4_eliminate_63 : decode cX4_eliminate 63 = .ok (.iload 5, 2) := by decide +kernel
theorem dX4_eliminate_65 : decode cX4_eliminate 65 = .ok (.iload_n 2, 1) := by decide +kernel
theorem dX4_eliminate_66 : decode cX4_eliminate 66 = .ok (.if_icmp .eq 57, 3) := by decide +kernel
theorem dX4_eliminate_69 : decode cX4_eliminate 69 = .ok (.iload 8, 2) := by decide +kernel
theorem dX4_eliminate_71 : decode cX4_eliminate 71 = .ok (.iload_n 1, 1) := by decide +kernel
theorem dX4_eliminate_72 : decode cX4_eliminate 72 = .ok (.iconst 2, 1) := by decide +kernel
theorem dX4_eliminate_73 : decode cX4_eliminate 73 = .ok (.iadd, 1) := by decide +kernel
theorem dX4_eliminate_74 : decode cX4_eliminate 74 = .ok (.if_icmp .ge 49, 3) := by decide +kernel
theorem dX4_eliminate_77 : decode cX4_eliminate 77 = .ok (.aload_n 0, 1) := by decide +kernel
theorem dX4_eliminate_78 : decode cX4_eliminate 78 = .ok (.getfield 21, 3) := by decide +kernel
theorem dX4_eliminate_81 : decode cX4_eliminate 81 = .ok (.iload 5, 2) := by decide +kernel
theorem dX4_eliminate_83 : decode cX4_eliminate 83 = .ok (.aaload, 1) := by decide +kernel
theorem dX4_eliminate_84 : decode cX4_eliminate 84 = .ok (.iload 8, 2) := by decide +kernel
theorem dX4_eliminate_86 : decode cX4_eliminate 86 = .ok (.lload_n 3, 1) := by decide +kernel
theorem dX4_eliminate_87 : decode cX4_eliminate 87 = .ok (.aload_n 0, 1) := by decide +kernel
theorem dX4_eliminate_88 : decode cX4_eliminate 88 = .ok (.getfield 21, 3) := by decide +kernel
theorem dX4_eliminate_91 : decode cX4_eliminate 91 = .ok (.iload 5, 2) := by decide +kernel
theorem dX4_eliminate_93 : decode cX4_eliminate 93 = .ok (.aaload, 1) := by decide +kernel
theorem dX4_eliminate_94 : decode cX4_eliminate 94 = .ok (.iload 8, 2) := by decide +kernel
theorem dX4_eliminate_96 : decode cX4_eliminate 96 = .ok (.laload, 1) := by decide +kernel
theorem dX4_eliminate_97 : decode cX4_eliminate 97 = .ok (.lmul, 1) := by decide +kernel
theorem dX4_eliminate_98 : decode cX4_eliminate 98 = .ok (.lload 6, 2) := by decide +kernel
theorem dX4_eliminate_100 : decode cX4_eliminate 100 = .ok (.aload_n 0, 1) := by decide +kernel
theorem dX4_eliminate_101 : decode cX4_eliminate 101 = .ok (.getfield 21, 3) := by decide +kernel
theorem dX4_eliminate_104 : decode cX4_eliminate 104 = .ok (.iload_n 2, 1) := by decide +kernel
theorem dX4_eliminate_105 : decode cX4_eliminate 105 = .ok (.aaload, 1) := by decide +kernel
theorem dX4_eliminate_106 : decode cX4_eliminate 106 = .ok (.iload 8, 2) := by decide +kernel
theorem dX4_eliminate_108 : decode cX4_eliminate 108 = .ok (.laload, 1) := by decide +kernel
theorem dX4_eliminate_109 : decode cX4_eliminate 109 = .ok (.lmul, 1) := by decide +kernel
theorem dX4_eliminate_110 : decode cX4_eliminate 110 = .ok (.lsub, 1) := by decide +kernel
theorem dX4_eliminate_111 : decode cX4_eliminate 111 = .ok (.aload_n 0, 1) := by decide +kernel
theorem dX4_eliminate_112 : decode cX4_eliminate 112 = .ok (.getfield 34, 3) := by decide +kernel
theorem dX4_eliminate_115 : decode cX4_eliminate 115 = .ok (.ldiv, 1) := by decide +kernel
theorem dX4_eliminate_116 : decode cX4_eliminate 116 = .ok (.lastore, 1) := by decide +kernel
theorem dX4_eliminate_117 : decode cX4_eliminate 117 = .ok (.iinc 8 1, 3) := by decide +kernel
theorem dX4_eliminate_120 : decode cX4_eliminate 120 = .ok (.goto (-57), 3) := by decide +kernel
theorem dX4_eliminate_123 : decode cX4_eliminate 123 = .ok (.iinc 5 1, 3) := by decide +kernel
theorem dX4_eliminate_126 : decode cX4_eliminate 126 = .ok (.goto (-85), 3) := by decide +kernel
theorem dX4_eliminate_129 : decode cX4_eliminate 129 = .ok (.aload_n 0, 1) := by decide +kernel
theorem dX4_eliminate_130 : decode cX4_eliminate 130 = .ok (.lload_n 3, 1) := by decide +kernel
theorem dX4_eliminate_131 : decode cX4_eliminate 131 = .ok (.putfield 34, 3) := by decide +kernel
theorem dX4_eliminate_134 : decode cX4_eliminate 134 = .ok (.iinc 2 1, 3) := by decide +kernel
theorem dX4_eliminate_137 : decode cX4_eliminate 137 = .ok (.goto (-122), 3) := by decide +kernel
theorem dX4_eliminate_140 : decode cX4_eliminate 140 = .ok (.return_, 1) := by decide +kernel
theorem dX4_readFlows_0 : decode cX4_readFlows 0 = .ok (.aload_n 0, 1) := by decide +kernel
theorem dX4_readFlows_1 : decode cX4_readFlows 1 = .ok (.getfield 45, 3) := by decide +kernel
theorem dX4_readFlows_4 : decode cX4_readFlows 4 = .ok (.getfield 70, 3) := by decide +kernel
theorem dX4_readFlows_7 : decode cX4_readFlows 7 = .ok (.istore_n 1, 1) := by decide +kernel
theorem dX4_readFlows_8 : decode cX4_readFlows 8 = .ok (.iconst 0, 1) := by decide +kernel
theorem dX4_readFlows_9 : decode cX4_readFlows 9 = .ok (.istore_n 2, 1) := by decide +kernel
theorem dX4_readFlows_10 : decode cX4_readFlows 10 = .ok (.iload_n 2, 1) := by decide +kernel
theorem dX4_readFlows_11 : decode cX4_readFlows 11 = .ok (.iload_n 1, 1) := by decide +kernel
theorem dX4_readFlows_12 : decode cX4_readFlows 12 = .ok (.if_icmp .ge 23, 3) := by decide +kernel
theorem dX4_readFlows_15 : decode cX4_readFlows 15 = .ok (.aload_n 0, 1) := by decide +kernel
theorem dX4_readFlows_16 : decode cX4_readFlows 16 = .ok (.getfield 24, 3) := by decide +kernel
theorem dX4_readFlows_19 : decode cX4_readFlows 19 = .ok (.iload_n 2, 1) := by decide +kernel
theorem dX4_readFlows_20 : decode cX4_readFlows 20 = .ok (.aload_n 0, 1) := by decide +kernel
theorem dX4_readFlows_21 : decode cX4_readFlows 21 = .ok (.getfield 21, 3) := by decide +kernel
theorem dX4_readFlows_24 : decode cX4_readFlows 24 = .ok (.iload_n 2, 1) := by decide +kernel
theorem dX4_readFlows_25 : decode cX4_readFlows 25 = .ok (.aaload, 1) := by decide +kernel
theorem dX4_readFlows_26 : decode cX4_readFlows 26 = .ok (.iload_n 1, 1) := by decide +kernel
theorem dX4_readFlows_27 : decode cX4_readFlows 27 = .ok (.laload, 1) := by decide +kernel
theorem dX4_readFlows_28 : decode cX4_readFlows 28 = .ok (.lastore, 1) := by decide +kernel
theorem dX4_readFlows_29 : decode cX4_readFlows 29 = .ok (.iinc 2 1, 3) := by decide +kernel
theorem dX4_readFlows_32 : decode cX4_readFlows 32 = .ok (.goto (-22), 3) := by decide +kernel
theorem dX4_readFlows_35 : decode cX4_readFlows 35 = .ok (.iconst 0, 1) := by decide +kernel
theorem dX4_readFlows_36 : decode cX4_readFlows 36 = .ok (.istore_n 2, 1) := by decide +kernel
theorem dX4_readFlows_37 : decode cX4_readFlows 37 = .ok (.iload_n 2, 1) := by decide +kernel
theorem dX4_readFlows_38 : decode cX4_readFlows 38 = .ok (.aload_n 0, 1) := by decide +kernel
theorem dX4_readFlows_39 : decode cX4_readFlows 39 = .ok (.getfield 45, 3) := by decide +kernel
theorem dX4_readFlows_42 : decode cX4_readFlows 42 = .ok (.getfield 49, 3) := by decide +kernel
theorem dX4_readFlows_45 : decode cX4_readFlows 45 = .ok (.if_icmp .ge 61, 3) := by decide +kernel
theorem dX4_readFlows_48 : decode cX4_readFlows 48 = .ok (.aload_n 0, 1) := by decide +kernel
theorem dX4_readFlows_49 : decode cX4_readFlows 49 = .ok (.getfield 28, 3) := by decide +kernel
theorem dX4_readFlows_52 : decode cX4_readFlows 52 = .ok (.iload_n 2, 1) := by decide +kernel
theorem dX4_readFlows_53 : decode cX4_readFlows 53 = .ok (.aload_n 0, 1) := by decide +kernel
theorem dX4_readFlows_54 : decode cX4_readFlows 54 = .ok (.getfield 9, 3) := by decide +kernel
theorem dX4_readFlows_57 : decode cX4_readFlows 57 = .ok (.iload_n 2, 1) := by decide +kernel
theorem dX4_readFlows_58 : decode cX4_readFlows 58 = .ok (.baload, 1) := by decide +kernel
theorem dX4_readFlows_59 : decode cX4_readFlows 59 = .ok (.ifCond .eq 12, 3) := by decide +kernel
theorem dX4_readFlows_62 : decode cX4_readFlows 62 = .ok (.aload_n 0, 1) := by decide +kernel
theorem dX4_readFlows_63 : decode cX4_readFlows 63 = .ok (.iload_n 2, 1) := by decide +kernel
theorem dX4_readFlows_64 : decode cX4_readFlows 64 = .ok (.iload_n 1, 1) := by decide +kernel
theorem dX4_readFlows_65 : decode cX4_readFlows 65 = .ok (.invokevirtual 92, 3) := by decide +kernel
theorem dX4_readFlows_68 : decode cX4_readFlows 68 = .ok (.goto 4, 3) := by decide +kernel
theorem dX4_readFlows_71 : decode cX4_readFlows 71 = .ok (.lconst 0, 1) := by decide +kernel
theorem dX4_readFlows_72 : decode cX4_readFlows 72 = .ok (.lastore, 1) := by decide +kernel
theorem dX4_readFlows_73 : decode cX4_readFlows 73 = .ok (.aload_n 0, 1) := by decide +kernel
theorem dX4_readFlows_74 : decode cX4_readFlows 74 = .ok (.getfield 31, 3) := by decide +kernel
theorem dX4_readFlows_77 : decode cX4_readFlows 77 = .ok (.iload_n 2, 1) := by decide +kernel
theorem dX4_readFlows_78 : decode cX4_readFlows 78 = .ok (.aload_n 0, 1) := by decide +kernel
theorem dX4_readFlows_79 : decode cX4_readFlows 79 = .ok (.getfield 9, 3) := by decide +kernel
theorem dX4_readFlows_82 : decode cX4_readFlows 82 = .ok (.iload_n 2, 1) := by decide +kernel
theorem dX4_readFlows_83 : decode cX4_readFlows 83 = .ok (.baload, 1) := by decide +kernel
theorem dX4_readFlows_84 : decode cX4_readFlows 84 = .ok (.ifCond .eq 14, 3) := by decide +kernel
theorem dX4_readFlows_87 : decode cX4_readFlows 87 = .ok (.aload_n 0, 1) := by decide +kernel
theorem dX4_readFlows_88 : decode cX4_readFlows 88 = .ok (.iload_n 2, 1) := by decide +kernel
theorem dX4_readFlows_89 : decode cX4_readFlows 89 = .ok (.iload_n 1, 1) := by decide +kernel
theorem dX4_readFlows_90 : decode cX4_readFlows 90 = .ok (.iconst 1, 1) := by decide +kernel
theorem dX4_readFlows_91 : decode cX4_readFlows 91 = .ok (.iadd, 1) := by decide +kernel
theorem dX4_readFlows_92 : decode cX4_readFlows 92 = .ok (.invokevirtual 92, 3) := by decide +kernel
theorem dX4_readFlows_95 : decode cX4_readFlows 95 = .ok (.goto 4, 3) := by decide +kernel
theorem dX4_readFlows_98 : decode cX4_readFlows 98 = .ok (.lconst 0, 1) := by decide +kernel
theorem dX4_readFlows_99 : decode cX4_readFlows 99 = .ok (.lastore, 1) := by decide +kernel
theorem dX4_readFlows_100 : decode cX4_readFlows 100 = .ok (.iinc 2 1, 3) := by decide +kernel
theorem dX4_readFlows_103 : decode cX4_readFlows 103 = .ok (.goto (-66), 3) := by decide +kernel
theorem dX4_readFlows_106 : decode cX4_readFlows 106 = .ok (.return_, 1) := by decide +kernel
theorem dX4_across_0 : decode cX4_across 0 = .ok (.aload_n 0, 1) := by decide +kernel
theorem dX4_across_1 : decode cX4_across 1 = .ok (.getfield 45, 3) := by decide +kernel
theorem dX4_across_4 : decode cX4_across 4 = .ok (.getfield 80, 3) := by decide +kernel
theorem dX4_across_7 : decode cX4_across 7 = .ok (.iload_n 1, 1) := by decide +kernel
theorem dX4_across_8 : decode cX4_across 8 = .ok (.iaload, 1) := by decide +kernel
theorem dX4_across_9 : decode cX4_across 9 = .ok (.i2l, 1) := by decide +kernel
theorem dX4_across_10 : decode cX4_across 10 = .ok (.aload_n 0, 1) := by decide +kernel
theorem dX4_across_11 : decode cX4_across 11 = .ok (.getfield 21, 3) := by decide +kernel
theorem dX4_across_14 : decode cX4_across 14 = .ok (.aload_n 0, 1) := by decide +kernel
theorem dX4_across_15 : decode cX4_across 15 = .ok (.getfield 45, 3) := by decide +kernel
theorem dX4_across_18 : decode cX4_across 18 = .ok (.getfield 60, 3) := by decide +kernel
theorem dX4_across_21 : decode cX4_across 21 = .ok (.iload_n 1, 1) := by decide +kernel
theorem dX4_across_22 : decode cX4_across 22 = .ok (.iaload, 1) := by decide +kernel
theorem dX4_across_23 : decode cX4_across 23 = .ok (.aaload, 1) := by decide +kernel
theorem dX4_across_24 : decode cX4_across 24 = .ok (.iload_n 2, 1) := by decide +kernel
theorem dX4_across_25 : decode cX4_across 25 = .ok (.laload, 1) := by decide +kernel
theorem dX4_across_26 : decode cX4_across 26 = .ok (.aload_n 0, 1) := by decide +kernel
theorem dX4_across_27 : decode cX4_across 27 = .ok (.getfield 21, 3) := by decide +kernel
theorem dX4_across_30 : decode cX4_across 30 = .ok (.aload_n 0, 1) := by decide +kernel
theorem dX4_across_31 : decode cX4_across 31 = .ok (.getfield 45, 3) := by decide +kernel
theorem dX4_across_34 : decode cX4_across 34 = .ok (.getfield 63, 3) := by decide +kernel
theorem dX4_across_37 : decode cX4_across 37 = .ok (.iload_n 1, 1) := by decide +kernel
theorem dX4_across_38 : decode cX4_across 38 = .ok (.iaload, 1) := by decide +kernel
theorem dX4_across_39 : decode cX4_across 39 = .ok (.aaload, 1) := by decide +kernel
theorem dX4_across_40 : decode cX4_across 40 = .ok (.iload_n 2, 1) := by decide +kernel
theorem dX4_across_41 : decode cX4_across 41 = .ok (.laload, 1) := by decide +kernel
theorem dX4_across_42 : decode cX4_across 42 = .ok (.lsub, 1) := by decide +kernel
theorem dX4_across_43 : decode cX4_across 43 = .ok (.lmul, 1) := by decide +kernel
theorem dX4_across_44 : decode cX4_across 44 = .ok (.lreturn, 1) := by decide +kernel
theorem dX4_load_0 : decode cX4_load 0 = .ok (.aload_n 0, 1) := by decide +kernel
theorem dX4_load_1 : decode cX4_load 1 = .ok (.iconst (-1), 1) := by decide +kernel
theorem dX4_load_2 : decode cX4_load 2 = .ok (.iconst (-1), 1) := by decide +kernel
theorem dX4_load_3 : decode cX4_load 3 = .ok (.invokevirtual 96, 3) := by decide +kernel
theorem dX4_load_6 : decode cX4_load 6 = .ok (.aload_n 0, 1) := by decide +kernel
theorem dX4_load_7 : decode cX4_load 7 = .ok (.iconst (-1), 1) := by decide +kernel
theorem dX4_load_8 : decode cX4_load 8 = .ok (.putfield 38, 3) := by decide +kernel
theorem dX4_load_11 : decode cX4_load 11 = .ok (.aload_n 0, 1) := by decide +kernel
theorem dX4_load_12 : decode cX4_load 12 = .ok (.lconst 0, 1) := by decide +kernel
theorem dX4_load_13 : decode cX4_load 13 = .ok (.putfield 99, 3) := by decide +kernel
theorem dX4_load_16 : decode cX4_load 16 = .ok (.aload_n 0, 1) := by decide +kernel
theorem dX4_load_17 : decode cX4_load 17 = .ok (.lconst 1, 1) := by decide +kernel
theorem dX4_load_18 : decode cX4_load 18 = .ok (.putfield 42, 3) := by decide +kernel
theorem dX4_load_21 : decode cX4_load 21 = .ok (.aload_n 0, 1) := by decide +kernel
theorem dX4_load_22 : decode cX4_load 22 = .ok (.iconst 0, 1) := by decide +kernel
theorem dX4_load_23 : decode cX4_load 23 = .ok (.putfield 102, 3) := by decide +kernel
theorem dX4_load_26 : decode cX4_load 26 = .ok (.iconst 0, 1) := by decide +kernel
theorem dX4_load_27 : decode cX4_load 27 = .ok (.istore_n 1, 1) := by decide +kernel
theorem dX4_load_28 : decode cX4_load 28 = .ok (.iload_n 1, 1) := by decide +kernel
theorem dX4_load_29 : decode cX4_load 29 = .ok (.aload_n 0, 1) := by decide +kernel
theorem dX4_load_30 : decode cX4_load 30 = .ok (.getfield 45, 3) := by decide +kernel
theorem dX4_load_33 : decode cX4_load 33 = .ok (.getfield 49, 3) := by decide +kernel
theorem dX4_load_36 : decode cX4_load 36 = .ok (.if_icmp .ge 47, 3) := by decide +kernel
theorem dX4_load_39 : decode cX4_load 39 = .ok (.aload_n 0, 1) := by decide +kernel
theorem dX4_load_40 : decode cX4_load 40 = .ok (.getfield 9, 3) := by decide +kernel
theorem dX4_load_43 : decode cX4_load 43 = .ok (.iload_n 1, 1) := by decide +kernel
theorem dX4_load_44 : decode cX4_load 44 = .ok (.baload, 1) := by decide +kernel
theorem dX4_load_45 : decode cX4_load 45 = .ok (.ifCond .eq 32, 3) := by decide +kernel
theorem dX4_load_48 : decode cX4_load 48 = .ok (.aload_n 0, 1) := by decide +kernel
theorem dX4_load_49 : decode cX4_load 49 = .ok (.iload_n 1, 1) := by decide +kernel
theorem dX4_load_50 : decode cX4_load 50 = .ok (.aload_n 0, 1) := by decide +kernel
theorem dX4_load_51 : decode cX4_load 51 = .ok (.getfield 28, 3) := by decide +kernel
theorem dX4_load_54 : decode cX4_load 54 = .ok (.iload_n 1, 1) := by decide +kernel
theorem dX4_load_55 : decode cX4_load 55 = .ok (.laload, 1) := by decide +kernel
theorem dX4_load_56 : decode cX4_load 56 = .ok (.invokestatic 105, 3) := by decide +kernel
theorem dX4_load_59 : decode cX4_load 59 = .ok (.aload_n 0, 1) := by decide +kernel
theorem dX4_load_60 : decode cX4_load 60 = .ok (.getfield 34, 3) := by decide +kernel
theorem dX4_load_63 : decode cX4_load 63 = .ok (.aload_n 0, 1) := by decide +kernel
theorem dX4_load_64 : decode cX4_load 64 = .ok (.getfield 45, 3) := by decide +kernel
theorem dX4_load_67 : decode cX4_load 67 = .ok (.getfield 111, 3) := by decide +kernel
theorem dX4_load_70 : decode cX4_load 70 = .ok (.iload_n 1, 1) := by decide +kernel
theorem dX4_load_71 : decode cX4_load 71 = .ok (.iaload, 1) := by decide +kernel
theorem dX4_load_72 : decode cX4_load 72 = .ok (.i2l, 1) := by decide +kernel
theorem dX4_load_73 : decode cX4_load 73 = .ok (.lmul, 1) := by decide +kernel
theorem dX4_load_74 : decode cX4_load 74 = .ok (.invokevirtual 114, 3) := by decide +kernel
theorem dX4_load_77 : decode cX4_load 77 = .ok (.iinc 1 1, 3) := by decide +kernel
theorem dX4_load_80 : decode cX4_load 80 = .ok (.goto (-52), 3) := by decide +kernel
theorem dX4_load_83 : decode cX4_load 83 = .ok (.return_, 1) := by decide +kernel
theorem dX4_weigh_0 : decode cX4_weigh 0 = .ok (.aload_n 0, 1) := by decide +kernel
theorem dX4_weigh_1 : decode cX4_weigh 1 = .ok (.getfield 38, 3) := by decide +kernel
theorem dX4_weigh_4 : decode cX4_weigh 4 = .ok (.iconst (-1), 1) := by decide +kernel
theorem dX4_weigh_5 : decode cX4_weigh 5 = .ok (.if_icmp .eq 20, 3) := by decide +kernel
theorem dX4_weigh_8 : decode cX4_weigh 8 = .ok (.lload_n 2, 1) := by decide +kernel
theorem dX4_weigh_9 : decode cX4_weigh 9 = .ok (.lload 4, 2) := by decide +kernel
theorem dX4_weigh_11 : decode cX4_weigh 11 = .ok (.aload_n 0, 1) := by decide +kernel
theorem dX4_weigh_12 : decode cX4_weigh 12 = .ok (.getfield 99, 3) := by decide +kernel
theorem dX4_weigh_15 : decode cX4_weigh 15 = .ok (.aload_n 0, 1) := by decide +kernel
theorem dX4_weigh_16 : decode cX4_weigh 16 = .ok (.getfield 42, 3) := by decide +kernel
theorem dX4_weigh_19 : decode cX4_weigh 19 = .ok (.invokestatic 118, 3) := by decide +kernel
theorem dX4_weigh_22 : decode cX4_weigh 22 = .ok (.ifCond .eq 19, 3) := by decide +kernel
theorem dX4_weigh_25 : decode cX4_weigh 25 = .ok (.aload_n 0, 1) := by decide +kernel
theorem dX4_weigh_26 : decode cX4_weigh 26 = .ok (.iload_n 1, 1) := by decide +kernel
theorem dX4_weigh_27 : decode cX4_weigh 27 = .ok (.putfield 38, 3) := by decide +kernel
theorem dX4_weigh_30 : decode cX4_weigh 30 = .ok (.aload_n 0, 1) := by decide +kernel
theorem dX4_weigh_31 : decode cX4_weigh 31 = .ok (.lload_n 2, 1) := by decide +kernel
theorem dX4_weigh_32 : decode cX4_weigh 32 = .ok (.putfield 99, 3) := by decide +kernel
theorem dX4_weigh_35 : decode cX4_weigh 35 = .ok (.aload_n 0, 1) := by decide +kernel
theorem dX4_weigh_36 : decode cX4_weigh 36 = .ok (.lload 4, 2) := by decide +kernel
theorem dX4_weigh_38 : decode cX4_weigh 38 = .ok (.putfield 42, 3) := by decide +kernel
theorem dX4_weigh_41 : decode cX4_weigh 41 = .ok (.lload_n 2, 1) := by decide +kernel
theorem dX4_weigh_42 : decode cX4_weigh 42 = .ok (.lload 4, 2) := by decide +kernel
theorem dX4_weigh_44 : decode cX4_weigh 44 = .ok (.lcmp, 1) := by decide +kernel
theorem dX4_weigh_45 : decode cX4_weigh 45 = .ok (.ifCond .le 13, 3) := by decide +kernel
theorem dX4_weigh_48 : decode cX4_weigh 48 = .ok (.aload_n 0, 1) := by decide +kernel
theorem dX4_weigh_49 : decode cX4_weigh 49 = .ok (.dup, 1) := by decide +kernel
theorem dX4_weigh_50 : decode cX4_weigh 50 = .ok (.getfield 102, 3) := by decide +kernel
theorem dX4_weigh_53 : decode cX4_weigh 53 = .ok (.iconst 1, 1) := by decide +kernel
theorem dX4_weigh_54 : decode cX4_weigh 54 = .ok (.iadd, 1) := by decide +kernel
theorem dX4_weigh_55 : decode cX4_weigh 55 = .ok (.putfield 102, 3) := by decide +kernel
theorem dX4_weigh_58 : decode cX4_weigh 58 = .ok (.return_, 1) := by decide +kernel
theorem dX4_room_0 : decode cX4_room 0 = .ok (.aload_n 0, 1) := by decide +kernel
theorem dX4_room_1 : decode cX4_room 1 = .ok (.iload_n 1, 1) := by decide +kernel
theorem dX4_room_2 : decode cX4_room 2 = .ok (.iload_n 2, 1) := by decide +kernel
theorem dX4_room_3 : decode cX4_room 3 = .ok (.invokevirtual 96, 3) := by decide +kernel
theorem dX4_room_6 : decode cX4_room 6 = .ok (.ldc2_w 122, 3) := by decide +kernel
theorem dX4_room_9 : decode cX4_room 9 = .ok (.lstore_n 3, 1) := by decide +kernel
theorem dX4_room_10 : decode cX4_room 10 = .ok (.iconst 0, 1) := by decide +kernel
theorem dX4_room_11 : decode cX4_room 11 = .ok (.istore 5, 2) := by decide +kernel
theorem dX4_room_13 : decode cX4_room 13 = .ok (.iload 5, 2) := by decide +kernel
theorem dX4_room_15 : decode cX4_room 15 = .ok (.aload_n 0, 1) := by decide +kernel
theorem dX4_room_16 : decode cX4_room 16 = .ok (.getfield 45, 3) := by decide +kernel
theorem dX4_room_19 : decode cX4_room 19 = .ok (.getfield 49, 3) := by decide +kernel
theorem dX4_room_22 : decode cX4_room 22 = .ok (.if_icmp .ge 57, 3) := by decide +kernel
theorem dX4_room_25 : decode cX4_room 25 = .ok (.aload_n 0, 1) := by decide +kernel
theorem dX4_room_26 : decode cX4_room 26 = .ok (.getfield 9, 3) := by decide +kernel
theorem dX4_room_29 : decode cX4_room 29 = .ok (.iload 5, 2) := by decide +kernel
theorem dX4_room_31 : decode cX4_room 31 = .ok (.baload, 1) := by decide +kernel
theorem dX4_room_32 : decode cX4_room 32 = .ok (.ifCond .eq 41, 3) := by decide +kernel
theorem dX4_room_35 : decode cX4_room 35 = .ok (.lload_n 3, 1) := by decide +kernel
theorem dX4_room_36 : decode cX4_room 36 = .ok (.aload_n 0, 1) := by decide +kernel
theorem dX4_room_37 : decode cX4_room 37 = .ok (.getfield 28, 3) := by decide +kernel
theorem dX4_room_40 : decode cX4_room 40 = .ok (.iload 5, 2) := by decide +kernel
theorem dX4_room_42 : decode cX4_room 42 = .ok (.laload, 1) := by decide +kernel
theorem dX4_room_43 : decode cX4_room 43 = .ok (.aload_n 0, 1) := by decide +kernel
theorem dX4_room_44 : decode cX4_room 44 = .ok (.getfield 31, 3) := by decide +kernel
theorem dX4_room_47 : decode cX4_room 47 = .ok (.iload 5, 2) := by decide +kernel
theorem dX4_room_49 : decode cX4_room 49 = .ok (.laload, 1) := by decide +kernel
theorem dX4_room_50 : decode cX4_room 50 = .ok (.aload_n 0, 1) := by decide +kernel
theorem dX4_room_51 : decode cX4_room 51 = .ok (.getfield 34, 3) := by decide +kernel
theorem dX4_room_54 : decode cX4_room 54 = .ok (.aload_n 0, 1) := by decide +kernel
theorem dX4_room_55 : decode cX4_room 55 = .ok (.getfield 45, 3) := by decide +kernel
theorem dX4_room_58 : decode cX4_room 58 = .ok (.getfield 111, 3) := by decide +kernel
theorem dX4_room_61 : decode cX4_room 61 = .ok (.iload 5, 2) := by decide +kernel
theorem dX4_room_63 : decode cX4_room 63 = .ok (.iaload, 1) := by decide +kernel
theorem dX4_room_64 : decode cX4_room 64 = .ok (.i2l, 1) := by decide +kernel
theorem dX4_room_65 : decode cX4_room 65 = .ok (.lmul, 1) := by decide +kernel
theorem dX4_room_66 : decode cX4_room 66 = .ok (.invokestatic 124, 3) := by decide +kernel
theorem dX4_room_69 : decode cX4_room 69 = .ok (.invokestatic 128, 3) := by decide +kernel
theorem dX4_room_72 : decode cX4_room 72 = .ok (.lstore_n 3, 1) := by decide +kernel
theorem dX4_room_73 : decode cX4_room 73 = .ok (.iinc 5 1, 3) := by decide +kernel
theorem dX4_room_76 : decode cX4_room 76 = .ok (.goto (-63), 3) := by decide +kernel
theorem dX4_room_79 : decode cX4_room 79 = .ok (.lload_n 3, 1) := by decide +kernel
theorem dX4_room_80 : decode cX4_room 80 = .ok (.l2i, 1) := by decide +kernel
theorem dX4_room_81 : decode cX4_room 81 = .ok (.ireturn, 1) := by decide +kernel
theorem dX4_roomOf_0 : decode cX4_roomOf 0 = .ok (.lload_n 0, 1) := by decide +kernel
theorem dX4_roomOf_1 : decode cX4_roomOf 1 = .ok (.invokestatic 105, 3) := by decide +kernel
theorem dX4_roomOf_4 : decode cX4_roomOf 4 = .ok (.lload 4, 2) := by decide +kernel
theorem dX4_roomOf_6 : decode cX4_roomOf 6 = .ok (.lcmp, 1) := by decide +kernel
theorem dX4_roomOf_7 : decode cX4_roomOf 7 = .ok (.ifCond .le 7, 3) := by decide +kernel
theorem dX4_roomOf_10 : decode cX4_roomOf 10 = .ok (.ldc2_w 132, 3) := by decide +kernel
theorem dX4_roomOf_13 : decode cX4_roomOf 13 = .ok (.lreturn, 1) := by decide +kernel
theorem dX4_roomOf_14 : decode cX4_roomOf 14 = .ok (.lload_n 2, 1) := by decide +kernel
theorem dX4_roomOf_15 : decode cX4_roomOf 15 = .ok (.lconst 0, 1) := by decide +kernel
theorem dX4_roomOf_16 : decode cX4_roomOf 16 = .ok (.lcmp, 1) := by decide +kernel
theorem dX4_roomOf_17 : decode cX4_roomOf 17 = .ok (.ifCond .le 10, 3) := by decide +kernel
theorem dX4_roomOf_20 : decode cX4_roomOf 20 = .ok (.lload 4, 2) := by decide +kernel
theorem dX4_roomOf_22 : decode cX4_roomOf 22 = .ok (.lload_n 0, 1) := by decide +kernel
theorem dX4_roomOf_23 : decode cX4_roomOf 23 = .ok (.lsub, 1) := by decide +kernel
theorem dX4_roomOf_24 : decode cX4_roomOf 24 = .ok (.lload_n 2, 1) := by decide +kernel
theorem dX4_roomOf_25 : decode cX4_roomOf 25 = .ok (.ldiv, 1) := by decide +kernel
theorem dX4_roomOf_26 : decode cX4_roomOf 26 = .ok (.lreturn, 1) := by decide +kernel
theorem dX4_roomOf_27 : decode cX4_roomOf 27 = .ok (.lload_n 2, 1) := by decide +kernel
theorem dX4_roomOf_28 : decode cX4_roomOf 28 = .ok (.lconst 0, 1) := by decide +kernel
theorem dX4_roomOf_29 : decode cX4_roomOf 29 = .ok (.lcmp, 1) := by decide +kernel
theorem dX4_roomOf_30 : decode cX4_roomOf 30 = .ok (.ifCond .ge 11, 3) := by decide +kernel
theorem dX4_roomOf_33 : decode cX4_roomOf 33 = .ok (.lload 4, 2) := by decide +kernel
theorem dX4_roomOf_35 : decode cX4_roomOf 35 = .ok (.lload_n 0, 1) := by decide +kernel
theorem dX4_roomOf_36 : decode cX4_roomOf 36 = .ok (.ladd, 1) := by decide +kernel
theorem dX4_roomOf_37 : decode cX4_roomOf 37 = .ok (.lload_n 2, 1) := by decide +kernel
theorem dX4_roomOf_38 : decode cX4_roomOf 38 = .ok (.lneg, 1) := by decide +kernel
theorem dX4_roomOf_39 : decode cX4_roomOf 39 = .ok (.ldiv, 1) := by decide +kernel
theorem dX4_roomOf_40 : decode cX4_roomOf 40 = .ok (.lreturn, 1) := by decide +kernel
theorem dX4_roomOf_41 : decode cX4_roomOf 41 = .ok (.ldc2_w 122, 3) := by decide +kernel
theorem dX4_roomOf_44 : decode cX4_roomOf 44 = .ok (.lreturn, 1) := by decide +kernel
end
section
/-! THE TYPED STORE: every cell of the two systems has an id; what changes is a pair of functions -/
abbrev St : Type := (Nat → Nat → Int32) × (Nat → Nat → Int64)
def sI (σ : St) (i k : Nat) (v : Int32) : St := (fun j => if j = i then upd (σ.1 i) k v else σ.1 j, σ.2)
def sL (σ : St) (i k : Nat) (v : Int64) : St := (σ.1, fun j => if j = i then vp_updL (σ.2 i) k v else σ.2 j)
abbrev cl7 : List vw_C := [(RX0, TX0, 8), (RX1, TX1, 3), (RX2, TX2, 5), (RX3, TX3, 5), (RX4, TX4, 12), (RX5, TX5, 8), (RX6, TX6, 28)]
/-- kinds: (0, class, field codes: 0 int, 1 long, n + 2 the cell n), (1, n) ints, (2, n) longs, (3, n) booleans, (4, n, [b, d]) references b + d * (k + 1) -/
abbrev Kd : Type := Nat × Nat × List Nat
def kdC : List Kd := [(0, 5, [26, 3, 5, 8, 21, 0, 0, 0]), (0, 1, [4, 0, 0]), (4, 8, [24, 7]), (0, 3, [6, 7, 0, 0, 0]), (1, 120, []), (1, 4, []), (0, 4, [26, 9, 10, 11, 18, 19, 20, 1, 0, 1, 1, 0]), (3, 10, []), (1, 6, []), (4, 6, [9, 1]), (2, 8, []), (2, 8, []), (2, 8, []), (2, 8, []), (2, 8, []), (2, 8, []), (2, 6, []), (2, 10, []), (2, 10, []), (0, 2, [22, 23, 24, 25, 0]), (1, 45, []), (1, 45, []), (2, 45, []), (2, 45, [])]
def kdM : List Kd := [(0, 6, [90, 91, 92, 0, 93, 94, 0, 0, 95, 96, 97, 98, 99, 100, 0, 0, 1, 1, 0, 101, 102, 103, 104, 0, 0, 105, 106, 107]), (1, 58, []), (1, 464, []), (1, 58, []), (1, 3, []), (1, 120, []), (2, 6, []), (1, 6, []), (2, 6, []), (2, 6, []), (2, 36, []), (1, 6, []), (1, 45, []), (1, 45, []), (2, 45, []), (2, 45, []), (2, 10, []), (1, 64, []), (1, 4, [])]
def kdG (b : Nat) : Nat → Kd
  | 0 => (0, 0, [b + 3, b + 4, b + 5, b + 6, b + 7, b + 8, 0, 0])
  | 1 => (1, 6, [])
  | 6 => (3, 10, [])
  | _ => (1, 10, [])
def kd (i : Nat) : Kd := if i < 24 then kdC.getD i (9, 0, []) else if i < 87 then kdG (24 + 7 * ((i - 24) / 7)) ((i - 24) % 7) else kdM.getD (i - 87) (9, 0, [])
abbrev nW : Nat := 106
theorem kd_g0 {γ : Nat} (h : γ < 9) : kd (24 + 7 * γ) = (0, 0, [24 + 7 * γ + 3, 24 + 7 * γ + 4, 24 + 7 * γ + 5, 24 + 7 * γ + 6, 24 + 7 * γ + 7, 24 + 7 * γ + 8, 0, 0]) := by
  match γ, h with
  | 0, _ => rfl
  | 1, _ => rfl
  | 2, _ => rfl
  | 3, _ => rfl
  | 4, _ => rfl
  | 5, _ => rfl
  | 6, _ => rfl
  | 7, _ => rfl
  | 8, _ => rfl
theorem kd_ga {γ r : Nat} (h : γ < 9) (h1 : 1 ≤ r) (h2 : r < 7) : kd (24 + 7 * γ + r) = kdG 0 r := by
  unfold kd
  rw [if_neg (by omega), if_pos (by omega), show (24 + 7 * γ + r - 24) % 7 = r by omega]
  match r, h1, h2 with
  | 1, _, _ => rfl
  | 2, _, _ => rfl
  | 3, _, _ => rfl
  | 4, _, _ => rfl
  | 5, _, _ => rfl
  | 6, _, _ => rfl
theorem kd_row {k : Nat} (h : k < 6) : kd (9 + 1 * (k + 1)) = (2, 8, []) := by
  match k, h with
  | 0, _ => rfl
  | 1, _ => rfl
  | 2, _ => rfl
  | 3, _ => rfl
  | 4, _ => rfl
  | 5, _ => rfl
/-- abstract values: a reference is an id -/
def cvv (ad : Nat → Nat) : Value → Value
  | .ref i => .ref (ad i)
  | v => v
theorem cvv_cat (ad : Nat → Nat) (v : Value) : (cvv ad v).category = v.category := by cases v <;> rfl
def fl (ad : Nat → Nat) (f : Nat → Int32) (g : Nat → Int64) : Nat → List Nat → List Value
  | _, [] => []
  | k, 0 :: t => .int (f k) :: fl ad f g (k + 1) t
  | k, 1 :: t => .long (g k) :: fl ad f g (k + 1) t
  | k, (n + 2) :: t => .ref (ad n) :: fl ad f g (k + 1) t
def mkC (ad : Nat → Nat) (cA : Nat → ClassId) (j : Nat) (q : Kd) (f : Nat → Int32) (g : Nat → Int64) : va_E :=
  match q with
  | (0, n, fs) => .inr (n, fl ad f g 0 fs)
  | (1, n, _) => .inl (cA j, n, .inl f)
  | (2, n, _) => .inl (cA j, n, .inr (.inl g))
  | (3, n, _) => .inl (cA j, n, .inl f)
  | (_, n, fs) => .inl (cA j, n, .inr (.inr (.inr (.inr (fun k => some (ad (fs.getD 0 0 + fs.getD 1 0 * (k + 1))))))))
def ceO (ad : Nat → Nat) (cA : Nat → ClassId) (σ : St) (j : Nat) : va_E := mkC ad cA j (kd j) (σ.1 j) (σ.2 j)
def wS (ad : Nat → Nat) (cA : Nat → ClassId) (σ : St) : va_W := (List.range nW).map (fun j => (ad j, ceO ad cA σ j))
theorem wS_get {ad : Nat → Nat} {cA : Nat → ClassId} {σ : St} {j : Nat} (h : j < nW) : (wS ad cA σ)[j]? = some (ad j, ceO ad cA σ j) := by
  unfold wS
  rw [List.getElem?_map, List.getElem?_range h]
  rfl
theorem wS_out {ad : Nat → Nat} {cA : Nat → ClassId} {σ : St} {j : Nat} {q : Nat × va_E} (h : (wS ad cA σ)[j]? = some q) : j < nW ∧ q = (ad j, ceO ad cA σ j) := by
  have hl : j < (wS ad cA σ).length := (List.getElem?_eq_some_iff.mp h).1
  have h1 : j < nW := by simpa [wS] using hl
  exact ⟨h1, (Option.some.inj ((wS_get h1).symm.trans h)).symm⟩
theorem wS_set {ad : Nat → Nat} {cA : Nat → ClassId} {σ σ' : St} {i : Nat} {x : va_E} (hi : i < nW) (hx : ceO ad cA σ' i = x) (ho : ∀ j, j ≠ i → σ'.1 j = σ.1 j ∧ σ'.2 j = σ.2 j) : (wS ad cA σ).set i (ad i, x) = wS ad cA σ' := by
  apply List.ext_getElem?
  intro j
  rw [List.getElem?_set]
  by_cases h : i = j
  · subst h
    rw [if_pos rfl, wS_get hi, hx]
    simp [wS, hi]
  · rw [if_neg h]
    by_cases hj : j < nW
    · rw [wS_get hj, wS_get hj]
      unfold ceO
      rw [(ho j (fun e => h e.symm)).1, (ho j (fun e => h e.symm)).2]
    · have h1 : (wS ad cA σ)[j]? = none := List.getElem?_eq_none (by simpa [wS] using Nat.not_lt.mp hj)
      have h2 : (wS ad cA σ')[j]? = none := List.getElem?_eq_none (by simpa [wS] using Nat.not_lt.mp hj)
      rw [h1, h2]
theorem sI_same (σ : St) (i k : Nat) (v : Int32) : (sI σ i k v).1 i = upd (σ.1 i) k v := if_pos rfl
theorem sI_ne (σ : St) {i j : Nat} (k : Nat) (v : Int32) (h : j ≠ i) : (sI σ i k v).1 j = σ.1 j := if_neg h
theorem sL_same (σ : St) (i k : Nat) (v : Int64) : (sL σ i k v).2 i = vp_updL (σ.2 i) k v := if_pos rfl
theorem sL_ne (σ : St) {i j : Nat} (k : Nat) (v : Int64) (h : j ≠ i) : (sL σ i k v).2 j = σ.2 j := if_neg h
theorem fl_len (ad : Nat → Nat) (f : Nat → Int32) (g : Nat → Int64) : ∀ (fs : List Nat) (k : Nat), (fl ad f g k fs).length = fs.length
  | [], _ => rfl
  | 0 :: t, k => by simp [fl, fl_len ad f g t]
  | 1 :: t, k => by simp [fl, fl_len ad f g t]
  | (n + 2) :: t, k => by simp [fl, fl_len ad f g t]
theorem fl_getI {ad : Nat → Nat} {f : Nat → Int32} {g : Nat → Int64} : ∀ {fs : List Nat} {k k0 : Nat}, fs[k]? = some 0 → (fl ad f g k0 fs)[k]? = some (.int (f (k0 + k)))
  | [], _, _, h => by cases h
  | x :: t, 0, k0, h => by
    cases h
    rfl
  | x :: t, k + 1, k0, h => by
    have h2 : (fl ad f g (k0 + 1) t)[k]? = some (.int (f (k0 + 1 + k))) := fl_getI (by simpa using h)
    rw [show k0 + (k + 1) = k0 + 1 + k by omega]
    match x with
    | 0 => exact h2
    | 1 => exact h2
    | n + 2 => exact h2
theorem fl_getL {ad : Nat → Nat} {f : Nat → Int32} {g : Nat → Int64} : ∀ {fs : List Nat} {k k0 : Nat}, fs[k]? = some 1 → (fl ad f g k0 fs)[k]? = some (.long (g (k0 + k)))
  | [], _, _, h => by cases h
  | x :: t, 0, k0, h => by
    cases h
    rfl
  | x :: t, k + 1, k0, h => by
    have h2 : (fl ad f g (k0 + 1) t)[k]? = some (.long (g (k0 + 1 + k))) := fl_getL (by simpa using h)
    rw [show k0 + (k + 1) = k0 + 1 + k by omega]
    match x with
    | 0 => exact h2
    | 1 => exact h2
    | n + 2 => exact h2
theorem fl_getR {ad : Nat → Nat} {f : Nat → Int32} {g : Nat → Int64} : ∀ {fs : List Nat} {k k0 n : Nat}, fs[k]? = some (n + 2) → (fl ad f g k0 fs)[k]? = some (.ref (ad n))
  | [], _, _, _, h => by cases h
  | x :: t, 0, k0, n, h => by
    cases h
    rfl
  | x :: t, k + 1, k0, n, h => by
    have h2 : (fl ad f g (k0 + 1) t)[k]? = some (.ref (ad n)) := fl_getR (by simpa using h)
    match x with
    | 0 => exact h2
    | 1 => exact h2
    | n + 2 => exact h2
theorem fl_setI {ad : Nat → Nat} {f : Nat → Int32} {g : Nat → Int64} {v : Int32} : ∀ {fs : List Nat} {k k0 : Nat}, fs[k]? = some 0 → (fl ad f g k0 fs).set k (.int v) = fl ad (upd f (k0 + k) v) g k0 fs := by
  intro fs
  have frame : ∀ (t : List Nat) (k0 k1 : Nat), k1 < k0 → fl ad (upd f k1 v) g k0 t = fl ad f g k0 t := by
    intro t
    induction t with
    | nil => intro _ _ _; rfl
    | cons x t ih =>
      intro k0 k1 h
      match x with
      | 0 => simp only [fl, ih (k0 + 1) k1 (by omega), upd, if_neg (show ¬ k0 = k1 by omega)]
      | 1 => simp only [fl, ih (k0 + 1) k1 (by omega)]
      | n + 2 => simp only [fl, ih (k0 + 1) k1 (by omega)]
  induction fs with
  | nil => intro k k0 h; cases h
  | cons x t ih =>
    intro k k0 h
    match k with
    | 0 =>
      cases h
      simp only [fl, List.set_cons_zero, Nat.add_zero, frame t (k0 + 1) k0 (by omega), upd, if_pos]
    | k + 1 =>
      have h2 := ih (k := k) (k0 := k0 + 1) (by simpa using h)
      rw [show k0 + (k + 1) = k0 + 1 + k by omega]
      match x with
      | 0 => simp only [fl, List.set_cons_succ, h2, upd, if_neg (show ¬ k0 = k0 + 1 + k by omega)]
      | 1 => simp only [fl, List.set_cons_succ, h2]
      | n + 2 => simp only [fl, List.set_cons_succ, h2]
theorem fl_setL {ad : Nat → Nat} {f : Nat → Int32} {g : Nat → Int64} {v : Int64} : ∀ {fs : List Nat} {k k0 : Nat}, fs[k]? = some 1 → (fl ad f g k0 fs).set k (.long v) = fl ad f (vp_updL g (k0 + k) v) k0 fs := by
  intro fs
  have frame : ∀ (t : List Nat) (k0 k1 : Nat), k1 < k0 → fl ad f (vp_updL g k1 v) k0 t = fl ad f g k0 t := by
    intro t
    induction t with
    | nil => intro _ _ _; rfl
    | cons x t ih =>
      intro k0 k1 h
      match x with
      | 0 => simp only [fl, ih (k0 + 1) k1 (by omega)]
      | 1 => simp only [fl, ih (k0 + 1) k1 (by omega), vp_updL, if_neg (show ¬ k0 = k1 by omega)]
      | n + 2 => simp only [fl, ih (k0 + 1) k1 (by omega)]
  induction fs with
  | nil => intro k k0 h; cases h
  | cons x t ih =>
    intro k k0 h
    match k with
    | 0 =>
      cases h
      simp only [fl, List.set_cons_zero, Nat.add_zero, frame t (k0 + 1) k0 (by omega), vp_updL, if_pos]
    | k + 1 =>
      have h2 := ih (k := k) (k0 := k0 + 1) (by simpa using h)
      rw [show k0 + (k + 1) = k0 + 1 + k by omega]
      match x with
      | 0 => simp only [fl, List.set_cons_succ, h2]
      | 1 => simp only [fl, List.set_cons_succ, h2, vp_updL, if_neg (show ¬ k0 = k0 + 1 + k by omega)]
      | n + 2 => simp only [fl, List.set_cons_succ, h2]
end
section
/-! THE JUDGEMENT WW: the machine at a frame of a method, over the typed store; a row an instruction -/
def isNst : Cond → Bool
  | .fieldLinkNest .. => true
  | .methodLinkNest .. => true
  | _ => false
def lw_g : List Cond := lw_tbl.filter goodWord
def lw_n : List Cond := lw_tbl.filter isNst
theorem in_g {w : Cond} (h : w ∈ lw_tbl) (hg : goodWord w = true) : w ∈ lw_g := List.mem_filter.mpr ⟨h, hg⟩
theorem in_n {w : Cond} (h : w ∈ lw_tbl) (hg : isNst w = true) : w ∈ lw_n := List.mem_filter.mpr ⟨h, hg⟩
def NWs (U : State) : Prop := ∀ w ∈ lw_n, va_Nw w U
theorem NWs.warm {s U : State} (hW : s.WarmedH U.vm) (h : NWs s) : NWs U := by
  intro w hw
  have hn := (List.mem_filter.mp hw).2
  have h1 := h w hw
  cases w <;> first | exact va_Nw.warmF hW h1 | exact va_Nw.warmM hW h1 | cases hn
theorem NWs.same {u U : State} (hv : u.vm = U.vm) (h : NWs u) : NWs U := by
  intro w hw
  have hn := (List.mem_filter.mp hw).2
  have h1 := h w hw
  cases w <;> first | exact va_Nw.same rfl hv h1 | cases hn
def tyk (q : Kd) : FieldType := match q with
  | (1, _, _) => .int
  | (2, _, _) => .long
  | (3, _, _) => .boolean
  | (_, 8, _) => .object "OutageScreen$Grid"
  | _ => .array .long
def KA (cA : Nat → ClassId) (U : State) : Prop := ∀ j, j < nW → (kd j).1 ≠ 0 → ArrOfT U (cA j) (tyk (kd j)) ∧ va_RA U (cA j) (tyk (kd j))
theorem KA.moved {cA : Nat → ClassId} {u U : State} (hvm : u.vm.Alike U.vm) (h : KA cA u) : KA cA U := fun j h1 h2 => ⟨arrOfT_moved hvm (h j h1 h2).1, (h j h1 h2).2.moved hvm⟩
/-- the eight words of the commands: their cells are ids 200 to 207 -/
def lenS : List Nat := [3, 4, 4, 5, 5, 8, 4, 5]
def bytS : List (List Int32) := [[98, 117, 115], [108, 105, 110, 101], [111, 112, 101, 110], [99, 108, 111, 115, 101], [108, 105, 109, 105, 116], [115, 116, 114, 101, 110, 103, 116, 104], [100, 114, 111, 112], [98, 101, 103, 105, 110]]
def txtS : List (Nat × String) := [(83, "bus"), (85, "line"), (87, "open"), (89, "close"), (91, "limit"), (93, "strength"), (95, "drop"), (97, "begin")]
def Str (ad : Nat → Nat) (A : Nat → Prop) (U : State) (H : Heap) : Prop := (∃ adV : Nat → Nat, vk_S 8 lenS bytS (fun i => ad (200 + i)) adV A U H) ∧ ∀ i : Nat, i < 8 → vk_R RX3 (txtS.getD i (0, "")).1 (txtS.getD i (0, "")).2 (ad (200 + i)) U
def Inj (ad : Nat → Nat) : Prop := ∀ i j, i < nW → j < nW → ad i = ad j → i = j
def Aw (ad : Nat → Nat) (sz : Nat) : Nat → Prop := fun q => (∃ i, i < nW ∧ q = ad i) ∨ sz ≤ q
def LR (ad : Nat → Nat) (ls : Array Slot) (nL : Nat) (L : List (Option Value)) : Prop := ls.size = nL ∧ lv_wf ls ∧ ∀ (i : Nat) (v : Value), L[i]? = some (some v) → ls[i]? = some (.val (cvv ad v))
abbrev Cxt : Type := Program × Launch × Env × Room × State × MethodId × Array Value × List Frame × Method × Code × va_G × (Nat → Nat) × (Nat → ClassId) × (State → Prop) × Nat × Nat
def WW (Γ : Cxt) (pc : Nat) (L : List (Option Value)) (st : List Value) (σ : St) : Prop :=
  match Γ with
  | (p, l, e, R, s, m, args, below, meth, c, D, ad, cA, Q, nc, ns) => ∀ (H : Heap) (locs : List Loc) (ls : Array Slot), va_P D cl7 (wS ad cA σ) H → va_S (Aw ad s.heap.size) s.heap H locs → LR ad ls c.maxLocals L → W p l e R s m args below meth c H locs nc ns Q (F0 m pc ls (st.map (cvv ad)))
/-- what a walk rests on: the machine, the code, the words, the classes; fr, lo: the room -/
def OK (Γ : Cxt) (own : String) (cc : ByteArray) (nL : Nat) (rt : Option FieldType) (fr lo : Nat) : Prop :=
  match Γ with
  | (p, l, e, R, s, m, args, below, meth, c, D, ad, cA, Q, nc, ns) => p.tables.exec = Jvm.exec ∧ c.code = cc ∧ meth.sig.returnType = rt ∧ c.maxLocals = nL ∧ s.vm.findClass own = some m.cls ∧ (∀ w ∈ lw_g, w.before args s = true) ∧ NWs s ∧ va_K D cl7 [] s ∧ KA cA s ∧ Inj ad ∧ meth.locks = false ∧ Str ad (Aw ad s.heap.size) s s.heap ∧ (fr ≤ R.frames ∧ lo ≤ R.locals ∧ nc ≤ R.cells ∧ ns ≤ R.slots)
theorem wS_D {ad : Nat → Nat} {cA : Nat → ClassId} {σ : St} {sz : Nat} (h : Inj ad) : va_D (Aw ad sz) (wS ad cA σ) := by
  refine ⟨fun i j p q hp hq e => ?_, fun k q hq => ?_⟩
  · obtain ⟨h1, rfl⟩ := wS_out hp
    obtain ⟨h2, rfl⟩ := wS_out hq
    exact h i j h1 h2 e
  · obtain ⟨h1, rfl⟩ := wS_out hq
    exact Or.inl ⟨k, h1, rfl⟩
def lvO (ad : Nat → Nat) : Nat → List (Option Value) → List (Nat × Value)
  | _, [] => []
  | k, none :: t => lvO ad (k + 1) t
  | k, some v :: t => (k, cvv ad v) :: lvO ad (k + 1) t
theorem lvO_mem {ad : Nat → Nat} : ∀ {L : List (Option Value)} {k i : Nat} {v : Value}, L[i]? = some (some v) → (k + i, cvv ad v) ∈ lvO ad k L
  | [], _, _, _, h => by cases h
  | x :: t, k, 0, v, h => by
    cases h
    exact List.mem_cons_self
  | x :: t, k, i + 1, v, h => by
    have h2 : (k + 1 + i, cvv ad v) ∈ lvO ad (k + 1) t := lvO_mem (by simpa using h)
    rw [show k + (i + 1) = k + 1 + i by omega]
    match x with
    | none => exact h2
    | some y => exact List.mem_cons_of_mem _ h2
theorem lvO_of {ad : Nat → Nat} : ∀ {L : List (Option Value)} {k : Nat} {q : Nat × Value}, q ∈ lvO ad k L → ∃ (i : Nat) (v : Value), L[i]? = some (some v) ∧ q = (k + i, cvv ad v)
  | [], _, _, h => by cases h
  | none :: t, k, q, h => by
    obtain ⟨i, v, h1, h2⟩ := lvO_of (L := t) (k := k + 1) h
    exact ⟨i + 1, v, by simpa using h1, by rw [h2, show k + 1 + i = k + (i + 1) by omega]⟩
  | some y :: t, k, q, h => by
    rcases List.mem_cons.mp h with h | h
    · exact ⟨0, y, rfl, h⟩
    · obtain ⟨i, v, h1, h2⟩ := lvO_of (L := t) (k := k + 1) h
      exact ⟨i + 1, v, by simpa using h1, by rw [h2, show k + 1 + i = k + (i + 1) by omega]⟩
theorem LR.has {ad : Nat → Nat} {ls : Array Slot} {nL : Nat} {L : List (Option Value)} (h : LR ad ls nL L) : lv_has ls nL (lvO ad 0 L) := by
  refine ⟨h.1, h.2.1, fun q hq => ?_⟩
  obtain ⟨i, v, h1, rfl⟩ := lvO_of hq
  rw [Nat.zero_add]
  exact h.2.2 i v h1
/-- no long value lies just below the place i -/
def oks (L : List (Option Value)) (i : Nat) : Bool := match i with
  | 0 => true
  | j + 1 => match L[j]? with
    | some (some v) => !(v.category == 2)
    | _ => true
theorem LR.st1 {ad : Nat → Nat} {ls' : Array Slot} {nL i : Nat} {L : List (Option Value)} {v : Value} (ho : oks L i = true) (h : lv_has ls' nL ((i, cvv ad v) :: (lvO ad 0 L).filter (fun q => !(q.1 == i) && !(q.1 + 1 == i && q.2.category == 2)))) : LR ad ls' nL (L.set i (some v)) := by
  refine ⟨h.1, h.2.1, fun j x hj => ?_⟩
  rw [List.getElem?_set] at hj
  by_cases e : i = j
  · subst e
    rw [if_pos rfl] at hj
    split at hj
    · cases hj
      exact h.2.2 _ List.mem_cons_self
    · cases hj
  · rw [if_neg e] at hj
    refine h.2.2 (j, cvv ad x) (List.mem_cons_of_mem _ (List.mem_filter.mpr ⟨?_, ?_⟩))
    · have := lvO_mem (ad := ad) (k := 0) hj
      rwa [Nat.zero_add] at this
    · simp only [Bool.and_eq_true, Bool.not_eq_true', beq_eq_false_iff_ne, ne_eq, Bool.and_eq_false_iff]
      refine ⟨fun q => e q.symm, ?_⟩
      by_cases e2 : j + 1 = i
      · right
        subst e2
        simp only [oks, hj, Bool.not_eq_true', beq_eq_false_iff_ne, ne_eq] at ho
        rw [cvv_cat]
        exact ho
      · left
        exact e2
theorem LR.st2 {ad : Nat → Nat} {ls' : Array Slot} {nL i : Nat} {L : List (Option Value)} {v : Value} (ho : oks L i = true) (h : lv_has ls' nL ((i, cvv ad v) :: (lvO ad 0 L).filter (fun q => !(q.1 == i) && (!(q.1 == i + 1) && !(q.1 + 1 == i && q.2.category == 2))))) : LR ad ls' nL ((L.set i (some v)).set (i + 1) none) := by
  refine ⟨h.1, h.2.1, fun j x hj => ?_⟩
  rw [List.getElem?_set] at hj
  by_cases e1 : i + 1 = j
  · subst e1
    rw [if_pos rfl] at hj
    split at hj
    · cases hj
    · cases hj
  rw [if_neg e1, List.getElem?_set] at hj
  by_cases e : i = j
  · subst e
    rw [if_pos rfl] at hj
    split at hj
    · cases hj
      exact h.2.2 _ List.mem_cons_self
    · cases hj
  · rw [if_neg e] at hj
    refine h.2.2 (j, cvv ad x) (List.mem_cons_of_mem _ (List.mem_filter.mpr ⟨?_, ?_⟩))
    · have := lvO_mem (ad := ad) (k := 0) hj
      rwa [Nat.zero_add] at this
    · simp only [Bool.and_eq_true, Bool.not_eq_true', beq_eq_false_iff_ne, ne_eq, Bool.and_eq_false_iff]
      refine ⟨fun q => e q.symm, fun q => e1 q.symm, ?_⟩
      by_cases e2 : j + 1 = i
      · right
        subst e2
        simp only [oks, hj, Bool.not_eq_true', beq_eq_false_iff_ne, ne_eq] at ho
        rw [cvv_cat]
        exact ho
      · left
        exact e2
theorem LR.le {ad : Nat → Nat} {ls : Array Slot} {nL : Nat} {L L' : List (Option Value)} (h : LR ad ls nL L) (hs : ∀ (i : Nat) (v : Value), L'[i]? = some (some v) → L[i]? = some (some v)) : LR ad ls nL L' := ⟨h.1, h.2.1, fun i v q => h.2.2 i v (hs i v q)⟩

section RW
variable {Γ : Cxt} {own : String} {cc : ByteArray} {nL fr lo pc : Nat} {rt : Option FieldType} {L : List (Option Value)} {st : List Value} {σ : St}
theorem s_iconst (G : OK Γ own cc nL rt fr lo) {n : Int} {v : Int32} (hd : decode cc pc = .ok (.iconst n, 1)) (hv : Int32.ofInt n = v) (k : WW Γ (pc + 1) L (.int v :: st) σ) : WW Γ pc L st σ := by
  obtain ⟨p, l, e, R, s, m, args, below, meth, c, D, ad, cA, Q, nc, ns⟩ := Γ
  obtain ⟨hx, hb, hr, hml, hown, hts, hN, hK, hKA, hI, hlk, hStr, hR⟩ := G
  intro H locs ls hP hS hL
  exact lv_iconst hx hb hd hv (k H locs ls hP hS hL)
theorem s_bipush (G : OK Γ own cc nL rt fr lo) {n : Int} {v : Int32} (hd : decode cc pc = .ok (.bipush n, 2)) (hv : (Int8.ofInt n).toInt32 = v) (k : WW Γ (pc + 2) L (.int v :: st) σ) : WW Γ pc L st σ := by
  obtain ⟨p, l, e, R, s, m, args, below, meth, c, D, ad, cA, Q, nc, ns⟩ := Γ
  obtain ⟨hx, hb, hr, hml, hown, hts, hN, hK, hKA, hI, hlk, hStr, hR⟩ := G
  intro H locs ls hP hS hL
  exact lv_bipush hx hb hd hv (k H locs ls hP hS hL)
theorem s_sipush (G : OK Γ own cc nL rt fr lo) {n : Int} {v : Int32} (hd : decode cc pc = .ok (.sipush n, 3)) (hv : (Int16.ofInt n).toInt32 = v) (k : WW Γ (pc + 3) L (.int v :: st) σ) : WW Γ pc L st σ := by
  obtain ⟨p, l, e, R, s, m, args, below, meth, c, D, ad, cA, Q, nc, ns⟩ := Γ
  obtain ⟨hx, hb, hr, hml, hown, hts, hN, hK, hKA, hI, hlk, hStr, hR⟩ := G
  intro H locs ls hP hS hL
  exact lv_sipush hx hb hd hv (k H locs ls hP hS hL)
theorem s_lconst (G : OK Γ own cc nL rt fr lo) {n : Fin 2} {v : Int64} (hd : decode cc pc = .ok (.lconst n, 1)) (hv : Int64.ofNat (n : Nat) = v) (k : WW Γ (pc + 1) L (.long v :: st) σ) : WW Γ pc L st σ := by
  obtain ⟨p, l, e, R, s, m, args, below, meth, c, D, ad, cA, Q, nc, ns⟩ := Γ
  obtain ⟨hx, hb, hr, hml, hown, hts, hN, hK, hKA, hI, hlk, hStr, hR⟩ := G
  intro H locs ls hP hS hL
  exact lv_lconst hx hb hd hv (k H locs ls hP hS hL)
theorem s_ldc (G : OK Γ own cc nL rt fr lo) {idx : Nat} {v : Int32} (hd : decode cc pc = .ok (.ldc idx, 2)) (hc : Cond.constant own idx v ∈ lw_g) (k : WW Γ (pc + 2) L (.int v :: st) σ) : WW Γ pc L st σ := by
  obtain ⟨p, l, e, R, s, m, args, below, meth, c, D, ad, cA, Q, nc, ns⟩ := Γ
  obtain ⟨hx, hb, hr, hml, hown, hts, hN, hK, hKA, hI, hlk, hStr, hR⟩ := G
  intro H locs ls hP hS hL
  exact lv_ldc hx hb hown (hts _ hc) hd (k H locs ls hP hS hL)
theorem s_ldc2 (G : OK Γ own cc nL rt fr lo) {idx : Nat} {v : Int64} (hd : decode cc pc = .ok (.ldc2_w idx, 3)) (hc : Cond.constantLong own idx v ∈ lw_g) (k : WW Γ (pc + 3) L (.long v :: st) σ) : WW Γ pc L st σ := by
  obtain ⟨p, l, e, R, s, m, args, below, meth, c, D, ad, cA, Q, nc, ns⟩ := Γ
  obtain ⟨hx, hb, hr, hml, hown, hts, hN, hK, hKA, hI, hlk, hStr, hR⟩ := G
  intro H locs ls hP hS hL
  exact lv_ldc2 hx hb hown (hts _ hc) hd (k H locs ls hP hS hL)
theorem s_ldcS {idx i : Nat} {tx : String} (G : OK Γ RX3 cc nL rt fr lo) (hd : decode cc pc = .ok (.ldc idx, 2)) (hi : i < 8) (ht : txtS.getD i (0, "") = (idx, tx)) (k : WW Γ (pc + 2) L (.ref (200 + i) :: st) σ) : WW Γ pc L st σ := by
  obtain ⟨p, l, e, R, s, m, args, below, meth, c, D, ad, cA, Q, nc, ns⟩ := Γ
  obtain ⟨hx, hb, hr, hml, hown, hts, hN, hK, hKA, hI, hlk, hStr, hR⟩ := G
  intro H locs ls hP hS hL
  have h1 := hStr.2 i hi
  rw [ht] at h1
  exact va_ldcS hx hb hown h1 hd (k H locs ls hP hS hL)
theorem s_iload_n (G : OK Γ own cc nL rt fr lo) {j : Fin 4} {x : Int32} (hd : decode cc pc = .ok (.iload_n j, 1)) (hv : L[(j : Nat)]? = some (some (.int x))) (k : WW Γ (pc + 1) L (.int x :: st) σ) : WW Γ pc L st σ := by
  obtain ⟨p, l, e, R, s, m, args, below, meth, c, D, ad, cA, Q, nc, ns⟩ := Γ
  obtain ⟨hx, hb, hr, hml, hown, hts, hN, hK, hKA, hI, hlk, hStr, hR⟩ := G
  intro H locs ls hP hS hL
  exact lv_iload_n hx hb hd rfl (hL.2.2 _ _ hv) (k H locs ls hP hS hL)
theorem s_iload (G : OK Γ own cc nL rt fr lo) {j : Nat} {x : Int32} (hd : decode cc pc = .ok (.iload j, 2)) (hv : L[j]? = some (some (.int x))) (k : WW Γ (pc + 2) L (.int x :: st) σ) : WW Γ pc L st σ := by
  obtain ⟨p, l, e, R, s, m, args, below, meth, c, D, ad, cA, Q, nc, ns⟩ := Γ
  obtain ⟨hx, hb, hr, hml, hown, hts, hN, hK, hKA, hI, hlk, hStr, hR⟩ := G
  intro H locs ls hP hS hL
  exact lv_iload hx hb hd (hL.2.2 _ _ hv) (k H locs ls hP hS hL)
theorem s_lload_n (G : OK Γ own cc nL rt fr lo) {j : Fin 4} {x : Int64} (hd : decode cc pc = .ok (.lload_n j, 1)) (hv : L[(j : Nat)]? = some (some (.long x))) (k : WW Γ (pc + 1) L (.long x :: st) σ) : WW Γ pc L st σ := by
  obtain ⟨p, l, e, R, s, m, args, below, meth, c, D, ad, cA, Q, nc, ns⟩ := Γ
  obtain ⟨hx, hb, hr, hml, hown, hts, hN, hK, hKA, hI, hlk, hStr, hR⟩ := G
  intro H locs ls hP hS hL
  exact lv_lload_n hx hb hd rfl (hL.2.2 _ _ hv) (k H locs ls hP hS hL)
theorem s_lload (G : OK Γ own cc nL rt fr lo) {j : Nat} {x : Int64} (hd : decode cc pc = .ok (.lload j, 2)) (hv : L[j]? = some (some (.long x))) (k : WW Γ (pc + 2) L (.long x :: st) σ) : WW Γ pc L st σ := by
  obtain ⟨p, l, e, R, s, m, args, below, meth, c, D, ad, cA, Q, nc, ns⟩ := Γ
  obtain ⟨hx, hb, hr, hml, hown, hts, hN, hK, hKA, hI, hlk, hStr, hR⟩ := G
  intro H locs ls hP hS hL
  exact lv_lload hx hb hd (hL.2.2 _ _ hv) (k H locs ls hP hS hL)
theorem s_aload_n (G : OK Γ own cc nL rt fr lo) {j : Fin 4} {x : Nat} (hd : decode cc pc = .ok (.aload_n j, 1)) (hv : L[(j : Nat)]? = some (some (.ref x))) (k : WW Γ (pc + 1) L (.ref x :: st) σ) : WW Γ pc L st σ := by
  obtain ⟨p, l, e, R, s, m, args, below, meth, c, D, ad, cA, Q, nc, ns⟩ := Γ
  obtain ⟨hx, hb, hr, hml, hown, hts, hN, hK, hKA, hI, hlk, hStr, hR⟩ := G
  intro H locs ls hP hS hL
  exact lv_aload_n hx hb hd rfl (hL.2.2 _ _ hv) (k H locs ls hP hS hL)
theorem s_aload (G : OK Γ own cc nL rt fr lo) {j : Nat} {x : Nat} (hd : decode cc pc = .ok (.aload j, 2)) (hv : L[j]? = some (some (.ref x))) (k : WW Γ (pc + 2) L (.ref x :: st) σ) : WW Γ pc L st σ := by
  obtain ⟨p, l, e, R, s, m, args, below, meth, c, D, ad, cA, Q, nc, ns⟩ := Γ
  obtain ⟨hx, hb, hr, hml, hown, hts, hN, hK, hKA, hI, hlk, hStr, hR⟩ := G
  intro H locs ls hP hS hL
  exact lv_aload hx hb hd (hL.2.2 _ _ hv) (k H locs ls hP hS hL)
theorem s_istore_n {j : Nat} {i : Fin 4} {x : Int32} {L' : List (Option Value)} (G : OK Γ own cc nL rt fr lo) (hd : decode cc pc = .ok (.istore_n i, 1)) (hi : (i : Nat) = j) (hn : j < nL) (ho : oks L j = true) (hL' : (L.set j (some (.int x))) = L') (k : WW Γ (pc + 1) L' st σ) : WW Γ pc L (.int x :: st) σ := by
  obtain ⟨p, l, e, R, s, m, args, below, meth, c, D, ad, cA, Q, nc, ns⟩ := Γ
  obtain ⟨hx, hb, hr, hml, hown, hts, hN, hK, hKA, hI, hlk, hStr, hR⟩ := G
  intro H locs ls hP hS hL
  subst hL'
  have hh := hL.has
  rw [hml] at hh
  exact lv_istore_n hx hb hd hi hh hn rfl (fun ls' h' => k H locs ls' hP hS (by rw [hml]; exact LR.st1 (v := .int x) ho h'))
theorem s_istore {j : Nat} {x : Int32} {L' : List (Option Value)} (G : OK Γ own cc nL rt fr lo) (hd : decode cc pc = .ok (.istore j, 2)) (hn : j < nL) (ho : oks L j = true) (hL' : (L.set j (some (.int x))) = L') (k : WW Γ (pc + 2) L' st σ) : WW Γ pc L (.int x :: st) σ := by
  obtain ⟨p, l, e, R, s, m, args, below, meth, c, D, ad, cA, Q, nc, ns⟩ := Γ
  obtain ⟨hx, hb, hr, hml, hown, hts, hN, hK, hKA, hI, hlk, hStr, hR⟩ := G
  intro H locs ls hP hS hL
  subst hL'
  have hh := hL.has
  rw [hml] at hh
  exact lv_istore hx hb hd hh hn rfl (fun ls' h' => k H locs ls' hP hS (by rw [hml]; exact LR.st1 (v := .int x) ho h'))
theorem s_astore_n {j : Nat} {i : Fin 4} {x : Nat} {L' : List (Option Value)} (G : OK Γ own cc nL rt fr lo) (hd : decode cc pc = .ok (.astore_n i, 1)) (hi : (i : Nat) = j) (hn : j < nL) (ho : oks L j = true) (hL' : (L.set j (some (.ref x))) = L') (k : WW Γ (pc + 1) L' st σ) : WW Γ pc L (.ref x :: st) σ := by
  obtain ⟨p, l, e, R, s, m, args, below, meth, c, D, ad, cA, Q, nc, ns⟩ := Γ
  obtain ⟨hx, hb, hr, hml, hown, hts, hN, hK, hKA, hI, hlk, hStr, hR⟩ := G
  intro H locs ls hP hS hL
  subst hL'
  have hh := hL.has
  rw [hml] at hh
  exact lv_astore_n hx hb hd hi hh hn rfl (fun ls' h' => k H locs ls' hP hS (by rw [hml]; exact LR.st1 (v := .ref x) ho h'))
theorem s_astore {j : Nat} {x : Nat} {L' : List (Option Value)} (G : OK Γ own cc nL rt fr lo) (hd : decode cc pc = .ok (.astore j, 2)) (hn : j < nL) (ho : oks L j = true) (hL' : (L.set j (some (.ref x))) = L') (k : WW Γ (pc + 2) L' st σ) : WW Γ pc L (.ref x :: st) σ := by
  obtain ⟨p, l, e, R, s, m, args, below, meth, c, D, ad, cA, Q, nc, ns⟩ := Γ
  obtain ⟨hx, hb, hr, hml, hown, hts, hN, hK, hKA, hI, hlk, hStr, hR⟩ := G
  intro H locs ls hP hS hL
  subst hL'
  have hh := hL.has
  rw [hml] at hh
  exact lv_astore hx hb hd hh hn rfl (fun ls' h' => k H locs ls' hP hS (by rw [hml]; exact LR.st1 (v := .ref x) ho h'))
theorem s_lstore_n {j : Nat} {i : Fin 4} {x : Int64} {L' : List (Option Value)} (G : OK Γ own cc nL rt fr lo) (hd : decode cc pc = .ok (.lstore_n i, 1)) (hi : (i : Nat) = j) (hn : j + 1 < nL) (ho : oks L j = true) (hL' : ((L.set j (some (.long x))).set (j + 1) none) = L') (k : WW Γ (pc + 1) L' st σ) : WW Γ pc L (.long x :: st) σ := by
  obtain ⟨p, l, e, R, s, m, args, below, meth, c, D, ad, cA, Q, nc, ns⟩ := Γ
  obtain ⟨hx, hb, hr, hml, hown, hts, hN, hK, hKA, hI, hlk, hStr, hR⟩ := G
  intro H locs ls hP hS hL
  subst hL'
  have hh := hL.has
  rw [hml] at hh
  exact lv_lstore_n hx hb hd hi hh hn rfl (fun ls' h' => k H locs ls' hP hS (by rw [hml]; exact LR.st2 (v := .long x) ho h'))
theorem s_lstore {j : Nat} {x : Int64} {L' : List (Option Value)} (G : OK Γ own cc nL rt fr lo) (hd : decode cc pc = .ok (.lstore j, 2)) (hn : j + 1 < nL) (ho : oks L j = true) (hL' : ((L.set j (some (.long x))).set (j + 1) none) = L') (k : WW Γ (pc + 2) L' st σ) : WW Γ pc L (.long x :: st) σ := by
  obtain ⟨p, l, e, R, s, m, args, below, meth, c, D, ad, cA, Q, nc, ns⟩ := Γ
  obtain ⟨hx, hb, hr, hml, hown, hts, hN, hK, hKA, hI, hlk, hStr, hR⟩ := G
  intro H locs ls hP hS hL
  subst hL'
  have hh := hL.has
  rw [hml] at hh
  exact lv_lstore hx hb hd hh hn rfl (fun ls' h' => k H locs ls' hP hS (by rw [hml]; exact LR.st2 (v := .long x) ho h'))
theorem s_iinc {j : Nat} {n : Int} {x v : Int32} {L' : List (Option Value)} (G : OK Γ own cc nL rt fr lo) (hd : decode cc pc = .ok (.iinc j n, 3)) (hv : L[j]? = some (some (.int x))) (hx' : x + Int32.ofInt n = v) (hn : j < nL) (ho : oks L j = true) (hL' : L.set j (some (.int v)) = L') (k : WW Γ (pc + 3) L' st σ) : WW Γ pc L st σ := by
  obtain ⟨p, l, e, R, s, m, args, below, meth, c, D, ad, cA, Q, nc, ns⟩ := Γ
  obtain ⟨hx, hb, hr, hml, hown, hts, hN, hK, hKA, hI, hlk, hStr, hR⟩ := G
  intro H locs ls hP hS hL
  subst hL'
  have hh := hL.has
  rw [hml] at hh
  obtain ⟨q, hq⟩ := List.getElem?_of_mem (lvO_mem (ad := ad) (k := 0) hv)
  rw [Nat.zero_add] at hq
  exact lv_iinc hx hb hd hh hq hx' hn rfl (fun ls' h' => k H locs ls' hP hS (by rw [hml]; exact LR.st1 (v := .int v) ho h'))
/-- forget what lies in some locals -/
theorem s_forget {L' : List (Option Value)} (hs : ∀ (i : Nat) (v : Value), L'[i]? = some (some v) → L[i]? = some (some v)) (k : WW Γ pc L' st σ) : WW Γ pc L st σ := by
  obtain ⟨p, l, e, R, s, m, args, below, meth, c, D, ad, cA, Q, nc, ns⟩ := Γ
  intro H locs ls hP hS hL
  exact k H locs ls hP hS (hL.le hs)
def fgt : List (Option Value) → List Bool → List (Option Value)
  | x :: t, true :: u => x :: fgt t u
  | _ :: t, false :: u => none :: fgt t u
  | l, [] => l
  | [], _ => []
theorem fgt_ok : ∀ (L : List (Option Value)) (u : List Bool) (i : Nat) (v : Value), (fgt L u)[i]? = some (some v) → L[i]? = some (some v)
  | [], [], _, _, h => h
  | [], _ :: _, _, _, h => by simp [fgt] at h
  | x :: t, [], _, _, h => h
  | x :: t, true :: u, 0, v, h => h
  | x :: t, true :: u, i + 1, v, h => by simpa using fgt_ok t u i v (by simpa [fgt] using h)
  | x :: t, false :: u, 0, v, h => by simp [fgt] at h
  | x :: t, false :: u, i + 1, v, h => by simpa using fgt_ok t u i v (by simpa [fgt] using h)
theorem s_fgt {L' : List (Option Value)} (u : List Bool) (hL : fgt L u = L') (k : WW Γ pc L' st σ) : WW Γ pc L st σ := s_forget (fun i v h => fgt_ok L u i v (by rw [hL]; exact h)) k
theorem s_iadd (G : OK Γ own cc nL rt fr lo) {x y : Int32} (hd : decode cc pc = .ok (.iadd, 1)) (k : WW Γ (pc + 1) L (.int (x + y) :: st) σ) : WW Γ pc L (.int y :: .int x :: st) σ := by
  obtain ⟨p, l, e, R, s, m, args, below, meth, c, D, ad, cA, Q, nc, ns⟩ := Γ
  obtain ⟨hx, hb, hr, hml, hown, hts, hN, hK, hKA, hI, hlk, hStr, hR⟩ := G
  intro H locs ls hP hS hL
  exact lv_iadd hx hb hd (k H locs ls hP hS hL)
theorem s_isub (G : OK Γ own cc nL rt fr lo) {x y : Int32} (hd : decode cc pc = .ok (.isub, 1)) (k : WW Γ (pc + 1) L (.int (x - y) :: st) σ) : WW Γ pc L (.int y :: .int x :: st) σ := by
  obtain ⟨p, l, e, R, s, m, args, below, meth, c, D, ad, cA, Q, nc, ns⟩ := Γ
  obtain ⟨hx, hb, hr, hml, hown, hts, hN, hK, hKA, hI, hlk, hStr, hR⟩ := G
  intro H locs ls hP hS hL
  exact lv_isub hx hb hd (k H locs ls hP hS hL)
theorem s_imul (G : OK Γ own cc nL rt fr lo) {x y : Int32} (hd : decode cc pc = .ok (.imul, 1)) (k : WW Γ (pc + 1) L (.int (x * y) :: st) σ) : WW Γ pc L (.int y :: .int x :: st) σ := by
  obtain ⟨p, l, e, R, s, m, args, below, meth, c, D, ad, cA, Q, nc, ns⟩ := Γ
  obtain ⟨hx, hb, hr, hml, hown, hts, hN, hK, hKA, hI, hlk, hStr, hR⟩ := G
  intro H locs ls hP hS hL
  exact lv_imul hx hb hd (k H locs ls hP hS hL)
theorem s_iand (G : OK Γ own cc nL rt fr lo) {x y : Int32} (hd : decode cc pc = .ok (.iand, 1)) (k : WW Γ (pc + 1) L (.int (x &&& y) :: st) σ) : WW Γ pc L (.int y :: .int x :: st) σ := by
  obtain ⟨p, l, e, R, s, m, args, below, meth, c, D, ad, cA, Q, nc, ns⟩ := Γ
  obtain ⟨hx, hb, hr, hml, hown, hts, hN, hK, hKA, hI, hlk, hStr, hR⟩ := G
  intro H locs ls hP hS hL
  exact lv_iand hx hb hd (k H locs ls hP hS hL)
theorem s_ior (G : OK Γ own cc nL rt fr lo) {x y : Int32} (hd : decode cc pc = .ok (.ior, 1)) (k : WW Γ (pc + 1) L (.int (x ||| y) :: st) σ) : WW Γ pc L (.int y :: .int x :: st) σ := by
  obtain ⟨p, l, e, R, s, m, args, below, meth, c, D, ad, cA, Q, nc, ns⟩ := Γ
  obtain ⟨hx, hb, hr, hml, hown, hts, hN, hK, hKA, hI, hlk, hStr, hR⟩ := G
  intro H locs ls hP hS hL
  exact lv_ior hx hb hd (k H locs ls hP hS hL)
theorem s_ixor (G : OK Γ own cc nL rt fr lo) {x y : Int32} (hd : decode cc pc = .ok (.ixor, 1)) (k : WW Γ (pc + 1) L (.int (x ^^^ y) :: st) σ) : WW Γ pc L (.int y :: .int x :: st) σ := by
  obtain ⟨p, l, e, R, s, m, args, below, meth, c, D, ad, cA, Q, nc, ns⟩ := Γ
  obtain ⟨hx, hb, hr, hml, hown, hts, hN, hK, hKA, hI, hlk, hStr, hR⟩ := G
  intro H locs ls hP hS hL
  exact lv_ixor hx hb hd (k H locs ls hP hS hL)
theorem s_ishl (G : OK Γ own cc nL rt fr lo) {x y : Int32} (hd : decode cc pc = .ok (.ishl, 1)) (k : WW Γ (pc + 1) L (.int (x <<< (y &&& 31)) :: st) σ) : WW Γ pc L (.int y :: .int x :: st) σ := by
  obtain ⟨p, l, e, R, s, m, args, below, meth, c, D, ad, cA, Q, nc, ns⟩ := Γ
  obtain ⟨hx, hb, hr, hml, hown, hts, hN, hK, hKA, hI, hlk, hStr, hR⟩ := G
  intro H locs ls hP hS hL
  exact lv_ishl hx hb hd (k H locs ls hP hS hL)
theorem s_ishr (G : OK Γ own cc nL rt fr lo) {x y : Int32} (hd : decode cc pc = .ok (.ishr, 1)) (k : WW Γ (pc + 1) L (.int (x >>> (y &&& 31)) :: st) σ) : WW Γ pc L (.int y :: .int x :: st) σ := by
  obtain ⟨p, l, e, R, s, m, args, below, meth, c, D, ad, cA, Q, nc, ns⟩ := Γ
  obtain ⟨hx, hb, hr, hml, hown, hts, hN, hK, hKA, hI, hlk, hStr, hR⟩ := G
  intro H locs ls hP hS hL
  exact lv_ishr hx hb hd (k H locs ls hP hS hL)
theorem s_ladd (G : OK Γ own cc nL rt fr lo) {x y : Int64} (hd : decode cc pc = .ok (.ladd, 1)) (k : WW Γ (pc + 1) L (.long (x + y) :: st) σ) : WW Γ pc L (.long y :: .long x :: st) σ := by
  obtain ⟨p, l, e, R, s, m, args, below, meth, c, D, ad, cA, Q, nc, ns⟩ := Γ
  obtain ⟨hx, hb, hr, hml, hown, hts, hN, hK, hKA, hI, hlk, hStr, hR⟩ := G
  intro H locs ls hP hS hL
  exact lv_ladd hx hb hd (k H locs ls hP hS hL)
theorem s_lsub (G : OK Γ own cc nL rt fr lo) {x y : Int64} (hd : decode cc pc = .ok (.lsub, 1)) (k : WW Γ (pc + 1) L (.long (x - y) :: st) σ) : WW Γ pc L (.long y :: .long x :: st) σ := by
  obtain ⟨p, l, e, R, s, m, args, below, meth, c, D, ad, cA, Q, nc, ns⟩ := Γ
  obtain ⟨hx, hb, hr, hml, hown, hts, hN, hK, hKA, hI, hlk, hStr, hR⟩ := G
  intro H locs ls hP hS hL
  exact lv_lsub hx hb hd (k H locs ls hP hS hL)
theorem s_lmul (G : OK Γ own cc nL rt fr lo) {x y : Int64} (hd : decode cc pc = .ok (.lmul, 1)) (k : WW Γ (pc + 1) L (.long (x * y) :: st) σ) : WW Γ pc L (.long y :: .long x :: st) σ := by
  obtain ⟨p, l, e, R, s, m, args, below, meth, c, D, ad, cA, Q, nc, ns⟩ := Γ
  obtain ⟨hx, hb, hr, hml, hown, hts, hN, hK, hKA, hI, hlk, hStr, hR⟩ := G
  intro H locs ls hP hS hL
  exact lv_lmul hx hb hd (k H locs ls hP hS hL)
theorem s_idiv (G : OK Γ own cc nL rt fr lo) {x y : Int32} (hd : decode cc pc = .ok (.idiv, 1)) (hne : decide (¬ y = 0) = true) (k : WW Γ (pc + 1) L (.int (x / y) :: st) σ) : WW Γ pc L (.int y :: .int x :: st) σ := by
  obtain ⟨p, l, e, R, s, m, args, below, meth, c, D, ad, cA, Q, nc, ns⟩ := Γ
  obtain ⟨hx, hb, hr, hml, hown, hts, hN, hK, hKA, hI, hlk, hStr, hR⟩ := G
  intro H locs ls hP hS hL
  exact lv_idiv hx hb hd (of_decide_eq_true hne) (k H locs ls hP hS hL)
theorem s_irem (G : OK Γ own cc nL rt fr lo) {x y : Int32} (hd : decode cc pc = .ok (.irem, 1)) (hne : decide (¬ y = 0) = true) (k : WW Γ (pc + 1) L (.int (x - x / y * y) :: st) σ) : WW Γ pc L (.int y :: .int x :: st) σ := by
  obtain ⟨p, l, e, R, s, m, args, below, meth, c, D, ad, cA, Q, nc, ns⟩ := Γ
  obtain ⟨hx, hb, hr, hml, hown, hts, hN, hK, hKA, hI, hlk, hStr, hR⟩ := G
  intro H locs ls hP hS hL
  exact lv_irem hx hb hd (of_decide_eq_true hne) (k H locs ls hP hS hL)
theorem s_ldiv (G : OK Γ own cc nL rt fr lo) {x y : Int64} (hd : decode cc pc = .ok (.ldiv, 1)) (hne : decide (¬ y = 0) = true) (k : WW Γ (pc + 1) L (.long (x / y) :: st) σ) : WW Γ pc L (.long y :: .long x :: st) σ := by
  obtain ⟨p, l, e, R, s, m, args, below, meth, c, D, ad, cA, Q, nc, ns⟩ := Γ
  obtain ⟨hx, hb, hr, hml, hown, hts, hN, hK, hKA, hI, hlk, hStr, hR⟩ := G
  intro H locs ls hP hS hL
  exact lv_ldiv hx hb hd (of_decide_eq_true hne) (k H locs ls hP hS hL)
theorem s_lrem (G : OK Γ own cc nL rt fr lo) {x y : Int64} (hd : decode cc pc = .ok (.lrem, 1)) (hne : decide (¬ y = 0) = true) (k : WW Γ (pc + 1) L (.long (x - x / y * y) :: st) σ) : WW Γ pc L (.long y :: .long x :: st) σ := by
  obtain ⟨p, l, e, R, s, m, args, below, meth, c, D, ad, cA, Q, nc, ns⟩ := Γ
  obtain ⟨hx, hb, hr, hml, hown, hts, hN, hK, hKA, hI, hlk, hStr, hR⟩ := G
  intro H locs ls hP hS hL
  exact lv_lrem hx hb hd (of_decide_eq_true hne) (k H locs ls hP hS hL)
theorem s_ineg (G : OK Γ own cc nL rt fr lo) {x : Int32} (hd : decode cc pc = .ok (.ineg, 1)) (k : WW Γ (pc + 1) L (.int (-x) :: st) σ) : WW Γ pc L (.int x :: st) σ := by
  obtain ⟨p, l, e, R, s, m, args, below, meth, c, D, ad, cA, Q, nc, ns⟩ := Γ
  obtain ⟨hx, hb, hr, hml, hown, hts, hN, hK, hKA, hI, hlk, hStr, hR⟩ := G
  intro H locs ls hP hS hL
  exact lv_ineg hx hb hd (k H locs ls hP hS hL)
theorem s_lneg (G : OK Γ own cc nL rt fr lo) {x : Int64} (hd : decode cc pc = .ok (.lneg, 1)) (k : WW Γ (pc + 1) L (.long (-x) :: st) σ) : WW Γ pc L (.long x :: st) σ := by
  obtain ⟨p, l, e, R, s, m, args, below, meth, c, D, ad, cA, Q, nc, ns⟩ := Γ
  obtain ⟨hx, hb, hr, hml, hown, hts, hN, hK, hKA, hI, hlk, hStr, hR⟩ := G
  intro H locs ls hP hS hL
  exact lv_lneg hx hb hd (k H locs ls hP hS hL)
theorem s_i2l (G : OK Γ own cc nL rt fr lo) {x : Int32} (hd : decode cc pc = .ok (.i2l, 1)) (k : WW Γ (pc + 1) L (.long x.toInt64 :: st) σ) : WW Γ pc L (.int x :: st) σ := by
  obtain ⟨p, l, e, R, s, m, args, below, meth, c, D, ad, cA, Q, nc, ns⟩ := Γ
  obtain ⟨hx, hb, hr, hml, hown, hts, hN, hK, hKA, hI, hlk, hStr, hR⟩ := G
  intro H locs ls hP hS hL
  exact lv_i2l hx hb hd rfl (k H locs ls hP hS hL)
theorem s_l2i (G : OK Γ own cc nL rt fr lo) {x : Int64} (hd : decode cc pc = .ok (.l2i, 1)) (k : WW Γ (pc + 1) L (.int x.toInt32 :: st) σ) : WW Γ pc L (.long x :: st) σ := by
  obtain ⟨p, l, e, R, s, m, args, below, meth, c, D, ad, cA, Q, nc, ns⟩ := Γ
  obtain ⟨hx, hb, hr, hml, hown, hts, hN, hK, hKA, hI, hlk, hStr, hR⟩ := G
  intro H locs ls hP hS hL
  exact lv_l2i hx hb hd rfl (k H locs ls hP hS hL)
theorem s_dup (G : OK Γ own cc nL rt fr lo) {v : Value} (hd : decode cc pc = .ok (.dup, 1)) (hc : v.category = 1) (k : WW Γ (pc + 1) L (v :: v :: st) σ) : WW Γ pc L (v :: st) σ := by
  obtain ⟨p, l, e, R, s, m, args, below, meth, c, D, ad, cA, Q, nc, ns⟩ := Γ
  obtain ⟨hx, hb, hr, hml, hown, hts, hN, hK, hKA, hI, hlk, hStr, hR⟩ := G
  intro H locs ls hP hS hL
  exact lv_dup hx hb hd (by rw [cvv_cat]; exact hc) (k H locs ls hP hS hL)
theorem s_dup2 (G : OK Γ own cc nL rt fr lo) {v u : Value} (hd : decode cc pc = .ok (.dup2, 1)) (hc : v.category = 1) (hc2 : u.category = 1) (k : WW Γ (pc + 1) L (v :: u :: v :: u :: st) σ) : WW Γ pc L (v :: u :: st) σ := by
  obtain ⟨p, l, e, R, s, m, args, below, meth, c, D, ad, cA, Q, nc, ns⟩ := Γ
  obtain ⟨hx, hb, hr, hml, hown, hts, hN, hK, hKA, hI, hlk, hStr, hR⟩ := G
  intro H locs ls hP hS hL
  exact lv_dup2_11 hx hb hd (by rw [cvv_cat]; exact hc) (by rw [cvv_cat]; exact hc2) (k H locs ls hP hS hL)
theorem s_pop (G : OK Γ own cc nL rt fr lo) {v : Value} (hd : decode cc pc = .ok (.pop, 1)) (hc : v.category = 1) (k : WW Γ (pc + 1) L st σ) : WW Γ pc L (v :: st) σ := by
  obtain ⟨p, l, e, R, s, m, args, below, meth, c, D, ad, cA, Q, nc, ns⟩ := Γ
  obtain ⟨hx, hb, hr, hml, hown, hts, hN, hK, hKA, hI, hlk, hStr, hR⟩ := G
  intro H locs ls hP hS hL
  exact lv_pop hx hb hd (by rw [cvv_cat]; exact hc) (k H locs ls hP hS hL)
theorem s_icmp_eq {off : Int} {tgt : Nat} (G : OK Γ own cc nL rt fr lo) {x y : Int32} (hd : decode cc pc = .ok (.if_icmp .eq off, 3)) (ht : (pc : Int) + off = (tgt : Int)) (kt : x = y → WW Γ tgt L st σ) (kf : ¬ (x = y) → WW Γ (pc + 3) L st σ) : WW Γ pc L (.int y :: .int x :: st) σ := by
  obtain ⟨p, l, e, R, s, m, args, below, meth, c, D, ad, cA, Q, nc, ns⟩ := Γ
  obtain ⟨hx, hb, hr, hml, hown, hts, hN, hK, hKA, hI, hlk, hStr, hR⟩ := G
  intro H locs ls hP hS hL
  exact lv_icmp_eq hx hb hd ht (fun q => kt q H locs ls hP hS hL) (fun q => kf q H locs ls hP hS hL)
theorem s_icmp_ne {off : Int} {tgt : Nat} (G : OK Γ own cc nL rt fr lo) {x y : Int32} (hd : decode cc pc = .ok (.if_icmp .ne off, 3)) (ht : (pc : Int) + off = (tgt : Int)) (kt : ¬ x = y → WW Γ tgt L st σ) (kf : x = y → WW Γ (pc + 3) L st σ) : WW Γ pc L (.int y :: .int x :: st) σ := by
  obtain ⟨p, l, e, R, s, m, args, below, meth, c, D, ad, cA, Q, nc, ns⟩ := Γ
  obtain ⟨hx, hb, hr, hml, hown, hts, hN, hK, hKA, hI, hlk, hStr, hR⟩ := G
  intro H locs ls hP hS hL
  exact lv_icmp_ne hx hb hd ht (fun q => kt q H locs ls hP hS hL) (fun q => kf q H locs ls hP hS hL)
theorem s_icmp_lt {off : Int} {tgt : Nat} (G : OK Γ own cc nL rt fr lo) {x y : Int32} (hd : decode cc pc = .ok (.if_icmp .lt off, 3)) (ht : (pc : Int) + off = (tgt : Int)) (kt : x < y → WW Γ tgt L st σ) (kf : ¬ (x < y) → WW Γ (pc + 3) L st σ) : WW Γ pc L (.int y :: .int x :: st) σ := by
  obtain ⟨p, l, e, R, s, m, args, below, meth, c, D, ad, cA, Q, nc, ns⟩ := Γ
  obtain ⟨hx, hb, hr, hml, hown, hts, hN, hK, hKA, hI, hlk, hStr, hR⟩ := G
  intro H locs ls hP hS hL
  exact lv_icmp_lt hx hb hd ht (fun q => kt q H locs ls hP hS hL) (fun q => kf q H locs ls hP hS hL)
theorem s_icmp_ge {off : Int} {tgt : Nat} (G : OK Γ own cc nL rt fr lo) {x y : Int32} (hd : decode cc pc = .ok (.if_icmp .ge off, 3)) (ht : (pc : Int) + off = (tgt : Int)) (kt : y ≤ x → WW Γ tgt L st σ) (kf : ¬ (y ≤ x) → WW Γ (pc + 3) L st σ) : WW Γ pc L (.int y :: .int x :: st) σ := by
  obtain ⟨p, l, e, R, s, m, args, below, meth, c, D, ad, cA, Q, nc, ns⟩ := Γ
  obtain ⟨hx, hb, hr, hml, hown, hts, hN, hK, hKA, hI, hlk, hStr, hR⟩ := G
  intro H locs ls hP hS hL
  exact lv_icmp_ge hx hb hd ht (fun q => kt q H locs ls hP hS hL) (fun q => kf q H locs ls hP hS hL)
theorem s_icmp_gt {off : Int} {tgt : Nat} (G : OK Γ own cc nL rt fr lo) {x y : Int32} (hd : decode cc pc = .ok (.if_icmp .gt off, 3)) (ht : (pc : Int) + off = (tgt : Int)) (kt : y < x → WW Γ tgt L st σ) (kf : ¬ (y < x) → WW Γ (pc + 3) L st σ) : WW Γ pc L (.int y :: .int x :: st) σ := by
  obtain ⟨p, l, e, R, s, m, args, below, meth, c, D, ad, cA, Q, nc, ns⟩ := Γ
  obtain ⟨hx, hb, hr, hml, hown, hts, hN, hK, hKA, hI, hlk, hStr, hR⟩ := G
  intro H locs ls hP hS hL
  exact lv_icmp_gt hx hb hd ht (fun q => kt q H locs ls hP hS hL) (fun q => kf q H locs ls hP hS hL)
theorem s_icmp_le {off : Int} {tgt : Nat} (G : OK Γ own cc nL rt fr lo) {x y : Int32} (hd : decode cc pc = .ok (.if_icmp .le off, 3)) (ht : (pc : Int) + off = (tgt : Int)) (kt : x ≤ y → WW Γ tgt L st σ) (kf : ¬ (x ≤ y) → WW Γ (pc + 3) L st σ) : WW Γ pc L (.int y :: .int x :: st) σ := by
  obtain ⟨p, l, e, R, s, m, args, below, meth, c, D, ad, cA, Q, nc, ns⟩ := Γ
  obtain ⟨hx, hb, hr, hml, hown, hts, hN, hK, hKA, hI, hlk, hStr, hR⟩ := G
  intro H locs ls hP hS hL
  exact lv_icmp_le hx hb hd ht (fun q => kt q H locs ls hP hS hL) (fun q => kf q H locs ls hP hS hL)
theorem s_if_eq {off : Int} {tgt : Nat} (G : OK Γ own cc nL rt fr lo) {x : Int32} (hd : decode cc pc = .ok (.ifCond .eq off, 3)) (ht : (pc : Int) + off = (tgt : Int)) (kt : x = 0 → WW Γ tgt L st σ) (kf : ¬ (x = 0) → WW Γ (pc + 3) L st σ) : WW Γ pc L (.int x :: st) σ := by
  obtain ⟨p, l, e, R, s, m, args, below, meth, c, D, ad, cA, Q, nc, ns⟩ := Γ
  obtain ⟨hx, hb, hr, hml, hown, hts, hN, hK, hKA, hI, hlk, hStr, hR⟩ := G
  intro H locs ls hP hS hL
  exact lv_if_eq hx hb hd ht (fun q => kt q H locs ls hP hS hL) (fun q => kf q H locs ls hP hS hL)
theorem s_if_ne {off : Int} {tgt : Nat} (G : OK Γ own cc nL rt fr lo) {x : Int32} (hd : decode cc pc = .ok (.ifCond .ne off, 3)) (ht : (pc : Int) + off = (tgt : Int)) (kt : ¬ x = 0 → WW Γ tgt L st σ) (kf : x = 0 → WW Γ (pc + 3) L st σ) : WW Γ pc L (.int x :: st) σ := by
  obtain ⟨p, l, e, R, s, m, args, below, meth, c, D, ad, cA, Q, nc, ns⟩ := Γ
  obtain ⟨hx, hb, hr, hml, hown, hts, hN, hK, hKA, hI, hlk, hStr, hR⟩ := G
  intro H locs ls hP hS hL
  exact lv_if_ne hx hb hd ht (fun q => kt q H locs ls hP hS hL) (fun q => kf q H locs ls hP hS hL)
theorem s_if_lt {off : Int} {tgt : Nat} (G : OK Γ own cc nL rt fr lo) {x : Int32} (hd : decode cc pc = .ok (.ifCond .lt off, 3)) (ht : (pc : Int) + off = (tgt : Int)) (kt : x < 0 → WW Γ tgt L st σ) (kf : ¬ (x < 0) → WW Γ (pc + 3) L st σ) : WW Γ pc L (.int x :: st) σ := by
  obtain ⟨p, l, e, R, s, m, args, below, meth, c, D, ad, cA, Q, nc, ns⟩ := Γ
  obtain ⟨hx, hb, hr, hml, hown, hts, hN, hK, hKA, hI, hlk, hStr, hR⟩ := G
  intro H locs ls hP hS hL
  exact lv_if_lt hx hb hd ht (fun q => kt q H locs ls hP hS hL) (fun q => kf q H locs ls hP hS hL)
theorem s_if_ge {off : Int} {tgt : Nat} (G : OK Γ own cc nL rt fr lo) {x : Int32} (hd : decode cc pc = .ok (.ifCond .ge off, 3)) (ht : (pc : Int) + off = (tgt : Int)) (kt : 0 ≤ x → WW Γ tgt L st σ) (kf : ¬ (0 ≤ x) → WW Γ (pc + 3) L st σ) : WW Γ pc L (.int x :: st) σ := by
  obtain ⟨p, l, e, R, s, m, args, below, meth, c, D, ad, cA, Q, nc, ns⟩ := Γ
  obtain ⟨hx, hb, hr, hml, hown, hts, hN, hK, hKA, hI, hlk, hStr, hR⟩ := G
  intro H locs ls hP hS hL
  exact lv_if_ge hx hb hd ht (fun q => kt q H locs ls hP hS hL) (fun q => kf q H locs ls hP hS hL)
theorem s_if_gt {off : Int} {tgt : Nat} (G : OK Γ own cc nL rt fr lo) {x : Int32} (hd : decode cc pc = .ok (.ifCond .gt off, 3)) (ht : (pc : Int) + off = (tgt : Int)) (kt : 0 < x → WW Γ tgt L st σ) (kf : ¬ (0 < x) → WW Γ (pc + 3) L st σ) : WW Γ pc L (.int x :: st) σ := by
  obtain ⟨p, l, e, R, s, m, args, below, meth, c, D, ad, cA, Q, nc, ns⟩ := Γ
  obtain ⟨hx, hb, hr, hml, hown, hts, hN, hK, hKA, hI, hlk, hStr, hR⟩ := G
  intro H locs ls hP hS hL
  exact lv_if_gt hx hb hd ht (fun q => kt q H locs ls hP hS hL) (fun q => kf q H locs ls hP hS hL)
theorem s_if_le {off : Int} {tgt : Nat} (G : OK Γ own cc nL rt fr lo) {x : Int32} (hd : decode cc pc = .ok (.ifCond .le off, 3)) (ht : (pc : Int) + off = (tgt : Int)) (kt : x ≤ 0 → WW Γ tgt L st σ) (kf : ¬ (x ≤ 0) → WW Γ (pc + 3) L st σ) : WW Γ pc L (.int x :: st) σ := by
  obtain ⟨p, l, e, R, s, m, args, below, meth, c, D, ad, cA, Q, nc, ns⟩ := Γ
  obtain ⟨hx, hb, hr, hml, hown, hts, hN, hK, hKA, hI, hlk, hStr, hR⟩ := G
  intro H locs ls hP hS hL
  exact lv_if_le hx hb hd ht (fun q => kt q H locs ls hP hS hL) (fun q => kf q H locs ls hP hS hL)
theorem s_lif_eq {off : Int} {tgt pc2 : Nat} {x y : Int64} (G : OK Γ own cc nL rt fr lo) (hd : decode cc pc = .ok (.lcmp, 1)) (hd2 : decode cc (pc + 1) = .ok (.ifCond .eq off, 3)) (ht : ((pc + 1 : Nat) : Int) + off = (tgt : Int)) (kt : x = y → WW Γ tgt L st σ) (kf : ¬ (x = y) → WW Γ (pc + 4) L st σ) : WW Γ pc L (.long y :: .long x :: st) σ := by
  obtain ⟨p, l, e, R, s, m, args, below, meth, c, D, ad, cA, Q, nc, ns⟩ := Γ
  obtain ⟨hx, hb, hr, hml, hown, hts, hN, hK, hKA, hI, hlk, hStr, hR⟩ := G
  intro H locs ls hP hS hL
  exact W.lcmp hx hb hd (lv_if_eq hx hb hd2 ht (fun q => kt ((lg_cmp_eq x y).mp q) H locs ls hP hS hL) (fun q => kf (fun z => q ((lg_cmp_eq x y).mpr z)) H locs ls hP hS hL))
theorem s_lif_ne {off : Int} {tgt pc2 : Nat} {x y : Int64} (G : OK Γ own cc nL rt fr lo) (hd : decode cc pc = .ok (.lcmp, 1)) (hd2 : decode cc (pc + 1) = .ok (.ifCond .ne off, 3)) (ht : ((pc + 1 : Nat) : Int) + off = (tgt : Int)) (kt : ¬ x = y → WW Γ tgt L st σ) (kf : x = y → WW Γ (pc + 4) L st σ) : WW Γ pc L (.long y :: .long x :: st) σ := by
  obtain ⟨p, l, e, R, s, m, args, below, meth, c, D, ad, cA, Q, nc, ns⟩ := Γ
  obtain ⟨hx, hb, hr, hml, hown, hts, hN, hK, hKA, hI, hlk, hStr, hR⟩ := G
  intro H locs ls hP hS hL
  exact W.lcmp hx hb hd (lv_if_ne hx hb hd2 ht (fun q => kt ((not_congr (lg_cmp_eq x y)).mp q) H locs ls hP hS hL) (fun q => kf ((lg_cmp_eq x y).mp q) H locs ls hP hS hL))
theorem s_lif_lt {off : Int} {tgt pc2 : Nat} {x y : Int64} (G : OK Γ own cc nL rt fr lo) (hd : decode cc pc = .ok (.lcmp, 1)) (hd2 : decode cc (pc + 1) = .ok (.ifCond .lt off, 3)) (ht : ((pc + 1 : Nat) : Int) + off = (tgt : Int)) (kt : x < y → WW Γ tgt L st σ) (kf : ¬ (x < y) → WW Γ (pc + 4) L st σ) : WW Γ pc L (.long y :: .long x :: st) σ := by
  obtain ⟨p, l, e, R, s, m, args, below, meth, c, D, ad, cA, Q, nc, ns⟩ := Γ
  obtain ⟨hx, hb, hr, hml, hown, hts, hN, hK, hKA, hI, hlk, hStr, hR⟩ := G
  intro H locs ls hP hS hL
  exact W.lcmp hx hb hd (lv_if_lt hx hb hd2 ht (fun q => kt ((lg_cmp_lt x y).mp q) H locs ls hP hS hL) (fun q => kf (fun z => q ((lg_cmp_lt x y).mpr z)) H locs ls hP hS hL))
theorem s_lif_ge {off : Int} {tgt pc2 : Nat} {x y : Int64} (G : OK Γ own cc nL rt fr lo) (hd : decode cc pc = .ok (.lcmp, 1)) (hd2 : decode cc (pc + 1) = .ok (.ifCond .ge off, 3)) (ht : ((pc + 1 : Nat) : Int) + off = (tgt : Int)) (kt : y ≤ x → WW Γ tgt L st σ) (kf : ¬ (y ≤ x) → WW Γ (pc + 4) L st σ) : WW Γ pc L (.long y :: .long x :: st) σ := by
  obtain ⟨p, l, e, R, s, m, args, below, meth, c, D, ad, cA, Q, nc, ns⟩ := Γ
  obtain ⟨hx, hb, hr, hml, hown, hts, hN, hK, hKA, hI, hlk, hStr, hR⟩ := G
  intro H locs ls hP hS hL
  exact W.lcmp hx hb hd (lv_if_ge hx hb hd2 ht (fun q => kt ((lg_cmp_ge x y).mp q) H locs ls hP hS hL) (fun q => kf (fun z => q ((lg_cmp_ge x y).mpr z)) H locs ls hP hS hL))
theorem s_lif_gt {off : Int} {tgt pc2 : Nat} {x y : Int64} (G : OK Γ own cc nL rt fr lo) (hd : decode cc pc = .ok (.lcmp, 1)) (hd2 : decode cc (pc + 1) = .ok (.ifCond .gt off, 3)) (ht : ((pc + 1 : Nat) : Int) + off = (tgt : Int)) (kt : y < x → WW Γ tgt L st σ) (kf : ¬ (y < x) → WW Γ (pc + 4) L st σ) : WW Γ pc L (.long y :: .long x :: st) σ := by
  obtain ⟨p, l, e, R, s, m, args, below, meth, c, D, ad, cA, Q, nc, ns⟩ := Γ
  obtain ⟨hx, hb, hr, hml, hown, hts, hN, hK, hKA, hI, hlk, hStr, hR⟩ := G
  intro H locs ls hP hS hL
  exact W.lcmp hx hb hd (lv_if_gt hx hb hd2 ht (fun q => kt ((lg_cmp_gt x y).mp q) H locs ls hP hS hL) (fun q => kf (fun z => q ((lg_cmp_gt x y).mpr z)) H locs ls hP hS hL))
theorem s_lif_le {off : Int} {tgt pc2 : Nat} {x y : Int64} (G : OK Γ own cc nL rt fr lo) (hd : decode cc pc = .ok (.lcmp, 1)) (hd2 : decode cc (pc + 1) = .ok (.ifCond .le off, 3)) (ht : ((pc + 1 : Nat) : Int) + off = (tgt : Int)) (kt : x ≤ y → WW Γ tgt L st σ) (kf : ¬ (x ≤ y) → WW Γ (pc + 4) L st σ) : WW Γ pc L (.long y :: .long x :: st) σ := by
  obtain ⟨p, l, e, R, s, m, args, below, meth, c, D, ad, cA, Q, nc, ns⟩ := Γ
  obtain ⟨hx, hb, hr, hml, hown, hts, hN, hK, hKA, hI, hlk, hStr, hR⟩ := G
  intro H locs ls hP hS hL
  exact W.lcmp hx hb hd (lv_if_le hx hb hd2 ht (fun q => kt ((lg_cmp_le x y).mp q) H locs ls hP hS hL) (fun q => kf (fun z => q ((lg_cmp_le x y).mpr z)) H locs ls hP hS hL))
theorem s_goto {off : Int} {tgt : Nat} (G : OK Γ own cc nL rt fr lo) (hd : decode cc pc = .ok (.goto off, 3)) (ht : (pc : Int) + off = (tgt : Int)) (k : WW Γ tgt L st σ) : WW Γ pc L st σ := by
  obtain ⟨p, l, e, R, s, m, args, below, meth, c, D, ad, cA, Q, nc, ns⟩ := Γ
  obtain ⟨hx, hb, hr, hml, hown, hts, hN, hK, hKA, hI, hlk, hStr, hR⟩ := G
  intro H locs ls hP hS hL
  exact lv_goto hx hb hd ht (k H locs ls hP hS hL)
theorem s_ifnull {off : Int} {x : Nat} (G : OK Γ own cc nL rt fr lo) (hd : decode cc pc = .ok (.ifnull off, 3)) (k : WW Γ (pc + 3) L st σ) : WW Γ pc L (.ref x :: st) σ := by
  obtain ⟨p, l, e, R, s, m, args, below, meth, c, D, ad, cA, Q, nc, ns⟩ := Γ
  obtain ⟨hx, hb, hr, hml, hown, hts, hN, hK, hKA, hI, hlk, hStr, hR⟩ := G
  intro H locs ls hP hS hL
  exact lv_ifnull hx hb hd (k H locs ls hP hS hL)
theorem s_tabIn {dflt lw hi : Int} {offs : Array Int} {len : Nat} {x : Int32} {off : Int} {tgt : Nat} (G : OK Γ own cc nL rt fr lo) (hd : decode cc pc = .ok (.tableswitch dflt lw hi offs, len)) (h1 : ¬ x.toInt < lw) (h2 : ¬ hi < x.toInt) (ho : offs[(x.toInt - lw).toNat]? = some off) (ht : (pc : Int) + off = (tgt : Int)) (k : WW Γ tgt L st σ) : WW Γ pc L (.int x :: st) σ := by
  obtain ⟨p, l, e, R, s, m, args, below, meth, c, D, ad, cA, Q, nc, ns⟩ := Γ
  obtain ⟨hx, hb, hr, hml, hown, hts, hN, hK, hKA, hI, hlk, hStr, hR⟩ := G
  intro H locs ls hP hS hL
  exact lv_tableIn hx hb hd h1 h2 ho ht (k H locs ls hP hS hL)
theorem s_tabOut {dflt lw hi : Int} {offs : Array Int} {len : Nat} {x : Int32} {tgt : Nat} (G : OK Γ own cc nL rt fr lo) (hd : decode cc pc = .ok (.tableswitch dflt lw hi offs, len)) (h : x.toInt < lw ∨ hi < x.toInt) (ht : (pc : Int) + dflt = (tgt : Int)) (k : WW Γ tgt L st σ) : WW Γ pc L (.int x :: st) σ := by
  obtain ⟨p, l, e, R, s, m, args, below, meth, c, D, ad, cA, Q, nc, ns⟩ := Γ
  obtain ⟨hx, hb, hr, hml, hown, hts, hN, hK, hKA, hI, hlk, hStr, hR⟩ := G
  intro H locs ls hP hS hL
  exact lv_tableOut hx hb hd h ht (k H locs ls hP hS hL)
/-- a number gets a name -/
theorem s_topi {x : Int32} (k : ∀ y : Int32, y = x → WW Γ pc L (.int y :: st) σ) : WW Γ pc L (.int x :: st) σ := k x rfl
theorem s_topl {x : Int64} (k : ∀ y : Int64, y = x → WW Γ pc L (.long y :: st) σ) : WW Γ pc L (.long x :: st) σ := k x rfl
theorem s_st {σ0 : St} (k : ∀ σ1 : St, σ1 = σ0 → WW Γ pc L st σ1) : WW Γ pc L st σ0 := k σ0 rfl
end RW
end
section
/-! fields, arrays, calls, ends -/
def ib (i : Int32) (n : Nat) : Bool := decide (¬ (i < 0 ∨ n ≤ i.toNatClampNeg))
theorem ib_in {i : Int32} {n : Nat} (h : ib i n = true) : vp_in i n := by unfold ib at h; have h2 := of_decide_eq_true h; exact h2
def Lnk (own : String) (idx : Nat) (q : String × String × String × Bool) : Prop := Cond.fieldLink own idx q.1 q.2.1 q.2.2.1 ∈ lw_g ∨ ∃ host, Cond.fieldLinkNest own idx q.1 q.2.1 q.2.2.1 host ∈ lw_n
def LkF (own : String) (idx ci k : Nat) : Prop := ∃ (C : String) (T : u_T) (N : Nat), cl7[ci]? = some (C, T, N) ∧ k < N ∧ Lnk own idx (T k)
def LkP (own : String) (idx ci k : Nat) (ty : FieldType) : Prop := ∃ (C : String) (T : u_T) (N : Nat), cl7[ci]? = some (C, T, N) ∧ k < N ∧ (T k).2.2.2 = false ∧ parseFieldDescriptor (T k).2.2.1 = some ty ∧ Lnk own idx (T k)
def CFa (C : String) (T : u_T) (N : Nat) : Prop := (∀ w ∈ u_ws C T N, w ∈ lw_g) ∧ (∃ ty0 : Nat → FieldType, ∀ k, k < N → parseFieldDescriptor (T k).2.2.1 = some (ty0 k)) ∧ ∀ a, a < N → ∀ b, b < N → a ≠ b → (T a).2.1 ≠ (T b).2.1
theorem in_gs {ws : List Cond} (h : ∀ w ∈ ws, w ∈ lw_tbl) (hg : ws.all goodWord = true) : ∀ w ∈ ws, w ∈ lw_g := fun w hw => in_g (h w hw) (List.all_eq_true.mp hg w hw)
theorem cf0 : CFa RX0 TX0 8 := ⟨in_gs (by decide +kernel) (by decide +kernel), ⟨tyX0, tyX0_ok⟩, nmX0⟩
theorem cf1 : CFa RX1 TX1 3 := ⟨in_gs (by decide +kernel) (by decide +kernel), ⟨tyX1, tyX1_ok⟩, nmX1⟩
theorem cf2 : CFa RX2 TX2 5 := ⟨in_gs (by decide +kernel) (by decide +kernel), ⟨tyX2, tyX2_ok⟩, nmX2⟩
theorem cf3 : CFa RX3 TX3 5 := ⟨in_gs (by decide +kernel) (by decide +kernel), ⟨tyX3, tyX3_ok⟩, nmX3⟩
theorem cf4 : CFa RX4 TX4 12 := ⟨in_gs (by decide +kernel) (by decide +kernel), ⟨tyX4, tyX4_ok⟩, nmX4⟩
theorem cf5 : CFa RX5 TX5 8 := ⟨in_gs (by decide +kernel) (by decide +kernel), ⟨tyX5, tyX5_ok⟩, nmX5⟩
theorem cf6 : CFa RX6 TX6 28 := ⟨in_gs (by decide +kernel) (by decide +kernel), ⟨tyX6, tyX6_ok⟩, nmX6⟩
theorem cfa : ∀ {ci : Nat} {C : String} {T : u_T} {N : Nat}, cl7[ci]? = some (C, T, N) → CFa C T N
  | 0, _, _, _, h => by cases h; exact cf0
  | 1, _, _, _, h => by cases h; exact cf1
  | 2, _, _, _, h => by cases h; exact cf2
  | 3, _, _, _, h => by cases h; exact cf3
  | 4, _, _, _, h => by cases h; exact cf4
  | 5, _, _, _, h => by cases h; exact cf5
  | 6, _, _, _, h => by cases h; exact cf6
  | n + 7, _, _, _, h => by simp [cl7] at h
theorem KA.one {cA : Nat → ClassId} {D : va_G} {s : State} {j : Nat} {ty : FieldType} (h : KA cA s) (hK : va_K D cl7 [] s) (hj : j < nW) (h0 : (kd j).1 ≠ 0) (ht : tyk (kd j) = ty) : va_K D cl7 [(cA j, ty)] s := by
  refine ⟨hK.1, fun k q hk => ?_⟩
  match k, hk with
  | 0, hk =>
    cases hk
    rw [← ht]
    exact h j hj h0
  | k + 1, hk => simp at hk
section RW
variable {Γ : Cxt} {own : String} {cc : ByteArray} {nL fr lo pc : Nat} {rt : Option FieldType} {L : List (Option Value)} {st : List Value} {σ : St}
theorem s_getI {idx id ci k n : Nat} {fs : List Nat} (G : OK Γ own cc nL rt fr lo) (hd : decode cc pc = .ok (.getfield idx, 3)) (hl : LkF own idx ci k) (hi : id < nW) (hk : kd id = (0, ci, fs)) (hf : fs[k]? = some 0) (kk : WW Γ (pc + 3) L (.int (σ.1 id k) :: st) σ) : WW Γ pc L (.ref id :: st) σ := by
  obtain ⟨p, l, e, R, s, m, args, below, meth, c, D, ad, cA, Q, nc, ns⟩ := Γ
  obtain ⟨hx, hb, hr, hml, hown, hts, hN, hK, hKA, hI, hlk, hStr, hR⟩ := G
  intro H locs ls hP hS hL
  obtain ⟨C, T, N, hc, hkN, hl⟩ := hl
  have he : (wS ad cA σ)[id]? = some (ad id, .inr (ci, fl ad (σ.1 id) (σ.2 id) 0 fs)) := by rw [wS_get hi]; unfold ceO mkC; rw [hk]; rfl
  have hv : (fl ad (σ.1 id) (σ.2 id) 0 fs)[k]? = some (.int (σ.1 id k)) := by have h9 := fl_getI (ad := ad) (f := σ.1 id) (g := σ.2 id) (k0 := 0) hf; first | exact h9 | (rw [Nat.zero_add] at h9; exact h9)
  rcases hl with h | ⟨host, h⟩
  · exact va_get hx hb hts (cfa hc).1 hown hK hP id he hc k hkN (hts _ h) (fun _ q => q) hv hd (kk H locs ls hP hS hL)
  · exact va_getN hx hb hts (cfa hc).1 hown hK hP id he hc k hkN ((hN _ h).use rfl) (fun _ q => q) hv hd (kk H locs ls hP hS hL)
theorem s_getL {idx id ci k n : Nat} {fs : List Nat} (G : OK Γ own cc nL rt fr lo) (hd : decode cc pc = .ok (.getfield idx, 3)) (hl : LkF own idx ci k) (hi : id < nW) (hk : kd id = (0, ci, fs)) (hf : fs[k]? = some 1) (kk : WW Γ (pc + 3) L (.long (σ.2 id k) :: st) σ) : WW Γ pc L (.ref id :: st) σ := by
  obtain ⟨p, l, e, R, s, m, args, below, meth, c, D, ad, cA, Q, nc, ns⟩ := Γ
  obtain ⟨hx, hb, hr, hml, hown, hts, hN, hK, hKA, hI, hlk, hStr, hR⟩ := G
  intro H locs ls hP hS hL
  obtain ⟨C, T, N, hc, hkN, hl⟩ := hl
  have he : (wS ad cA σ)[id]? = some (ad id, .inr (ci, fl ad (σ.1 id) (σ.2 id) 0 fs)) := by rw [wS_get hi]; unfold ceO mkC; rw [hk]; rfl
  have hv : (fl ad (σ.1 id) (σ.2 id) 0 fs)[k]? = some (.long (σ.2 id k)) := by have h9 := fl_getL (ad := ad) (f := σ.1 id) (g := σ.2 id) (k0 := 0) hf; first | exact h9 | (rw [Nat.zero_add] at h9; exact h9)
  rcases hl with h | ⟨host, h⟩
  · exact va_get hx hb hts (cfa hc).1 hown hK hP id he hc k hkN (hts _ h) (fun _ q => q) hv hd (kk H locs ls hP hS hL)
  · exact va_getN hx hb hts (cfa hc).1 hown hK hP id he hc k hkN ((hN _ h).use rfl) (fun _ q => q) hv hd (kk H locs ls hP hS hL)
theorem s_getR {idx id ci k n : Nat} {fs : List Nat} (G : OK Γ own cc nL rt fr lo) (hd : decode cc pc = .ok (.getfield idx, 3)) (hl : LkF own idx ci k) (hi : id < nW) (hk : kd id = (0, ci, fs)) (hf : fs[k]? = some (n + 2)) (kk : WW Γ (pc + 3) L (.ref n :: st) σ) : WW Γ pc L (.ref id :: st) σ := by
  obtain ⟨p, l, e, R, s, m, args, below, meth, c, D, ad, cA, Q, nc, ns⟩ := Γ
  obtain ⟨hx, hb, hr, hml, hown, hts, hN, hK, hKA, hI, hlk, hStr, hR⟩ := G
  intro H locs ls hP hS hL
  obtain ⟨C, T, N, hc, hkN, hl⟩ := hl
  have he : (wS ad cA σ)[id]? = some (ad id, .inr (ci, fl ad (σ.1 id) (σ.2 id) 0 fs)) := by rw [wS_get hi]; unfold ceO mkC; rw [hk]; rfl
  have hv : (fl ad (σ.1 id) (σ.2 id) 0 fs)[k]? = some (.ref (ad n)) := by have h9 := fl_getR (ad := ad) (f := σ.1 id) (g := σ.2 id) (k0 := 0) hf; first | exact h9 | (rw [Nat.zero_add] at h9; exact h9)
  rcases hl with h | ⟨host, h⟩
  · exact va_get hx hb hts (cfa hc).1 hown hK hP id he hc k hkN (hts _ h) (fun _ q => q) hv hd (kk H locs ls hP hS hL)
  · exact va_getN hx hb hts (cfa hc).1 hown hK hP id he hc k hkN ((hN _ h).use rfl) (fun _ q => q) hv hd (kk H locs ls hP hS hL)
theorem s_putI {idx id ci k : Nat} {fs : List Nat} {v : Int32} (G : OK Γ own cc nL rt fr lo) (hd : decode cc pc = .ok (.putfield idx, 3)) (hl : LkP own idx ci k .int) (hi : id < nW) (hk : kd id = (0, ci, fs)) (hf : fs[k]? = some 0) (kk : WW Γ (pc + 3) L st (sI σ id k v)) : WW Γ pc L (.int v :: .ref id :: st) σ := by
  obtain ⟨p, l, e, R, s, m, args, below, meth, c, D, ad, cA, Q, nc, ns⟩ := Γ
  obtain ⟨hx, hb, hr, hml, hown, hts, hN, hK, hKA, hI, hlk, hStr, hR⟩ := G
  intro H locs ls hP hS hL
  obtain ⟨C, T, N, hc, hkN, hfin, hty, hl⟩ := hl
  have he : (wS ad cA σ)[id]? = some (ad id, .inr (ci, fl ad (σ.1 id) (σ.2 id) 0 fs)) := by rw [wS_get hi]; unfold ceO mkC; rw [hk]; rfl
  have hlen : k < (fl ad (σ.1 id) (σ.2 id) 0 fs).length := by rw [fl_len]; exact (List.getElem?_eq_some_iff.mp hf).1
  obtain ⟨c1, ⟨ty0, c2⟩, c3⟩ := cfa hc
  have hset : (wS ad cA σ).set id (ad id, .inr (ci, (fl ad (σ.1 id) (σ.2 id) 0 fs).set k (.int v))) = wS ad cA (sI σ id k v) := by
    refine wS_set hi ?_ (fun j hj => ?_)
    · have h9 := fl_setI (ad := ad) (f := σ.1 id) (g := σ.2 id) (v := v) (k0 := 0) hf
      rw [Nat.zero_add] at h9
      unfold ceO mkC
      rw [hk, h9]
      rw [sI_same]; rfl
    · exact ⟨sI_ne σ k v hj, rfl⟩
  have fin : ∀ (H1 : Heap) (locs1 : List Loc), va_P D cl7 ((wS ad cA σ).set id (ad id, .inr (ci, (fl ad (σ.1 id) (σ.2 id) 0 fs).set k (.int v)))) H1 → va_D (Aw ad s.heap.size) ((wS ad cA σ).set id (ad id, .inr (ci, (fl ad (σ.1 id) (σ.2 id) 0 fs).set k (.int v)))) → va_S (Aw ad s.heap.size) s.heap H1 locs1 → W p l e R s m args below meth c H1 locs1 nc ns Q (F0 m (pc + 3) ls (st.map (cvv ad))) := by
    intro H1 locs1 hP1 _ hS1
    rw [hset] at hP1
    exact kk H1 locs1 ls hP1 hS1 hL
  rcases hl with h | ⟨host, h⟩
  · exact va_put (ty := .int) (v := .int v) hx hb hts c1 ty0 c2 c3 hown hK hP (wS_D hI) hS id he hc k hkN (hts _ h) (fun _ q => q) hfin hty rfl rfl hlen hd fin
  · exact va_putN (ty := .int) (v := .int v) hx hb hts c1 ty0 c2 c3 hown hK hP (wS_D hI) hS id he hc k hkN ((hN _ h).use rfl) (fun _ q => q) hfin hty rfl rfl hlen hd fin
theorem s_putL {idx id ci k : Nat} {fs : List Nat} {v : Int64} (G : OK Γ own cc nL rt fr lo) (hd : decode cc pc = .ok (.putfield idx, 3)) (hl : LkP own idx ci k .long) (hi : id < nW) (hk : kd id = (0, ci, fs)) (hf : fs[k]? = some 1) (kk : WW Γ (pc + 3) L st (sL σ id k v)) : WW Γ pc L (.long v :: .ref id :: st) σ := by
  obtain ⟨p, l, e, R, s, m, args, below, meth, c, D, ad, cA, Q, nc, ns⟩ := Γ
  obtain ⟨hx, hb, hr, hml, hown, hts, hN, hK, hKA, hI, hlk, hStr, hR⟩ := G
  intro H locs ls hP hS hL
  obtain ⟨C, T, N, hc, hkN, hfin, hty, hl⟩ := hl
  have he : (wS ad cA σ)[id]? = some (ad id, .inr (ci, fl ad (σ.1 id) (σ.2 id) 0 fs)) := by rw [wS_get hi]; unfold ceO mkC; rw [hk]; rfl
  have hlen : k < (fl ad (σ.1 id) (σ.2 id) 0 fs).length := by rw [fl_len]; exact (List.getElem?_eq_some_iff.mp hf).1
  obtain ⟨c1, ⟨ty0, c2⟩, c3⟩ := cfa hc
  have hset : (wS ad cA σ).set id (ad id, .inr (ci, (fl ad (σ.1 id) (σ.2 id) 0 fs).set k (.long v))) = wS ad cA (sL σ id k v) := by
    refine wS_set hi ?_ (fun j hj => ?_)
    · have h9 := fl_setL (ad := ad) (f := σ.1 id) (g := σ.2 id) (v := v) (k0 := 0) hf
      rw [Nat.zero_add] at h9
      unfold ceO mkC
      rw [hk, h9]
      rw [sL_same]; rfl
    · exact ⟨rfl, sL_ne σ k v hj⟩
  have fin : ∀ (H1 : Heap) (locs1 : List Loc), va_P D cl7 ((wS ad cA σ).set id (ad id, .inr (ci, (fl ad (σ.1 id) (σ.2 id) 0 fs).set k (.long v)))) H1 → va_D (Aw ad s.heap.size) ((wS ad cA σ).set id (ad id, .inr (ci, (fl ad (σ.1 id) (σ.2 id) 0 fs).set k (.long v)))) → va_S (Aw ad s.heap.size) s.heap H1 locs1 → W p l e R s m args below meth c H1 locs1 nc ns Q (F0 m (pc + 3) ls (st.map (cvv ad))) := by
    intro H1 locs1 hP1 _ hS1
    rw [hset] at hP1
    exact kk H1 locs1 ls hP1 hS1 hL
  rcases hl with h | ⟨host, h⟩
  · exact va_put (ty := .long) (v := .long v) hx hb hts c1 ty0 c2 c3 hown hK hP (wS_D hI) hS id he hc k hkN (hts _ h) (fun _ q => q) hfin hty rfl rfl hlen hd fin
  · exact va_putN (ty := .long) (v := .long v) hx hb hts c1 ty0 c2 c3 hown hK hP (wS_D hI) hS id he hc k hkN ((hN _ h).use rfl) (fun _ q => q) hfin hty rfl rfl hlen hd fin
theorem s_iald {id n : Nat} {fs : List Nat} {i : Int32} (G : OK Γ own cc nL rt fr lo) (hd : decode cc pc = .ok (.iaload, 1)) (hi : id < nW) (hk : kd id = (1, n, fs)) (hin : ib i n = true) (kk : WW Γ (pc + 1) L (.int (σ.1 id i.toNatClampNeg) :: st) σ) : WW Γ pc L (.int i :: .ref id :: st) σ := by
  obtain ⟨p, l, e, R, s, m, args, below, meth, c, D, ad, cA, Q, nc, ns⟩ := Γ
  obtain ⟨hx, hb, hr, hml, hown, hts, hN, hK, hKA, hI, hlk, hStr, hR⟩ := G
  intro H locs ls hP hS hL
  have he : (wS ad cA σ)[id]? = some (ad id, .inl (cA id, n, .inl (σ.1 id))) := by rw [wS_get hi]; unfold ceO mkC; rw [hk]; rfl
  have hK1 := hKA.one hK hi (ty := .int) (by rw [hk]; exact fun q => by cases q) (by rw [hk]; rfl)
  exact va_iald hx hb hK1 hP id 0 he rfl (ib_in hin) hd (kk H locs ls hP hS hL)
theorem s_zald {id n : Nat} {fs : List Nat} {i : Int32} (G : OK Γ own cc nL rt fr lo) (hd : decode cc pc = .ok (.baload, 1)) (hi : id < nW) (hk : kd id = (3, n, fs)) (hin : ib i n = true) (kk : WW Γ (pc + 1) L (.int (σ.1 id i.toNatClampNeg) :: st) σ) : WW Γ pc L (.int i :: .ref id :: st) σ := by
  obtain ⟨p, l, e, R, s, m, args, below, meth, c, D, ad, cA, Q, nc, ns⟩ := Γ
  obtain ⟨hx, hb, hr, hml, hown, hts, hN, hK, hKA, hI, hlk, hStr, hR⟩ := G
  intro H locs ls hP hS hL
  have he : (wS ad cA σ)[id]? = some (ad id, .inl (cA id, n, .inl (σ.1 id))) := by rw [wS_get hi]; unfold ceO mkC; rw [hk]; rfl
  have hK1 := hKA.one hK hi (ty := .boolean) (by rw [hk]; exact fun q => by cases q) (by rw [hk]; rfl)
  exact va_zald hx hb hK1 hP id 0 he rfl (ib_in hin) hd (kk H locs ls hP hS hL)
theorem s_lald {id n : Nat} {fs : List Nat} {i : Int32} (G : OK Γ own cc nL rt fr lo) (hd : decode cc pc = .ok (.laload, 1)) (hi : id < nW) (hk : kd id = (2, n, fs)) (hin : ib i n = true) (kk : WW Γ (pc + 1) L (.long (σ.2 id i.toNatClampNeg) :: st) σ) : WW Γ pc L (.int i :: .ref id :: st) σ := by
  obtain ⟨p, l, e, R, s, m, args, below, meth, c, D, ad, cA, Q, nc, ns⟩ := Γ
  obtain ⟨hx, hb, hr, hml, hown, hts, hN, hK, hKA, hI, hlk, hStr, hR⟩ := G
  intro H locs ls hP hS hL
  have he : (wS ad cA σ)[id]? = some (ad id, .inl (cA id, n, .inr (.inl (σ.2 id)))) := by rw [wS_get hi]; unfold ceO mkC; rw [hk]; rfl
  have hK1 := hKA.one hK hi (ty := .long) (by rw [hk]; exact fun q => by cases q) (by rw [hk]; rfl)
  exact va_lald hx hb hK1 hP id 0 he rfl (ib_in hin) hd (kk H locs ls hP hS hL)
theorem s_iast {id n : Nat} {fs : List Nat} {i : Int32} {x : Int32} (G : OK Γ own cc nL rt fr lo) (hd : decode cc pc = .ok (.iastore, 1)) (hi : id < nW) (hk : kd id = (1, n, fs)) (hin : ib i n = true) (kk : WW Γ (pc + 1) L st (sI σ id i.toNatClampNeg x)) : WW Γ pc L (.int x :: .int i :: .ref id :: st) σ := by
  obtain ⟨p, l, e, R, s, m, args, below, meth, c, D, ad, cA, Q, nc, ns⟩ := Γ
  obtain ⟨hx, hb, hr, hml, hown, hts, hN, hK, hKA, hI, hlk, hStr, hR⟩ := G
  intro H locs ls hP hS hL
  have he : (wS ad cA σ)[id]? = some (ad id, .inl (cA id, n, .inl (σ.1 id))) := by rw [wS_get hi]; unfold ceO mkC; rw [hk]; rfl
  have hK1 := hKA.one hK hi (ty := .int) (by rw [hk]; exact fun q => by cases q) (by rw [hk]; rfl)
  have hset : (wS ad cA σ).set id (ad id, .inl (cA id, n, .inl (upd (σ.1 id) i.toNatClampNeg x))) = wS ad cA (sI σ id i.toNatClampNeg x) := by
    refine wS_set hi ?_ (fun j hj => ?_)
    · unfold ceO mkC
      rw [hk, sI_same]
      rfl
    · exact ⟨sI_ne σ _ _ hj, rfl⟩
  exact va_iast hx hb hK1 hP (wS_D hI) hS id 0 he rfl (ib_in hin) hd (fun H1 locs1 hP1 _ hS1 => kk H1 locs1 ls (by rw [hset] at hP1; exact hP1) hS1 hL)
theorem s_zast {id n : Nat} {fs : List Nat} {i : Int32} {x : Int32} (G : OK Γ own cc nL rt fr lo) (hd : decode cc pc = .ok (.bastore, 1)) (hi : id < nW) (hk : kd id = (3, n, fs)) (hin : ib i n = true) (kk : WW Γ (pc + 1) L st (sI σ id i.toNatClampNeg (vp_nar .boolean x))) : WW Γ pc L (.int x :: .int i :: .ref id :: st) σ := by
  obtain ⟨p, l, e, R, s, m, args, below, meth, c, D, ad, cA, Q, nc, ns⟩ := Γ
  obtain ⟨hx, hb, hr, hml, hown, hts, hN, hK, hKA, hI, hlk, hStr, hR⟩ := G
  intro H locs ls hP hS hL
  have he : (wS ad cA σ)[id]? = some (ad id, .inl (cA id, n, .inl (σ.1 id))) := by rw [wS_get hi]; unfold ceO mkC; rw [hk]; rfl
  have hK1 := hKA.one hK hi (ty := .boolean) (by rw [hk]; exact fun q => by cases q) (by rw [hk]; rfl)
  have hset : (wS ad cA σ).set id (ad id, .inl (cA id, n, .inl (upd (σ.1 id) i.toNatClampNeg (vp_nar .boolean x)))) = wS ad cA (sI σ id i.toNatClampNeg (vp_nar .boolean x)) := by
    refine wS_set hi ?_ (fun j hj => ?_)
    · unfold ceO mkC
      rw [hk, sI_same]
      rfl
    · exact ⟨sI_ne σ _ _ hj, rfl⟩
  exact va_zast hx hb hK1 hP (wS_D hI) hS id 0 he rfl (ib_in hin) hd (fun H1 locs1 hP1 _ hS1 => kk H1 locs1 ls (by rw [hset] at hP1; exact hP1) hS1 hL)
theorem s_last {id n : Nat} {fs : List Nat} {i : Int32} {x : Int64} (G : OK Γ own cc nL rt fr lo) (hd : decode cc pc = .ok (.lastore, 1)) (hi : id < nW) (hk : kd id = (2, n, fs)) (hin : ib i n = true) (kk : WW Γ (pc + 1) L st (sL σ id i.toNatClampNeg x)) : WW Γ pc L (.long x :: .int i :: .ref id :: st) σ := by
  obtain ⟨p, l, e, R, s, m, args, below, meth, c, D, ad, cA, Q, nc, ns⟩ := Γ
  obtain ⟨hx, hb, hr, hml, hown, hts, hN, hK, hKA, hI, hlk, hStr, hR⟩ := G
  intro H locs ls hP hS hL
  have he : (wS ad cA σ)[id]? = some (ad id, .inl (cA id, n, .inr (.inl (σ.2 id)))) := by rw [wS_get hi]; unfold ceO mkC; rw [hk]; rfl
  have hK1 := hKA.one hK hi (ty := .long) (by rw [hk]; exact fun q => by cases q) (by rw [hk]; rfl)
  have hset : (wS ad cA σ).set id (ad id, .inl (cA id, n, .inr (.inl (vp_updL (σ.2 id) i.toNatClampNeg x)))) = wS ad cA (sL σ id i.toNatClampNeg x) := by
    refine wS_set hi ?_ (fun j hj => ?_)
    · unfold ceO mkC
      rw [hk, sL_same]
      rfl
    · exact ⟨rfl, sL_ne σ _ _ hj⟩
  exact va_last hx hb hK1 hP (wS_D hI) hS id 0 he rfl (ib_in hin) hd (fun H1 locs1 hP1 _ hS1 => kk H1 locs1 ls (by rw [hset] at hP1; exact hP1) hS1 hL)
theorem s_aald {id n b d t : Nat} {i : Int32} (G : OK Γ own cc nL rt fr lo) (hd : decode cc pc = .ok (.aaload, 1)) (hi : id < nW) (hk : kd id = (t + 4, n, [b, d])) (hin : ib i n = true) (kk : WW Γ (pc + 1) L (.ref (b + d * (i.toNatClampNeg + 1)) :: st) σ) : WW Γ pc L (.int i :: .ref id :: st) σ := by
  obtain ⟨p, l, e, R, s, m, args, below, meth, c, D, ad, cA, Q, nc, ns⟩ := Γ
  obtain ⟨hx, hb, hr, hml, hown, hts, hN, hK, hKA, hI, hlk, hStr, hR⟩ := G
  intro H locs ls hP hS hL
  have he : (wS ad cA σ)[id]? = some (ad id, .inl (cA id, n, .inr (.inr (.inr (.inr (fun k => some (ad (b + d * (k + 1)))))))))  := by rw [wS_get hi]; unfold ceO mkC; rw [hk]; rfl
  have hK1 := hKA.one hK hi (ty := tyk (kd id)) (by rw [hk]; exact Nat.succ_ne_zero _) rfl
  have hin2 : vp_in i n := ib_in hin
  have hlt : i.toNatClampNeg < n := Nat.not_le.mp fun q => hin2 (Or.inr q)
  have hre : (tyk (kd id)).isReference = true := by rw [hk]; unfold tyk; split <;> first | rfl | (next h => cases h)
  exact W.aald (v := .ref (ad (b + d * (i.toNatClampNeg + 1)))) (ty := tyk (kd id)) hx hb (hP id _ he) ((hK1.2 0 _ rfl).1 n (fun j => va_rf (some (ad (b + d * (j + 1)))))) hre (fun q => by cases q) (by show ¬ (i < 0 ∨ (arrV _ _ _).slots.size ≤ _); rw [arrV_size]; exact hin2) (by show (arrV _ _ _).slots[_]? = _; rw [arrV_read _ _ hlt]; rfl) rfl rfl hd (kk H locs ls hP hS hL)
end RW
/-! contracts -/
def Qm (D : va_G) (ad : Nat → Nat) (cA : Nat → ClassId) (r : Option Value) (σ' : St) (A : Nat → Prop) : Array Value → State → Outcome → State → Prop := fun _ st oc t => oc = .returned (r.map (cvv ad)) ∧ va_P D cl7 (wS ad cA σ') t.heap ∧ va_F A st t
def Pm (D : va_G) (ad : Nat → Nat) (cA : Nat → ClassId) (av : List Value) (σ : St) (sz : Nat) : Array Value → State → Prop := fun v U => v = (av.map (cvv ad)).toArray ∧ U.heap.size = sz ∧ va_P D cl7 (wS ad cA σ) U.heap ∧ va_K D cl7 [] U ∧ KA cA U ∧ NWs U ∧ Inj ad ∧ Str ad (Aw ad sz) U U.heap
def wU (y : MethodName) (cc : ByteArray) (nL : Nat) (rt : Option FieldType) : List Cond := .code y cc nL rt :: lw_g
/-- a method's description: its name, code, locals, answer, room -/
abbrev Me : Type := MethodName × ByteArray × Nat × Option FieldType × Nat × Nat
/-- THE CONTRACT: with these arguments in this store the method answers r, and the store is σ' -/
def Mt (M : Me) (av : List Value) (σ : St) (r : Option Value) (σ' : St) : Prop :=
  match M with
  | (y, cc, nL, rt, fr, lo) => ∀ (l : Launch) (D : va_G) (ad : Nat → Nat) (cA : Nat → ClassId) (sz : Nat), Met l y (wU y cc nL rt) { frames := fr, cells := 0, slots := 0, locals := lo } (Pm D ad cA av σ sz) (Qm D ad cA r σ' (Aw ad sz)) 0 0 (Aw ad sz)
def RetOK (Γ : Cxt) (r : Option Value) (σ' : St) : Prop :=
  match Γ with
  | (p, l, e, R, s, m, args, below, meth, c, D, ad, cA, Q, nc, ns) => Q = MQ below (Qm D ad cA r σ' (Aw ad s.heap.size)) args s nc ns (Aw ad s.heap.size)
theorem Str.same {ad : Nat → Nat} {A : Nat → Prop} {u U : State} {H : Heap} (hv : U.vm = u.vm) (h : Str ad A u H) : Str ad A U H := by
  obtain ⟨⟨adV, h1⟩, h2⟩ := h
  exact ⟨⟨adV, vk_S.moved (by rw [hv]; exact Vm.Alike.refl _) h1⟩, fun i hi => vk_R.same hv (h2 i hi)⟩
theorem Pm_blind {D : va_G} {ad : Nat → Nat} {cA : Nat → ClassId} {av : List Value} {σ : St} {sz : Nat} : FrameBlind (Pm D ad cA av σ sz) := by
  intro a U g mk q
  obtain ⟨q0, q1, qP, qK, qA, qN, qI, qS⟩ := q
  exact ⟨q0, q1, qP, va_K.moved (u := U) (U := U.calling g mk a) (Vm.Alike.refl U.vm) qK, KA.moved (u := U) (U := U.calling g mk a) (Vm.Alike.refl U.vm) qA, NWs.same (u := U) (U := U.calling g mk a) rfl qN, qI, Str.same (u := U) (U := U.calling g mk a) rfl qS⟩
def L0 : List Value → Nat → List (Option Value)
  | [], n => List.replicate n none
  | v :: vs, n => if v.category = 2 then some v :: none :: L0 vs (n - 2) else some v :: L0 vs (n - 1)
theorem L0_in {ad : Nat → Nat} : ∀ {av : List Value} {n i k : Nat} {v : Value}, (L0 av n)[i]? = some (some v) → (k + i, cvv ad v) ∈ lv_args k (av.map (cvv ad))
  | [], n, i, k, v, h => by
    rw [L0, List.getElem?_replicate] at h
    split at h <;> simp at h
  | x :: vs, n, i, k, v, h => by
    unfold L0 at h
    by_cases hc : x.category = 2
    · rw [if_pos hc] at h
      match i, h with
      | 0, h =>
        cases h
        exact List.mem_cons_self
      | 1, h => simp at h
      | i + 2, h =>
        have h2 := L0_in (ad := ad) (k := k + 2) (av := vs) (by simpa using h)
        show _ ∈ _ :: lv_args (if (cvv ad x).category = 2 then k + 2 else k + 1) _
        rw [cvv_cat, if_pos hc, show k + (i + 2) = k + 2 + i by omega]
        exact List.mem_cons_of_mem _ h2
    · rw [if_neg hc] at h
      match i, h with
      | 0, h =>
        cases h
        exact List.mem_cons_self
      | i + 1, h =>
        have h2 := L0_in (ad := ad) (k := k + 1) (av := vs) (by simpa using h)
        show _ ∈ _ :: lv_args (if (cvv ad x).category = 2 then k + 2 else k + 1) _
        rw [cvv_cat, if_neg hc, show k + (i + 1) = k + 1 + i by omega]
        exact List.mem_cons_of_mem _ h2
def wds (av : List Value) : Nat := (av.map (fun v => if v.category = 2 then 2 else 1)).sum
theorem wds_len (ad : Nat → Nat) : ∀ av : List Value, (lg_sl (av.map (cvv ad))).length = wds av
  | [] => rfl
  | v :: vs => by
    have ih := wds_len ad vs
    unfold lg_sl wds at ih ⊢
    rw [List.map_cons, List.flatMap_cons, List.length_append, ih, List.map_cons, List.sum_cons, cvv_cat]
    by_cases h : v.category = 2
    · rw [if_pos h, if_pos h]; rfl
    · rw [if_neg h, if_neg h]; rfl
theorem mt_of {y : MethodName} {cc : ByteArray} {nL fr lo : Nat} {rt : Option FieldType} {av : List Value} {σ σ' : St} {r : Option Value} (hy : plainName y.cls = true) (hn : wds av ≤ nL) (L : List (Option Value)) (hL : L0 av nL = L) (body : ∀ Γ : Cxt, OK Γ y.cls cc nL rt fr lo → RetOK Γ r σ' → WW Γ 0 L [] σ) : Mt (y, cc, nL, rt, fr, lo) av σ r σ' := by
  intro l D ad cA sz
  refine Met.ofW (cc := cc) (maxL := nL) (ret := rt) hy rfl ?_
  intro p e s m args below meth c s₁ B hml hv
  obtain ⟨rfl, hsz, hP, hK, hA, hN, hI, hS⟩ := hv
  subst hsz
  have hts := atoms_spec (ws := wU y cc nL rt) B.pre
  have hown : s.vm.findClass y.cls = some m.cls := findClass_of_methodNamed B.named
  have hl := lv_entry (av.map (cvv ad)) (n := nL) (by rw [wds_len]; exact hn)
  rw [lg_entry_eq]
  have h1 := body (p, l, e, (headSpec (wU y cc nL rt) { frames := fr, cells := 0, slots := 0, locals := lo }).room, s, m, (av.map (cvv ad)).toArray, below, meth, c, D, ad, cA, MQ below (Qm D ad cA r σ' (Aw ad s.heap.size)) (av.map (cvv ad)).toArray s 0 0 (Aw ad s.heap.size), 0, 0) ⟨B.exec, B.bytes, B.returns, hml, hown, fun w hw => hts w (List.mem_cons_of_mem _ hw), hN, hK, hA, hI, B.notSynchronized, hS, Nat.le_refl _, Nat.le_refl _, Nat.zero_le _, Nat.zero_le _⟩ rfl
  refine h1 s.heap [] _ hP va_S.rf ⟨by rw [hml]; exact hl.1, hl.2.1, fun i v hv => ?_⟩
  rw [← hL] at hv
  have h2 := L0_in (ad := ad) (k := 0) hv
  rw [Nat.zero_add] at h2
  exact hl.2.2 _ h2
def LkM (own : String) (idx : Nat) (y : MethodName) : Prop := Cond.methodLink own idx y ∈ lw_g ∨ ∃ h, Cond.methodLinkNest own idx y h ∈ lw_n
/-- what the tables say of a method that is called -/
def Yok (y : MethodName) (cc : ByteArray) (nL : Nat) (rt : Option FieldType) (n : Nat) : Prop := Cond.code y cc nL rt ∈ lw_g ∧ Cond.initialized y.cls ∈ lw_g ∧ (y.cls ≠ "java/lang/invoke/MethodHandle" ∧ y.cls ≠ "java/lang/invoke/VarHandle") ∧ (parseMethodDescriptor y.desc).map (fun d => d.parameters.length) = some n
def YV (y : MethodName) : Prop := Cond.instanceMethod y ∈ lw_g ∧ Cond.selects y.cls y y ∈ lw_g
theorem wU_good {y : MethodName} {cc : ByteArray} {nL : Nat} {rt : Option FieldType} (h : Cond.code y cc nL rt ∈ lw_g) : GoodIn lw_g (wU y cc nL rt) := by
  intro w hw
  have hw2 : w ∈ lw_g := by
    rcases List.mem_cons.mp hw with e | e
    · rw [e]; exact h
    · exact e
  exact ⟨hw2, good_of_word (List.mem_filter.mp hw2).2⟩
section RC
variable {p : Program} {l : Launch} {e : Env} {R : Room} {s : State} {m : MethodId} {args : Array Value} {below : List Frame} {meth : Method} {c : Code} {H : Heap} {locs : List Loc} {nc ns : Nat} {Q : State → Prop}
theorem w_call {pc : Nat} {ls : Array Slot} {rest st0 : List Value} {a : Array Value} {D : va_G} {ad : Nat → Nat} {cA : Nat → ClassId} {r : Option Value} {σ' : St} (hr : va_Run p l e R s m args below meth c H locs nc ns 0 0 (F0 m pc ls st0) rest (Qm D ad cA r σ' (Aw ad H.size) a) (Aw ad H.size)) (hS : va_S (Aw ad s.heap.size) s.heap H locs)
    (kk : ∀ (H1 : Heap) (locs1 : List Loc), va_P D cl7 (wS ad cA σ') H1 → va_S (Aw ad s.heap.size) s.heap H1 locs1 → W p l e R s m args below meth c H1 locs1 nc ns Q (F0 m (pc + 3) ls ((r.map (cvv ad)).toList ++ rest))) : W p l e R s m args below meth c H locs nc ns Q (F0 m pc ls st0) := by
  have hA : ∀ q : Nat, Aw ad H.size q → Aw ad s.heap.size q := fun q h => h.elim Or.inl (fun h => Or.inr (Nat.le_trans hS.1 h))
  intro T hT X
  obtain ⟨v, st₀, t, T', L, h0, X', hL, e1, e2, ⟨hv, hP1, hz, hk⟩, st⟩ := hr T hT X
  cases hv
  rw [h0] at hz hk
  obtain ⟨t2, a1, b1⟩ := kk T'.heap (locs ++ L) (by rw [e1]; exact hP1)
    ⟨Nat.le_trans hS.1 (by rw [e1]; exact hz), fun q h1 h2 => by rw [e1, hk q (Nat.lt_of_lt_of_le h1 hS.1) (fun z => h2 (hA q z))]; exact hS.2.1 q h1 h2, fun q hq => by
      rcases List.mem_append.mp hq with h | h
      · exact hS.2.2 q h
      · exact hA _ (hL q h)⟩ T' rfl X'
  exact ⟨t2, st t2 a1, b1⟩
theorem w_pre {D : va_G} {ad : Nat → Nat} {cA : Nat → ClassId} {av : List Value} {σ : St} (hP : va_P D cl7 (wS ad cA σ) H) (hS : va_S (Aw ad s.heap.size) s.heap H locs) (hN : NWs s) (hK : va_K D cl7 [] s) (hKA : KA cA s) (hI : Inj ad) (hStr : Str ad (Aw ad s.heap.size) s s.heap) : ∀ U : State, U.heap = H → s.WarmedH U.vm → Pm D ad cA av σ H.size (av.map (cvv ad)).toArray U := by
  intro U hU hW
  refine ⟨rfl, by rw [hU], by rw [hU]; exact hP, va_K.moved hW.alike hK, hKA.moved hW.alike, hN.warm hW, hI, ?_, fun i hi => vk_R.warm hW (hStr.2 i hi)⟩
  obtain ⟨adV, h1⟩ := hStr.1
  refine ⟨adV, ?_⟩
  rw [hU]
  exact vk_S.narrow (vk_S.moved hW.alike (vk_S.kept h1 hS.2.1)) (fun q h => h.elim Or.inl (fun h => Or.inr (Nat.le_trans hS.1 h)))
end RC
section RW
variable {Γ : Cxt} {own : String} {cc cc2 : ByteArray} {nL fr lo pc nL2 fr2 lo2 n idx : Nat} {rt rt2 : Option FieldType} {L : List (Option Value)} {st rest As : List Value} {σ σ' : St} {r : Option Value} {y : MethodName}
theorem cats (ad : Nat → Nat) (v : List Value) : ((v.map (cvv ad)).map fun v => v.category).sum = (v.map fun v => v.category).sum := by
  rw [List.map_map]
  exact congrArg List.sum (List.map_congr_left (fun x _ => cvv_cat ad x))
theorem s_callV {b ci : Nat} {fs : List Nat} {T : u_T} {N : Nat} (G : OK Γ own cc nL rt fr lo) (hd : decode cc pc = .ok (.invokevirtual idx, 3)) (hM : Mt (y, cc2, nL2, rt2, fr2, lo2) (.ref b :: As) σ r σ') (hl : LkM own idx y) (hY : Yok y cc2 nL2 rt2 n) (hV : YV y) (hb0 : b < nW) (hk : kd b = (0, ci, fs)) (hcl : cl7[ci]? = some (y.cls, T, N)) (As' : List Value) (rest : List Value) (hAs : As' = As) (hn : As.length = n) (hst : st = As.reverse ++ .ref b :: rest) (hcat : (rest.map fun v => v.category).sum ≤ 8) (hro : fr2 + 1 ≤ fr ∧ 8 + (nL2 + 11) + lo2 ≤ lo) (kk : WW Γ (pc + 3) L (r.toList ++ rest) σ') : WW Γ pc L st σ := by
  subst hst
  obtain ⟨p, l, e, R, s, m, args, below, meth, c, D, ad, cA, Q, nc, ns⟩ := Γ
  obtain ⟨hx, hb, hr, hml, hown, hts, hN, hK, hKA, hI, hlk, hStr, hR⟩ := G
  obtain ⟨hY1, hY2, hY3, hY4⟩ := hY
  intro H locs ls hP hS hL
  have hS9 := hL.1
  have hm := hM l D ad cA H.size
  have hG := wU_good hY1
  have hpay := pay_in hts hG
  have hpar : ∀ sig, parseMethodDescriptor y.desc = some sig → n = sig.parameters.length := fun sig h => by rw [h] at hY4; exact (Option.some.inj hY4).symm
  have hcat2 : 2 * (F0 m pc ls ((As.reverse ++ .ref b :: rest).map (cvv ad))).monitorRoom + ((rest.map (cvv ad)).map fun v => v.category).sum ≤ 8 := lv_room (by rw [cats]; exact hcat)
  have hfin : ∀ (H1 : Heap) (locs1 : List Loc), va_P D cl7 (wS ad cA σ') H1 → va_S (Aw ad s.heap.size) s.heap H1 locs1 → W p l e R s m args below meth c H1 locs1 nc ns Q (F0 m (pc + 3) ls ((r.map (cvv ad)).toList ++ rest.map (cvv ad))) := by
    intro H1 locs1 hP1 hS1
    have h9 := kk H1 locs1 ls hP1 hS1 hL
    rw [List.map_append] at h9
    cases r <;> exact h9
  have hstk : (As.reverse ++ .ref b :: rest).map (cvv ad) = (As.map (cvv ad)).reverse ++ .ref (ad b) :: rest.map (cvv ad) := by rw [List.map_append, List.map_reverse]; try rfl
  have hlen : (As.map (cvv ad)).length = n := by rw [List.length_map]; exact hn
  have hro1 : fr2 + 1 ≤ R.frames := Nat.le_trans hro.1 hR.1
  have hro2 : 8 + (nL2 + 11) + lo2 ≤ R.locals := Nat.le_trans hro.2 hR.2.1
  have hcode := hts _ hY1
  have hini := hts _ hY2
  have hrec : ∃ cellB : Cell, H[ad b]? = some cellB ∧ cellB.vm.isStatics = false ∧ s.vm.findClass y.cls = some cellB.cls := by
    have he : (wS ad cA σ)[b]? = some (ad b, .inr (ci, fl ad (σ.1 b) (σ.2 b) 0 fs)) := by rw [wS_get hb0]; unfold ceO mkC; rw [hk]; rfl
    exact va_recv hK hP hcl he
  rcases hl with h | ⟨host, h⟩
  · exact w_call (va_runV (As := As.map (cvv ad)) (rest := rest.map (cvv ad)) (Ts := lw_g) (C := y.cls) ⟨hx, hb, rfl, hown, hts⟩ hm ⟨⟨rfl, rfl, hro1, hro2, hpay, List.mem_cons_self, hcode, hini, hY3, hpar, hts _ h⟩, hts _ hV.1, hts _ hV.2⟩ ⟨Pm_blind, hrec, w_pre (av := .ref b :: As) hP hS hN hK hKA hI hStr⟩ rfl hlen hS9 hstk hcat2 hd ⟨hR.2.2.1, hR.2.2.2⟩) hS hfin
  · exact w_call (va_runVN (As := As.map (cvv ad)) (rest := rest.map (cvv ad)) (Ts := lw_g) (C := y.cls) ⟨hx, hb, rfl, hown, hts⟩ hm ⟨⟨⟨rfl, rfl, hro1, hro2, hpay, List.mem_cons_self⟩, hcode, hini, hY3, hpar, (hN _ h).use rfl⟩, hts _ hV.1, hts _ hV.2⟩ ⟨Pm_blind, hrec, w_pre (av := .ref b :: As) hP hS hN hK hKA hI hStr⟩ rfl hlen hS9 hstk hcat2 hd ⟨hR.2.2.1, hR.2.2.2⟩) hS hfin
theorem s_callS (G : OK Γ own cc nL rt fr lo) (hd : decode cc pc = .ok (.invokestatic idx, 3)) (hM : Mt (y, cc2, nL2, rt2, fr2, lo2) As σ r σ') (hl : LkM own idx y) (hY : Yok y cc2 nL2 rt2 n) (hV : Cond.static y ∈ lw_g) (As' : List Value) (rest : List Value) (hAs : As' = As) (hn : As.length = n) (hst : st = As.reverse ++ rest) (hcat : (rest.map fun v => v.category).sum ≤ 8) (hro : fr2 + 1 ≤ fr ∧ 8 + (nL2 + 11) + lo2 ≤ lo) (kk : WW Γ (pc + 3) L (r.toList ++ rest) σ') : WW Γ pc L st σ := by
  subst hst
  obtain ⟨p, l, e, R, s, m, args, below, meth, c, D, ad, cA, Q, nc, ns⟩ := Γ
  obtain ⟨hx, hb, hr, hml, hown, hts, hN, hK, hKA, hI, hlk, hStr, hR⟩ := G
  obtain ⟨hY1, hY2, hY3, hY4⟩ := hY
  intro H locs ls hP hS hL
  have hS9 := hL.1
  have hm := hM l D ad cA H.size
  have hG := wU_good hY1
  have hpay := pay_in hts hG
  have hpar : ∀ sig, parseMethodDescriptor y.desc = some sig → n = sig.parameters.length := fun sig h => by rw [h] at hY4; exact (Option.some.inj hY4).symm
  have hcat2 : 2 * (F0 m pc ls ((As.reverse ++ rest).map (cvv ad))).monitorRoom + ((rest.map (cvv ad)).map fun v => v.category).sum ≤ 8 := lv_room (by rw [cats]; exact hcat)
  have hfin : ∀ (H1 : Heap) (locs1 : List Loc), va_P D cl7 (wS ad cA σ') H1 → va_S (Aw ad s.heap.size) s.heap H1 locs1 → W p l e R s m args below meth c H1 locs1 nc ns Q (F0 m (pc + 3) ls ((r.map (cvv ad)).toList ++ rest.map (cvv ad))) := by
    intro H1 locs1 hP1 hS1
    have h9 := kk H1 locs1 ls hP1 hS1 hL
    rw [List.map_append] at h9
    cases r <;> exact h9
  have hstk : (As.reverse ++ rest).map (cvv ad) = (As.map (cvv ad)).reverse ++ rest.map (cvv ad) := by rw [List.map_append, List.map_reverse]; try rfl
  have hlen : (As.map (cvv ad)).length = n := by rw [List.length_map]; exact hn
  have hro1 : fr2 + 1 ≤ R.frames := Nat.le_trans hro.1 hR.1
  have hro2 : 8 + (nL2 + 11) + lo2 ≤ R.locals := Nat.le_trans hro.2 hR.2.1
  have hcode := hts _ hY1
  have hini := hts _ hY2
  rcases hl with h | ⟨host, h⟩
  · exact w_call (va_runS (As := As.map (cvv ad)) (rest := rest.map (cvv ad)) (Ts := lw_g) ⟨hx, hb, rfl, hown, hts⟩ hm ⟨⟨rfl, rfl, hro1, hro2, hpay, List.mem_cons_self, hcode, hini, hY3, hpar, hts _ h⟩, hts _ hV⟩ ⟨Pm_blind, w_pre (av := As) hP hS hN hK hKA hI hStr⟩ rfl hlen hS9 hstk hcat2 hd ⟨hR.2.2.1, hR.2.2.2⟩) hS hfin
  · exact w_call (va_runSN (As := As.map (cvv ad)) (rest := rest.map (cvv ad)) (Ts := lw_g) ⟨hx, hb, rfl, hown, hts⟩ hm ⟨⟨⟨rfl, rfl, hro1, hro2, hpay, List.mem_cons_self⟩, hcode, hini, hY3, hpar, (hN _ h).use rfl⟩, hts _ hV, trivial⟩ ⟨Pm_blind, w_pre (av := As) hP hS hN hK hKA hI hStr⟩ rfl hlen hS9 hstk hcat2 hd ⟨hR.2.2.1, hR.2.2.2⟩) hS hfin
theorem s_iret {v : Int32} (G : OK Γ own cc nL (some .int) fr lo) (hR0 : RetOK Γ r σ') (hd : decode cc pc = .ok (.ireturn, 1)) (hr0 : (some (.int v)) = r) (hs0 : σ = σ') : WW Γ pc L [.int v] σ := by
  obtain ⟨p, l, e, R, s, m, args, below, meth, c, D, ad, cA, Q, nc, ns⟩ := Γ
  obtain ⟨hx, hb, hr, hml, hown, hts, hN, hK, hKA, hI, hlk, hStr, hR⟩ := G
  subst hr0
  subst hs0
  intro H locs ls hP hS hL
  rw [show Q = _ from hR0]
  exact W.iret (v := v) hx hb hr (fun t ht hW => ⟨rfl, by rw [ht]; exact hP, hS.F ht⟩) hS.2.2 hd hlk
theorem s_lret {v : Int64} (G : OK Γ own cc nL (some .long) fr lo) (hR0 : RetOK Γ r σ') (hd : decode cc pc = .ok (.lreturn, 1)) (hr0 : (some (.long v)) = r) (hs0 : σ = σ') : WW Γ pc L [.long v] σ := by
  obtain ⟨p, l, e, R, s, m, args, below, meth, c, D, ad, cA, Q, nc, ns⟩ := Γ
  obtain ⟨hx, hb, hr, hml, hown, hts, hN, hK, hKA, hI, hlk, hStr, hR⟩ := G
  subst hr0
  subst hs0
  intro H locs ls hP hS hL
  rw [show Q = _ from hR0]
  exact W.lret (v := v) hx hb hr (fun t ht hW => ⟨rfl, by rw [ht]; exact hP, hS.F ht⟩) hS.2.2 hd hlk
theorem s_vret  (G : OK Γ own cc nL none fr lo) (hR0 : RetOK Γ r σ') (hd : decode cc pc = .ok (.return_, 1)) (hr0 : none = r) (hs0 : σ = σ') : WW Γ pc L [] σ := by
  obtain ⟨p, l, e, R, s, m, args, below, meth, c, D, ad, cA, Q, nc, ns⟩ := Γ
  obtain ⟨hx, hb, hr, hml, hown, hts, hN, hK, hKA, hI, hlk, hStr, hR⟩ := G
  subst hr0
  subst hs0
  intro H locs ls hP hS hL
  rw [show Q = _ from hR0]
  exact W.vret hx hb hr (fun t ht hW => ⟨rfl, by rw [ht]; exact hP, hS.F ht⟩) hS.2.2 hd hlk
theorem s_zret {v : Int32} (G : OK Γ own cc nL (some .boolean) fr lo) (hR0 : RetOK Γ r σ') (hd : decode cc pc = .ok (.ireturn, 1)) (hn : decide (v = 0 ∨ v = 1) = true) (hr0 : (some (.int v)) = r) (hs0 : σ = σ') : WW Γ pc L [.int v] σ := by
  obtain ⟨p, l, e, R, s, m, args, below, meth, c, D, ad, cA, Q, nc, ns⟩ := Γ
  obtain ⟨hx, hb, hr, hml, hown, hts, hN, hK, hKA, hI, hlk, hStr, hR⟩ := G
  subst hr0
  subst hs0
  intro H locs ls hP hS hL
  rw [show Q = _ from hR0]
  have hn2 : narrow .boolean (.int v) = .int v := by rcases of_decide_eq_true hn with h | h <;> rw [h] <;> rfl
  exact W.zret (v := v) hx hb hr hn2 (fun t ht hW => ⟨rfl, by rw [ht]; exact hP, hS.F ht⟩) hS.2.2 hd hlk
theorem s_aret {v : Nat} {C : String} (G : OK Γ own cc nL (some (.object C)) fr lo) (hR0 : RetOK Γ r σ') (hd : decode cc pc = .ok (.areturn, 1)) (hr0 : (some (.ref v)) = r) (hs0 : σ = σ') : WW Γ pc L [.ref v] σ := by
  obtain ⟨p, l, e, R, s, m, args, below, meth, c, D, ad, cA, Q, nc, ns⟩ := Γ
  obtain ⟨hx, hb, hr, hml, hown, hts, hN, hK, hKA, hI, hlk, hStr, hR⟩ := G
  subst hr0
  subst hs0
  intro H locs ls hP hS hL
  rw [show Q = _ from hR0]
  exact W.aret (v := .ref (ad v)) hx hb hr (Or.inl ⟨_, rfl⟩) (Or.inr ⟨_, rfl⟩) (fun t ht hW => ⟨rfl, by rw [ht]; exact hP, hS.F ht⟩) hS.2.2 hd hlk
end RW
/-! what the walks and the functions share -/
def nm {α β : Type} (a : α) (k : α → β) : β := k a
def chk {α : Type} (b : Bool) (x : Option α) : Option α := if b = true then x else none
def jn {α β : Type} (k : α → β) (b : (α → β) → β) : β := b k
theorem nm_at {α β : Type} {a x : α} {k : α → β} {r : β} (e : x = a) (h : nm a k = r) : k x = r := by rw [e]; exact h
theorem chk_1 {α : Type} {b : Bool} {x : Option α} {r : α} (h : chk b x = some r) : b = true := by
  unfold chk at h
  split at h
  · assumption
  · cases h
theorem chk_2 {α : Type} {b : Bool} {x : Option α} {r : α} (h : chk b x = some r) : x = some r := by
  unfold chk at h
  split at h
  · exact h
  · cases h
theorem ifp {α : Type} {c : Prop} {d : Decidable c} {A B r : α} (h : c) (hf : (if c then A else B) = r) : A = r := by rw [if_pos h] at hf; exact hf
theorem ifn {α : Type} {c : Prop} {d : Decidable c} {A B r : α} (h : ¬ c) (hf : (if c then A else B) = r) : B = r := by rw [if_neg h] at hf; exact hf
theorem bnd {α β : Type} {x : Option α} {k : α → Option β} {r : β} (h : x.bind k = some r) : ∃ y, x = some y ∧ k y = some r := by
  cases x with
  | none => cases h
  | some y => exact ⟨y, rfl, h⟩
theorem jn_w {α β : Type} {k : α → Option β} {b : (α → Option β) → Option β} {r : β} (P : α → Prop) {Q : Prop} (hf : jn k b = some r) (h1 : ∀ q, k q = some r → P q) (h2 : ∀ j : α → Option β, (∀ q, j q = some r → P q) → b j = some r → Q) : Q := h2 k h1 hf
end
