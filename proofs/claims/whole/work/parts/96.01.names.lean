-- ===== PART A: goes FIRST, ahead of the names: the tables' words, and 'selects' of the private methods out of them =====
/-- a private method of a class that the tables say can be made, by its rows of tables_1 -/
def lw_okq (q : MethodName × Nat) : Prop := (q.1.cls ≠ "java/lang/invoke/MethodHandle" ∧ q.1.cls ≠ "java/lang/invoke/VarHandle") ∧ Cond.instantiable q.1.cls q.2 ∈ tables_1 ∧ Cond.privateMethod q.1 ∈ tables_1 ∧ Cond.instanceMethod q.1 ∈ tables_1
theorem lw_p0 : lw_okq (⟨"AgingPortrait", "refuse", "(I)I"⟩, 19) := ⟨⟨by decide +kernel, by decide +kernel⟩, List.mem_of_getElem? (i := 22) (by decide +kernel), List.mem_of_getElem? (i := 522) (by decide +kernel), List.mem_of_getElem? (i := 523) (by decide +kernel)⟩
theorem lw_p1 : lw_okq (⟨"AgingPortrait", "answer", "(I)I"⟩, 19) := ⟨⟨by decide +kernel, by decide +kernel⟩, List.mem_of_getElem? (i := 22) (by decide +kernel), List.mem_of_getElem? (i := 529) (by decide +kernel), List.mem_of_getElem? (i := 530) (by decide +kernel)⟩
theorem lw_p2 : lw_okq (⟨"AgingPortrait", "putBytes", "(I)V"⟩, 19) := ⟨⟨by decide +kernel, by decide +kernel⟩, List.mem_of_getElem? (i := 22) (by decide +kernel), List.mem_of_getElem? (i := 569) (by decide +kernel), List.mem_of_getElem? (i := 570) (by decide +kernel)⟩
theorem lw_p3 : lw_okq (⟨"AgingPortrait$Reader", "next", "()V"⟩, 9) := ⟨⟨by decide +kernel, by decide +kernel⟩, List.mem_of_getElem? (i := 279) (by decide +kernel), List.mem_of_getElem? (i := 600) (by decide +kernel), List.mem_of_getElem? (i := 601) (by decide +kernel)⟩
theorem lw_p4 : lw_okq (⟨"AgingPortrait$Reader", "clearRow", "(I)V"⟩, 9) := ⟨⟨by decide +kernel, by decide +kernel⟩, List.mem_of_getElem? (i := 279) (by decide +kernel), List.mem_of_getElem? (i := 607) (by decide +kernel), List.mem_of_getElem? (i := 608) (by decide +kernel)⟩
theorem lw_p5 : lw_okq (⟨"AgingPortrait$Reader", "readOrder", "(I)Z"⟩, 9) := ⟨⟨by decide +kernel, by decide +kernel⟩, List.mem_of_getElem? (i := 279) (by decide +kernel), List.mem_of_getElem? (i := 611) (by decide +kernel), List.mem_of_getElem? (i := 612) (by decide +kernel)⟩
theorem lw_p6 : lw_okq (⟨"AgingPortrait$Reader", "placeIn", "(Ljava/lang/String;)I"⟩, 9) := ⟨⟨by decide +kernel, by decide +kernel⟩, List.mem_of_getElem? (i := 279) (by decide +kernel), List.mem_of_getElem? (i := 616) (by decide +kernel), List.mem_of_getElem? (i := 617) (by decide +kernel)⟩
theorem lw_p7 : lw_okq (⟨"AgingPortrait$Reader", "isSame", "(Ljava/lang/String;II)Z"⟩, 9) := ⟨⟨by decide +kernel, by decide +kernel⟩, List.mem_of_getElem? (i := 279) (by decide +kernel), List.mem_of_getElem? (i := 668) (by decide +kernel), List.mem_of_getElem? (i := 669) (by decide +kernel)⟩
theorem lw_p8 : lw_okq (⟨"AgingPortrait$Reader", "readSumOf", "(II)Z"⟩, 9) := ⟨⟨by decide +kernel, by decide +kernel⟩, List.mem_of_getElem? (i := 279) (by decide +kernel), List.mem_of_getElem? (i := 673) (by decide +kernel), List.mem_of_getElem? (i := 674) (by decide +kernel)⟩
theorem lw_p9 : lw_okq (⟨"AgingPortrait$Reader", "readSum", "(I)Z"⟩, 9) := ⟨⟨by decide +kernel, by decide +kernel⟩, List.mem_of_getElem? (i := 279) (by decide +kernel), List.mem_of_getElem? (i := 677) (by decide +kernel), List.mem_of_getElem? (i := 678) (by decide +kernel)⟩
theorem lw_p10 : lw_okq (⟨"AgingPortrait$Reader", "readTerm", "(I)Z"⟩, 9) := ⟨⟨by decide +kernel, by decide +kernel⟩, List.mem_of_getElem? (i := 279) (by decide +kernel), List.mem_of_getElem? (i := 681) (by decide +kernel), List.mem_of_getElem? (i := 682) (by decide +kernel)⟩
theorem lw_p11 : lw_okq (⟨"AgingPortrait$Reader", "readPart", "(I)Z"⟩, 9) := ⟨⟨by decide +kernel, by decide +kernel⟩, List.mem_of_getElem? (i := 279) (by decide +kernel), List.mem_of_getElem? (i := 685) (by decide +kernel), List.mem_of_getElem? (i := 686) (by decide +kernel)⟩
theorem lw_p12 : lw_okq (⟨"AgingPortrait$Reader", "isSign", "(C)Z"⟩, 9) := ⟨⟨by decide +kernel, by decide +kernel⟩, List.mem_of_getElem? (i := 279) (by decide +kernel), List.mem_of_getElem? (i := 689) (by decide +kernel), List.mem_of_getElem? (i := 690) (by decide +kernel)⟩
theorem lw_p13 : lw_okq (⟨"AgingPortrait$Reader", "opens", "(I)Z"⟩, 9) := ⟨⟨by decide +kernel, by decide +kernel⟩, List.mem_of_getElem? (i := 279) (by decide +kernel), List.mem_of_getElem? (i := 693) (by decide +kernel), List.mem_of_getElem? (i := 694) (by decide +kernel)⟩
theorem lw_p14 : lw_okq (⟨"AgingPortrait$Reader", "takes", "(C)Z"⟩, 9) := ⟨⟨by decide +kernel, by decide +kernel⟩, List.mem_of_getElem? (i := 279) (by decide +kernel), List.mem_of_getElem? (i := 697) (by decide +kernel), List.mem_of_getElem? (i := 698) (by decide +kernel)⟩
theorem lw_p15 : lw_okq (⟨"AgingPortrait$Reader", "takesWord", "(Ljava/lang/String;)Z"⟩, 9) := ⟨⟨by decide +kernel, by decide +kernel⟩, List.mem_of_getElem? (i := 279) (by decide +kernel), List.mem_of_getElem? (i := 708) (by decide +kernel), List.mem_of_getElem? (i := 709) (by decide +kernel)⟩
def lw_privs_1 : List (MethodName × Nat) := [(⟨"AgingPortrait", "refuse", "(I)I"⟩, 19), (⟨"AgingPortrait", "answer", "(I)I"⟩, 19), (⟨"AgingPortrait", "putBytes", "(I)V"⟩, 19), (⟨"AgingPortrait$Reader", "next", "()V"⟩, 9), (⟨"AgingPortrait$Reader", "clearRow", "(I)V"⟩, 9), (⟨"AgingPortrait$Reader", "readOrder", "(I)Z"⟩, 9), (⟨"AgingPortrait$Reader", "placeIn", "(Ljava/lang/String;)I"⟩, 9), (⟨"AgingPortrait$Reader", "isSame", "(Ljava/lang/String;II)Z"⟩, 9), (⟨"AgingPortrait$Reader", "readSumOf", "(II)Z"⟩, 9), (⟨"AgingPortrait$Reader", "readSum", "(I)Z"⟩, 9), (⟨"AgingPortrait$Reader", "readTerm", "(I)Z"⟩, 9), (⟨"AgingPortrait$Reader", "readPart", "(I)Z"⟩, 9), (⟨"AgingPortrait$Reader", "isSign", "(C)Z"⟩, 9), (⟨"AgingPortrait$Reader", "opens", "(I)Z"⟩, 9), (⟨"AgingPortrait$Reader", "takes", "(C)Z"⟩, 9), (⟨"AgingPortrait$Reader", "takesWord", "(Ljava/lang/String;)Z"⟩, 9)]
theorem lw_r1 : ∀ q ∈ lw_privs_1, lw_okq q := List.forall_mem_cons.mpr ⟨lw_p0, List.forall_mem_cons.mpr ⟨lw_p1, List.forall_mem_cons.mpr ⟨lw_p2, List.forall_mem_cons.mpr ⟨lw_p3, List.forall_mem_cons.mpr ⟨lw_p4, List.forall_mem_cons.mpr ⟨lw_p5, List.forall_mem_cons.mpr ⟨lw_p6, List.forall_mem_cons.mpr ⟨lw_p7, List.forall_mem_cons.mpr ⟨lw_p8, List.forall_mem_cons.mpr ⟨lw_p9, List.forall_mem_cons.mpr ⟨lw_p10, List.forall_mem_cons.mpr ⟨lw_p11, List.forall_mem_cons.mpr ⟨lw_p12, List.forall_mem_cons.mpr ⟨lw_p13, List.forall_mem_cons.mpr ⟨lw_p14, List.forall_mem_cons.mpr ⟨lw_p15, fun _ h => absurd h List.not_mem_nil⟩⟩⟩⟩⟩⟩⟩⟩⟩⟩⟩⟩⟩⟩⟩⟩
theorem lw_p16 : lw_okq (⟨"AgingPortrait$Reader", "readTimes", "(I)Z"⟩, 9) := ⟨⟨by decide +kernel, by decide +kernel⟩, List.mem_of_getElem? (i := 279) (by decide +kernel), List.mem_of_getElem? (i := 713) (by decide +kernel), List.mem_of_getElem? (i := 714) (by decide +kernel)⟩
theorem lw_p17 : lw_okq (⟨"AgingPortrait$Reader", "readClause", "(I)Z"⟩, 9) := ⟨⟨by decide +kernel, by decide +kernel⟩, List.mem_of_getElem? (i := 279) (by decide +kernel), List.mem_of_getElem? (i := 718) (by decide +kernel), List.mem_of_getElem? (i := 719) (by decide +kernel)⟩
theorem lw_p18 : lw_okq (⟨"AgingPortrait$Reader", "readIf", "(I)Z"⟩, 9) := ⟨⟨by decide +kernel, by decide +kernel⟩, List.mem_of_getElem? (i := 279) (by decide +kernel), List.mem_of_getElem? (i := 723) (by decide +kernel), List.mem_of_getElem? (i := 724) (by decide +kernel)⟩
theorem lw_p19 : lw_okq (⟨"AgingPortrait$Reader", "readTest", "(I)Z"⟩, 9) := ⟨⟨by decide +kernel, by decide +kernel⟩, List.mem_of_getElem? (i := 279) (by decide +kernel), List.mem_of_getElem? (i := 728) (by decide +kernel), List.mem_of_getElem? (i := 729) (by decide +kernel)⟩
theorem lw_p20 : lw_okq (⟨"AgingPortrait$Reader", "readBoth", "(I)Z"⟩, 9) := ⟨⟨by decide +kernel, by decide +kernel⟩, List.mem_of_getElem? (i := 279) (by decide +kernel), List.mem_of_getElem? (i := 732) (by decide +kernel), List.mem_of_getElem? (i := 733) (by decide +kernel)⟩
theorem lw_p21 : lw_okq (⟨"AgingPortrait$Reader", "readPlain", "(I)Z"⟩, 9) := ⟨⟨by decide +kernel, by decide +kernel⟩, List.mem_of_getElem? (i := 279) (by decide +kernel), List.mem_of_getElem? (i := 736) (by decide +kernel), List.mem_of_getElem? (i := 737) (by decide +kernel)⟩
theorem lw_p22 : lw_okq (⟨"AgingPortrait$Clerk", "learnWords", "(I)V"⟩, 10) := ⟨⟨by decide +kernel, by decide +kernel⟩, List.mem_of_getElem? (i := 377) (by decide +kernel), List.mem_of_getElem? (i := 770) (by decide +kernel), List.mem_of_getElem? (i := 771) (by decide +kernel)⟩
theorem lw_p23 : lw_okq (⟨"AgingPortrait$Judge", "scarOn", "(II)I"⟩, 4) := ⟨⟨by decide +kernel, by decide +kernel⟩, List.mem_of_getElem? (i := 163) (by decide +kernel), List.mem_of_getElem? (i := 790) (by decide +kernel), List.mem_of_getElem? (i := 791) (by decide +kernel)⟩
theorem lw_p24 : lw_okq (⟨"AgingPortrait$Judge", "ask", "(I)V"⟩, 4) := ⟨⟨by decide +kernel, by decide +kernel⟩, List.mem_of_getElem? (i := 163) (by decide +kernel), List.mem_of_getElem? (i := 794) (by decide +kernel), List.mem_of_getElem? (i := 795) (by decide +kernel)⟩
theorem lw_p25 : lw_okq (⟨"AgingPortrait$Judge", "tells", "(I)Z"⟩, 4) := ⟨⟨by decide +kernel, by decide +kernel⟩, List.mem_of_getElem? (i := 163) (by decide +kernel), List.mem_of_getElem? (i := 799) (by decide +kernel), List.mem_of_getElem? (i := 800) (by decide +kernel)⟩
theorem lw_p26 : lw_okq (⟨"AgingPortrait$Engine", "joins", "(I)Z"⟩, 3) := ⟨⟨by decide +kernel, by decide +kernel⟩, List.mem_of_getElem? (i := 169) (by decide +kernel), List.mem_of_getElem? (i := 809) (by decide +kernel), List.mem_of_getElem? (i := 810) (by decide +kernel)⟩
theorem lw_p27 : lw_okq (⟨"AgingPortrait$Judge", "askPainter", "(II)V"⟩, 4) := ⟨⟨by decide +kernel, by decide +kernel⟩, List.mem_of_getElem? (i := 163) (by decide +kernel), List.mem_of_getElem? (i := 830) (by decide +kernel), List.mem_of_getElem? (i := 831) (by decide +kernel)⟩
theorem lw_p28 : lw_okq (⟨"AgingPortrait$Clerk", "isWanted", "(LAgingPortrait$Text;I)Z"⟩, 10) := ⟨⟨by decide +kernel, by decide +kernel⟩, List.mem_of_getElem? (i := 377) (by decide +kernel), List.mem_of_getElem? (i := 834) (by decide +kernel), List.mem_of_getElem? (i := 835) (by decide +kernel)⟩
theorem lw_p29 : lw_okq (⟨"AgingPortrait$Clerk", "sumsWork", "(LAgingPortrait$Text;I)Z"⟩, 10) := ⟨⟨by decide +kernel, by decide +kernel⟩, List.mem_of_getElem? (i := 377) (by decide +kernel), List.mem_of_getElem? (i := 839) (by decide +kernel), List.mem_of_getElem? (i := 840) (by decide +kernel)⟩
theorem lw_p30 : lw_okq (⟨"AgingPortrait$Clerk", "paints", "(I)I"⟩, 10) := ⟨⟨by decide +kernel, by decide +kernel⟩, List.mem_of_getElem? (i := 377) (by decide +kernel), List.mem_of_getElem? (i := 843) (by decide +kernel), List.mem_of_getElem? (i := 844) (by decide +kernel)⟩
theorem lw_p31 : lw_okq (⟨"AgingPortrait$Planner", "weigh", "(I)V"⟩, 15) := ⟨⟨by decide +kernel, by decide +kernel⟩, List.mem_of_getElem? (i := 219) (by decide +kernel), List.mem_of_getElem? (i := 866) (by decide +kernel), List.mem_of_getElem? (i := 867) (by decide +kernel)⟩
def lw_privs_2 : List (MethodName × Nat) := [(⟨"AgingPortrait$Reader", "readTimes", "(I)Z"⟩, 9), (⟨"AgingPortrait$Reader", "readClause", "(I)Z"⟩, 9), (⟨"AgingPortrait$Reader", "readIf", "(I)Z"⟩, 9), (⟨"AgingPortrait$Reader", "readTest", "(I)Z"⟩, 9), (⟨"AgingPortrait$Reader", "readBoth", "(I)Z"⟩, 9), (⟨"AgingPortrait$Reader", "readPlain", "(I)Z"⟩, 9), (⟨"AgingPortrait$Clerk", "learnWords", "(I)V"⟩, 10), (⟨"AgingPortrait$Judge", "scarOn", "(II)I"⟩, 4), (⟨"AgingPortrait$Judge", "ask", "(I)V"⟩, 4), (⟨"AgingPortrait$Judge", "tells", "(I)Z"⟩, 4), (⟨"AgingPortrait$Engine", "joins", "(I)Z"⟩, 3), (⟨"AgingPortrait$Judge", "askPainter", "(II)V"⟩, 4), (⟨"AgingPortrait$Clerk", "isWanted", "(LAgingPortrait$Text;I)Z"⟩, 10), (⟨"AgingPortrait$Clerk", "sumsWork", "(LAgingPortrait$Text;I)Z"⟩, 10), (⟨"AgingPortrait$Clerk", "paints", "(I)I"⟩, 10), (⟨"AgingPortrait$Planner", "weigh", "(I)V"⟩, 15)]
theorem lw_r2 : ∀ q ∈ lw_privs_2, lw_okq q := List.forall_mem_cons.mpr ⟨lw_p16, List.forall_mem_cons.mpr ⟨lw_p17, List.forall_mem_cons.mpr ⟨lw_p18, List.forall_mem_cons.mpr ⟨lw_p19, List.forall_mem_cons.mpr ⟨lw_p20, List.forall_mem_cons.mpr ⟨lw_p21, List.forall_mem_cons.mpr ⟨lw_p22, List.forall_mem_cons.mpr ⟨lw_p23, List.forall_mem_cons.mpr ⟨lw_p24, List.forall_mem_cons.mpr ⟨lw_p25, List.forall_mem_cons.mpr ⟨lw_p26, List.forall_mem_cons.mpr ⟨lw_p27, List.forall_mem_cons.mpr ⟨lw_p28, List.forall_mem_cons.mpr ⟨lw_p29, List.forall_mem_cons.mpr ⟨lw_p30, List.forall_mem_cons.mpr ⟨lw_p31, fun _ h => absurd h List.not_mem_nil⟩⟩⟩⟩⟩⟩⟩⟩⟩⟩⟩⟩⟩⟩⟩⟩
theorem lw_p32 : lw_okq (⟨"AgingPortrait$Planner", "isBetter", "(II)Z"⟩, 15) := ⟨⟨by decide +kernel, by decide +kernel⟩, List.mem_of_getElem? (i := 219) (by decide +kernel), List.mem_of_getElem? (i := 871) (by decide +kernel), List.mem_of_getElem? (i := 872) (by decide +kernel)⟩
theorem lw_p33 : lw_okq (⟨"AgingPortrait$Planner", "mayPaint", "(II)Z"⟩, 15) := ⟨⟨by decide +kernel, by decide +kernel⟩, List.mem_of_getElem? (i := 219) (by decide +kernel), List.mem_of_getElem? (i := 875) (by decide +kernel), List.mem_of_getElem? (i := 876) (by decide +kernel)⟩
theorem lw_p34 : lw_okq (⟨"AgingPortrait$Planner", "paintOver", "(II)V"⟩, 15) := ⟨⟨by decide +kernel, by decide +kernel⟩, List.mem_of_getElem? (i := 219) (by decide +kernel), List.mem_of_getElem? (i := 886) (by decide +kernel), List.mem_of_getElem? (i := 887) (by decide +kernel)⟩
theorem lw_p35 : lw_okq (⟨"AgingPortrait$Planner", "isGood", "(II)Z"⟩, 15) := ⟨⟨by decide +kernel, by decide +kernel⟩, List.mem_of_getElem? (i := 219) (by decide +kernel), List.mem_of_getElem? (i := 895) (by decide +kernel), List.mem_of_getElem? (i := 896) (by decide +kernel)⟩
theorem lw_p36 : lw_okq (⟨"AgingPortrait$Clerk", "changes", "(I)I"⟩, 10) := ⟨⟨by decide +kernel, by decide +kernel⟩, List.mem_of_getElem? (i := 377) (by decide +kernel), List.mem_of_getElem? (i := 908) (by decide +kernel), List.mem_of_getElem? (i := 909) (by decide +kernel)⟩
theorem lw_p37 : lw_okq (⟨"AgingPortrait$Studio", "carried", "(IIII)I"⟩, 4) := ⟨⟨by decide +kernel, by decide +kernel⟩, List.mem_of_getElem? (i := 200) (by decide +kernel), List.mem_of_getElem? (i := 1003) (by decide +kernel), List.mem_of_getElem? (i := 1004) (by decide +kernel)⟩
theorem lw_p38 : lw_okq (⟨"AgingPortrait$Studio", "aimAt", "(I[I)V"⟩, 4) := ⟨⟨by decide +kernel, by decide +kernel⟩, List.mem_of_getElem? (i := 200) (by decide +kernel), List.mem_of_getElem? (i := 1021) (by decide +kernel), List.mem_of_getElem? (i := 1022) (by decide +kernel)⟩
theorem lw_p39 : lw_okq (⟨"AgingPortrait$Studio", "undo", "(II)Z"⟩, 4) := ⟨⟨by decide +kernel, by decide +kernel⟩, List.mem_of_getElem? (i := 200) (by decide +kernel), List.mem_of_getElem? (i := 1025) (by decide +kernel), List.mem_of_getElem? (i := 1026) (by decide +kernel)⟩
theorem lw_p40 : lw_okq (⟨"AgingPortrait", "heirs", "()I"⟩, 19) := ⟨⟨by decide +kernel, by decide +kernel⟩, List.mem_of_getElem? (i := 22) (by decide +kernel), List.mem_of_getElem? (i := 1046) (by decide +kernel), List.mem_of_getElem? (i := 1047) (by decide +kernel)⟩
theorem lw_p41 : lw_okq (⟨"AgingPortrait", "isRootOrCopy", "(I)Z"⟩, 19) := ⟨⟨by decide +kernel, by decide +kernel⟩, List.mem_of_getElem? (i := 22) (by decide +kernel), List.mem_of_getElem? (i := 1058) (by decide +kernel), List.mem_of_getElem? (i := 1059) (by decide +kernel)⟩
theorem lw_p42 : lw_okq (⟨"AgingPortrait$Stemma", "toneIn", "(II)I"⟩, 9) := ⟨⟨by decide +kernel, by decide +kernel⟩, List.mem_of_getElem? (i := 313) (by decide +kernel), List.mem_of_getElem? (i := 1066) (by decide +kernel), List.mem_of_getElem? (i := 1067) (by decide +kernel)⟩
theorem lw_p43 : lw_okq (⟨"AgingPortrait$Stemma", "weighSet", "(I)V"⟩, 9) := ⟨⟨by decide +kernel, by decide +kernel⟩, List.mem_of_getElem? (i := 313) (by decide +kernel), List.mem_of_getElem? (i := 1079) (by decide +kernel), List.mem_of_getElem? (i := 1080) (by decide +kernel)⟩
theorem lw_p44 : lw_okq (⟨"AgingPortrait$Stemma", "joinBranch", "(II)V"⟩, 9) := ⟨⟨by decide +kernel, by decide +kernel⟩, List.mem_of_getElem? (i := 313) (by decide +kernel), List.mem_of_getElem? (i := 1083) (by decide +kernel), List.mem_of_getElem? (i := 1084) (by decide +kernel)⟩
theorem lw_p45 : lw_okq (⟨"AgingPortrait$Stemma", "leastFrom", "(I)I"⟩, 9) := ⟨⟨by decide +kernel, by decide +kernel⟩, List.mem_of_getElem? (i := 313) (by decide +kernel), List.mem_of_getElem? (i := 1101) (by decide +kernel), List.mem_of_getElem? (i := 1102) (by decide +kernel)⟩
theorem lw_p46 : lw_okq (⟨"AgingPortrait$Stemma", "comesFrom", "(II)Z"⟩, 9) := ⟨⟨by decide +kernel, by decide +kernel⟩, List.mem_of_getElem? (i := 313) (by decide +kernel), List.mem_of_getElem? (i := 1106) (by decide +kernel), List.mem_of_getElem? (i := 1107) (by decide +kernel)⟩
theorem lw_p47 : lw_okq (⟨"AgingPortrait$Stemma", "fromLayer", "(II)I"⟩, 9) := ⟨⟨by decide +kernel, by decide +kernel⟩, List.mem_of_getElem? (i := 313) (by decide +kernel), List.mem_of_getElem? (i := 1126) (by decide +kernel), List.mem_of_getElem? (i := 1127) (by decide +kernel)⟩
def lw_privs_3 : List (MethodName × Nat) := [(⟨"AgingPortrait$Planner", "isBetter", "(II)Z"⟩, 15), (⟨"AgingPortrait$Planner", "mayPaint", "(II)Z"⟩, 15), (⟨"AgingPortrait$Planner", "paintOver", "(II)V"⟩, 15), (⟨"AgingPortrait$Planner", "isGood", "(II)Z"⟩, 15), (⟨"AgingPortrait$Clerk", "changes", "(I)I"⟩, 10), (⟨"AgingPortrait$Studio", "carried", "(IIII)I"⟩, 4), (⟨"AgingPortrait$Studio", "aimAt", "(I[I)V"⟩, 4), (⟨"AgingPortrait$Studio", "undo", "(II)Z"⟩, 4), (⟨"AgingPortrait", "heirs", "()I"⟩, 19), (⟨"AgingPortrait", "isRootOrCopy", "(I)Z"⟩, 19), (⟨"AgingPortrait$Stemma", "toneIn", "(II)I"⟩, 9), (⟨"AgingPortrait$Stemma", "weighSet", "(I)V"⟩, 9), (⟨"AgingPortrait$Stemma", "joinBranch", "(II)V"⟩, 9), (⟨"AgingPortrait$Stemma", "leastFrom", "(I)I"⟩, 9), (⟨"AgingPortrait$Stemma", "comesFrom", "(II)Z"⟩, 9), (⟨"AgingPortrait$Stemma", "fromLayer", "(II)I"⟩, 9)]
theorem lw_r3 : ∀ q ∈ lw_privs_3, lw_okq q := List.forall_mem_cons.mpr ⟨lw_p32, List.forall_mem_cons.mpr ⟨lw_p33, List.forall_mem_cons.mpr ⟨lw_p34, List.forall_mem_cons.mpr ⟨lw_p35, List.forall_mem_cons.mpr ⟨lw_p36, List.forall_mem_cons.mpr ⟨lw_p37, List.forall_mem_cons.mpr ⟨lw_p38, List.forall_mem_cons.mpr ⟨lw_p39, List.forall_mem_cons.mpr ⟨lw_p40, List.forall_mem_cons.mpr ⟨lw_p41, List.forall_mem_cons.mpr ⟨lw_p42, List.forall_mem_cons.mpr ⟨lw_p43, List.forall_mem_cons.mpr ⟨lw_p44, List.forall_mem_cons.mpr ⟨lw_p45, List.forall_mem_cons.mpr ⟨lw_p46, List.forall_mem_cons.mpr ⟨lw_p47, fun _ h => absurd h List.not_mem_nil⟩⟩⟩⟩⟩⟩⟩⟩⟩⟩⟩⟩⟩⟩⟩⟩
theorem lw_p48 : lw_okq (⟨"AgingPortrait$Stemma", "needBehind", "(II)I"⟩, 9) := ⟨⟨by decide +kernel, by decide +kernel⟩, List.mem_of_getElem? (i := 313) (by decide +kernel), List.mem_of_getElem? (i := 1138) (by decide +kernel), List.mem_of_getElem? (i := 1139) (by decide +kernel)⟩
theorem lw_p49 : lw_okq (⟨"AgingPortrait$Stemma", "sameIn", "(III)I"⟩, 9) := ⟨⟨by decide +kernel, by decide +kernel⟩, List.mem_of_getElem? (i := 313) (by decide +kernel), List.mem_of_getElem? (i := 1142) (by decide +kernel), List.mem_of_getElem? (i := 1143) (by decide +kernel)⟩
theorem lw_p50 : lw_okq (⟨"AgingPortrait$Studio", "comesOut", "(III)Z"⟩, 4) := ⟨⟨by decide +kernel, by decide +kernel⟩, List.mem_of_getElem? (i := 200) (by decide +kernel), List.mem_of_getElem? (i := 1154) (by decide +kernel), List.mem_of_getElem? (i := 1155) (by decide +kernel)⟩
theorem lw_p51 : lw_okq (⟨"AgingPortrait$Judge", "askClaimant", "(II)V"⟩, 4) := ⟨⟨by decide +kernel, by decide +kernel⟩, List.mem_of_getElem? (i := 163) (by decide +kernel), List.mem_of_getElem? (i := 1223) (by decide +kernel), List.mem_of_getElem? (i := 1224) (by decide +kernel)⟩
theorem lw_p52 : lw_okq (⟨"AgingPortrait$Court", "begins", "(I)Z"⟩, 6) := ⟨⟨by decide +kernel, by decide +kernel⟩, List.mem_of_getElem? (i := 349) (by decide +kernel), List.mem_of_getElem? (i := 1261) (by decide +kernel), List.mem_of_getElem? (i := 1262) (by decide +kernel)⟩
theorem lw_p53 : lw_okq (⟨"AgingPortrait$Court", "lasts", "(I)I"⟩, 6) := ⟨⟨by decide +kernel, by decide +kernel⟩, List.mem_of_getElem? (i := 349) (by decide +kernel), List.mem_of_getElem? (i := 1269) (by decide +kernel), List.mem_of_getElem? (i := 1270) (by decide +kernel)⟩
theorem lw_p54 : lw_okq (⟨"AgingPortrait$Century", "paintOne", "(I)V"⟩, 8) := ⟨⟨by decide +kernel, by decide +kernel⟩, List.mem_of_getElem? (i := 420) (by decide +kernel), List.mem_of_getElem? (i := 1292) (by decide +kernel), List.mem_of_getElem? (i := 1293) (by decide +kernel)⟩
theorem lw_p55 : lw_okq (⟨"AgingPortrait$Century", "draw", "(I)I"⟩, 8) := ⟨⟨by decide +kernel, by decide +kernel⟩, List.mem_of_getElem? (i := 420) (by decide +kernel), List.mem_of_getElem? (i := 1296) (by decide +kernel), List.mem_of_getElem? (i := 1297) (by decide +kernel)⟩
theorem lw_p56 : lw_okq (⟨"AgingPortraitModel", "tell", "(I)I"⟩, 61) := ⟨⟨by decide +kernel, by decide +kernel⟩, List.mem_of_getElem? (i := 1331) (by decide +kernel), List.mem_of_getElem? (i := 1550) (by decide +kernel), List.mem_of_getElem? (i := 1551) (by decide +kernel)⟩
theorem lw_p57 : lw_okq (⟨"AgingPortraitModel", "change", "(II)I"⟩, 61) := ⟨⟨by decide +kernel, by decide +kernel⟩, List.mem_of_getElem? (i := 1331) (by decide +kernel), List.mem_of_getElem? (i := 1570) (by decide +kernel), List.mem_of_getElem? (i := 1571) (by decide +kernel)⟩
theorem lw_p58 : lw_okq (⟨"AgingPortraitModel", "isPainter", "(I)Z"⟩, 61) := ⟨⟨by decide +kernel, by decide +kernel⟩, List.mem_of_getElem? (i := 1331) (by decide +kernel), List.mem_of_getElem? (i := 1585) (by decide +kernel), List.mem_of_getElem? (i := 1586) (by decide +kernel)⟩
theorem lw_p59 : lw_okq (⟨"AgingPortraitModel", "four", "(I)V"⟩, 61) := ⟨⟨by decide +kernel, by decide +kernel⟩, List.mem_of_getElem? (i := 1331) (by decide +kernel), List.mem_of_getElem? (i := 1627) (by decide +kernel), List.mem_of_getElem? (i := 1628) (by decide +kernel)⟩
theorem lw_p60 : lw_okq (⟨"AgingPortraitModel", "beginText", "(Z)V"⟩, 61) := ⟨⟨by decide +kernel, by decide +kernel⟩, List.mem_of_getElem? (i := 1331) (by decide +kernel), List.mem_of_getElem? (i := 1643) (by decide +kernel), List.mem_of_getElem? (i := 1644) (by decide +kernel)⟩
theorem lw_p61 : lw_okq (⟨"AgingPortraitModel", "begin", "()V"⟩, 61) := ⟨⟨by decide +kernel, by decide +kernel⟩, List.mem_of_getElem? (i := 1331) (by decide +kernel), List.mem_of_getElem? (i := 1647) (by decide +kernel), List.mem_of_getElem? (i := 1648) (by decide +kernel)⟩
theorem lw_p62 : lw_okq (⟨"AgingPortraitModel", "next", "()V"⟩, 61) := ⟨⟨by decide +kernel, by decide +kernel⟩, List.mem_of_getElem? (i := 1331) (by decide +kernel), List.mem_of_getElem? (i := 1651) (by decide +kernel), List.mem_of_getElem? (i := 1652) (by decide +kernel)⟩
theorem lw_p63 : lw_okq (⟨"AgingPortraitModel", "readClause", "()V"⟩, 61) := ⟨⟨by decide +kernel, by decide +kernel⟩, List.mem_of_getElem? (i := 1331) (by decide +kernel), List.mem_of_getElem? (i := 1667) (by decide +kernel), List.mem_of_getElem? (i := 1668) (by decide +kernel)⟩
def lw_privs_4 : List (MethodName × Nat) := [(⟨"AgingPortrait$Stemma", "needBehind", "(II)I"⟩, 9), (⟨"AgingPortrait$Stemma", "sameIn", "(III)I"⟩, 9), (⟨"AgingPortrait$Studio", "comesOut", "(III)Z"⟩, 4), (⟨"AgingPortrait$Judge", "askClaimant", "(II)V"⟩, 4), (⟨"AgingPortrait$Court", "begins", "(I)Z"⟩, 6), (⟨"AgingPortrait$Court", "lasts", "(I)I"⟩, 6), (⟨"AgingPortrait$Century", "paintOne", "(I)V"⟩, 8), (⟨"AgingPortrait$Century", "draw", "(I)I"⟩, 8), (⟨"AgingPortraitModel", "tell", "(I)I"⟩, 61), (⟨"AgingPortraitModel", "change", "(II)I"⟩, 61), (⟨"AgingPortraitModel", "isPainter", "(I)Z"⟩, 61), (⟨"AgingPortraitModel", "four", "(I)V"⟩, 61), (⟨"AgingPortraitModel", "beginText", "(Z)V"⟩, 61), (⟨"AgingPortraitModel", "begin", "()V"⟩, 61), (⟨"AgingPortraitModel", "next", "()V"⟩, 61), (⟨"AgingPortraitModel", "readClause", "()V"⟩, 61)]
theorem lw_r4 : ∀ q ∈ lw_privs_4, lw_okq q := List.forall_mem_cons.mpr ⟨lw_p48, List.forall_mem_cons.mpr ⟨lw_p49, List.forall_mem_cons.mpr ⟨lw_p50, List.forall_mem_cons.mpr ⟨lw_p51, List.forall_mem_cons.mpr ⟨lw_p52, List.forall_mem_cons.mpr ⟨lw_p53, List.forall_mem_cons.mpr ⟨lw_p54, List.forall_mem_cons.mpr ⟨lw_p55, List.forall_mem_cons.mpr ⟨lw_p56, List.forall_mem_cons.mpr ⟨lw_p57, List.forall_mem_cons.mpr ⟨lw_p58, List.forall_mem_cons.mpr ⟨lw_p59, List.forall_mem_cons.mpr ⟨lw_p60, List.forall_mem_cons.mpr ⟨lw_p61, List.forall_mem_cons.mpr ⟨lw_p62, List.forall_mem_cons.mpr ⟨lw_p63, fun _ h => absurd h List.not_mem_nil⟩⟩⟩⟩⟩⟩⟩⟩⟩⟩⟩⟩⟩⟩⟩⟩
theorem lw_p64 : lw_okq (⟨"AgingPortraitModel", "isWord", "(J)Z"⟩, 61) := ⟨⟨by decide +kernel, by decide +kernel⟩, List.mem_of_getElem? (i := 1331) (by decide +kernel), List.mem_of_getElem? (i := 1671) (by decide +kernel), List.mem_of_getElem? (i := 1672) (by decide +kernel)⟩
theorem lw_p65 : lw_okq (⟨"AgingPortraitModel", "must", "(Z)V"⟩, 61) := ⟨⟨by decide +kernel, by decide +kernel⟩, List.mem_of_getElem? (i := 1331) (by decide +kernel), List.mem_of_getElem? (i := 1675) (by decide +kernel), List.mem_of_getElem? (i := 1676) (by decide +kernel)⟩
theorem lw_p66 : lw_okq (⟨"AgingPortraitModel", "readExpression", "(Z)V"⟩, 61) := ⟨⟨by decide +kernel, by decide +kernel⟩, List.mem_of_getElem? (i := 1331) (by decide +kernel), List.mem_of_getElem? (i := 1679) (by decide +kernel), List.mem_of_getElem? (i := 1680) (by decide +kernel)⟩
theorem lw_p67 : lw_okq (⟨"AgingPortraitModel", "readPlain", "()I"⟩, 61) := ⟨⟨by decide +kernel, by decide +kernel⟩, List.mem_of_getElem? (i := 1331) (by decide +kernel), List.mem_of_getElem? (i := 1683) (by decide +kernel), List.mem_of_getElem? (i := 1684) (by decide +kernel)⟩
theorem lw_p68 : lw_okq (⟨"AgingPortraitModel", "push", "(II)V"⟩, 61) := ⟨⟨by decide +kernel, by decide +kernel⟩, List.mem_of_getElem? (i := 1331) (by decide +kernel), List.mem_of_getElem? (i := 1688) (by decide +kernel), List.mem_of_getElem? (i := 1689) (by decide +kernel)⟩
theorem lw_p69 : lw_okq (⟨"AgingPortraitModel", "isSign", "(I)Z"⟩, 61) := ⟨⟨by decide +kernel, by decide +kernel⟩, List.mem_of_getElem? (i := 1331) (by decide +kernel), List.mem_of_getElem? (i := 1692) (by decide +kernel), List.mem_of_getElem? (i := 1693) (by decide +kernel)⟩
theorem lw_p70 : lw_okq (⟨"AgingPortraitModel", "openBracket", "(I)V"⟩, 61) := ⟨⟨by decide +kernel, by decide +kernel⟩, List.mem_of_getElem? (i := 1331) (by decide +kernel), List.mem_of_getElem? (i := 1696) (by decide +kernel), List.mem_of_getElem? (i := 1697) (by decide +kernel)⟩
theorem lw_p71 : lw_okq (⟨"AgingPortraitModel", "readPart", "()I"⟩, 61) := ⟨⟨by decide +kernel, by decide +kernel⟩, List.mem_of_getElem? (i := 1331) (by decide +kernel), List.mem_of_getElem? (i := 1700) (by decide +kernel), List.mem_of_getElem? (i := 1701) (by decide +kernel)⟩
theorem lw_p72 : lw_okq (⟨"AgingPortraitModel", "orderPartAt", "()I"⟩, 61) := ⟨⟨by decide +kernel, by decide +kernel⟩, List.mem_of_getElem? (i := 1331) (by decide +kernel), List.mem_of_getElem? (i := 1704) (by decide +kernel), List.mem_of_getElem? (i := 1705) (by decide +kernel)⟩
theorem lw_p73 : lw_okq (⟨"AgingPortraitModel", "partAt", "()I"⟩, 61) := ⟨⟨by decide +kernel, by decide +kernel⟩, List.mem_of_getElem? (i := 1331) (by decide +kernel), List.mem_of_getElem? (i := 1708) (by decide +kernel), List.mem_of_getElem? (i := 1709) (by decide +kernel)⟩
theorem lw_p74 : lw_okq (⟨"AgingPortraitModel", "leaf", "(ZII)V"⟩, 61) := ⟨⟨by decide +kernel, by decide +kernel⟩, List.mem_of_getElem? (i := 1331) (by decide +kernel), List.mem_of_getElem? (i := 1713) (by decide +kernel), List.mem_of_getElem? (i := 1714) (by decide +kernel)⟩
theorem lw_p75 : lw_okq (⟨"AgingPortraitModel", "emit", "(II)V"⟩, 61) := ⟨⟨by decide +kernel, by decide +kernel⟩, List.mem_of_getElem? (i := 1331) (by decide +kernel), List.mem_of_getElem? (i := 1717) (by decide +kernel), List.mem_of_getElem? (i := 1718) (by decide +kernel)⟩
theorem lw_p76 : lw_okq (⟨"AgingPortraitModel", "number", "(JJ)I"⟩, 61) := ⟨⟨by decide +kernel, by decide +kernel⟩, List.mem_of_getElem? (i := 1331) (by decide +kernel), List.mem_of_getElem? (i := 1721) (by decide +kernel), List.mem_of_getElem? (i := 1722) (by decide +kernel)⟩
theorem lw_p77 : lw_okq (⟨"AgingPortraitModel", "behindSum", "(Z)I"⟩, 61) := ⟨⟨by decide +kernel, by decide +kernel⟩, List.mem_of_getElem? (i := 1331) (by decide +kernel), List.mem_of_getElem? (i := 1725) (by decide +kernel), List.mem_of_getElem? (i := 1726) (by decide +kernel)⟩
theorem lw_p78 : lw_okq (⟨"AgingPortraitModel", "settle", "(I)V"⟩, 61) := ⟨⟨by decide +kernel, by decide +kernel⟩, List.mem_of_getElem? (i := 1331) (by decide +kernel), List.mem_of_getElem? (i := 1732) (by decide +kernel), List.mem_of_getElem? (i := 1733) (by decide +kernel)⟩
theorem lw_p79 : lw_okq (⟨"AgingPortraitModel", "inner", "()I"⟩, 61) := ⟨⟨by decide +kernel, by decide +kernel⟩, List.mem_of_getElem? (i := 1331) (by decide +kernel), List.mem_of_getElem? (i := 1736) (by decide +kernel), List.mem_of_getElem? (i := 1737) (by decide +kernel)⟩
def lw_privs_5 : List (MethodName × Nat) := [(⟨"AgingPortraitModel", "isWord", "(J)Z"⟩, 61), (⟨"AgingPortraitModel", "must", "(Z)V"⟩, 61), (⟨"AgingPortraitModel", "readExpression", "(Z)V"⟩, 61), (⟨"AgingPortraitModel", "readPlain", "()I"⟩, 61), (⟨"AgingPortraitModel", "push", "(II)V"⟩, 61), (⟨"AgingPortraitModel", "isSign", "(I)Z"⟩, 61), (⟨"AgingPortraitModel", "openBracket", "(I)V"⟩, 61), (⟨"AgingPortraitModel", "readPart", "()I"⟩, 61), (⟨"AgingPortraitModel", "orderPartAt", "()I"⟩, 61), (⟨"AgingPortraitModel", "partAt", "()I"⟩, 61), (⟨"AgingPortraitModel", "leaf", "(ZII)V"⟩, 61), (⟨"AgingPortraitModel", "emit", "(II)V"⟩, 61), (⟨"AgingPortraitModel", "number", "(JJ)I"⟩, 61), (⟨"AgingPortraitModel", "behindSum", "(Z)I"⟩, 61), (⟨"AgingPortraitModel", "settle", "(I)V"⟩, 61), (⟨"AgingPortraitModel", "inner", "()I"⟩, 61)]
theorem lw_r5 : ∀ q ∈ lw_privs_5, lw_okq q := List.forall_mem_cons.mpr ⟨lw_p64, List.forall_mem_cons.mpr ⟨lw_p65, List.forall_mem_cons.mpr ⟨lw_p66, List.forall_mem_cons.mpr ⟨lw_p67, List.forall_mem_cons.mpr ⟨lw_p68, List.forall_mem_cons.mpr ⟨lw_p69, List.forall_mem_cons.mpr ⟨lw_p70, List.forall_mem_cons.mpr ⟨lw_p71, List.forall_mem_cons.mpr ⟨lw_p72, List.forall_mem_cons.mpr ⟨lw_p73, List.forall_mem_cons.mpr ⟨lw_p74, List.forall_mem_cons.mpr ⟨lw_p75, List.forall_mem_cons.mpr ⟨lw_p76, List.forall_mem_cons.mpr ⟨lw_p77, List.forall_mem_cons.mpr ⟨lw_p78, List.forall_mem_cons.mpr ⟨lw_p79, fun _ h => absurd h List.not_mem_nil⟩⟩⟩⟩⟩⟩⟩⟩⟩⟩⟩⟩⟩⟩⟩⟩
theorem lw_p80 : lw_okq (⟨"AgingPortraitModel", "isCompared", "()Z"⟩, 61) := ⟨⟨by decide +kernel, by decide +kernel⟩, List.mem_of_getElem? (i := 1331) (by decide +kernel), List.mem_of_getElem? (i := 1740) (by decide +kernel), List.mem_of_getElem? (i := 1741) (by decide +kernel)⟩
theorem lw_p81 : lw_okq (⟨"AgingPortraitModel", "behindTest", "()I"⟩, 61) := ⟨⟨by decide +kernel, by decide +kernel⟩, List.mem_of_getElem? (i := 1331) (by decide +kernel), List.mem_of_getElem? (i := 1748) (by decide +kernel), List.mem_of_getElem? (i := 1749) (by decide +kernel)⟩
theorem lw_p82 : lw_okq (⟨"AgingPortraitModel", "endText", "()V"⟩, 61) := ⟨⟨by decide +kernel, by decide +kernel⟩, List.mem_of_getElem? (i := 1331) (by decide +kernel), List.mem_of_getElem? (i := 1755) (by decide +kernel), List.mem_of_getElem? (i := 1756) (by decide +kernel)⟩
theorem lw_p83 : lw_okq (⟨"AgingPortraitModel", "ageIn", "(I)I"⟩, 61) := ⟨⟨by decide +kernel, by decide +kernel⟩, List.mem_of_getElem? (i := 1331) (by decide +kernel), List.mem_of_getElem? (i := 1767) (by decide +kernel), List.mem_of_getElem? (i := 1768) (by decide +kernel)⟩
theorem lw_p84 : lw_okq (⟨"AgingPortraitModel", "looksOf", "(II)I"⟩, 61) := ⟨⟨by decide +kernel, by decide +kernel⟩, List.mem_of_getElem? (i := 1331) (by decide +kernel), List.mem_of_getElem? (i := 1774) (by decide +kernel), List.mem_of_getElem? (i := 1775) (by decide +kernel)⟩
theorem lw_p85 : lw_okq (⟨"AgingPortraitModel", "setNone", "(I)V"⟩, 61) := ⟨⟨by decide +kernel, by decide +kernel⟩, List.mem_of_getElem? (i := 1331) (by decide +kernel), List.mem_of_getElem? (i := 1778) (by decide +kernel), List.mem_of_getElem? (i := 1779) (by decide +kernel)⟩
theorem lw_p86 : lw_okq (⟨"AgingPortraitModel", "tells", "(IJ)J"⟩, 61) := ⟨⟨by decide +kernel, by decide +kernel⟩, List.mem_of_getElem? (i := 1331) (by decide +kernel), List.mem_of_getElem? (i := 1782) (by decide +kernel), List.mem_of_getElem? (i := 1783) (by decide +kernel)⟩
theorem lw_p87 : lw_okq (⟨"AgingPortraitModel", "isSo", "(I)Z"⟩, 61) := ⟨⟨by decide +kernel, by decide +kernel⟩, List.mem_of_getElem? (i := 1331) (by decide +kernel), List.mem_of_getElem? (i := 1786) (by decide +kernel), List.mem_of_getElem? (i := 1787) (by decide +kernel)⟩
theorem lw_p88 : lw_okq (⟨"AgingPortraitModel", "reckonAll", "(II)V"⟩, 61) := ⟨⟨by decide +kernel, by decide +kernel⟩, List.mem_of_getElem? (i := 1331) (by decide +kernel), List.mem_of_getElem? (i := 1790) (by decide +kernel), List.mem_of_getElem? (i := 1791) (by decide +kernel)⟩
theorem lw_p89 : lw_okq (⟨"AgingPortraitModel", "seen", "(I)I"⟩, 61) := ⟨⟨by decide +kernel, by decide +kernel⟩, List.mem_of_getElem? (i := 1331) (by decide +kernel), List.mem_of_getElem? (i := 1794) (by decide +kernel), List.mem_of_getElem? (i := 1795) (by decide +kernel)⟩
theorem lw_p90 : lw_okq (⟨"AgingPortraitModel", "years", "()I"⟩, 61) := ⟨⟨by decide +kernel, by decide +kernel⟩, List.mem_of_getElem? (i := 1331) (by decide +kernel), List.mem_of_getElem? (i := 1798) (by decide +kernel), List.mem_of_getElem? (i := 1799) (by decide +kernel)⟩
theorem lw_p91 : lw_okq (⟨"AgingPortraitModel", "toneAt", "(II)I"⟩, 61) := ⟨⟨by decide +kernel, by decide +kernel⟩, List.mem_of_getElem? (i := 1331) (by decide +kernel), List.mem_of_getElem? (i := 1802) (by decide +kernel), List.mem_of_getElem? (i := 1803) (by decide +kernel)⟩
theorem lw_p92 : lw_okq (⟨"AgingPortraitModel", "reckon", "(IJJ)J"⟩, 61) := ⟨⟨by decide +kernel, by decide +kernel⟩, List.mem_of_getElem? (i := 1331) (by decide +kernel), List.mem_of_getElem? (i := 1806) (by decide +kernel), List.mem_of_getElem? (i := 1807) (by decide +kernel)⟩
theorem lw_p93 : lw_okq (⟨"AgingPortraitModel", "letsOf", "(II)I"⟩, 61) := ⟨⟨by decide +kernel, by decide +kernel⟩, List.mem_of_getElem? (i := 1331) (by decide +kernel), List.mem_of_getElem? (i := 1812) (by decide +kernel), List.mem_of_getElem? (i := 1813) (by decide +kernel)⟩
theorem lw_p94 : lw_okq (⟨"AgingPortraitModel", "asksOf", "(II)I"⟩, 61) := ⟨⟨by decide +kernel, by decide +kernel⟩, List.mem_of_getElem? (i := 1331) (by decide +kernel), List.mem_of_getElem? (i := 1820) (by decide +kernel), List.mem_of_getElem? (i := 1821) (by decide +kernel)⟩
theorem lw_p95 : lw_okq (⟨"AgingPortraitModel", "setPainter", "(II)V"⟩, 61) := ⟨⟨by decide +kernel, by decide +kernel⟩, List.mem_of_getElem? (i := 1331) (by decide +kernel), List.mem_of_getElem? (i := 1824) (by decide +kernel), List.mem_of_getElem? (i := 1825) (by decide +kernel)⟩
def lw_privs_6 : List (MethodName × Nat) := [(⟨"AgingPortraitModel", "isCompared", "()Z"⟩, 61), (⟨"AgingPortraitModel", "behindTest", "()I"⟩, 61), (⟨"AgingPortraitModel", "endText", "()V"⟩, 61), (⟨"AgingPortraitModel", "ageIn", "(I)I"⟩, 61), (⟨"AgingPortraitModel", "looksOf", "(II)I"⟩, 61), (⟨"AgingPortraitModel", "setNone", "(I)V"⟩, 61), (⟨"AgingPortraitModel", "tells", "(IJ)J"⟩, 61), (⟨"AgingPortraitModel", "isSo", "(I)Z"⟩, 61), (⟨"AgingPortraitModel", "reckonAll", "(II)V"⟩, 61), (⟨"AgingPortraitModel", "seen", "(I)I"⟩, 61), (⟨"AgingPortraitModel", "years", "()I"⟩, 61), (⟨"AgingPortraitModel", "toneAt", "(II)I"⟩, 61), (⟨"AgingPortraitModel", "reckon", "(IJJ)J"⟩, 61), (⟨"AgingPortraitModel", "letsOf", "(II)I"⟩, 61), (⟨"AgingPortraitModel", "asksOf", "(II)I"⟩, 61), (⟨"AgingPortraitModel", "setPainter", "(II)V"⟩, 61)]
theorem lw_r6 : ∀ q ∈ lw_privs_6, lw_okq q := List.forall_mem_cons.mpr ⟨lw_p80, List.forall_mem_cons.mpr ⟨lw_p81, List.forall_mem_cons.mpr ⟨lw_p82, List.forall_mem_cons.mpr ⟨lw_p83, List.forall_mem_cons.mpr ⟨lw_p84, List.forall_mem_cons.mpr ⟨lw_p85, List.forall_mem_cons.mpr ⟨lw_p86, List.forall_mem_cons.mpr ⟨lw_p87, List.forall_mem_cons.mpr ⟨lw_p88, List.forall_mem_cons.mpr ⟨lw_p89, List.forall_mem_cons.mpr ⟨lw_p90, List.forall_mem_cons.mpr ⟨lw_p91, List.forall_mem_cons.mpr ⟨lw_p92, List.forall_mem_cons.mpr ⟨lw_p93, List.forall_mem_cons.mpr ⟨lw_p94, List.forall_mem_cons.mpr ⟨lw_p95, fun _ h => absurd h List.not_mem_nil⟩⟩⟩⟩⟩⟩⟩⟩⟩⟩⟩⟩⟩⟩⟩⟩
theorem lw_p96 : lw_okq (⟨"AgingPortraitModel", "isBarred", "(II)Z"⟩, 61) := ⟨⟨by decide +kernel, by decide +kernel⟩, List.mem_of_getElem? (i := 1331) (by decide +kernel), List.mem_of_getElem? (i := 1828) (by decide +kernel), List.mem_of_getElem? (i := 1829) (by decide +kernel)⟩
theorem lw_p97 : lw_okq (⟨"AgingPortraitModel", "paintNow", "(I)I"⟩, 61) := ⟨⟨by decide +kernel, by decide +kernel⟩, List.mem_of_getElem? (i := 1331) (by decide +kernel), List.mem_of_getElem? (i := 1836) (by decide +kernel), List.mem_of_getElem? (i := 1837) (by decide +kernel)⟩
theorem lw_p98 : lw_okq (⟨"AgingPortraitModel", "rests", "(II)Z"⟩, 61) := ⟨⟨by decide +kernel, by decide +kernel⟩, List.mem_of_getElem? (i := 1331) (by decide +kernel), List.mem_of_getElem? (i := 1840) (by decide +kernel), List.mem_of_getElem? (i := 1841) (by decide +kernel)⟩
theorem lw_p99 : lw_okq (⟨"AgingPortraitModel", "layLooks", "(I)V"⟩, 61) := ⟨⟨by decide +kernel, by decide +kernel⟩, List.mem_of_getElem? (i := 1331) (by decide +kernel), List.mem_of_getElem? (i := 1844) (by decide +kernel), List.mem_of_getElem? (i := 1845) (by decide +kernel)⟩
theorem lw_p100 : lw_okq (⟨"AgingPortraitModel", "loadPaper", "(II)V"⟩, 61) := ⟨⟨by decide +kernel, by decide +kernel⟩, List.mem_of_getElem? (i := 1331) (by decide +kernel), List.mem_of_getElem? (i := 1848) (by decide +kernel), List.mem_of_getElem? (i := 1849) (by decide +kernel)⟩
theorem lw_p101 : lw_okq (⟨"AgingPortraitModel", "paintPaper", "(IIII)V"⟩, 61) := ⟨⟨by decide +kernel, by decide +kernel⟩, List.mem_of_getElem? (i := 1331) (by decide +kernel), List.mem_of_getElem? (i := 1852) (by decide +kernel), List.mem_of_getElem? (i := 1853) (by decide +kernel)⟩
theorem lw_p102 : lw_okq (⟨"AgingPortraitModel", "painted", "(IIII)I"⟩, 61) := ⟨⟨by decide +kernel, by decide +kernel⟩, List.mem_of_getElem? (i := 1331) (by decide +kernel), List.mem_of_getElem? (i := 1856) (by decide +kernel), List.mem_of_getElem? (i := 1857) (by decide +kernel)⟩
theorem lw_p103 : lw_okq (⟨"AgingPortraitModel", "unlikePaper", "(II)I"⟩, 61) := ⟨⟨by decide +kernel, by decide +kernel⟩, List.mem_of_getElem? (i := 1331) (by decide +kernel), List.mem_of_getElem? (i := 1860) (by decide +kernel), List.mem_of_getElem? (i := 1861) (by decide +kernel)⟩
theorem lw_p104 : lw_okq (⟨"AgingPortraitModel", "isLayer", "(I)Z"⟩, 61) := ⟨⟨by decide +kernel, by decide +kernel⟩, List.mem_of_getElem? (i := 1331) (by decide +kernel), List.mem_of_getElem? (i := 1875) (by decide +kernel), List.mem_of_getElem? (i := 1876) (by decide +kernel)⟩
theorem lw_p105 : lw_okq (⟨"AgingPortraitModel", "unlikeOf", "(I)I"⟩, 61) := ⟨⟨by decide +kernel, by decide +kernel⟩, List.mem_of_getElem? (i := 1331) (by decide +kernel), List.mem_of_getElem? (i := 1883) (by decide +kernel), List.mem_of_getElem? (i := 1884) (by decide +kernel)⟩
theorem lw_p106 : lw_okq (⟨"AgingPortraitModel", "tooFarIn", "(I)I"⟩, 61) := ⟨⟨by decide +kernel, by decide +kernel⟩, List.mem_of_getElem? (i := 1331) (by decide +kernel), List.mem_of_getElem? (i := 1887) (by decide +kernel), List.mem_of_getElem? (i := 1888) (by decide +kernel)⟩
theorem lw_p107 : lw_okq (⟨"AgingPortraitModel", "tooFar", "(II)I"⟩, 61) := ⟨⟨by decide +kernel, by decide +kernel⟩, List.mem_of_getElem? (i := 1331) (by decide +kernel), List.mem_of_getElem? (i := 1891) (by decide +kernel), List.mem_of_getElem? (i := 1892) (by decide +kernel)⟩
theorem lw_p108 : lw_okq (⟨"AgingPortraitModel", "moneyBehind", "(I)I"⟩, 61) := ⟨⟨by decide +kernel, by decide +kernel⟩, List.mem_of_getElem? (i := 1331) (by decide +kernel), List.mem_of_getElem? (i := 1903) (by decide +kernel), List.mem_of_getElem? (i := 1904) (by decide +kernel)⟩
theorem lw_p109 : lw_okq (⟨"AgingPortraitModel", "goThrough", "(II)V"⟩, 61) := ⟨⟨by decide +kernel, by decide +kernel⟩, List.mem_of_getElem? (i := 1331) (by decide +kernel), List.mem_of_getElem? (i := 1916) (by decide +kernel), List.mem_of_getElem? (i := 1917) (by decide +kernel)⟩
theorem lw_p110 : lw_okq (⟨"AgingPortraitModel", "weigh", "(II)V"⟩, 61) := ⟨⟨by decide +kernel, by decide +kernel⟩, List.mem_of_getElem? (i := 1331) (by decide +kernel), List.mem_of_getElem? (i := 1920) (by decide +kernel), List.mem_of_getElem? (i := 1921) (by decide +kernel)⟩
theorem lw_p111 : lw_okq (⟨"AgingPortraitModel", "restsInRow", "(II)Z"⟩, 61) := ⟨⟨by decide +kernel, by decide +kernel⟩, List.mem_of_getElem? (i := 1331) (by decide +kernel), List.mem_of_getElem? (i := 1924) (by decide +kernel), List.mem_of_getElem? (i := 1925) (by decide +kernel)⟩
def lw_privs_7 : List (MethodName × Nat) := [(⟨"AgingPortraitModel", "isBarred", "(II)Z"⟩, 61), (⟨"AgingPortraitModel", "paintNow", "(I)I"⟩, 61), (⟨"AgingPortraitModel", "rests", "(II)Z"⟩, 61), (⟨"AgingPortraitModel", "layLooks", "(I)V"⟩, 61), (⟨"AgingPortraitModel", "loadPaper", "(II)V"⟩, 61), (⟨"AgingPortraitModel", "paintPaper", "(IIII)V"⟩, 61), (⟨"AgingPortraitModel", "painted", "(IIII)I"⟩, 61), (⟨"AgingPortraitModel", "unlikePaper", "(II)I"⟩, 61), (⟨"AgingPortraitModel", "isLayer", "(I)Z"⟩, 61), (⟨"AgingPortraitModel", "unlikeOf", "(I)I"⟩, 61), (⟨"AgingPortraitModel", "tooFarIn", "(I)I"⟩, 61), (⟨"AgingPortraitModel", "tooFar", "(II)I"⟩, 61), (⟨"AgingPortraitModel", "moneyBehind", "(I)I"⟩, 61), (⟨"AgingPortraitModel", "goThrough", "(II)V"⟩, 61), (⟨"AgingPortraitModel", "weigh", "(II)V"⟩, 61), (⟨"AgingPortraitModel", "restsInRow", "(II)Z"⟩, 61)]
theorem lw_r7 : ∀ q ∈ lw_privs_7, lw_okq q := List.forall_mem_cons.mpr ⟨lw_p96, List.forall_mem_cons.mpr ⟨lw_p97, List.forall_mem_cons.mpr ⟨lw_p98, List.forall_mem_cons.mpr ⟨lw_p99, List.forall_mem_cons.mpr ⟨lw_p100, List.forall_mem_cons.mpr ⟨lw_p101, List.forall_mem_cons.mpr ⟨lw_p102, List.forall_mem_cons.mpr ⟨lw_p103, List.forall_mem_cons.mpr ⟨lw_p104, List.forall_mem_cons.mpr ⟨lw_p105, List.forall_mem_cons.mpr ⟨lw_p106, List.forall_mem_cons.mpr ⟨lw_p107, List.forall_mem_cons.mpr ⟨lw_p108, List.forall_mem_cons.mpr ⟨lw_p109, List.forall_mem_cons.mpr ⟨lw_p110, List.forall_mem_cons.mpr ⟨lw_p111, fun _ h => absurd h List.not_mem_nil⟩⟩⟩⟩⟩⟩⟩⟩⟩⟩⟩⟩⟩⟩⟩⟩
theorem lw_p112 : lw_okq (⟨"AgingPortraitModel", "driftOf", "(II)I"⟩, 61) := ⟨⟨by decide +kernel, by decide +kernel⟩, List.mem_of_getElem? (i := 1331) (by decide +kernel), List.mem_of_getElem? (i := 1932) (by decide +kernel), List.mem_of_getElem? (i := 1933) (by decide +kernel)⟩
theorem lw_p113 : lw_okq (⟨"AgingPortraitModel", "isSame", "(II)Z"⟩, 61) := ⟨⟨by decide +kernel, by decide +kernel⟩, List.mem_of_getElem? (i := 1331) (by decide +kernel), List.mem_of_getElem? (i := 1943) (by decide +kernel), List.mem_of_getElem? (i := 1944) (by decide +kernel)⟩
theorem lw_p114 : lw_okq (⟨"AgingPortraitModel", "copyNow", "()I"⟩, 61) := ⟨⟨by decide +kernel, by decide +kernel⟩, List.mem_of_getElem? (i := 1331) (by decide +kernel), List.mem_of_getElem? (i := 1951) (by decide +kernel), List.mem_of_getElem? (i := 1952) (by decide +kernel)⟩
theorem lw_p115 : lw_okq (⟨"AgingPortraitModel", "isCopy", "(I)Z"⟩, 61) := ⟨⟨by decide +kernel, by decide +kernel⟩, List.mem_of_getElem? (i := 1331) (by decide +kernel), List.mem_of_getElem? (i := 1959) (by decide +kernel), List.mem_of_getElem? (i := 1960) (by decide +kernel)⟩
theorem lw_p116 : lw_okq (⟨"AgingPortraitModel", "nearOf", "(I)I"⟩, 61) := ⟨⟨by decide +kernel, by decide +kernel⟩, List.mem_of_getElem? (i := 1331) (by decide +kernel), List.mem_of_getElem? (i := 1971) (by decide +kernel), List.mem_of_getElem? (i := 1972) (by decide +kernel)⟩
theorem lw_p117 : lw_okq (⟨"AgingPortraitModel", "apart", "(II)I"⟩, 61) := ⟨⟨by decide +kernel, by decide +kernel⟩, List.mem_of_getElem? (i := 1331) (by decide +kernel), List.mem_of_getElem? (i := 1975) (by decide +kernel), List.mem_of_getElem? (i := 1976) (by decide +kernel)⟩
theorem lw_p118 : lw_okq (⟨"AgingPortraitModel", "pictureAt", "(I)I"⟩, 61) := ⟨⟨by decide +kernel, by decide +kernel⟩, List.mem_of_getElem? (i := 1331) (by decide +kernel), List.mem_of_getElem? (i := 1984) (by decide +kernel), List.mem_of_getElem? (i := 1985) (by decide +kernel)⟩
theorem lw_p119 : lw_okq (⟨"AgingPortraitModel", "findTree", "()V"⟩, 61) := ⟨⟨by decide +kernel, by decide +kernel⟩, List.mem_of_getElem? (i := 1331) (by decide +kernel), List.mem_of_getElem? (i := 1992) (by decide +kernel), List.mem_of_getElem? (i := 1993) (by decide +kernel)⟩
theorem lw_p120 : lw_okq (⟨"AgingPortraitModel", "isTree", "(I)Z"⟩, 61) := ⟨⟨by decide +kernel, by decide +kernel⟩, List.mem_of_getElem? (i := 1331) (by decide +kernel), List.mem_of_getElem? (i := 1996) (by decide +kernel), List.mem_of_getElem? (i := 1997) (by decide +kernel)⟩
theorem lw_p121 : lw_okq (⟨"AgingPortraitModel", "findDepths", "()V"⟩, 61) := ⟨⟨by decide +kernel, by decide +kernel⟩, List.mem_of_getElem? (i := 1331) (by decide +kernel), List.mem_of_getElem? (i := 2012) (by decide +kernel), List.mem_of_getElem? (i := 2013) (by decide +kernel)⟩
theorem lw_p122 : lw_okq (⟨"AgingPortraitModel", "worst", "(II)I"⟩, 61) := ⟨⟨by decide +kernel, by decide +kernel⟩, List.mem_of_getElem? (i := 1331) (by decide +kernel), List.mem_of_getElem? (i := 2016) (by decide +kernel), List.mem_of_getElem? (i := 2017) (by decide +kernel)⟩
theorem lw_p123 : lw_okq (⟨"AgingPortraitModel", "whoOf", "(I)I"⟩, 61) := ⟨⟨by decide +kernel, by decide +kernel⟩, List.mem_of_getElem? (i := 1331) (by decide +kernel), List.mem_of_getElem? (i := 2024) (by decide +kernel), List.mem_of_getElem? (i := 2025) (by decide +kernel)⟩
theorem lw_p124 : lw_okq (⟨"AgingPortraitModel", "layAll", "()V"⟩, 61) := ⟨⟨by decide +kernel, by decide +kernel⟩, List.mem_of_getElem? (i := 1331) (by decide +kernel), List.mem_of_getElem? (i := 2044) (by decide +kernel), List.mem_of_getElem? (i := 2045) (by decide +kernel)⟩
theorem lw_p125 : lw_okq (⟨"AgingPortraitModel", "wasOf", "(I)I"⟩, 61) := ⟨⟨by decide +kernel, by decide +kernel⟩, List.mem_of_getElem? (i := 1331) (by decide +kernel), List.mem_of_getElem? (i := 2048) (by decide +kernel), List.mem_of_getElem? (i := 2049) (by decide +kernel)⟩
theorem lw_p126 : lw_okq (⟨"AgingPortraitModel", "isClaimant", "(I)Z"⟩, 61) := ⟨⟨by decide +kernel, by decide +kernel⟩, List.mem_of_getElem? (i := 1331) (by decide +kernel), List.mem_of_getElem? (i := 2060) (by decide +kernel), List.mem_of_getElem? (i := 2061) (by decide +kernel)⟩
theorem lw_p127 : lw_okq (⟨"AgingPortraitModel", "ofClaimant", "(II)I"⟩, 61) := ⟨⟨by decide +kernel, by decide +kernel⟩, List.mem_of_getElem? (i := 1331) (by decide +kernel), List.mem_of_getElem? (i := 2069) (by decide +kernel), List.mem_of_getElem? (i := 2070) (by decide +kernel)⟩
def lw_privs_8 : List (MethodName × Nat) := [(⟨"AgingPortraitModel", "driftOf", "(II)I"⟩, 61), (⟨"AgingPortraitModel", "isSame", "(II)Z"⟩, 61), (⟨"AgingPortraitModel", "copyNow", "()I"⟩, 61), (⟨"AgingPortraitModel", "isCopy", "(I)Z"⟩, 61), (⟨"AgingPortraitModel", "nearOf", "(I)I"⟩, 61), (⟨"AgingPortraitModel", "apart", "(II)I"⟩, 61), (⟨"AgingPortraitModel", "pictureAt", "(I)I"⟩, 61), (⟨"AgingPortraitModel", "findTree", "()V"⟩, 61), (⟨"AgingPortraitModel", "isTree", "(I)Z"⟩, 61), (⟨"AgingPortraitModel", "findDepths", "()V"⟩, 61), (⟨"AgingPortraitModel", "worst", "(II)I"⟩, 61), (⟨"AgingPortraitModel", "whoOf", "(I)I"⟩, 61), (⟨"AgingPortraitModel", "layAll", "()V"⟩, 61), (⟨"AgingPortraitModel", "wasOf", "(I)I"⟩, 61), (⟨"AgingPortraitModel", "isClaimant", "(I)Z"⟩, 61), (⟨"AgingPortraitModel", "ofClaimant", "(II)I"⟩, 61)]
theorem lw_r8 : ∀ q ∈ lw_privs_8, lw_okq q := List.forall_mem_cons.mpr ⟨lw_p112, List.forall_mem_cons.mpr ⟨lw_p113, List.forall_mem_cons.mpr ⟨lw_p114, List.forall_mem_cons.mpr ⟨lw_p115, List.forall_mem_cons.mpr ⟨lw_p116, List.forall_mem_cons.mpr ⟨lw_p117, List.forall_mem_cons.mpr ⟨lw_p118, List.forall_mem_cons.mpr ⟨lw_p119, List.forall_mem_cons.mpr ⟨lw_p120, List.forall_mem_cons.mpr ⟨lw_p121, List.forall_mem_cons.mpr ⟨lw_p122, List.forall_mem_cons.mpr ⟨lw_p123, List.forall_mem_cons.mpr ⟨lw_p124, List.forall_mem_cons.mpr ⟨lw_p125, List.forall_mem_cons.mpr ⟨lw_p126, List.forall_mem_cons.mpr ⟨lw_p127, fun _ h => absurd h List.not_mem_nil⟩⟩⟩⟩⟩⟩⟩⟩⟩⟩⟩⟩⟩⟩⟩⟩
theorem lw_p128 : lw_okq (⟨"AgingPortraitModel", "isAlive", "(II)Z"⟩, 61) := ⟨⟨by decide +kernel, by decide +kernel⟩, List.mem_of_getElem? (i := 1331) (by decide +kernel), List.mem_of_getElem? (i := 2081) (by decide +kernel), List.mem_of_getElem? (i := 2082) (by decide +kernel)⟩
theorem lw_p129 : lw_okq (⟨"AgingPortraitModel", "ranks", "(II)I"⟩, 61) := ⟨⟨by decide +kernel, by decide +kernel⟩, List.mem_of_getElem? (i := 1331) (by decide +kernel), List.mem_of_getElem? (i := 2085) (by decide +kernel), List.mem_of_getElem? (i := 2086) (by decide +kernel)⟩
theorem lw_p130 : lw_okq (⟨"AgingPortraitModel", "setClaimant", "(II)V"⟩, 61) := ⟨⟨by decide +kernel, by decide +kernel⟩, List.mem_of_getElem? (i := 1331) (by decide +kernel), List.mem_of_getElem? (i := 2089) (by decide +kernel), List.mem_of_getElem? (i := 2090) (by decide +kernel)⟩
theorem lw_p131 : lw_okq (⟨"AgingPortraitModel", "childrenOf", "(II)I"⟩, 61) := ⟨⟨by decide +kernel, by decide +kernel⟩, List.mem_of_getElem? (i := 1331) (by decide +kernel), List.mem_of_getElem? (i := 2093) (by decide +kernel), List.mem_of_getElem? (i := 2094) (by decide +kernel)⟩
theorem lw_p132 : lw_okq (⟨"AgingPortraitModel", "isOut", "(II)Z"⟩, 61) := ⟨⟨by decide +kernel, by decide +kernel⟩, List.mem_of_getElem? (i := 1331) (by decide +kernel), List.mem_of_getElem? (i := 2097) (by decide +kernel), List.mem_of_getElem? (i := 2098) (by decide +kernel)⟩
theorem lw_p133 : lw_okq (⟨"AgingPortraitModel", "findRulers", "()V"⟩, 61) := ⟨⟨by decide +kernel, by decide +kernel⟩, List.mem_of_getElem? (i := 1331) (by decide +kernel), List.mem_of_getElem? (i := 2105) (by decide +kernel), List.mem_of_getElem? (i := 2106) (by decide +kernel)⟩
theorem lw_p134 : lw_okq (⟨"AgingPortraitModel", "readOrder", "()V"⟩, 61) := ⟨⟨by decide +kernel, by decide +kernel⟩, List.mem_of_getElem? (i := 1331) (by decide +kernel), List.mem_of_getElem? (i := 2125) (by decide +kernel), List.mem_of_getElem? (i := 2126) (by decide +kernel)⟩
theorem lw_p135 : lw_okq (⟨"AgingPortraitModel", "readHead", "()I"⟩, 61) := ⟨⟨by decide +kernel, by decide +kernel⟩, List.mem_of_getElem? (i := 1331) (by decide +kernel), List.mem_of_getElem? (i := 2129) (by decide +kernel), List.mem_of_getElem? (i := 2130) (by decide +kernel)⟩
theorem lw_p136 : lw_okq (⟨"AgingPortraitModel", "readSum", "(I)V"⟩, 61) := ⟨⟨by decide +kernel, by decide +kernel⟩, List.mem_of_getElem? (i := 1331) (by decide +kernel), List.mem_of_getElem? (i := 2140) (by decide +kernel), List.mem_of_getElem? (i := 2141) (by decide +kernel)⟩
theorem lw_p137 : lw_okq (⟨"AgingPortraitModel", "run", "(I)I"⟩, 61) := ⟨⟨by decide +kernel, by decide +kernel⟩, List.mem_of_getElem? (i := 1331) (by decide +kernel), List.mem_of_getElem? (i := 2147) (by decide +kernel), List.mem_of_getElem? (i := 2148) (by decide +kernel)⟩
theorem lw_p138 : lw_okq (⟨"AgingPortraitModel", "setNow", "()V"⟩, 61) := ⟨⟨by decide +kernel, by decide +kernel⟩, List.mem_of_getElem? (i := 1331) (by decide +kernel), List.mem_of_getElem? (i := 2151) (by decide +kernel), List.mem_of_getElem? (i := 2152) (by decide +kernel)⟩
theorem lw_p139 : lw_okq (⟨"AgingPortraitModel", "sumOf", "(I)J"⟩, 61) := ⟨⟨by decide +kernel, by decide +kernel⟩, List.mem_of_getElem? (i := 1331) (by decide +kernel), List.mem_of_getElem? (i := 2155) (by decide +kernel), List.mem_of_getElem? (i := 2156) (by decide +kernel)⟩
theorem lw_p140 : lw_okq (⟨"AgingPortraitModel", "act", "(II)I"⟩, 61) := ⟨⟨by decide +kernel, by decide +kernel⟩, List.mem_of_getElem? (i := 1331) (by decide +kernel), List.mem_of_getElem? (i := 2159) (by decide +kernel), List.mem_of_getElem? (i := 2160) (by decide +kernel)⟩
theorem lw_p141 : lw_okq (⟨"AgingPortraitModel", "touchNow", "(I)I"⟩, 61) := ⟨⟨by decide +kernel, by decide +kernel⟩, List.mem_of_getElem? (i := 1331) (by decide +kernel), List.mem_of_getElem? (i := 2163) (by decide +kernel), List.mem_of_getElem? (i := 2164) (by decide +kernel)⟩
theorem lw_p142 : lw_okq (⟨"AgingPortraitModel", "draw", "(I)I"⟩, 61) := ⟨⟨by decide +kernel, by decide +kernel⟩, List.mem_of_getElem? (i := 1331) (by decide +kernel), List.mem_of_getElem? (i := 2176) (by decide +kernel), List.mem_of_getElem? (i := 2177) (by decide +kernel)⟩
def lw_privs_9 : List (MethodName × Nat) := [(⟨"AgingPortraitModel", "isAlive", "(II)Z"⟩, 61), (⟨"AgingPortraitModel", "ranks", "(II)I"⟩, 61), (⟨"AgingPortraitModel", "setClaimant", "(II)V"⟩, 61), (⟨"AgingPortraitModel", "childrenOf", "(II)I"⟩, 61), (⟨"AgingPortraitModel", "isOut", "(II)Z"⟩, 61), (⟨"AgingPortraitModel", "findRulers", "()V"⟩, 61), (⟨"AgingPortraitModel", "readOrder", "()V"⟩, 61), (⟨"AgingPortraitModel", "readHead", "()I"⟩, 61), (⟨"AgingPortraitModel", "readSum", "(I)V"⟩, 61), (⟨"AgingPortraitModel", "run", "(I)I"⟩, 61), (⟨"AgingPortraitModel", "setNow", "()V"⟩, 61), (⟨"AgingPortraitModel", "sumOf", "(I)J"⟩, 61), (⟨"AgingPortraitModel", "act", "(II)I"⟩, 61), (⟨"AgingPortraitModel", "touchNow", "(I)I"⟩, 61), (⟨"AgingPortraitModel", "draw", "(I)I"⟩, 61)]
theorem lw_r9 : ∀ q ∈ lw_privs_9, lw_okq q := List.forall_mem_cons.mpr ⟨lw_p128, List.forall_mem_cons.mpr ⟨lw_p129, List.forall_mem_cons.mpr ⟨lw_p130, List.forall_mem_cons.mpr ⟨lw_p131, List.forall_mem_cons.mpr ⟨lw_p132, List.forall_mem_cons.mpr ⟨lw_p133, List.forall_mem_cons.mpr ⟨lw_p134, List.forall_mem_cons.mpr ⟨lw_p135, List.forall_mem_cons.mpr ⟨lw_p136, List.forall_mem_cons.mpr ⟨lw_p137, List.forall_mem_cons.mpr ⟨lw_p138, List.forall_mem_cons.mpr ⟨lw_p139, List.forall_mem_cons.mpr ⟨lw_p140, List.forall_mem_cons.mpr ⟨lw_p141, List.forall_mem_cons.mpr ⟨lw_p142, fun _ h => absurd h List.not_mem_nil⟩⟩⟩⟩⟩⟩⟩⟩⟩⟩⟩⟩⟩⟩⟩
def lw_privs : List (MethodName × Nat) := lw_privs_1 ++ (lw_privs_2 ++ (lw_privs_3 ++ (lw_privs_4 ++ (lw_privs_5 ++ (lw_privs_6 ++ (lw_privs_7 ++ (lw_privs_8 ++ (lw_privs_9))))))))
def lw_tbl : List Cond := k2_sels lw_privs ++ tables_1
theorem lw_privs_ok : ∀ q ∈ lw_privs, lw_okq q := by
  show ∀ q ∈ lw_privs_1 ++ (lw_privs_2 ++ (lw_privs_3 ++ (lw_privs_4 ++ (lw_privs_5 ++ (lw_privs_6 ++ (lw_privs_7 ++ (lw_privs_8 ++ (lw_privs_9)))))))), lw_okq q
  exact List.forall_mem_append.mpr ⟨lw_r1, List.forall_mem_append.mpr ⟨lw_r2, List.forall_mem_append.mpr ⟨lw_r3, List.forall_mem_append.mpr ⟨lw_r4, List.forall_mem_append.mpr ⟨lw_r5, List.forall_mem_append.mpr ⟨lw_r6, List.forall_mem_append.mpr ⟨lw_r7, List.forall_mem_append.mpr ⟨lw_r8, lw_r9⟩⟩⟩⟩⟩⟩⟩⟩
/-! ===== BEGIN words of one list among another's, by their places ===== -/
theorem goodIn_r {big : List Cond} (ws : List Cond) (ps : List Nat) (hp : ws = ps.filterMap (fun i => big[i]?)) (h : ws.all goodWord = true) : GoodIn big ws := by
  intro w hw
  have h1 := List.all_eq_true.mp h w hw
  rw [hp] at hw
  obtain ⟨i, -, hi⟩ := List.mem_filterMap.mp hw
  have hm : w ∈ big := by first | exact List.mem_of_getElem? hi | exact List.getElem?_mem hi
  exact ⟨hm, good_of_word h1⟩
theorem goodIn_app {big a b : List Cond} (ha : GoodIn big a) (hb : GoodIn big b) : GoodIn big (a ++ b) := fun w h => (List.mem_append.mp h).elim (ha w) (hb w)
theorem goodIn_ca {big a b : List Cond} {c : Cond} (ha : GoodIn big (c :: a)) (hb : GoodIn big b) : GoodIn big (c :: (a ++ b)) := fun w h => (List.mem_cons.mp h).elim (fun e => ha w (List.mem_cons.mpr (Or.inl e))) (fun h => (List.mem_append.mp h).elim (fun h => ha w (List.mem_cons.mpr (Or.inr h))) (hb w))
theorem goodIn_sub {big ws : List Cond} (hm : ∀ w ∈ ws, w ∈ big) (h : ws.all goodWord = true) : GoodIn big ws := fun w hw => ⟨hm w hw, good_of_word (List.all_eq_true.mp h w hw)⟩
/-! ===== END ===== -/

/-! ===== BEGIN printed: names, fields, word lists, decode rows ===== -/
def RX0 : String := "AgingPortrait$Century"
def TX0 : u_T := fun k => match k with
  | 0 => ("AgingPortrait$Century", "now", "LAgingPortrait$State;", true)
  | 1 => ("AgingPortrait$Century", "judge", "LAgingPortrait$Judge;", true)
  | 2 => ("AgingPortrait$Century", "seed", "I", false)
  | 3 => ("AgingPortrait$Century", "painters", "I", false)
  | 4 => ("AgingPortrait$Century", "painted", "[I", true)
  | 5 => ("AgingPortrait$Century", "picture", "[I", true)
  | 6 => ("AgingPortrait$Century", "unlikeInTheEnd", "I", false)
  | _ => ("AgingPortrait$Century", "passed", "Z", false)
def tyX0 : Nat → FieldType := fun k => match k with
  | 0 => .object "AgingPortrait$State"
  | 1 => .object "AgingPortrait$Judge"
  | 2 => .int
  | 3 => .int
  | 4 => .array .int
  | 5 => .array .int
  | 6 => .int
  | _ => .boolean
abbrev wsX00 : List Cond := u_ws RX0 TX0 8
theorem nmX0 : ∀ a, a < 8 → ∀ b, b < 8 → a ≠ b → (TX0 a).2.1 ≠ (TX0 b).2.1 := by decide +kernel
theorem tyX0_ok : ∀ k, k < 8 → parseFieldDescriptor (TX0 k).2.2.1 = some (tyX0 k) := by decide +kernel
abbrev cX0_init : ByteArray := prog_2_method_1_code
def yX0_init : MethodName := ⟨RX0, "<init>", "(LAgingPortrait$State;LAgingPortrait$Judge;)V"⟩
abbrev cX0_pass : ByteArray := prog_2_method_2_code
def yX0_pass : MethodName := ⟨RX0, "pass", "(II)V"⟩
abbrev cX0_yearsOf : ByteArray := prog_2_method_3_code
def yX0_yearsOf : MethodName := ⟨RX0, "yearsOf", "(I)I"⟩
abbrev cX0_paintOne : ByteArray := prog_2_method_4_code
def yX0_paintOne : MethodName := ⟨RX0, "paintOne", "(I)V"⟩
abbrev cX0_draw : ByteArray := prog_2_method_5_code
def yX0_draw : MethodName := ⟨RX0, "draw", "(I)I"⟩
def RX1 : String := "AgingPortrait$Clerk"
def TX1 : u_T := fun k => match k with
  | 0 => ("AgingPortrait$Clerk", "now", "LAgingPortrait$State;", true)
  | 1 => ("AgingPortrait$Clerk", "before", "LAgingPortrait$State;", true)
  | 2 => ("AgingPortrait$Clerk", "judge", "LAgingPortrait$Judge;", true)
  | 3 => ("AgingPortrait$Clerk", "studio", "LAgingPortrait$Studio;", true)
  | 4 => ("AgingPortrait$Clerk", "planner", "LAgingPortrait$Planner;", true)
  | 5 => ("AgingPortrait$Clerk", "engine", "LAgingPortrait$Engine;", true)
  | 6 => ("AgingPortrait$Clerk", "words", "[I", true)
  | 7 => ("AgingPortrait$Clerk", "sums", "[I", true)
  | 8 => ("AgingPortrait$Clerk", "order", "I", false)
  | _ => ("AgingPortrait$Clerk", "done", "I", false)
def tyX1 : Nat → FieldType := fun k => match k with
  | 0 => .object "AgingPortrait$State"
  | 1 => .object "AgingPortrait$State"
  | 2 => .object "AgingPortrait$Judge"
  | 3 => .object "AgingPortrait$Studio"
  | 4 => .object "AgingPortrait$Planner"
  | 5 => .object "AgingPortrait$Engine"
  | 6 => .array .int
  | 7 => .array .int
  | 8 => .int
  | _ => .int
abbrev wsX10 : List Cond := u_ws RX1 TX1 10
theorem nmX1 : ∀ a, a < 10 → ∀ b, b < 10 → a ≠ b → (TX1 a).2.1 ≠ (TX1 b).2.1 := by decide +kernel
theorem tyX1_ok : ∀ k, k < 10 → parseFieldDescriptor (TX1 k).2.2.1 = some (tyX1 k) := by decide +kernel
abbrev cX1_init : ByteArray := prog_3_method_1_code
def yX1_init : MethodName := ⟨RX1, "<init>", "(LAgingPortrait$State;LAgingPortrait$Judge;LAgingPortrait$Studio;LAgingPortrait$Planner;)V"⟩
abbrev cX1_runAll : ByteArray := prog_3_method_2_code
def yX1_runAll : MethodName := ⟨RX1, "runAll", "(LAgingPortrait$Text;)I"⟩
abbrev cX1_learnWords : ByteArray := prog_3_method_3_code
def yX1_learnWords : MethodName := ⟨RX1, "learnWords", "(I)V"⟩
abbrev cX1_isWanted : ByteArray := prog_3_method_4_code
def yX1_isWanted : MethodName := ⟨RX1, "isWanted", "(LAgingPortrait$Text;I)Z"⟩
abbrev cX1_sumsWork : ByteArray := prog_3_method_5_code
def yX1_sumsWork : MethodName := ⟨RX1, "sumsWork", "(LAgingPortrait$Text;I)Z"⟩
abbrev cX1_paints : ByteArray := prog_3_method_6_code
def yX1_paints : MethodName := ⟨RX1, "paints", "(I)I"⟩
abbrev cX1_changes : ByteArray := prog_3_method_7_code
def yX1_changes : MethodName := ⟨RX1, "changes", "(I)I"⟩
def RX2 : String := "AgingPortrait$Court"
def TX2 : u_T := fun k => match k with
  | 0 => ("AgingPortrait$Court", "now", "LAgingPortrait$State;", true)
  | 1 => ("AgingPortrait$Court", "judge", "LAgingPortrait$Judge;", true)
  | 2 => ("AgingPortrait$Court", "ranks", "[I", true)
  | 3 => ("AgingPortrait$Court", "ruling", "[I", true)
  | 4 => ("AgingPortrait$Court", "queue", "[I", true)
  | _ => ("AgingPortrait$Court", "standing", "I", false)
def tyX2 : Nat → FieldType := fun k => match k with
  | 0 => .object "AgingPortrait$State"
  | 1 => .object "AgingPortrait$Judge"
  | 2 => .array .int
  | 3 => .array .int
  | 4 => .array .int
  | _ => .int
abbrev wsX20 : List Cond := u_ws RX2 TX2 6
theorem nmX2 : ∀ a, a < 6 → ∀ b, b < 6 → a ≠ b → (TX2 a).2.1 ≠ (TX2 b).2.1 := by decide +kernel
theorem tyX2_ok : ∀ k, k < 6 → parseFieldDescriptor (TX2 k).2.2.1 = some (tyX2 k) := by decide +kernel
abbrev cX2_init : ByteArray := prog_4_method_1_code
def yX2_init : MethodName := ⟨RX2, "<init>", "(LAgingPortrait$State;LAgingPortrait$Judge;)V"⟩
abbrev cX2_crownTill : ByteArray := prog_4_method_2_code
def yX2_crownTill : MethodName := ⟨RX2, "crownTill", "(I)V"⟩
abbrev cX2_reigns : ByteArray := prog_4_method_3_code
def yX2_reigns : MethodName := ⟨RX2, "reigns", "()I"⟩
abbrev cX2_reignOf : ByteArray := prog_4_method_4_code
def yX2_reignOf : MethodName := ⟨RX2, "reignOf", "(II)I"⟩
abbrev cX2_standInLine : ByteArray := prog_4_method_5_code
def yX2_standInLine : MethodName := ⟨RX2, "standInLine", "(I)V"⟩
abbrev cX2_begins : ByteArray := prog_4_method_6_code
def yX2_begins : MethodName := ⟨RX2, "begins", "(I)Z"⟩
abbrev cX2_lasts : ByteArray := prog_4_method_7_code
def yX2_lasts : MethodName := ⟨RX2, "lasts", "(I)I"⟩
def RX3 : String := "AgingPortrait$Engine"
def TX3 : u_T := fun k => match k with
  | 0 => ("AgingPortrait$Engine", "stack", "[I", true)
  | 1 => ("AgingPortrait$Engine", "height", "I", false)
  | _ => ("AgingPortrait$Engine", "result", "I", false)
def tyX3 : Nat → FieldType := fun k => match k with
  | 0 => .array .int
  | 1 => .int
  | _ => .int
abbrev wsX30 : List Cond := u_ws RX3 TX3 3
theorem nmX3 : ∀ a, a < 3 → ∀ b, b < 3 → a ≠ b → (TX3 a).2.1 ≠ (TX3 b).2.1 := by decide +kernel
theorem tyX3_ok : ∀ k, k < 3 → parseFieldDescriptor (TX3 k).2.2.1 = some (tyX3 k) := by decide +kernel
abbrev cX3_init : ByteArray := prog_5_method_1_code
def yX3_init : MethodName := ⟨RX3, "<init>", "()V"⟩
abbrev cX3_works : ByteArray := prog_5_method_2_code
def yX3_works : MethodName := ⟨RX3, "works", "(LAgingPortrait$Text;I[I)Z"⟩
abbrev cX3_joins : ByteArray := prog_5_method_3_code
def yX3_joins : MethodName := ⟨RX3, "joins", "(I)Z"⟩
def RX4 : String := "AgingPortrait$Judge"
def TX4 : u_T := fun k => match k with
  | 0 => ("AgingPortrait$Judge", "now", "LAgingPortrait$State;", true)
  | 1 => ("AgingPortrait$Judge", "engine", "LAgingPortrait$Engine;", true)
  | 2 => ("AgingPortrait$Judge", "words", "[I", true)
  | _ => ("AgingPortrait$Judge", "told", "I", false)
def tyX4 : Nat → FieldType := fun k => match k with
  | 0 => .object "AgingPortrait$State"
  | 1 => .object "AgingPortrait$Engine"
  | 2 => .array .int
  | _ => .int
abbrev wsX40 : List Cond := u_ws RX4 TX4 4
theorem nmX4 : ∀ a, a < 4 → ∀ b, b < 4 → a ≠ b → (TX4 a).2.1 ≠ (TX4 b).2.1 := by decide +kernel
theorem tyX4_ok : ∀ k, k < 4 → parseFieldDescriptor (TX4 k).2.2.1 = some (tyX4 k) := by decide +kernel
abbrev cX4_init : ByteArray := prog_6_method_1_code
def yX4_init : MethodName := ⟨RX4, "<init>", "(LAgingPortrait$State;)V"⟩
abbrev cX4_looksOf : ByteArray := prog_6_method_2_code
def yX4_looksOf : MethodName := ⟨RX4, "looksOf", "(II)I"⟩
abbrev cX4_letsOf : ByteArray := prog_6_method_3_code
def yX4_letsOf : MethodName := ⟨RX4, "letsOf", "(II)I"⟩
abbrev cX4_asksOf : ByteArray := prog_6_method_4_code
def yX4_asksOf : MethodName := ⟨RX4, "asksOf", "(II)I"⟩
abbrev cX4_barsPainter : ByteArray := prog_6_method_5_code
def yX4_barsPainter : MethodName := ⟨RX4, "barsPainter", "(II)Z"⟩
abbrev cX4_ranksOf : ByteArray := prog_6_method_6_code
def yX4_ranksOf : MethodName := ⟨RX4, "ranksOf", "(II)I"⟩
abbrev cX4_barsClaimant : ByteArray := prog_6_method_7_code
def yX4_barsClaimant : MethodName := ⟨RX4, "barsClaimant", "(II)Z"⟩
abbrev cX4_scarOn : ByteArray := prog_6_method_8_code
def yX4_scarOn : MethodName := ⟨RX4, "scarOn", "(II)I"⟩
abbrev cX4_ask : ByteArray := prog_6_method_9_code
def yX4_ask : MethodName := ⟨RX4, "ask", "(I)V"⟩
abbrev cX4_askPainter : ByteArray := prog_6_method_10_code
def yX4_askPainter : MethodName := ⟨RX4, "askPainter", "(II)V"⟩
abbrev cX4_askClaimant : ByteArray := prog_6_method_11_code
def yX4_askClaimant : MethodName := ⟨RX4, "askClaimant", "(II)V"⟩
abbrev cX4_tells : ByteArray := prog_6_method_12_code
def yX4_tells : MethodName := ⟨RX4, "tells", "(I)Z"⟩
def RX5 : String := "AgingPortrait$Planner"
def TX5 : u_T := fun k => match k with
  | 0 => ("AgingPortrait$Planner", "now", "LAgingPortrait$State;", true)
  | 1 => ("AgingPortrait$Planner", "judge", "LAgingPortrait$Judge;", true)
  | 2 => ("AgingPortrait$Planner", "aims", "[I", true)
  | 3 => ("AgingPortrait$Planner", "lets", "[I", true)
  | 4 => ("AgingPortrait$Planner", "asked", "[I", true)
  | 5 => ("AgingPortrait$Planner", "barred", "[Z", true)
  | 6 => ("AgingPortrait$Planner", "pictures", "[I", true)
  | 7 => ("AgingPortrait$Planner", "row", "[I", true)
  | 8 => ("AgingPortrait$Planner", "by", "I", false)
  | 9 => ("AgingPortrait$Planner", "length", "I", false)
  | 10 => ("AgingPortrait$Planner", "money", "I", false)
  | 11 => ("AgingPortrait$Planner", "best", "[I", true)
  | 12 => ("AgingPortrait$Planner", "leastUnlike", "I", false)
  | 13 => ("AgingPortrait$Planner", "leastAsked", "I", false)
  | _ => ("AgingPortrait$Planner", "rows", "I", false)
def tyX5 : Nat → FieldType := fun k => match k with
  | 0 => .object "AgingPortrait$State"
  | 1 => .object "AgingPortrait$Judge"
  | 2 => .array .int
  | 3 => .array .int
  | 4 => .array .int
  | 5 => .array .boolean
  | 6 => .array .int
  | 7 => .array .int
  | 8 => .int
  | 9 => .int
  | 10 => .int
  | 11 => .array .int
  | 12 => .int
  | 13 => .int
  | _ => .int
abbrev wsX50 : List Cond := u_ws RX5 TX5 15
theorem nmX5 : ∀ a, a < 15 → ∀ b, b < 15 → a ≠ b → (TX5 a).2.1 ≠ (TX5 b).2.1 := by decide +kernel
theorem tyX5_ok : ∀ k, k < 15 → parseFieldDescriptor (TX5 k).2.2.1 = some (tyX5 k) := by decide +kernel
abbrev cX5_init : ByteArray := prog_7_method_1_code
def yX5_init : MethodName := ⟨RX5, "<init>", "(LAgingPortrait$State;LAgingPortrait$Judge;)V"⟩
abbrev cX5_seek : ByteArray := prog_7_method_2_code
def yX5_seek : MethodName := ⟨RX5, "seek", "(II)V"⟩
abbrev cX5_walk : ByteArray := prog_7_method_3_code
def yX5_walk : MethodName := ⟨RX5, "walk", "(LAgingPortrait$Planner;II)V"⟩
abbrev cX5_mayPaint : ByteArray := prog_7_method_4_code
def yX5_mayPaint : MethodName := ⟨RX5, "mayPaint", "(II)Z"⟩
abbrev cX5_paintOver : ByteArray := prog_7_method_5_code
def yX5_paintOver : MethodName := ⟨RX5, "paintOver", "(II)V"⟩
abbrev cX5_isGood : ByteArray := prog_7_method_6_code
def yX5_isGood : MethodName := ⟨RX5, "isGood", "(II)Z"⟩
abbrev cX5_weigh : ByteArray := prog_7_method_7_code
def yX5_weigh : MethodName := ⟨RX5, "weigh", "(I)V"⟩
abbrev cX5_isBetter : ByteArray := prog_7_method_8_code
def yX5_isBetter : MethodName := ⟨RX5, "isBetter", "(II)Z"⟩
def RX6 : String := "AgingPortrait$Reader"
def TX6 : u_T := fun k => match k with
  | 0 => ("AgingPortrait$Reader", "tape", "[I", true)
  | 1 => ("AgingPortrait$Reader", "length", "I", false)
  | 2 => ("AgingPortrait$Reader", "into", "LAgingPortrait$Text;", true)
  | 3 => ("AgingPortrait$Reader", "isOrders", "Z", false)
  | 4 => ("AgingPortrait$Reader", "kind", "I", false)
  | 5 => ("AgingPortrait$Reader", "start", "I", false)
  | 6 => ("AgingPortrait$Reader", "stop", "I", false)
  | 7 => ("AgingPortrait$Reader", "number", "I", false)
  | _ => ("AgingPortrait$Reader", "parts", "I", false)
def tyX6 : Nat → FieldType := fun k => match k with
  | 0 => .array .int
  | 1 => .int
  | 2 => .object "AgingPortrait$Text"
  | 3 => .boolean
  | 4 => .int
  | 5 => .int
  | 6 => .int
  | 7 => .int
  | _ => .int
abbrev wsX60 : List Cond := u_ws RX6 TX6 9
theorem nmX6 : ∀ a, a < 9 → ∀ b, b < 9 → a ≠ b → (TX6 a).2.1 ≠ (TX6 b).2.1 := by decide +kernel
theorem tyX6_ok : ∀ k, k < 9 → parseFieldDescriptor (TX6 k).2.2.1 = some (tyX6 k) := by decide +kernel
abbrev cX6_init : ByteArray := prog_8_method_1_code
def yX6_init : MethodName := ⟨RX6, "<init>", "([ILAgingPortrait$Text;)V"⟩
abbrev cX6_faultIn : ByteArray := prog_8_method_2_code
def yX6_faultIn : MethodName := ⟨RX6, "faultIn", "(IZ)I"⟩
abbrev cX6_clearRow : ByteArray := prog_8_method_3_code
def yX6_clearRow : MethodName := ⟨RX6, "clearRow", "(I)V"⟩
abbrev cX6_readClause : ByteArray := prog_8_method_4_code
def yX6_readClause : MethodName := ⟨RX6, "readClause", "(I)Z"⟩
abbrev cX6_readOrder : ByteArray := prog_8_method_5_code
def yX6_readOrder : MethodName := ⟨RX6, "readOrder", "(I)Z"⟩
abbrev cX6_readTimes : ByteArray := prog_8_method_6_code
def yX6_readTimes : MethodName := ⟨RX6, "readTimes", "(I)Z"⟩
abbrev cX6_readIf : ByteArray := prog_8_method_7_code
def yX6_readIf : MethodName := ⟨RX6, "readIf", "(I)Z"⟩
abbrev cX6_readSumOf : ByteArray := prog_8_method_8_code
def yX6_readSumOf : MethodName := ⟨RX6, "readSumOf", "(II)Z"⟩
abbrev cX6_readTest : ByteArray := prog_8_method_9_code
def yX6_readTest : MethodName := ⟨RX6, "readTest", "(I)Z"⟩
abbrev cX6_readBoth : ByteArray := prog_8_method_10_code
def yX6_readBoth : MethodName := ⟨RX6, "readBoth", "(I)Z"⟩
abbrev cX6_readPlain : ByteArray := prog_8_method_11_code
def yX6_readPlain : MethodName := ⟨RX6, "readPlain", "(I)Z"⟩
abbrev cX6_readSum : ByteArray := prog_8_method_12_code
def yX6_readSum : MethodName := ⟨RX6, "readSum", "(I)Z"⟩
abbrev cX6_readTerm : ByteArray := prog_8_method_13_code
def yX6_readTerm : MethodName := ⟨RX6, "readTerm", "(I)Z"⟩
abbrev cX6_readPart : ByteArray := prog_8_method_14_code
def yX6_readPart : MethodName := ⟨RX6, "readPart", "(I)Z"⟩
abbrev cX6_opens : ByteArray := prog_8_method_15_code
def yX6_opens : MethodName := ⟨RX6, "opens", "(I)Z"⟩
abbrev cX6_isSign : ByteArray := prog_8_method_16_code
def yX6_isSign : MethodName := ⟨RX6, "isSign", "(C)Z"⟩
abbrev cX6_takes : ByteArray := prog_8_method_17_code
def yX6_takes : MethodName := ⟨RX6, "takes", "(C)Z"⟩
abbrev cX6_takesWord : ByteArray := prog_8_method_18_code
def yX6_takesWord : MethodName := ⟨RX6, "takesWord", "(Ljava/lang/String;)Z"⟩
abbrev cX6_placeIn : ByteArray := prog_8_method_19_code
def yX6_placeIn : MethodName := ⟨RX6, "placeIn", "(Ljava/lang/String;)I"⟩
abbrev cX6_isSame : ByteArray := prog_8_method_20_code
def yX6_isSame : MethodName := ⟨RX6, "isSame", "(Ljava/lang/String;II)Z"⟩
abbrev cX6_next : ByteArray := prog_8_method_21_code
def yX6_next : MethodName := ⟨RX6, "next", "()V"⟩
abbrev cX6_kindOf : ByteArray := prog_8_method_22_code
def yX6_kindOf : MethodName := ⟨RX6, "kindOf", "(I)I"⟩
def RX7 : String := "AgingPortrait$State"
def TX7 : u_T := fun k => match k with
  | 0 => ("AgingPortrait$State", "painters", "I", false)
  | 1 => ("AgingPortrait$State", "facts", "[I", true)
  | 2 => ("AgingPortrait$State", "scars", "I", false)
  | 3 => ("AgingPortrait$State", "marks", "[I", true)
  | 4 => ("AgingPortrait$State", "terms", "[I", true)
  | 5 => ("AgingPortrait$State", "laws", "I", false)
  | 6 => ("AgingPortrait$State", "texts", "[LAgingPortrait$Text;", true)
  | 7 => ("AgingPortrait$State", "inForce", "I", false)
  | 8 => ("AgingPortrait$State", "years", "I", false)
  | 9 => ("AgingPortrait$State", "by", "[I", true)
  | 10 => ("AgingPortrait$State", "tones", "[I", true)
  | 11 => ("AgingPortrait$State", "copies", "I", false)
  | 12 => ("AgingPortrait$State", "pictures", "[I", true)
  | 13 => ("AgingPortrait$State", "claimants", "I", false)
  | _ => ("AgingPortrait$State", "traits", "[I", true)
def tyX7 : Nat → FieldType := fun k => match k with
  | 0 => .int
  | 1 => .array .int
  | 2 => .int
  | 3 => .array .int
  | 4 => .array .int
  | 5 => .int
  | 6 => .array (.object "AgingPortrait$Text")
  | 7 => .int
  | 8 => .int
  | 9 => .array .int
  | 10 => .array .int
  | 11 => .int
  | 12 => .array .int
  | 13 => .int
  | _ => .array .int
abbrev wsX70 : List Cond := u_ws RX7 TX7 15
theorem nmX7 : ∀ a, a < 15 → ∀ b, b < 15 → a ≠ b → (TX7 a).2.1 ≠ (TX7 b).2.1 := by decide +kernel
theorem tyX7_ok : ∀ k, k < 15 → parseFieldDescriptor (TX7 k).2.2.1 = some (tyX7 k) := by decide +kernel
abbrev cX7_init : ByteArray := prog_9_method_1_code
def yX7_init : MethodName := ⟨RX7, "<init>", "()V"⟩
abbrev cX7_takeFrom : ByteArray := prog_9_method_2_code
def yX7_takeFrom : MethodName := ⟨RX7, "takeFrom", "(LAgingPortrait$State;)V"⟩
abbrev cX7_hasPainter : ByteArray := prog_9_method_3_code
def yX7_hasPainter : MethodName := ⟨RX7, "hasPainter", "(I)Z"⟩
abbrev cX7_hasLayer : ByteArray := prog_9_method_4_code
def yX7_hasLayer : MethodName := ⟨RX7, "hasLayer", "(I)Z"⟩
abbrev cX7_hasClaimant : ByteArray := prog_9_method_5_code
def yX7_hasClaimant : MethodName := ⟨RX7, "hasClaimant", "(I)Z"⟩
abbrev cX7_ageIn : ByteArray := prog_9_method_6_code
def yX7_ageIn : MethodName := ⟨RX7, "ageIn", "(I)I"⟩
abbrev cX7_rests : ByteArray := prog_9_method_7_code
def yX7_rests : MethodName := ⟨RX7, "rests", "(II)Z"⟩
abbrev cX7_seenAt : ByteArray := prog_9_method_8_code
def yX7_seenAt : MethodName := ⟨RX7, "seenAt", "(I)I"⟩
abbrev cX7_addCopy : ByteArray := prog_9_method_9_code
def yX7_addCopy : MethodName := ⟨RX7, "addCopy", "()V"⟩
abbrev cX7_nearOf : ByteArray := prog_9_method_10_code
def yX7_nearOf : MethodName := ⟨RX7, "nearOf", "(I)I"⟩
abbrev cX7_isAlive : ByteArray := prog_9_method_11_code
def yX7_isAlive : MethodName := ⟨RX7, "isAlive", "(II)Z"⟩
abbrev cX7_childrenOf : ByteArray := prog_9_method_12_code
def yX7_childrenOf : MethodName := ⟨RX7, "childrenOf", "(II)I"⟩
abbrev cX7_brushed : ByteArray := prog_9_method_13_code
def yX7_brushed : MethodName := ⟨RX7, "brushed", "(IIII)I"⟩
def RX8 : String := "AgingPortrait$Stemma"
def TX8 : u_T := fun k => match k with
  | 0 => ("AgingPortrait$Stemma", "now", "LAgingPortrait$State;", true)
  | 1 => ("AgingPortrait$Stemma", "nodes", "I", false)
  | 2 => ("AgingPortrait$Stemma", "apart", "[I", true)
  | 3 => ("AgingPortrait$Stemma", "least", "[I", true)
  | 4 => ("AgingPortrait$Stemma", "ways", "[I", true)
  | 5 => ("AgingPortrait$Stemma", "parents", "[I", true)
  | 6 => ("AgingPortrait$Stemma", "worst", "[I", true)
  | 7 => ("AgingPortrait$Stemma", "cellsToKnow", "I", false)
  | _ => ("AgingPortrait$Stemma", "cellToBegin", "I", false)
def tyX8 : Nat → FieldType := fun k => match k with
  | 0 => .object "AgingPortrait$State"
  | 1 => .int
  | 2 => .array .int
  | 3 => .array .int
  | 4 => .array .int
  | 5 => .array .int
  | 6 => .array .int
  | 7 => .int
  | _ => .int
abbrev wsX80 : List Cond := u_ws RX8 TX8 9
theorem nmX8 : ∀ a, a < 9 → ∀ b, b < 9 → a ≠ b → (TX8 a).2.1 ≠ (TX8 b).2.1 := by decide +kernel
theorem tyX8_ok : ∀ k, k < 9 → parseFieldDescriptor (TX8 k).2.2.1 = some (tyX8 k) := by decide +kernel
abbrev cX8_init : ByteArray := prog_10_method_1_code
def yX8_init : MethodName := ⟨RX8, "<init>", "(LAgingPortrait$State;)V"⟩
abbrev cX8_between : ByteArray := prog_10_method_2_code
def yX8_between : MethodName := ⟨RX8, "between", "(II)I"⟩
abbrev cX8_weigh : ByteArray := prog_10_method_3_code
def yX8_weigh : MethodName := ⟨RX8, "weigh", "()V"⟩
abbrev cX8_changed : ByteArray := prog_10_method_4_code
def yX8_changed : MethodName := ⟨RX8, "changed", "()I"⟩
abbrev cX8_waysInAll : ByteArray := prog_10_method_5_code
def yX8_waysInAll : MethodName := ⟨RX8, "waysInAll", "()I"⟩
abbrev cX8_parentOf : ByteArray := prog_10_method_6_code
def yX8_parentOf : MethodName := ⟨RX8, "parentOf", "(I)I"⟩
abbrev cX8_datedBy : ByteArray := prog_10_method_7_code
def yX8_datedBy : MethodName := ⟨RX8, "datedBy", "(II)I"⟩
abbrev cX8_learn : ByteArray := prog_10_method_8_code
def yX8_learn : MethodName := ⟨RX8, "learn", "()V"⟩
abbrev cX8_needBehind : ByteArray := prog_10_method_9_code
def yX8_needBehind : MethodName := ⟨RX8, "needBehind", "(II)I"⟩
abbrev cX8_sameIn : ByteArray := prog_10_method_10_code
def yX8_sameIn : MethodName := ⟨RX8, "sameIn", "(III)I"⟩
abbrev cX8_toneIn : ByteArray := prog_10_method_11_code
def yX8_toneIn : MethodName := ⟨RX8, "toneIn", "(II)I"⟩
abbrev cX8_fromLayer : ByteArray := prog_10_method_12_code
def yX8_fromLayer : MethodName := ⟨RX8, "fromLayer", "(II)I"⟩
abbrev cX8_weighSet : ByteArray := prog_10_method_13_code
def yX8_weighSet : MethodName := ⟨RX8, "weighSet", "(I)V"⟩
abbrev cX8_joinBranch : ByteArray := prog_10_method_14_code
def yX8_joinBranch : MethodName := ⟨RX8, "joinBranch", "(II)V"⟩
abbrev cX8_fits : ByteArray := prog_10_method_15_code
def yX8_fits : MethodName := ⟨RX8, "fits", "(LAgingPortrait$Stemma;II)Z"⟩
abbrev cX8_leastFrom : ByteArray := prog_10_method_16_code
def yX8_leastFrom : MethodName := ⟨RX8, "leastFrom", "(I)I"⟩
abbrev cX8_comesFrom : ByteArray := prog_10_method_17_code
def yX8_comesFrom : MethodName := ⟨RX8, "comesFrom", "(II)Z"⟩
def RX9 : String := "AgingPortrait$Studio"
def TX9 : u_T := fun k => match k with
  | 0 => ("AgingPortrait$Studio", "now", "LAgingPortrait$State;", true)
  | 1 => ("AgingPortrait$Studio", "judge", "LAgingPortrait$Judge;", true)
  | 2 => ("AgingPortrait$Studio", "aims", "[I", true)
  | _ => ("AgingPortrait$Studio", "laterAims", "[I", true)
def tyX9 : Nat → FieldType := fun k => match k with
  | 0 => .object "AgingPortrait$State"
  | 1 => .object "AgingPortrait$Judge"
  | 2 => .array .int
  | _ => .array .int
abbrev wsX90 : List Cond := u_ws RX9 TX9 4
theorem nmX9 : ∀ a, a < 4 → ∀ b, b < 4 → a ≠ b → (TX9 a).2.1 ≠ (TX9 b).2.1 := by decide +kernel
theorem tyX9_ok : ∀ k, k < 4 → parseFieldDescriptor (TX9 k).2.2.1 = some (tyX9 k) := by decide +kernel
abbrev cX9_init : ByteArray := prog_11_method_1_code
def yX9_init : MethodName := ⟨RX9, "<init>", "(LAgingPortrait$State;LAgingPortrait$Judge;)V"⟩
abbrev cX9_paintNext : ByteArray := prog_11_method_2_code
def yX9_paintNext : MethodName := ⟨RX9, "paintNext", "(I)V"⟩
abbrev cX9_unlikeOf : ByteArray := prog_11_method_3_code
def yX9_unlikeOf : MethodName := ⟨RX9, "unlikeOf", "(I)I"⟩
abbrev cX9_farCell : ByteArray := prog_11_method_4_code
def yX9_farCell : MethodName := ⟨RX9, "farCell", "(I)I"⟩
abbrev cX9_moneyBehind : ByteArray := prog_11_method_5_code
def yX9_moneyBehind : MethodName := ⟨RX9, "moneyBehind", "(I)I"⟩
abbrev cX9_whoCan : ByteArray := prog_11_method_6_code
def yX9_whoCan : MethodName := ⟨RX9, "whoCan", "(I)I"⟩
abbrev cX9_rowsInto : ByteArray := prog_11_method_7_code
def yX9_rowsInto : MethodName := ⟨RX9, "rowsInto", "(II)I"⟩
abbrev cX9_driftOf : ByteArray := prog_11_method_8_code
def yX9_driftOf : MethodName := ⟨RX9, "driftOf", "(II)I"⟩
abbrev cX9_undoingPair : ByteArray := prog_11_method_9_code
def yX9_undoingPair : MethodName := ⟨RX9, "undoingPair", "(I)I"⟩
abbrev cX9_firstTones : ByteArray := prog_11_method_10_code
def yX9_firstTones : MethodName := ⟨RX9, "firstTones", "(I)I"⟩
abbrev cX9_aimAt : ByteArray := prog_11_method_11_code
def yX9_aimAt : MethodName := ⟨RX9, "aimAt", "(I[I)V"⟩
abbrev cX9_comesOut : ByteArray := prog_11_method_12_code
def yX9_comesOut : MethodName := ⟨RX9, "comesOut", "(III)Z"⟩
abbrev cX9_carried : ByteArray := prog_11_method_13_code
def yX9_carried : MethodName := ⟨RX9, "carried", "(IIII)I"⟩
abbrev cX9_undo : ByteArray := prog_11_method_14_code
def yX9_undo : MethodName := ⟨RX9, "undo", "(II)Z"⟩
def RX10 : String := "AgingPortrait$Text"
def TX10 : u_T := fun k => match k with
  | 0 => ("AgingPortrait$Text", "rows", "[I", true)
  | 1 => ("AgingPortrait$Text", "steps", "[I", true)
  | 2 => ("AgingPortrait$Text", "clauses", "I", false)
  | 3 => ("AgingPortrait$Text", "length", "I", false)
  | _ => ("AgingPortrait$Text", "words", "I", false)
def tyX10 : Nat → FieldType := fun k => match k with
  | 0 => .array .int
  | 1 => .array .int
  | 2 => .int
  | 3 => .int
  | _ => .int
abbrev wsX100 : List Cond := u_ws RX10 TX10 5
theorem nmX10 : ∀ a, a < 5 → ∀ b, b < 5 → a ≠ b → (TX10 a).2.1 ≠ (TX10 b).2.1 := by decide +kernel
theorem tyX10_ok : ∀ k, k < 5 → parseFieldDescriptor (TX10 k).2.2.1 = some (tyX10 k) := by decide +kernel
abbrev cX10_init : ByteArray := prog_12_method_1_code
def yX10_init : MethodName := ⟨RX10, "<init>", "(II)V"⟩
abbrev cX10_clear : ByteArray := prog_12_method_2_code
def yX10_clear : MethodName := ⟨RX10, "clear", "()V"⟩
abbrev cX10_add : ByteArray := prog_12_method_3_code
def yX10_add : MethodName := ⟨RX10, "add", "(II)V"⟩
abbrev cX10_jumpHere : ByteArray := prog_12_method_4_code
def yX10_jumpHere : MethodName := ⟨RX10, "jumpHere", "(I)V"⟩
abbrev cX10_trimmed : ByteArray := prog_12_method_5_code
def yX10_trimmed : MethodName := ⟨RX10, "trimmed", "()LAgingPortrait$Text;"⟩
def RX11 : String := "AgingPortrait"
def TX11 : u_T := fun k => match k with
  | 0 => ("AgingPortrait", "now", "LAgingPortrait$State;", true)
  | 1 => ("AgingPortrait", "images", "[LAgingPortrait$State;", true)
  | 2 => ("AgingPortrait", "imagesKept", "I", false)
  | 3 => ("AgingPortrait", "tape", "[I", true)
  | 4 => ("AgingPortrait", "tapeLength", "I", false)
  | 5 => ("AgingPortrait", "reader", "LAgingPortrait$Reader;", true)
  | 6 => ("AgingPortrait", "read", "LAgingPortrait$Text;", true)
  | 7 => ("AgingPortrait", "judge", "LAgingPortrait$Judge;", true)
  | 8 => ("AgingPortrait", "studio", "LAgingPortrait$Studio;", true)
  | 9 => ("AgingPortrait", "planner", "LAgingPortrait$Planner;", true)
  | 10 => ("AgingPortrait", "stemma", "LAgingPortrait$Stemma;", true)
  | 11 => ("AgingPortrait", "court", "LAgingPortrait$Court;", true)
  | 12 => ("AgingPortrait", "clerk", "LAgingPortrait$Clerk;", true)
  | 13 => ("AgingPortrait", "latest", "LAgingPortrait$Century;", true)
  | 14 => ("AgingPortrait", "faultPlace", "I", false)
  | 15 => ("AgingPortrait", "flakesFallen", "I", false)
  | 16 => ("AgingPortrait", "stoppedAt", "I", false)
  | 17 => ("AgingPortrait", "lastStatus", "I", false)
  | _ => ("AgingPortrait", "refused", "[I", true)
def tyX11 : Nat → FieldType := fun k => match k with
  | 0 => .object "AgingPortrait$State"
  | 1 => .array (.object "AgingPortrait$State")
  | 2 => .int
  | 3 => .array .int
  | 4 => .int
  | 5 => .object "AgingPortrait$Reader"
  | 6 => .object "AgingPortrait$Text"
  | 7 => .object "AgingPortrait$Judge"
  | 8 => .object "AgingPortrait$Studio"
  | 9 => .object "AgingPortrait$Planner"
  | 10 => .object "AgingPortrait$Stemma"
  | 11 => .object "AgingPortrait$Court"
  | 12 => .object "AgingPortrait$Clerk"
  | 13 => .object "AgingPortrait$Century"
  | 14 => .int
  | 15 => .int
  | 16 => .int
  | 17 => .int
  | _ => .array .int
abbrev wsX110 : List Cond := u_ws RX11 TX11 19
theorem nmX11 : ∀ a, a < 19 → ∀ b, b < 19 → a ≠ b → (TX11 a).2.1 ≠ (TX11 b).2.1 := by decide +kernel
theorem tyX11_ok : ∀ k, k < 19 → parseFieldDescriptor (TX11 k).2.2.1 = some (tyX11 k) := by decide +kernel
abbrev cX11_init : ByteArray := prog_1_method_1_code
def yX11_init : MethodName := ⟨RX11, "<init>", "()V"⟩
abbrev cX11_first : ByteArray := prog_1_method_2_code
def yX11_first : MethodName := ⟨RX11, "first", "(II)I"⟩
abbrev cX11_painter : ByteArray := prog_1_method_3_code
def yX11_painter : MethodName := ⟨RX11, "painter", "(II)I"⟩
abbrev cX11_err : ByteArray := prog_1_method_4_code
def yX11_err : MethodName := ⟨RX11, "err", "(III)I"⟩
abbrev cX11_of : ByteArray := prog_1_method_5_code
def yX11_of : MethodName := ⟨RX11, "of", "(II)I"⟩
abbrev cX11_terms : ByteArray := prog_1_method_6_code
def yX11_terms : MethodName := ⟨RX11, "terms", "(II)I"⟩
abbrev cX11_scar : ByteArray := prog_1_method_7_code
def yX11_scar : MethodName := ⟨RX11, "scar", "(III)I"⟩
abbrev cX11_heal : ByteArray := prog_1_method_8_code
def yX11_heal : MethodName := ⟨RX11, "heal", "(I)I"⟩
abbrev cX11_feed : ByteArray := prog_1_method_9_code
def yX11_feed : MethodName := ⟨RX11, "feed", "(IIIII)I"⟩
abbrev cX11_end : ByteArray := prog_1_method_10_code
def yX11_end : MethodName := ⟨RX11, "end", "(I)I"⟩
abbrev cX11_row : ByteArray := prog_1_method_11_code
def yX11_row : MethodName := ⟨RX11, "row", "()I"⟩
abbrev cX11_flakes : ByteArray := prog_1_method_12_code
def yX11_flakes : MethodName := ⟨RX11, "flakes", "()I"⟩
abbrev cX11_law : ByteArray := prog_1_method_13_code
def yX11_law : MethodName := ⟨RX11, "law", "()I"⟩
abbrev cX11_orders : ByteArray := prog_1_method_14_code
def yX11_orders : MethodName := ⟨RX11, "orders", "()I"⟩
abbrev cX11_fault : ByteArray := prog_1_method_15_code
def yX11_fault : MethodName := ⟨RX11, "fault", "()I"⟩
abbrev cX11_stopped : ByteArray := prog_1_method_16_code
def yX11_stopped : MethodName := ⟨RX11, "stopped", "()I"⟩
abbrev cX11_force : ByteArray := prog_1_method_17_code
def yX11_force : MethodName := ⟨RX11, "force", "(I)I"⟩
abbrev cX11_looks : ByteArray := prog_1_method_18_code
def yX11_looks : MethodName := ⟨RX11, "looks", "(III)I"⟩
abbrev cX11_asks : ByteArray := prog_1_method_19_code
def yX11_asks : MethodName := ⟨RX11, "asks", "(III)I"⟩
abbrev cX11_paint : ByteArray := prog_1_method_20_code
def yX11_paint : MethodName := ⟨RX11, "paint", "(I)I"⟩
abbrev cX11_scrape : ByteArray := prog_1_method_21_code
def yX11_scrape : MethodName := ⟨RX11, "scrape", "()I"⟩
abbrev cX11_tone : ByteArray := prog_1_method_22_code
def yX11_tone : MethodName := ⟨RX11, "tone", "(II)I"⟩
abbrev cX11_layer : ByteArray := prog_1_method_23_code
def yX11_layer : MethodName := ⟨RX11, "layer", "(II)I"⟩
abbrev cX11_unlawful : ByteArray := prog_1_method_24_code
def yX11_unlawful : MethodName := ⟨RX11, "unlawful", "()I"⟩
abbrev cX11_money : ByteArray := prog_1_method_25_code
def yX11_money : MethodName := ⟨RX11, "money", "(I)I"⟩
abbrev cX11_broke : ByteArray := prog_1_method_26_code
def yX11_broke : MethodName := ⟨RX11, "broke", "()I"⟩
abbrev cX11_plan : ByteArray := prog_1_method_27_code
def yX11_plan : MethodName := ⟨RX11, "plan", "(III)I"⟩
abbrev cX11_drift : ByteArray := prog_1_method_28_code
def yX11_drift : MethodName := ⟨RX11, "drift", "(III)I"⟩
abbrev cX11_undoing : ByteArray := prog_1_method_29_code
def yX11_undoing : MethodName := ⟨RX11, "undoing", "(I)I"⟩
abbrev cX11_copy : ByteArray := prog_1_method_30_code
def yX11_copy : MethodName := ⟨RX11, "copy", "()I"⟩
abbrev cX11_touch : ByteArray := prog_1_method_31_code
def yX11_touch : MethodName := ⟨RX11, "touch", "(III)I"⟩
abbrev cX11_burn : ByteArray := prog_1_method_32_code
def yX11_burn : MethodName := ⟨RX11, "burn", "()I"⟩
abbrev cX11_near : ByteArray := prog_1_method_33_code
def yX11_near : MethodName := ⟨RX11, "near", "(I)I"⟩
abbrev cX11_like : ByteArray := prog_1_method_34_code
def yX11_like : MethodName := ⟨RX11, "like", "(II)I"⟩
abbrev cX11_tree : ByteArray := prog_1_method_35_code
def yX11_tree : MethodName := ⟨RX11, "tree", "(I)I"⟩
abbrev cX11_trees : ByteArray := prog_1_method_36_code
def yX11_trees : MethodName := ⟨RX11, "trees", "()I"⟩
abbrev cX11_dated : ByteArray := prog_1_method_37_code
def yX11_dated : MethodName := ⟨RX11, "dated", "(II)I"⟩
abbrev cX11_know : ByteArray := prog_1_method_38_code
def yX11_know : MethodName := ⟨RX11, "know", "(I)I"⟩
abbrev cX11_who : ByteArray := prog_1_method_39_code
def yX11_who : MethodName := ⟨RX11, "who", "(I)I"⟩
abbrev cX11_forge : ByteArray := prog_1_method_40_code
def yX11_forge : MethodName := ⟨RX11, "forge", "(III)I"⟩
abbrev cX11_skipped : ByteArray := prog_1_method_41_code
def yX11_skipped : MethodName := ⟨RX11, "skipped", "()I"⟩
abbrev cX11_missing : ByteArray := prog_1_method_42_code
def yX11_missing : MethodName := ⟨RX11, "missing", "(II)I"⟩
abbrev cX11_was : ByteArray := prog_1_method_43_code
def yX11_was : MethodName := ⟨RX11, "was", "(I)I"⟩
abbrev cX11_ways : ByteArray := prog_1_method_44_code
def yX11_ways : MethodName := ⟨RX11, "ways", "()J"⟩
abbrev cX11_claimant : ByteArray := prog_1_method_45_code
def yX11_claimant : MethodName := ⟨RX11, "claimant", "(IIII)I"⟩
abbrev cX11_claim : ByteArray := prog_1_method_46_code
def yX11_claim : MethodName := ⟨RX11, "claim", "(III)I"⟩
abbrev cX11_born : ByteArray := prog_1_method_47_code
def yX11_born : MethodName := ⟨RX11, "born", "(II)I"⟩
abbrev cX11_stands : ByteArray := prog_1_method_48_code
def yX11_stands : MethodName := ⟨RX11, "stands", "(III)I"⟩
abbrev cX11_ruler : ByteArray := prog_1_method_49_code
def yX11_ruler : MethodName := ⟨RX11, "ruler", "(I)I"⟩
abbrev cX11_reign : ByteArray := prog_1_method_50_code
def yX11_reign : MethodName := ⟨RX11, "reign", "(II)I"⟩
abbrev cX11_vacant : ByteArray := prog_1_method_51_code
def yX11_vacant : MethodName := ⟨RX11, "vacant", "()I"⟩
abbrev cX11_line : ByteArray := prog_1_method_52_code
def yX11_line : MethodName := ⟨RX11, "line", "(II)I"⟩
abbrev cX11_century : ByteArray := prog_1_method_53_code
def yX11_century : MethodName := ⟨RX11, "century", "(II)I"⟩
abbrev cX11_drawn : ByteArray := prog_1_method_54_code
def yX11_drawn : MethodName := ⟨RX11, "drawn", "(I)I"⟩
abbrev cX11_image : ByteArray := prog_1_method_55_code
def yX11_image : MethodName := ⟨RX11, "image", "(I)I"⟩
abbrev cX11_back : ByteArray := prog_1_method_56_code
def yX11_back : MethodName := ⟨RX11, "back", "(I)I"⟩
abbrev cX11_count : ByteArray := prog_1_method_57_code
def yX11_count : MethodName := ⟨RX11, "count", "(I)I"⟩
abbrev cX11_status : ByteArray := prog_1_method_58_code
def yX11_status : MethodName := ⟨RX11, "status", "()I"⟩
abbrev cX11_answer : ByteArray := prog_1_method_59_code
def yX11_answer : MethodName := ⟨RX11, "answer", "(I)I"⟩
abbrev cX11_refuse : ByteArray := prog_1_method_60_code
def yX11_refuse : MethodName := ⟨RX11, "refuse", "(I)I"⟩
abbrev cX11_putBytes : ByteArray := prog_1_method_61_code
def yX11_putBytes : MethodName := ⟨RX11, "putBytes", "(I)V"⟩
abbrev cX11_heirs : ByteArray := prog_1_method_62_code
def yX11_heirs : MethodName := ⟨RX11, "heirs", "()I"⟩
abbrev cX11_isRootOrCopy : ByteArray := prog_1_method_63_code
def yX11_isRootOrCopy : MethodName := ⟨RX11, "isRootOrCopy", "(I)Z"⟩
abbrev cX11_highestTerm : ByteArray := prog_1_method_64_code
def yX11_highestTerm : MethodName := ⟨RX11, "highestTerm", "(I)I"⟩
abbrev cX11_inside : ByteArray := prog_1_method_65_code
def yX11_inside : MethodName := ⟨RX11, "inside", "(II)Z"⟩
abbrev cX11_isCell : ByteArray := prog_1_method_66_code
def yX11_isCell : MethodName := ⟨RX11, "isCell", "(I)Z"⟩
abbrev cX11_isTone : ByteArray := prog_1_method_67_code
def yX11_isTone : MethodName := ⟨RX11, "isTone", "(I)Z"⟩
abbrev cX11_canBeCopy : ByteArray := prog_1_method_68_code
def yX11_canBeCopy : MethodName := ⟨RX11, "canBeCopy", "(I)Z"⟩
abbrev cX11_bit : ByteArray := prog_1_method_69_code
def yX11_bit : MethodName := ⟨RX11, "bit", "(Z)I"⟩
abbrev cX11_lowestIn : ByteArray := prog_1_method_70_code
def yX11_lowestIn : MethodName := ⟨RX11, "lowestIn", "(I)I"⟩
abbrev cX11_highestIn : ByteArray := prog_1_method_71_code
def yX11_highestIn : MethodName := ⟨RX11, "highestIn", "(I)I"⟩
abbrev cX11_nearest : ByteArray := prog_1_method_72_code
def yX11_nearest : MethodName := ⟨RX11, "nearest", "(III)I"⟩
def RX12 : String := "AgingPortraitModel"
def TX12 : u_T := fun k => match k with
  | 0 => ("AgingPortraitModel", "thrown", "I", false)
  | 1 => ("AgingPortraitModel", "status", "I", false)
  | 2 => ("AgingPortraitModel", "refusals", "[I", true)
  | 3 => ("AgingPortraitModel", "row", "[I", true)
  | 4 => ("AgingPortraitModel", "images", "[I", true)
  | 5 => ("AgingPortraitModel", "before", "[I", true)
  | 6 => ("AgingPortraitModel", "isKept", "[Z", true)
  | 7 => ("AgingPortraitModel", "flakes", "I", false)
  | 8 => ("AgingPortraitModel", "tape", "[I", true)
  | 9 => ("AgingPortraitModel", "taped", "I", false)
  | 10 => ("AgingPortraitModel", "from", "I", false)
  | 11 => ("AgingPortraitModel", "to", "I", false)
  | 12 => ("AgingPortraitModel", "sort", "I", false)
  | 13 => ("AgingPortraitModel", "worth", "J", false)
  | 14 => ("AgingPortraitModel", "fault", "I", false)
  | 15 => ("AgingPortraitModel", "bad", "Z", false)
  | 16 => ("AgingPortraitModel", "ordered", "Z", false)
  | 17 => ("AgingPortraitModel", "nClauses", "I", false)
  | 18 => ("AgingPortraitModel", "nClause", "[I", true)
  | 19 => ("AgingPortraitModel", "nCode", "I", false)
  | 20 => ("AgingPortraitModel", "nOp", "[I", true)
  | 21 => ("AgingPortraitModel", "nArg", "[I", true)
  | 22 => ("AgingPortraitModel", "nLeaves", "I", false)
  | 23 => ("AgingPortraitModel", "pile", "[I", true)
  | 24 => ("AgingPortraitModel", "pileAt", "[I", true)
  | 25 => ("AgingPortraitModel", "piled", "I", false)
  | 26 => ("AgingPortraitModel", "opened", "I", false)
  | 27 => ("AgingPortraitModel", "words", "[J", true)
  | 28 => ("AgingPortraitModel", "orderWords", "[J", true)
  | 29 => ("AgingPortraitModel", "headWords", "[J", true)
  | 30 => ("AgingPortraitModel", "law", "I", false)
  | 31 => ("AgingPortraitModel", "set", "[J", true)
  | 32 => ("AgingPortraitModel", "now", "[J", true)
  | 33 => ("AgingPortraitModel", "rest", "[J", true)
  | 34 => ("AgingPortraitModel", "broken", "Z", false)
  | 35 => ("AgingPortraitModel", "value", "J", false)
  | 36 => ("AgingPortraitModel", "sum", "J", false)
  | 37 => ("AgingPortraitModel", "look", "[I", true)
  | 38 => ("AgingPortraitModel", "paper", "[I", true)
  | 39 => ("AgingPortraitModel", "rowOf", "[I", true)
  | 40 => ("AgingPortraitModel", "best", "[I", true)
  | 41 => ("AgingPortraitModel", "asked", "[I", true)
  | 42 => ("AgingPortraitModel", "bars", "[Z", true)
  | 43 => ("AgingPortraitModel", "lawful", "[Z", true)
  | 44 => ("AgingPortraitModel", "bestUnlike", "I", false)
  | 45 => ("AgingPortraitModel", "bestAsks", "I", false)
  | 46 => ("AgingPortraitModel", "ways", "I", false)
  | 47 => ("AgingPortraitModel", "parents", "[I", true)
  | 48 => ("AgingPortraitModel", "firstTree", "[I", true)
  | 49 => ("AgingPortraitModel", "treeLeast", "I", false)
  | 50 => ("AgingPortraitModel", "treeWays", "I", false)
  | 51 => ("AgingPortraitModel", "depths", "[I", true)
  | 52 => ("AgingPortraitModel", "rules", "[I", true)
  | 53 => ("AgingPortraitModel", "rankOf", "[I", true)
  | 54 => ("AgingPortraitModel", "nOrder", "[I", true)
  | 55 => ("AgingPortraitModel", "done", "I", false)
  | 56 => ("AgingPortraitModel", "stopped", "I", false)
  | 57 => ("AgingPortraitModel", "state", "J", false)
  | 58 => ("AgingPortraitModel", "drawn", "[I", true)
  | 59 => ("AgingPortraitModel", "isCentury", "Z", false)
  | _ => ("AgingPortraitModel", "nDrawn", "I", false)
def tyX12 : Nat → FieldType := fun k => match k with
  | 0 => .int
  | 1 => .int
  | 2 => .array .int
  | 3 => .array .int
  | 4 => .array .int
  | 5 => .array .int
  | 6 => .array .boolean
  | 7 => .int
  | 8 => .array .int
  | 9 => .int
  | 10 => .int
  | 11 => .int
  | 12 => .int
  | 13 => .long
  | 14 => .int
  | 15 => .boolean
  | 16 => .boolean
  | 17 => .int
  | 18 => .array .int
  | 19 => .int
  | 20 => .array .int
  | 21 => .array .int
  | 22 => .int
  | 23 => .array .int
  | 24 => .array .int
  | 25 => .int
  | 26 => .int
  | 27 => .array .long
  | 28 => .array .long
  | 29 => .array .long
  | 30 => .int
  | 31 => .array .long
  | 32 => .array .long
  | 33 => .array .long
  | 34 => .boolean
  | 35 => .long
  | 36 => .long
  | 37 => .array .int
  | 38 => .array .int
  | 39 => .array .int
  | 40 => .array .int
  | 41 => .array .int
  | 42 => .array .boolean
  | 43 => .array .boolean
  | 44 => .int
  | 45 => .int
  | 46 => .int
  | 47 => .array .int
  | 48 => .array .int
  | 49 => .int
  | 50 => .int
  | 51 => .array .int
  | 52 => .array .int
  | 53 => .array .int
  | 54 => .array .int
  | 55 => .int
  | 56 => .int
  | 57 => .long
  | 58 => .array .int
  | 59 => .boolean
  | _ => .int
abbrev wsX120 : List Cond := u_ws RX12 TX12 61
theorem nmX12 : ∀ a, a < 61 → ∀ b, b < 61 → a ≠ b → (TX12 a).2.1 ≠ (TX12 b).2.1 := by decide +kernel
theorem tyX12_ok : ∀ k, k < 61 → parseFieldDescriptor (TX12 k).2.2.1 = some (tyX12 k) := by decide +kernel
abbrev cX12_init : ByteArray := prog_14_method_1_code
def yX12_init : MethodName := ⟨RX12, "<init>", "()V"⟩
abbrev cX12_in : ByteArray := prog_14_method_3_code
def yX12_in : MethodName := ⟨RX12, "in", "(JJJ)Z"⟩
abbrev cX12_is : ByteArray := prog_14_method_4_code
def yX12_is : MethodName := ⟨RX12, "is", "(II)Z"⟩
abbrev cX12_size : ByteArray := prog_14_method_5_code
def yX12_size : MethodName := ⟨RX12, "size", "(I)I"⟩
abbrev cX12_within : ByteArray := prog_14_method_6_code
def yX12_within : MethodName := ⟨RX12, "within", "(JII)I"⟩
abbrev cX12_tell : ByteArray := prog_14_method_7_code
def yX12_tell : MethodName := ⟨RX12, "tell", "(I)I"⟩
abbrev cX12_change : ByteArray := prog_14_method_8_code
def yX12_change : MethodName := ⟨RX12, "change", "(II)I"⟩
abbrev cX12_image : ByteArray := prog_14_method_9_code
def yX12_image : MethodName := ⟨RX12, "image", "(I)I"⟩
abbrev cX12_back : ByteArray := prog_14_method_10_code
def yX12_back : MethodName := ⟨RX12, "back", "(I)I"⟩
abbrev cX12_isCell : ByteArray := prog_14_method_11_code
def yX12_isCell : MethodName := ⟨RX12, "isCell", "(I)Z"⟩
abbrev cX12_isTone : ByteArray := prog_14_method_12_code
def yX12_isTone : MethodName := ⟨RX12, "isTone", "(I)Z"⟩
abbrev cX12_isYear : ByteArray := prog_14_method_13_code
def yX12_isYear : MethodName := ⟨RX12, "isYear", "(I)Z"⟩
abbrev cX12_years : ByteArray := prog_14_method_14_code
def yX12_years : MethodName := ⟨RX12, "years", "()I"⟩
abbrev cX12_isLayer : ByteArray := prog_14_method_15_code
def yX12_isLayer : MethodName := ⟨RX12, "isLayer", "(I)Z"⟩
abbrev cX12_isPainter : ByteArray := prog_14_method_16_code
def yX12_isPainter : MethodName := ⟨RX12, "isPainter", "(I)Z"⟩
abbrev cX12_isCopy : ByteArray := prog_14_method_17_code
def yX12_isCopy : MethodName := ⟨RX12, "isCopy", "(I)Z"⟩
abbrev cX12_isClaimant : ByteArray := prog_14_method_18_code
def yX12_isClaimant : MethodName := ⟨RX12, "isClaimant", "(I)Z"⟩
abbrev cX12_toneAt : ByteArray := prog_14_method_19_code
def yX12_toneAt : MethodName := ⟨RX12, "toneAt", "(II)I"⟩
abbrev cX12_seen : ByteArray := prog_14_method_20_code
def yX12_seen : MethodName := ⟨RX12, "seen", "(I)I"⟩
abbrev cX12_first : ByteArray := prog_14_method_21_code
def yX12_first : MethodName := ⟨RX12, "first", "(II)I"⟩
abbrev cX12_painter : ByteArray := prog_14_method_22_code
def yX12_painter : MethodName := ⟨RX12, "painter", "(II)I"⟩
abbrev cX12_err : ByteArray := prog_14_method_23_code
def yX12_err : MethodName := ⟨RX12, "err", "(III)I"⟩
abbrev cX12_of : ByteArray := prog_14_method_24_code
def yX12_of : MethodName := ⟨RX12, "of", "(II)I"⟩
abbrev cX12_isTerm : ByteArray := prog_14_method_25_code
def yX12_isTerm : MethodName := ⟨RX12, "isTerm", "(II)Z"⟩
abbrev cX12_terms : ByteArray := prog_14_method_26_code
def yX12_terms : MethodName := ⟨RX12, "terms", "(II)I"⟩
abbrev cX12_scar : ByteArray := prog_14_method_27_code
def yX12_scar : MethodName := ⟨RX12, "scar", "(III)I"⟩
abbrev cX12_heal : ByteArray := prog_14_method_28_code
def yX12_heal : MethodName := ⟨RX12, "heal", "(I)I"⟩
abbrev cX12_row : ByteArray := prog_14_method_29_code
def yX12_row : MethodName := ⟨RX12, "row", "()I"⟩
abbrev cX12_flakes : ByteArray := prog_14_method_30_code
def yX12_flakes : MethodName := ⟨RX12, "flakes", "()I"⟩
abbrev cX12_four : ByteArray := prog_14_method_31_code
def yX12_four : MethodName := ⟨RX12, "four", "(I)V"⟩
abbrev cX12_feed : ByteArray := prog_14_method_32_code
def yX12_feed : MethodName := ⟨RX12, "feed", "(IIIII)I"⟩
abbrev cX12_end : ByteArray := prog_14_method_33_code
def yX12_end : MethodName := ⟨RX12, "end", "(I)I"⟩
abbrev cX12_isSmall : ByteArray := prog_14_method_34_code
def yX12_isSmall : MethodName := ⟨RX12, "isSmall", "(I)Z"⟩
abbrev cX12_isDigit : ByteArray := prog_14_method_35_code
def yX12_isDigit : MethodName := ⟨RX12, "isDigit", "(I)Z"⟩
abbrev cX12_begin : ByteArray := prog_14_method_36_code
def yX12_begin : MethodName := ⟨RX12, "begin", "()V"⟩
abbrev cX12_next : ByteArray := prog_14_method_37_code
def yX12_next : MethodName := ⟨RX12, "next", "()V"⟩
abbrev cX12_isWord : ByteArray := prog_14_method_38_code
def yX12_isWord : MethodName := ⟨RX12, "isWord", "(J)Z"⟩
abbrev cX12_isSign : ByteArray := prog_14_method_39_code
def yX12_isSign : MethodName := ⟨RX12, "isSign", "(I)Z"⟩
abbrev cX12_must : ByteArray := prog_14_method_40_code
def yX12_must : MethodName := ⟨RX12, "must", "(Z)V"⟩
abbrev cX12_number : ByteArray := prog_14_method_41_code
def yX12_number : MethodName := ⟨RX12, "number", "(JJ)I"⟩
abbrev cX12_fault : ByteArray := prog_14_method_42_code
def yX12_fault : MethodName := ⟨RX12, "fault", "()I"⟩
abbrev cX12_emit : ByteArray := prog_14_method_43_code
def yX12_emit : MethodName := ⟨RX12, "emit", "(II)V"⟩
abbrev cX12_push : ByteArray := prog_14_method_44_code
def yX12_push : MethodName := ⟨RX12, "push", "(II)V"⟩
abbrev cX12_binds : ByteArray := prog_14_method_45_code
def yX12_binds : MethodName := ⟨RX12, "binds", "(I)I"⟩
abbrev cX12_settle : ByteArray := prog_14_method_46_code
def yX12_settle : MethodName := ⟨RX12, "settle", "(I)V"⟩
abbrev cX12_inner : ByteArray := prog_14_method_47_code
def yX12_inner : MethodName := ⟨RX12, "inner", "()I"⟩
abbrev cX12_isCompared : ByteArray := prog_14_method_48_code
def yX12_isCompared : MethodName := ⟨RX12, "isCompared", "()Z"⟩
abbrev cX12_partAt : ByteArray := prog_14_method_49_code
def yX12_partAt : MethodName := ⟨RX12, "partAt", "()I"⟩
abbrev cX12_orderPartAt : ByteArray := prog_14_method_50_code
def yX12_orderPartAt : MethodName := ⟨RX12, "orderPartAt", "()I"⟩
abbrev cX12_openBracket : ByteArray := prog_14_method_51_code
def yX12_openBracket : MethodName := ⟨RX12, "openBracket", "(I)V"⟩
abbrev cX12_leaf : ByteArray := prog_14_method_52_code
def yX12_leaf : MethodName := ⟨RX12, "leaf", "(ZII)V"⟩
abbrev cX12_readPart : ByteArray := prog_14_method_53_code
def yX12_readPart : MethodName := ⟨RX12, "readPart", "()I"⟩
abbrev cX12_readPlain : ByteArray := prog_14_method_54_code
def yX12_readPlain : MethodName := ⟨RX12, "readPlain", "()I"⟩
abbrev cX12_behindSum : ByteArray := prog_14_method_55_code
def yX12_behindSum : MethodName := ⟨RX12, "behindSum", "(Z)I"⟩
abbrev cX12_behindTest : ByteArray := prog_14_method_56_code
def yX12_behindTest : MethodName := ⟨RX12, "behindTest", "()I"⟩
abbrev cX12_readExpression : ByteArray := prog_14_method_57_code
def yX12_readExpression : MethodName := ⟨RX12, "readExpression", "(Z)V"⟩
abbrev cX12_readClause : ByteArray := prog_14_method_58_code
def yX12_readClause : MethodName := ⟨RX12, "readClause", "()V"⟩
abbrev cX12_beginText : ByteArray := prog_14_method_59_code
def yX12_beginText : MethodName := ⟨RX12, "beginText", "(Z)V"⟩
abbrev cX12_endText : ByteArray := prog_14_method_60_code
def yX12_endText : MethodName := ⟨RX12, "endText", "()V"⟩
abbrev cX12_law : ByteArray := prog_14_method_61_code
def yX12_law : MethodName := ⟨RX12, "law", "()I"⟩
abbrev cX12_force : ByteArray := prog_14_method_62_code
def yX12_force : MethodName := ⟨RX12, "force", "(I)I"⟩
abbrev cX12_reckon : ByteArray := prog_14_method_63_code
def yX12_reckon : MethodName := ⟨RX12, "reckon", "(IJJ)J"⟩
abbrev cX12_reckonAll : ByteArray := prog_14_method_64_code
def yX12_reckonAll : MethodName := ⟨RX12, "reckonAll", "(II)V"⟩
abbrev cX12_isSo : ByteArray := prog_14_method_65_code
def yX12_isSo : MethodName := ⟨RX12, "isSo", "(I)Z"⟩
abbrev cX12_tells : ByteArray := prog_14_method_66_code
def yX12_tells : MethodName := ⟨RX12, "tells", "(IJ)J"⟩
abbrev cX12_setNone : ByteArray := prog_14_method_67_code
def yX12_setNone : MethodName := ⟨RX12, "setNone", "(I)V"⟩
abbrev cX12_ageIn : ByteArray := prog_14_method_68_code
def yX12_ageIn : MethodName := ⟨RX12, "ageIn", "(I)I"⟩
abbrev cX12_looksOf : ByteArray := prog_14_method_69_code
def yX12_looksOf : MethodName := ⟨RX12, "looksOf", "(II)I"⟩
abbrev cX12_letsOf : ByteArray := prog_14_method_70_code
def yX12_letsOf : MethodName := ⟨RX12, "letsOf", "(II)I"⟩
abbrev cX12_setPainter : ByteArray := prog_14_method_71_code
def yX12_setPainter : MethodName := ⟨RX12, "setPainter", "(II)V"⟩
abbrev cX12_asksOf : ByteArray := prog_14_method_72_code
def yX12_asksOf : MethodName := ⟨RX12, "asksOf", "(II)I"⟩
abbrev cX12_isBarred : ByteArray := prog_14_method_73_code
def yX12_isBarred : MethodName := ⟨RX12, "isBarred", "(II)Z"⟩
abbrev cX12_looks : ByteArray := prog_14_method_74_code
def yX12_looks : MethodName := ⟨RX12, "looks", "(III)I"⟩
abbrev cX12_asks : ByteArray := prog_14_method_75_code
def yX12_asks : MethodName := ⟨RX12, "asks", "(III)I"⟩
abbrev cX12_layLooks : ByteArray := prog_14_method_76_code
def yX12_layLooks : MethodName := ⟨RX12, "layLooks", "(I)V"⟩
abbrev cX12_painted : ByteArray := prog_14_method_77_code
def yX12_painted : MethodName := ⟨RX12, "painted", "(IIII)I"⟩
abbrev cX12_paintPaper : ByteArray := prog_14_method_78_code
def yX12_paintPaper : MethodName := ⟨RX12, "paintPaper", "(IIII)V"⟩
abbrev cX12_loadPaper : ByteArray := prog_14_method_79_code
def yX12_loadPaper : MethodName := ⟨RX12, "loadPaper", "(II)V"⟩
abbrev cX12_unlikePaper : ByteArray := prog_14_method_80_code
def yX12_unlikePaper : MethodName := ⟨RX12, "unlikePaper", "(II)I"⟩
abbrev cX12_unlikeOf : ByteArray := prog_14_method_81_code
def yX12_unlikeOf : MethodName := ⟨RX12, "unlikeOf", "(I)I"⟩
abbrev cX12_rests : ByteArray := prog_14_method_82_code
def yX12_rests : MethodName := ⟨RX12, "rests", "(II)Z"⟩
abbrev cX12_paintNow : ByteArray := prog_14_method_83_code
def yX12_paintNow : MethodName := ⟨RX12, "paintNow", "(I)I"⟩
abbrev cX12_paint : ByteArray := prog_14_method_84_code
def yX12_paint : MethodName := ⟨RX12, "paint", "(I)I"⟩
abbrev cX12_scrape : ByteArray := prog_14_method_85_code
def yX12_scrape : MethodName := ⟨RX12, "scrape", "()I"⟩
abbrev cX12_tone : ByteArray := prog_14_method_86_code
def yX12_tone : MethodName := ⟨RX12, "tone", "(II)I"⟩
abbrev cX12_tooFar : ByteArray := prog_14_method_87_code
def yX12_tooFar : MethodName := ⟨RX12, "tooFar", "(II)I"⟩
abbrev cX12_tooFarIn : ByteArray := prog_14_method_88_code
def yX12_tooFarIn : MethodName := ⟨RX12, "tooFarIn", "(I)I"⟩
abbrev cX12_layer : ByteArray := prog_14_method_89_code
def yX12_layer : MethodName := ⟨RX12, "layer", "(II)I"⟩
abbrev cX12_unlawful : ByteArray := prog_14_method_90_code
def yX12_unlawful : MethodName := ⟨RX12, "unlawful", "()I"⟩
abbrev cX12_moneyBehind : ByteArray := prog_14_method_91_code
def yX12_moneyBehind : MethodName := ⟨RX12, "moneyBehind", "(I)I"⟩
abbrev cX12_money : ByteArray := prog_14_method_92_code
def yX12_money : MethodName := ⟨RX12, "money", "(I)I"⟩
abbrev cX12_broke : ByteArray := prog_14_method_93_code
def yX12_broke : MethodName := ⟨RX12, "broke", "()I"⟩
abbrev cX12_restsInRow : ByteArray := prog_14_method_94_code
def yX12_restsInRow : MethodName := ⟨RX12, "restsInRow", "(II)Z"⟩
abbrev cX12_goThrough : ByteArray := prog_14_method_95_code
def yX12_goThrough : MethodName := ⟨RX12, "goThrough", "(II)V"⟩
abbrev cX12_weigh : ByteArray := prog_14_method_96_code
def yX12_weigh : MethodName := ⟨RX12, "weigh", "(II)V"⟩
abbrev cX12_plan : ByteArray := prog_14_method_97_code
def yX12_plan : MethodName := ⟨RX12, "plan", "(III)I"⟩
abbrev cX12_driftOf : ByteArray := prog_14_method_98_code
def yX12_driftOf : MethodName := ⟨RX12, "driftOf", "(II)I"⟩
abbrev cX12_drift : ByteArray := prog_14_method_99_code
def yX12_drift : MethodName := ⟨RX12, "drift", "(III)I"⟩
abbrev cX12_undoing : ByteArray := prog_14_method_100_code
def yX12_undoing : MethodName := ⟨RX12, "undoing", "(I)I"⟩
abbrev cX12_isSame : ByteArray := prog_14_method_101_code
def yX12_isSame : MethodName := ⟨RX12, "isSame", "(II)Z"⟩
abbrev cX12_copyNow : ByteArray := prog_14_method_102_code
def yX12_copyNow : MethodName := ⟨RX12, "copyNow", "()I"⟩
abbrev cX12_copy : ByteArray := prog_14_method_103_code
def yX12_copy : MethodName := ⟨RX12, "copy", "()I"⟩
abbrev cX12_touch : ByteArray := prog_14_method_104_code
def yX12_touch : MethodName := ⟨RX12, "touch", "(III)I"⟩
abbrev cX12_burn : ByteArray := prog_14_method_105_code
def yX12_burn : MethodName := ⟨RX12, "burn", "()I"⟩
abbrev cX12_apart : ByteArray := prog_14_method_106_code
def yX12_apart : MethodName := ⟨RX12, "apart", "(II)I"⟩
abbrev cX12_nearOf : ByteArray := prog_14_method_107_code
def yX12_nearOf : MethodName := ⟨RX12, "nearOf", "(I)I"⟩
abbrev cX12_near : ByteArray := prog_14_method_108_code
def yX12_near : MethodName := ⟨RX12, "near", "(I)I"⟩
abbrev cX12_pictureAt : ByteArray := prog_14_method_109_code
def yX12_pictureAt : MethodName := ⟨RX12, "pictureAt", "(I)I"⟩
abbrev cX12_like : ByteArray := prog_14_method_110_code
def yX12_like : MethodName := ⟨RX12, "like", "(II)I"⟩
abbrev cX12_isTree : ByteArray := prog_14_method_111_code
def yX12_isTree : MethodName := ⟨RX12, "isTree", "(I)Z"⟩
abbrev cX12_findTree : ByteArray := prog_14_method_112_code
def yX12_findTree : MethodName := ⟨RX12, "findTree", "()V"⟩
abbrev cX12_tree : ByteArray := prog_14_method_113_code
def yX12_tree : MethodName := ⟨RX12, "tree", "(I)I"⟩
abbrev cX12_trees : ByteArray := prog_14_method_114_code
def yX12_trees : MethodName := ⟨RX12, "trees", "()I"⟩
abbrev cX12_dated : ByteArray := prog_14_method_115_code
def yX12_dated : MethodName := ⟨RX12, "dated", "(II)I"⟩
abbrev cX12_worst : ByteArray := prog_14_method_116_code
def yX12_worst : MethodName := ⟨RX12, "worst", "(II)I"⟩
abbrev cX12_findDepths : ByteArray := prog_14_method_117_code
def yX12_findDepths : MethodName := ⟨RX12, "findDepths", "()V"⟩
abbrev cX12_know : ByteArray := prog_14_method_118_code
def yX12_know : MethodName := ⟨RX12, "know", "(I)I"⟩
abbrev cX12_whoOf : ByteArray := prog_14_method_119_code
def yX12_whoOf : MethodName := ⟨RX12, "whoOf", "(I)I"⟩
abbrev cX12_who : ByteArray := prog_14_method_120_code
def yX12_who : MethodName := ⟨RX12, "who", "(I)I"⟩
abbrev cX12_forge : ByteArray := prog_14_method_121_code
def yX12_forge : MethodName := ⟨RX12, "forge", "(III)I"⟩
abbrev cX12_skipped : ByteArray := prog_14_method_122_code
def yX12_skipped : MethodName := ⟨RX12, "skipped", "()I"⟩
abbrev cX12_missing : ByteArray := prog_14_method_123_code
def yX12_missing : MethodName := ⟨RX12, "missing", "(II)I"⟩
abbrev cX12_wasOf : ByteArray := prog_14_method_124_code
def yX12_wasOf : MethodName := ⟨RX12, "wasOf", "(I)I"⟩
abbrev cX12_layAll : ByteArray := prog_14_method_125_code
def yX12_layAll : MethodName := ⟨RX12, "layAll", "()V"⟩
abbrev cX12_was : ByteArray := prog_14_method_126_code
def yX12_was : MethodName := ⟨RX12, "was", "(I)I"⟩
abbrev cX12_ways : ByteArray := prog_14_method_127_code
def yX12_ways : MethodName := ⟨RX12, "ways", "()J"⟩
abbrev cX12_claimant : ByteArray := prog_14_method_128_code
def yX12_claimant : MethodName := ⟨RX12, "claimant", "(IIII)I"⟩
abbrev cX12_ofClaimant : ByteArray := prog_14_method_129_code
def yX12_ofClaimant : MethodName := ⟨RX12, "ofClaimant", "(II)I"⟩
abbrev cX12_claim : ByteArray := prog_14_method_130_code
def yX12_claim : MethodName := ⟨RX12, "claim", "(III)I"⟩
abbrev cX12_born : ByteArray := prog_14_method_131_code
def yX12_born : MethodName := ⟨RX12, "born", "(II)I"⟩
abbrev cX12_isAlive : ByteArray := prog_14_method_132_code
def yX12_isAlive : MethodName := ⟨RX12, "isAlive", "(II)Z"⟩
abbrev cX12_childrenOf : ByteArray := prog_14_method_133_code
def yX12_childrenOf : MethodName := ⟨RX12, "childrenOf", "(II)I"⟩
abbrev cX12_setClaimant : ByteArray := prog_14_method_134_code
def yX12_setClaimant : MethodName := ⟨RX12, "setClaimant", "(II)V"⟩
abbrev cX12_ranks : ByteArray := prog_14_method_135_code
def yX12_ranks : MethodName := ⟨RX12, "ranks", "(II)I"⟩
abbrev cX12_isOut : ByteArray := prog_14_method_136_code
def yX12_isOut : MethodName := ⟨RX12, "isOut", "(II)Z"⟩
abbrev cX12_stands : ByteArray := prog_14_method_137_code
def yX12_stands : MethodName := ⟨RX12, "stands", "(III)I"⟩
abbrev cX12_findRulers : ByteArray := prog_14_method_138_code
def yX12_findRulers : MethodName := ⟨RX12, "findRulers", "()V"⟩
abbrev cX12_ruler : ByteArray := prog_14_method_139_code
def yX12_ruler : MethodName := ⟨RX12, "ruler", "(I)I"⟩
abbrev cX12_reign : ByteArray := prog_14_method_140_code
def yX12_reign : MethodName := ⟨RX12, "reign", "(II)I"⟩
abbrev cX12_vacant : ByteArray := prog_14_method_141_code
def yX12_vacant : MethodName := ⟨RX12, "vacant", "()I"⟩
abbrev cX12_line : ByteArray := prog_14_method_142_code
def yX12_line : MethodName := ⟨RX12, "line", "(II)I"⟩
abbrev cX12_readSum : ByteArray := prog_14_method_143_code
def yX12_readSum : MethodName := ⟨RX12, "readSum", "(I)V"⟩
abbrev cX12_readHead : ByteArray := prog_14_method_144_code
def yX12_readHead : MethodName := ⟨RX12, "readHead", "()I"⟩
abbrev cX12_readOrder : ByteArray := prog_14_method_145_code
def yX12_readOrder : MethodName := ⟨RX12, "readOrder", "()V"⟩
abbrev cX12_setNow : ByteArray := prog_14_method_146_code
def yX12_setNow : MethodName := ⟨RX12, "setNow", "()V"⟩
abbrev cX12_sumOf : ByteArray := prog_14_method_147_code
def yX12_sumOf : MethodName := ⟨RX12, "sumOf", "(I)J"⟩
abbrev cX12_run : ByteArray := prog_14_method_148_code
def yX12_run : MethodName := ⟨RX12, "run", "(I)I"⟩
abbrev cX12_act : ByteArray := prog_14_method_149_code
def yX12_act : MethodName := ⟨RX12, "act", "(II)I"⟩
abbrev cX12_touchNow : ByteArray := prog_14_method_150_code
def yX12_touchNow : MethodName := ⟨RX12, "touchNow", "(I)I"⟩
abbrev cX12_orders : ByteArray := prog_14_method_151_code
def yX12_orders : MethodName := ⟨RX12, "orders", "()I"⟩
abbrev cX12_stopped : ByteArray := prog_14_method_152_code
def yX12_stopped : MethodName := ⟨RX12, "stopped", "()I"⟩
abbrev cX12_draw : ByteArray := prog_14_method_153_code
def yX12_draw : MethodName := ⟨RX12, "draw", "(I)I"⟩
abbrev cX12_century : ByteArray := prog_14_method_154_code
def yX12_century : MethodName := ⟨RX12, "century", "(II)I"⟩
abbrev cX12_drawn : ByteArray := prog_14_method_155_code
def yX12_drawn : MethodName := ⟨RX12, "drawn", "(I)I"⟩
abbrev cX12_count : ByteArray := prog_14_method_156_code
def yX12_count : MethodName := ⟨RX12, "count", "(I)I"⟩
abbrev cX12_status : ByteArray := prog_14_method_157_code
def yX12_status : MethodName := ⟨RX12, "status", "()I"⟩
def RJ6 : String := "java/lang/Integer"
def TJ6 : u_T := fun k => match k with
  | _ => ("", "", "", false)
def tyJ6 : Nat → FieldType := fun k => match k with
  | _ => .int
abbrev wsJ60 : List Cond := u_ws RJ6 TJ6 0
theorem nmJ6 : ∀ a, a < 0 → ∀ b, b < 0 → a ≠ b → (TJ6 a).2.1 ≠ (TJ6 b).2.1 := by decide +kernel
theorem tyJ6_ok : ∀ k, k < 0 → parseFieldDescriptor (TJ6 k).2.2.1 = some (tyJ6 k) := by decide +kernel
abbrev cJ6_bitCount_0f7a4 : ByteArray := prog_15_method_49_code
def yJ6_bitCount_0f7a4 : MethodName := ⟨RJ6, "bitCount", "(I)I"⟩
def RJ9 : String := "java/lang/Math"
def TJ9 : u_T := fun k => match k with
  | _ => ("", "", "", false)
def tyJ9 : Nat → FieldType := fun k => match k with
  | _ => .int
abbrev wsJ90 : List Cond := u_ws RJ9 TJ9 0
theorem nmJ9 : ∀ a, a < 0 → ∀ b, b < 0 → a ≠ b → (TJ9 a).2.1 ≠ (TJ9 b).2.1 := by decide +kernel
theorem tyJ9_ok : ∀ k, k < 0 → parseFieldDescriptor (TJ9 k).2.2.1 = some (tyJ9 k) := by decide +kernel
abbrev cJ9_abs_0f7a4 : ByteArray := prog_16_method_59_code
def yJ9_abs_0f7a4 : MethodName := ⟨RJ9, "abs", "(I)I"⟩
abbrev cJ9_max_7cf53 : ByteArray := prog_16_method_65_code
def yJ9_max_7cf53 : MethodName := ⟨RJ9, "max", "(II)I"⟩
abbrev cJ9_min_7cf53 : ByteArray := prog_16_method_69_code
def yJ9_min_7cf53 : MethodName := ⟨RJ9, "min", "(II)I"⟩
def RJ0 : String := "java/lang/String"
def TJ0 : u_T := fun k => match k with
  | _ => ("", "", "", false)
def tyJ0 : Nat → FieldType := fun k => match k with
  | _ => .int
abbrev wsJ00 : List Cond := u_ws RJ0 TJ0 0
theorem nmJ0 : ∀ a, a < 0 → ∀ b, b < 0 → a ≠ b → (TJ0 a).2.1 ≠ (TJ0 b).2.1 := by decide +kernel
theorem tyJ0_ok : ∀ k, k < 0 → parseFieldDescriptor (TJ0 k).2.2.1 = some (tyJ0 k) := by decide +kernel
abbrev cJ0_length_8abf5 : ByteArray := prog_17_method_54_code
def yJ0_length_8abf5 : MethodName := ⟨RJ0, "length", "()I"⟩
abbrev cJ0_charAt_5068e : ByteArray := prog_17_method_56_code
def yJ0_charAt_5068e : MethodName := ⟨RJ0, "charAt", "(I)C"⟩
abbrev cJ0_coder_7d493 : ByteArray := prog_17_method_152_code
def yJ0_coder_7d493 : MethodName := ⟨RJ0, "coder", "()B"⟩
abbrev cJ0_isLatin1_aae02 : ByteArray := prog_17_method_154_code
def yJ0_isLatin1_aae02 : MethodName := ⟨RJ0, "isLatin1", "()Z"⟩
abbrev cJ0_checkIndex_df160 : ByteArray := prog_17_method_155_code
def yJ0_checkIndex_df160 : MethodName := ⟨RJ0, "checkIndex", "(II)V"⟩
def RJ1 : String := "java/lang/StringLatin1"
def TJ1 : u_T := fun k => match k with
  | _ => ("", "", "", false)
def tyJ1 : Nat → FieldType := fun k => match k with
  | _ => .int
abbrev wsJ10 : List Cond := u_ws RJ1 TJ1 0
theorem nmJ1 : ∀ a, a < 0 → ∀ b, b < 0 → a ≠ b → (TJ1 a).2.1 ≠ (TJ1 b).2.1 := by decide +kernel
theorem tyJ1_ok : ∀ k, k < 0 → parseFieldDescriptor (TJ1 k).2.2.1 = some (tyJ1 k) := by decide +kernel
abbrev cJ1_charAt_3b067 : ByteArray := prog_18_method_2_code
def yJ1_charAt_3b067 : MethodName := ⟨RJ1, "charAt", "([BI)C"⟩
def RJ2 : String := "java/lang/StringUTF16"
def TJ2 : u_T := fun k => match k with
  | _ => ("", "", "", false)
def tyJ2 : Nat → FieldType := fun k => match k with
  | _ => .int
abbrev wsJ20 : List Cond := u_ws RJ2 TJ2 0
theorem nmJ2 : ∀ a, a < 0 → ∀ b, b < 0 → a ≠ b → (TJ2 a).2.1 ≠ (TJ2 b).2.1 := by decide +kernel
theorem tyJ2_ok : ∀ k, k < 0 → parseFieldDescriptor (TJ2 k).2.2.1 = some (tyJ2 k) := by decide +kernel
abbrev cJ2_getChar_3b067 : ByteArray := prog_19_method_5_code
def yJ2_getChar_3b067 : MethodName := ⟨RJ2, "getChar", "([BI)C"⟩
abbrev cJ2_length_9d52b : ByteArray := prog_19_method_6_code
def yJ2_length_9d52b : MethodName := ⟨RJ2, "length", "([B)I"⟩
abbrev cJ2_charAt_3b067 : ByteArray := prog_19_method_83_code
def yJ2_charAt_3b067 : MethodName := ⟨RJ2, "charAt", "([BI)C"⟩
abbrev cJ2_checkIndex_2214a : ByteArray := prog_19_method_91_code
def yJ2_checkIndex_2214a : MethodName := ⟨RJ2, "checkIndex", "(I[B)V"⟩
def RJ10 : String := "java/lang/System"
def TJ10 : u_T := fun k => match k with
  | _ => ("", "", "", false)
def tyJ10 : Nat → FieldType := fun k => match k with
  | _ => .int
abbrev wsJ100 : List Cond := u_ws RJ10 TJ10 0
theorem nmJ10 : ∀ a, a < 0 → ∀ b, b < 0 → a ≠ b → (TJ10 a).2.1 ≠ (TJ10 b).2.1 := by decide +kernel
theorem tyJ10_ok : ∀ k, k < 0 → parseFieldDescriptor (TJ10 k).2.2.1 = some (tyJ10 k) := by decide +kernel
def RJ3 : String := "jdk/internal/util/Preconditions"
def TJ3 : u_T := fun k => match k with
  | _ => ("", "", "", false)
def tyJ3 : Nat → FieldType := fun k => match k with
  | _ => .int
abbrev wsJ30 : List Cond := u_ws RJ3 TJ3 0
theorem nmJ3 : ∀ a, a < 0 → ∀ b, b < 0 → a ≠ b → (TJ3 a).2.1 ≠ (TJ3 b).2.1 := by decide +kernel
theorem tyJ3_ok : ∀ k, k < 0 → parseFieldDescriptor (TJ3 k).2.2.1 = some (tyJ3 k) := by decide +kernel
abbrev cJ3_checkIndex_8e157 : ByteArray := prog_21_method_11_code
def yJ3_checkIndex_8e157 : MethodName := ⟨RJ3, "checkIndex", "(IILjava/util/function/BiFunction;)I"⟩
def RLs : String := "AgingPortraitLaw"
abbrev cL_law : ByteArray := code
def yL_law : MethodName := ⟨RLs, "law", "([I)Z"⟩
abbrev vwCl : List vw_C := [(RX0, TX0, 8), (RX1, TX1, 10), (RX2, TX2, 6), (RX3, TX3, 3), (RX4, TX4, 4), (RX5, TX5, 15), (RX6, TX6, 9), (RX7, TX7, 15), (RX8, TX8, 9), (RX9, TX9, 4), (RX10, TX10, 5), (RX11, TX11, 19), (RX12, TX12, 61)]
