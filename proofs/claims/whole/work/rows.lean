section
-- ===== PART A: goes FIRST, ahead of the names: the tables' words, and 'selects' of the private methods out of them =====
/-- a private method of a class that the tables say can be made, by its rows of tables_1 -/
def lw_okq (q : MethodName × Nat) : Prop := (q.1.cls ≠ "java/lang/invoke/MethodHandle" ∧ q.1.cls ≠ "java/lang/invoke/VarHandle") ∧ Cond.instantiable q.1.cls q.2 ∈ tables_1 ∧ Cond.privateMethod q.1 ∈ tables_1 ∧ Cond.instanceMethod q.1 ∈ tables_1
theorem lw_p0 : lw_okq (⟨"AgingPortrait", "refuse", "(I)I"⟩, 19) := ⟨⟨by decide +kernel, by decide +kernel⟩, List.mem_of_getElem? (i := 22) (by decide +kernel), List.mem_of_getElem? (i := 522) (by decide +kernel), List.mem_of_getElem? (i := 523) (by decide +kernel)⟩
theorem lw_p1 : lw_okq (⟨"AgingPortrait", "answer", "(I)I"⟩, 19) := ⟨⟨by decide +kernel, by decide +kernel⟩, List.mem_of_getElem? (i := 22) (by decide +kernel), List.mem_of_getElem? (i := 529) (by decide +kernel), List.mem_of_getElem? (i := 530) (by decide +kernel)⟩
theorem lw_p2 : lw_okq (⟨"AgingPortrait", "putBytes", "(I)V"⟩, 19) := ⟨⟨by decide +kernel, by decide +kernel⟩, List.mem_of_getElem? (i := 22) (by decide +kernel), List.mem_of_getElem? (i := 569) (by decide +kernel), List.mem_of_getElem? (i := 570) (by decide +kernel)⟩
theorem lw_p3 : lw_okq (⟨"AgingPortrait$Reader", "next", "()V"⟩, 9) := ⟨⟨by decide +kernel, by decide +kernel⟩, List.mem_of_getElem? (i := 279) (by decide +kernel), List.mem_of_getElem? (i := 600) (by decide +kernel), List.mem_of_getElem? (i := 601) (by decide +kernel)⟩
theorem lw_p4 : lw_okq (⟨"AgingPortrait$Reader", "clearRow", "(I)V"⟩, 9) := ⟨⟨by decide +kernel, by decide +kernel⟩, List.mem_of_getElem? (i := 279) (by decide +kernel), List.mem_of_getElem? (i := 607) (by decide +kernel), List.mem_of_getElem? (i := 608) (by decide +kernel)⟩
theorem lw_p5 : lw_okq (⟨"AgingPortrait$Reader", "readOrder", "(I)Z"⟩, 9) := ⟨⟨by decide +kernel, by decide +kernel⟩, List.mem_of_getElem? (i := 279) (by decide +kernel), List.mem_of_getElem? (i := 611) (by decide +kernel), List.mem_of_getElem? (i := 612) (by decide +kernel)⟩
theorem lw_p6 : lw_okq (⟨"AgingPortrait$Reader", "placeIn", "(Ljava/lang/String;)I"⟩, 9) := ⟨⟨by decide +kernel, by decide +kernel⟩, List.mem_of_getElem? (i := 279) (by decide +kernel), List.mem_of_getElem? (i := 616) (by decide +kernel), List.mem_of_getElem? (i := 617) (by decide +kernel)⟩
theorem lw_p7 : lw_okq (⟨"AgingPortrait$Reader", "isSame", "(Ljava/lang/String;II)Z"⟩, 9) := ⟨⟨by decide +kernel, by decide +kernel⟩, List.mem_of_getElem? (i := 279) (by decide +kernel), List.mem_of_getElem? (i := 668) (by decide +kernel), List.mem_of_getElem? (i := 669) (by decide +kernel)⟩
theorem lw_p8 : lw_okq (⟨"AgingPortrait$Reader", "readSumOf", "(II)Z"⟩, 9) := ⟨⟨by decide +kernel, by decide +kernel⟩, List.mem_of_getElem? (i := 279) (by decide +kernel), List.mem_of_getElem? (i := 673) (by decide +kernel), List.mem_of_getElem? (i := 674) (by decide +kernel)⟩
theorem lw_p9 : lw_okq (⟨"AgingPortrait$Reader", "readSum", "(I)Z"⟩, 9) := ⟨⟨by decide +kernel, by decide +kernel⟩, List.mem_of_getElem? (i := 279) (by decide +kernel), List.mem_of_getElem? (i := 677) (by decide +kernel), List.mem_of_getElem? (i := 678) (by decide +kernel)⟩
theorem lw_p10 : lw_okq (⟨"AgingPortrait$Reader", "readTerm", "(I)Z"⟩, 9) := ⟨⟨by decide +kernel, by decide +kernel⟩, List.mem_of_getElem? (i := 279) (by decide +kernel), List.mem_of_getElem? (i := 681) (by decide +kernel), List.mem_of_getElem? (i := 682) (by decide +kernel)⟩
theorem lw_p11 : lw_okq (⟨"AgingPortrait$Reader", "readPart", "(I)Z"⟩, 9) := ⟨⟨by decide +kernel, by decide +kernel⟩, List.mem_of_getElem? (i := 279) (by decide +kernel), List.mem_of_getElem? (i := 685) (by decide +kernel), List.mem_of_getElem? (i := 686) (by decide +kernel)⟩
theorem lw_p12 : lw_okq (⟨"AgingPortrait$Reader", "isSign", "(C)Z"⟩, 9) := ⟨⟨by decide +kernel, by decide +kernel⟩, List.mem_of_getElem? (i := 279) (by decide +kernel), List.mem_of_getElem? (i := 689) (by decide +kernel), List.mem_of_getElem? (i := 690) (by decide +kernel)⟩
theorem lw_p13 : lw_okq (⟨"AgingPortrait$Reader", "opens", "(I)Z"⟩, 9) := ⟨⟨by decide +kernel, by decide +kernel⟩, List.mem_of_getElem? (i := 279) (by decide +kernel), List.mem_of_getElem? (i := 693) (by decide +kernel), List.mem_of_getElem? (i := 694) (by decide +kernel)⟩
theorem lw_p14 : lw_okq (⟨"AgingPortrait$Reader", "takes", "(C)Z"⟩, 9) := ⟨⟨by decide +kernel, by decide +kernel⟩, List.mem_of_getElem? (i := 279) (by decide +kernel), List.mem_of_getElem? (i := 697) (by decide +kernel), List.mem_of_getElem? (i := 698) (by decide +kernel)⟩
theorem lw_p15 : lw_okq (⟨"AgingPortrait$Reader", "takesWord", "(Ljava/lang/String;)Z"⟩, 9) := ⟨⟨by decide +kernel, by decide +kernel⟩, List.mem_of_getElem? (i := 279) (by decide +kernel), List.mem_of_getElem? (i := 708) (by decide +kernel), List.mem_of_getElem? (i := 709) (by decide +kernel)⟩
def lw_privs_1 : List (MethodName × Nat) := [(⟨"AgingPortrait", "refuse", "(I)I"⟩, 19), (⟨"AgingPortrait", "answer", "(I)I"⟩, 19), (⟨"AgingPortrait", "putBytes", "(I)V"⟩, 19), (⟨"AgingPortrait$Reader", "next", "()V"⟩, 9), (⟨"AgingPortrait$Reader", "clearRow", "(I)V"⟩, 9), (⟨"AgingPortrait$Reader", "readOrder", "(I)Z"⟩, 9), (⟨"AgingPortrait$Reader", "placeIn", "(Ljava/lang/String;)I"⟩, 9), (⟨"AgingPortrait$Reader", "isSame", "(Ljava/lang/String;II)Z"⟩, 9), (⟨"AgingPortrait$Reader", "readSumOf", "(II)Z"⟩, 9), (⟨"AgingPortrait$Reader", "readSum", "(I)Z"⟩, 9), (⟨"AgingPortrait$Reader", "readTerm", "(I)Z"⟩, 9), (⟨"AgingPortrait$Reader", "readPart", "(I)Z"⟩, 9), (⟨"AgingPortrait$Reader", "isSign", "(C)Z"⟩, 9), (⟨"AgingPortrait$Reader", "opens", "(I)Z"⟩, 9), (⟨"AgingPortrait$Reader", "takes", "(C)Z"⟩, 9), (⟨"AgingPortrait$Reader", "takesWord", "(Ljava/lang/String;)Z"⟩, 9)]
theorem lw_r1 : ∀ q ∈ lw_privs_1, lw_okq q := List.forall_mem_cons.mpr ⟨lw_p0, List.forall_mem_cons.mpr ⟨lw_p1, List.forall_mem_cons.mpr ⟨lw_p2, List.forall_mem_cons.mpr ⟨lw_p3, List.forall_mem_cons.mpr ⟨lw_p4, List.forall_mem_cons.mpr ⟨lw_p5, List.forall_mem_cons.mpr ⟨lw_p6, List.forall_mem_cons.mpr ⟨lw_p7, List.forall_mem_cons.mpr ⟨lw_p8, List.forall_mem_cons.mpr ⟨lw_p9, List.forall_mem_cons.mpr ⟨lw_p10, List.forall_mem_cons.mpr ⟨lw_p11, List.forall_mem_cons.mpr ⟨lw_p12, List.forall_mem_cons.mpr ⟨lw_p13, List.forall_mem_cons.mpr ⟨lw_p14, List.forall_mem_cons.mpr ⟨lw_p15, fun _ h => absurd h List.not_mem_nil⟩⟩⟩⟩⟩⟩⟩⟩⟩⟩⟩⟩⟩⟩⟩⟩
theorem lw_p16 : lw_okq (⟨"AgingPortrait$Reader", "readTimes", "(I)Z"⟩, 9) := ⟨⟨by decide +kernel, by decide +kernel⟩, List.mem_of_getElem? (i := 279) (by decide +kernel), List.mem_of_getElem? (i := 713) (by decide +kernel), List.mem_of_getElem? (i := 714) (by decide +kernel)⟩
theorem lw_p17 : lw_okq (⟨"AgingPortrait$Reader", "readClause", "(I)Z"⟩, 9) := ⟨⟨by decide +kernel, by decide +kernel⟩, List.mem_of_getElem? (i := 279) (by decide +kernel), List.mem_of_getElem? (i := 718) (by decide +kernel), List.mem_of_getElem? (i := 719) (by decide +kernel)⟩
theorem lw_p18 : lw_okq (⟨"AgingPortrait$Reader", "readIf", "(I)Z"⟩, 9) := ⟨⟨by decide +kernel, by decide +kernel⟩, List.mem_of_getElem? (i := 279) (by decide +kernel), List.mem_of_getElem? (i := 723) (by decide +kernel), List.mem_of_getElem? (i := 724) (by decide +kernel)⟩
theorem lw_p19 : lw_okq (⟨"AgingPortrait$Reader", "readTest", "(I)Z"⟩, 9) := ⟨⟨by decide +kernel, by decide +kernel⟩, List.mem_of_getElem? (i := 279) (by decide +kernel), List.mem_of_getElem? (i := 728) (by decide +kernel), List.mem_of_getElem? (i := 729) (by decide +kernel)⟩
theorem lw_p20 : lw_okq (⟨"AgingPortrait$Reader", "readBoth", "(I)Z"⟩, 9) := ⟨⟨by decide +kernel, by decide +kernel⟩, List.mem_of_getElem? (i := 279) (by decide +kernel), List.mem_of_getElem? (i := 732) (by decide +kernel), List.mem_of_getElem? (i := 733) (by decide +kernel)⟩
theorem lw_p21 : lw_okq (⟨"AgingPortrait$Reader", "readPlain", "(I)Z"⟩, 9) := ⟨⟨by decide +kernel, by decide +kernel⟩, List.mem_of_getElem? (i := 279) (by decide +kernel), List.mem_of_getElem? (i := 736) (by decide +kernel), List.mem_of_getElem? (i := 737) (by decide +kernel)⟩
theorem lw_p22 : lw_okq (⟨"AgingPortrait$Clerk", "learnWords", "(I)V"⟩, 10) := ⟨⟨by decide +kernel, by decide +kernel⟩, List.mem_of_getElem? (i := 377) (by decide +kernel), List.mem_of_getElem? (i := 770) (by decide +kernel), List.mem_of_getElem? (i := 771) (by decide +kernel)⟩
theorem lw_p23 : lw_okq (⟨"AgingPortrait$Judge", "scarOn", "(II)I"⟩, 4) := ⟨⟨by decide +kernel, by decide +kernel⟩, List.mem_of_getElem? (i := 163) (by decide +kernel), List.mem_of_getElem? (i := 790) (by decide +kernel), List.mem_of_getElem? (i := 791) (by decide +kernel)⟩
theorem lw_p24 : lw_okq (⟨"AgingPortrait$Judge", "ask", "(I)V"⟩, 4) := ⟨⟨by decide +kernel, by decide +kernel⟩, List.mem_of_getElem? (i := 163) (by decide +kernel), List.mem_of_getElem? (i := 794) (by decide +kernel), List.mem_of_getElem? (i := 795) (by decide +kernel)⟩
theorem lw_p25 : lw_okq (⟨"AgingPortrait$Judge", "tells", "(I)Z"⟩, 4) := ⟨⟨by decide +kernel, by decide +kernel⟩, List.mem_of_getElem? (i := 163) (by decide +kernel), List.mem_of_getElem? (i := 799) (by decide +kernel), List.mem_of_getElem? (i := 800) (by decide +kernel)⟩
theorem lw_p26 : lw_okq (⟨"AgingPortrait$Engine", "joins", "(I)Z"⟩, 3) := ⟨⟨by decide +kernel, by decide +kernel⟩, List.mem_of_getElem? (i := 169) (by decide +kernel), List.mem_of_getElem? (i := 809) (by decide +kernel), List.mem_of_getElem? (i := 810) (by decide +kernel)⟩
theorem lw_p27 : lw_okq (⟨"AgingPortrait$Judge", "askPainter", "(II)V"⟩, 4) := ⟨⟨by decide +kernel, by decide +kernel⟩, List.mem_of_getElem? (i := 163) (by decide +kernel), List.mem_of_getElem? (i := 830) (by decide +kernel), List.mem_of_getElem? (i := 831) (by decide +kernel)⟩
theorem lw_p28 : lw_okq (⟨"AgingPortrait$Clerk", "isWanted", "(LAgingPortrait$Text;I)Z"⟩, 10) := ⟨⟨by decide +kernel, by decide +kernel⟩, List.mem_of_getElem? (i := 377) (by decide +kernel), List.mem_of_getElem? (i := 834) (by decide +kernel), List.mem_of_getElem? (i := 835) (by decide +kernel)⟩
theorem lw_p29 : lw_okq (⟨"AgingPortrait$Clerk", "sumsWork", "(LAgingPortrait$Text;I)Z"⟩, 10) := ⟨⟨by decide +kernel, by decide +kernel⟩, List.mem_of_getElem? (i := 377) (by decide +kernel), List.mem_of_getElem? (i := 839) (by decide +kernel), List.mem_of_getElem? (i := 840) (by decide +kernel)⟩
theorem lw_p30 : lw_okq (⟨"AgingPortrait$Clerk", "paints", "(I)I"⟩, 10) := ⟨⟨by decide +kernel, by decide +kernel⟩, List.mem_of_getElem? (i := 377) (by decide +kernel), List.mem_of_getElem? (i := 843) (by decide +kernel), List.mem_of_getElem? (i := 844) (by decide +kernel)⟩
theorem lw_p31 : lw_okq (⟨"AgingPortrait$Planner", "weigh", "(I)V"⟩, 15) := ⟨⟨by decide +kernel, by decide +kernel⟩, List.mem_of_getElem? (i := 219) (by decide +kernel), List.mem_of_getElem? (i := 866) (by decide +kernel), List.mem_of_getElem? (i := 867) (by decide +kernel)⟩
def lw_privs_2 : List (MethodName × Nat) := [(⟨"AgingPortrait$Reader", "readTimes", "(I)Z"⟩, 9), (⟨"AgingPortrait$Reader", "readClause", "(I)Z"⟩, 9), (⟨"AgingPortrait$Reader", "readIf", "(I)Z"⟩, 9), (⟨"AgingPortrait$Reader", "readTest", "(I)Z"⟩, 9), (⟨"AgingPortrait$Reader", "readBoth", "(I)Z"⟩, 9), (⟨"AgingPortrait$Reader", "readPlain", "(I)Z"⟩, 9), (⟨"AgingPortrait$Clerk", "learnWords", "(I)V"⟩, 10), (⟨"AgingPortrait$Judge", "scarOn", "(II)I"⟩, 4), (⟨"AgingPortrait$Judge", "ask", "(I)V"⟩, 4), (⟨"AgingPortrait$Judge", "tells", "(I)Z"⟩, 4), (⟨"AgingPortrait$Engine", "joins", "(I)Z"⟩, 3), (⟨"AgingPortrait$Judge", "askPainter", "(II)V"⟩, 4), (⟨"AgingPortrait$Clerk", "isWanted", "(LAgingPortrait$Text;I)Z"⟩, 10), (⟨"AgingPortrait$Clerk", "sumsWork", "(LAgingPortrait$Text;I)Z"⟩, 10), (⟨"AgingPortrait$Clerk", "paints", "(I)I"⟩, 10), (⟨"AgingPortrait$Planner", "weigh", "(I)V"⟩, 15)]
theorem lw_r2 : ∀ q ∈ lw_privs_2, lw_okq q := List.forall_mem_cons.mpr ⟨lw_p16, List.forall_mem_cons.mpr ⟨lw_p17, List.forall_mem_cons.mpr ⟨lw_p18, List.forall_mem_cons.mpr ⟨lw_p19, List.forall_mem_cons.mpr ⟨lw_p20, List.forall_mem_cons.mpr ⟨lw_p21, List.forall_mem_cons.mpr ⟨lw_p22, List.forall_mem_cons.mpr ⟨lw_p23, List.forall_mem_cons.mpr ⟨lw_p24, List.forall_mem_cons.mpr ⟨lw_p25, List.forall_mem_cons.mpr ⟨lw_p26, List.forall_mem_cons.mpr ⟨lw_p27, List.forall_mem_cons.mpr ⟨lw_p28, List.forall_mem_cons.mpr ⟨lw_p29, List.forall_mem_cons.mpr ⟨lw_p30, List.forall_mem_cons.mpr ⟨lw_p31, fun _ h => absurd h List.not_mem_nil⟩⟩⟩⟩⟩⟩⟩⟩⟩⟩⟩⟩⟩⟩⟩⟩
theorem lw_p32 : lw_okq (⟨"AgingPortrait$Planner", "isBetter", "(II)Z"⟩, 15) := ⟨⟨by decide +kernel, by decide +kernel⟩, List.mem_of_getElem? (i := 219) (by decide +kernel), List.mem_of_getElem? (i := 871) (by decide +kernel), List.mem_of_getElem? (i := 872) (by decide +kernel)⟩
theorem lw_p33 : lw_okq (⟨"AgingPortrait$Planner", "mayPaint", "(II)Z"⟩, 15) := ⟨⟨by decide +kernel, by decide +kernel⟩, List.mem_of_getElem? (i := 219) (by decide +kernel), List.mem_of_getElem? (i := 875) (by decide +kernel), List.mem_of_getElem? (i := 876) (by decide +kernel)⟩
theorem lw_p34 : lw_okq (⟨"AgingPortrait$Planner", "paintOver", "(II)V"⟩, 15) := ⟨⟨by decide +kernel, by decide +kernel⟩, List.mem_of_getElem? (i := 219) (by decide +kernel), List.mem_of_getElem? (i := 886) (by decide +kernel), List.mem_of_getElem? (i := 887) (by decide +kernel)⟩
theorem lw_p35 : lw_okq (⟨"AgingPortrait$Planner", "isGood", "(II)Z"⟩, 15) := ⟨⟨by decide +kernel, by decide +kernel⟩, List.mem_of_getElem? (i := 219) (by decide +kernel), List.mem_of_getElem? (i := 895) (by decide +kernel), List.mem_of_getElem? (i := 896) (by decide +kernel)⟩
theorem lw_p36 : lw_okq (⟨"AgingPortrait$Clerk", "changes", "(I)I"⟩, 10) := ⟨⟨by decide +kernel, by decide +kernel⟩, List.mem_of_getElem? (i := 377) (by decide +kernel), List.mem_of_getElem? (i := 908) (by decide +kernel), List.mem_of_getElem? (i := 909) (by decide +kernel)⟩
theorem lw_p37 : lw_okq (⟨"AgingPortrait$Studio", "carried", "(IIII)I"⟩, 4) := ⟨⟨by decide +kernel, by decide +kernel⟩, List.mem_of_getElem? (i := 200) (by decide +kernel), List.mem_of_getElem? (i := 1003) (by decide +kernel), List.mem_of_getElem? (i := 1004) (by decide +kernel)⟩
theorem lw_p38 : lw_okq (⟨"AgingPortrait$Studio", "aimAt", "(I[I)V"⟩, 4) := ⟨⟨by decide +kernel, by decide +kernel⟩, List.mem_of_getElem? (i := 200) (by decide +kernel), List.mem_of_getElem? (i := 1021) (by decide +kernel), List.mem_of_getElem? (i := 1022) (by decide +kernel)⟩
theorem lw_p39 : lw_okq (⟨"AgingPortrait$Studio", "undo", "(II)Z"⟩, 4) := ⟨⟨by decide +kernel, by decide +kernel⟩, List.mem_of_getElem? (i := 200) (by decide +kernel), List.mem_of_getElem? (i := 1025) (by decide +kernel), List.mem_of_getElem? (i := 1026) (by decide +kernel)⟩
theorem lw_p40 : lw_okq (⟨"AgingPortrait", "heirs", "()I"⟩, 19) := ⟨⟨by decide +kernel, by decide +kernel⟩, List.mem_of_getElem? (i := 22) (by decide +kernel), List.mem_of_getElem? (i := 1046) (by decide +kernel), List.mem_of_getElem? (i := 1047) (by decide +kernel)⟩
theorem lw_p41 : lw_okq (⟨"AgingPortrait", "isRootOrCopy", "(I)Z"⟩, 19) := ⟨⟨by decide +kernel, by decide +kernel⟩, List.mem_of_getElem? (i := 22) (by decide +kernel), List.mem_of_getElem? (i := 1058) (by decide +kernel), List.mem_of_getElem? (i := 1059) (by decide +kernel)⟩
theorem lw_p42 : lw_okq (⟨"AgingPortrait$Stemma", "toneIn", "(II)I"⟩, 9) := ⟨⟨by decide +kernel, by decide +kernel⟩, List.mem_of_getElem? (i := 313) (by decide +kernel), List.mem_of_getElem? (i := 1066) (by decide +kernel), List.mem_of_getElem? (i := 1067) (by decide +kernel)⟩
theorem lw_p43 : lw_okq (⟨"AgingPortrait$Stemma", "weighSet", "(I)V"⟩, 9) := ⟨⟨by decide +kernel, by decide +kernel⟩, List.mem_of_getElem? (i := 313) (by decide +kernel), List.mem_of_getElem? (i := 1079) (by decide +kernel), List.mem_of_getElem? (i := 1080) (by decide +kernel)⟩
theorem lw_p44 : lw_okq (⟨"AgingPortrait$Stemma", "joinBranch", "(II)V"⟩, 9) := ⟨⟨by decide +kernel, by decide +kernel⟩, List.mem_of_getElem? (i := 313) (by decide +kernel), List.mem_of_getElem? (i := 1083) (by decide +kernel), List.mem_of_getElem? (i := 1084) (by decide +kernel)⟩
theorem lw_p45 : lw_okq (⟨"AgingPortrait$Stemma", "leastFrom", "(I)I"⟩, 9) := ⟨⟨by decide +kernel, by decide +kernel⟩, List.mem_of_getElem? (i := 313) (by decide +kernel), List.mem_of_getElem? (i := 1101) (by decide +kernel), List.mem_of_getElem? (i := 1102) (by decide +kernel)⟩
theorem lw_p46 : lw_okq (⟨"AgingPortrait$Stemma", "comesFrom", "(II)Z"⟩, 9) := ⟨⟨by decide +kernel, by decide +kernel⟩, List.mem_of_getElem? (i := 313) (by decide +kernel), List.mem_of_getElem? (i := 1106) (by decide +kernel), List.mem_of_getElem? (i := 1107) (by decide +kernel)⟩
theorem lw_p47 : lw_okq (⟨"AgingPortrait$Stemma", "fromLayer", "(II)I"⟩, 9) := ⟨⟨by decide +kernel, by decide +kernel⟩, List.mem_of_getElem? (i := 313) (by decide +kernel), List.mem_of_getElem? (i := 1126) (by decide +kernel), List.mem_of_getElem? (i := 1127) (by decide +kernel)⟩
def lw_privs_3 : List (MethodName × Nat) := [(⟨"AgingPortrait$Planner", "isBetter", "(II)Z"⟩, 15), (⟨"AgingPortrait$Planner", "mayPaint", "(II)Z"⟩, 15), (⟨"AgingPortrait$Planner", "paintOver", "(II)V"⟩, 15), (⟨"AgingPortrait$Planner", "isGood", "(II)Z"⟩, 15), (⟨"AgingPortrait$Clerk", "changes", "(I)I"⟩, 10), (⟨"AgingPortrait$Studio", "carried", "(IIII)I"⟩, 4), (⟨"AgingPortrait$Studio", "aimAt", "(I[I)V"⟩, 4), (⟨"AgingPortrait$Studio", "undo", "(II)Z"⟩, 4), (⟨"AgingPortrait", "heirs", "()I"⟩, 19), (⟨"AgingPortrait", "isRootOrCopy", "(I)Z"⟩, 19), (⟨"AgingPortrait$Stemma", "toneIn", "(II)I"⟩, 9), (⟨"AgingPortrait$Stemma", "weighSet", "(I)V"⟩, 9), (⟨"AgingPortrait$Stemma", "joinBranch", "(II)V"⟩, 9), (⟨"AgingPortrait$Stemma", "leastFrom", "(I)I"⟩, 9), (⟨"AgingPortrait$Stemma", "comesFrom", "(II)Z"⟩, 9), (⟨"AgingPortrait$Stemma", "fromLayer", "(II)I"⟩, 9)]
theorem lw_r3 : ∀ q ∈ lw_privs_3, lw_okq q := List.forall_mem_cons.mpr ⟨lw_p32, List.forall_mem_cons.mpr ⟨lw_p33, List.forall_mem_cons.mpr ⟨lw_p34, List.forall_mem_cons.mpr ⟨lw_p35, List.forall_mem_cons.mpr ⟨lw_p36, List.forall_mem_cons.mpr ⟨lw_p37, List.forall_mem_cons.mpr ⟨lw_p38, List.forall_mem_cons.mpr ⟨lw_p39, List.forall_mem_cons.mpr ⟨lw_p40, List.forall_mem_cons.mpr ⟨lw_p41, List.forall_mem_cons.mpr ⟨lw_p42, List.forall_mem_cons.mpr ⟨lw_p43, List.forall_mem_cons.mpr ⟨lw_p44, List.forall_mem_cons.mpr ⟨lw_p45, List.forall_mem_cons.mpr ⟨lw_p46, List.forall_mem_cons.mpr ⟨lw_p47, fun _ h => absurd h List.not_mem_nil⟩⟩⟩⟩⟩⟩⟩⟩⟩⟩⟩⟩⟩⟩⟩⟩
theorem lw_p48 : lw_okq (⟨"AgingPortrait$Stemma", "needBehind", "(II)I"⟩, 9) := ⟨⟨by decide +kernel, by decide +kernel⟩, List.mem_of_getElem? (i := 313) (by decide +kernel), List.mem_of_getElem? (i := 1138) (by decide +kernel), List.mem_of_getElem? (i := 1139) (by decide +kernel)⟩
theorem lw_p49 : lw_okq (⟨"AgingPortrait$Stemma", "sameIn", "(III)I"⟩, 9) := ⟨⟨by decide +kernel, by decide +kernel⟩, List.mem_of_getElem? (i := 313) (by decide +kernel), List.mem_of_getElem? (i := 1142) (by decide +kernel), List.mem_of_getElem? (i := 1143) (by decide +kernel)⟩
theorem lw_p50 : lw_okq (⟨"AgingPortrait$Studio", "comesOut", "(III)Z"⟩, 4) := ⟨⟨by decide +kernel, by decide +kernel⟩, List.mem_of_getElem? (i := 200) (by decide +kernel), List.mem_of_getElem? (i := 1154) (by decide +kernel), List.mem_of_getElem? (i := 1155) (by decide +kernel)⟩
theorem lw_p51 : lw_okq (⟨"AgingPortrait$Judge", "askClaimant", "(II)V"⟩, 4) := ⟨⟨by decide +kernel, by decide +kernel⟩, List.mem_of_getElem? (i := 163) (by decide +kernel), List.mem_of_getElem? (i := 1223) (by decide +kernel), List.mem_of_getElem? (i := 1224) (by decide +kernel)⟩
theorem lw_p52 : lw_okq (⟨"AgingPortrait$Court", "begins", "(I)Z"⟩, 6) := ⟨⟨by decide +kernel, by decide +kernel⟩, List.mem_of_getElem? (i := 349) (by decide +kernel), List.mem_of_getElem? (i := 1261) (by decide +kernel), List.mem_of_getElem? (i := 1262) (by decide +kernel)⟩
theorem lw_p53 : lw_okq (⟨"AgingPortrait$Court", "lasts", "(I)I"⟩, 6) := ⟨⟨by decide +kernel, by decide +kernel⟩, List.mem_of_getElem? (i := 349) (by decide +kernel), List.mem_of_getElem? (i := 1269) (by decide +kernel), List.mem_of_getElem? (i := 1270) (by decide +kernel)⟩
theorem lw_p54 : lw_okq (⟨"AgingPortrait$Century", "paintOne", "(I)V"⟩, 8) := ⟨⟨by decide +kernel, by decide +kernel⟩, List.mem_of_getElem? (i := 420) (by decide +kernel), List.mem_of_getElem? (i := 1292) (by decide +kernel), List.mem_of_getElem? (i := 1293) (by decide +kernel)⟩
theorem lw_p55 : lw_okq (⟨"AgingPortrait$Century", "draw", "(I)I"⟩, 8) := ⟨⟨by decide +kernel, by decide +kernel⟩, List.mem_of_getElem? (i := 420) (by decide +kernel), List.mem_of_getElem? (i := 1296) (by decide +kernel), List.mem_of_getElem? (i := 1297) (by decide +kernel)⟩
theorem lw_p56 : lw_okq (⟨"AgingPortraitModel", "tell", "(I)I"⟩, 61) := ⟨⟨by decide +kernel, by decide +kernel⟩, List.mem_of_getElem? (i := 1331) (by decide +kernel), List.mem_of_getElem? (i := 1550) (by decide +kernel), List.mem_of_getElem? (i := 1551) (by decide +kernel)⟩
theorem lw_p57 : lw_okq (⟨"AgingPortraitModel", "change", "(II)I"⟩, 61) := ⟨⟨by decide +kernel, by decide +kernel⟩, List.mem_of_getElem? (i := 1331) (by decide +kernel), List.mem_of_getElem? (i := 1570) (by decide +kernel), List.mem_of_getElem? (i := 1571) (by decide +kernel)⟩
theorem lw_p58 : lw_okq (⟨"AgingPortraitModel", "isPainter", "(I)Z"⟩, 61) := ⟨⟨by decide +kernel, by decide +kernel⟩, List.mem_of_getElem? (i := 1331) (by decide +kernel), List.mem_of_getElem? (i := 1585) (by decide +kernel), List.mem_of_getElem? (i := 1586) (by decide +kernel)⟩
theorem lw_p59 : lw_okq (⟨"AgingPortraitModel", "four", "(I)V"⟩, 61) := ⟨⟨by decide +kernel, by decide +kernel⟩, List.mem_of_getElem? (i := 1331) (by decide +kernel), List.mem_of_getElem? (i := 1627) (by decide +kernel), List.mem_of_getElem? (i := 1628) (by decide +kernel)⟩
theorem lw_p60 : lw_okq (⟨"AgingPortraitModel", "beginText", "(Z)V"⟩, 61) := ⟨⟨by decide +kernel, by decide +kernel⟩, List.mem_of_getElem? (i := 1331) (by decide +kernel), List.mem_of_getElem? (i := 1643) (by decide +kernel), List.mem_of_getElem? (i := 1644) (by decide +kernel)⟩
theorem lw_p61 : lw_okq (⟨"AgingPortraitModel", "begin", "()V"⟩, 61) := ⟨⟨by decide +kernel, by decide +kernel⟩, List.mem_of_getElem? (i := 1331) (by decide +kernel), List.mem_of_getElem? (i := 1647) (by decide +kernel), List.mem_of_getElem? (i := 1648) (by decide +kernel)⟩
theorem lw_p62 : lw_okq (⟨"AgingPortraitModel", "next", "()V"⟩, 61) := ⟨⟨by decide +kernel, by decide +kernel⟩, List.mem_of_getElem? (i := 1331) (by decide +kernel), List.mem_of_getElem? (i := 1651) (by decide +kernel), List.mem_of_getElem? (i := 1652) (by decide +kernel)⟩
theorem lw_p63 : lw_okq (⟨"AgingPortraitModel", "readClause", "()V"⟩, 61) := ⟨⟨by decide +kernel, by decide +kernel⟩, List.mem_of_getElem? (i := 1331) (by decide +kernel), List.mem_of_getElem? (i := 1667) (by decide +kernel), List.mem_of_getElem? (i := 1668) (by decide +kernel)⟩
def lw_privs_4 : List (MethodName × Nat) := [(⟨"AgingPortrait$Stemma", "needBehind", "(II)I"⟩, 9), (⟨"AgingPortrait$Stemma", "sameIn", "(III)I"⟩, 9), (⟨"AgingPortrait$Studio", "comesOut", "(III)Z"⟩, 4), (⟨"AgingPortrait$Judge", "askClaimant", "(II)V"⟩, 4), (⟨"AgingPortrait$Court", "begins", "(I)Z"⟩, 6), (⟨"AgingPortrait$Court", "lasts", "(I)I"⟩, 6), (⟨"AgingPortrait$Century", "paintOne", "(I)V"⟩, 8), (⟨"AgingPortrait$Century", "draw", "(I)I"⟩, 8), (⟨"AgingPortraitModel", "tell", "(I)I"⟩, 61), (⟨"AgingPortraitModel", "change", "(II)I"⟩, 61), (⟨"AgingPortraitModel", "isPainter", "(I)Z"⟩, 61), (⟨"AgingPortraitModel", "four", "(I)V"⟩, 61), (⟨"AgingPortraitModel", "beginText", "(Z)V"⟩, 61), (⟨"AgingPortraitModel", "begin", "()V"⟩, 61), (⟨"AgingPortraitModel", "next", "()V"⟩, 61), (⟨"AgingPortraitModel", "readClause", "()V"⟩, 61)]
theorem lw_r4 : ∀ q ∈ lw_privs_4, lw_okq q := List.forall_mem_cons.mpr ⟨lw_p48, List.forall_mem_cons.mpr ⟨lw_p49, List.forall_mem_cons.mpr ⟨lw_p50, List.forall_mem_cons.mpr ⟨lw_p51, List.forall_mem_cons.mpr ⟨lw_p52, List.forall_mem_cons.mpr ⟨lw_p53, List.forall_mem_cons.mpr ⟨lw_p54, List.forall_mem_cons.mpr ⟨lw_p55, List.forall_mem_cons.mpr ⟨lw_p56, List.forall_mem_cons.mpr ⟨lw_p57, List.forall_mem_cons.mpr ⟨lw_p58, List.forall_mem_cons.mpr ⟨lw_p59, List.forall_mem_cons.mpr ⟨lw_p60, List.forall_mem_cons.mpr ⟨lw_p61, List.forall_mem_cons.mpr ⟨lw_p62, List.forall_mem_cons.mpr ⟨lw_p63, fun _ h => absurd h List.not_mem_nil⟩⟩⟩⟩⟩⟩⟩⟩⟩⟩⟩⟩⟩⟩⟩⟩
theorem lw_p64 : lw_okq (⟨"AgingPortraitModel", "isWord", "(J)Z"⟩, 61) := ⟨⟨by decide +kernel, by decide +kernel⟩, List.mem_of_getElem? (i := 1331) (by decide +kernel), List.mem_of_getElem? (i := 1671) (by decide +kernel), List.mem_of_getElem? (i := 1672) (by decide +kernel)⟩
theorem lw_p65 : lw_okq (⟨"AgingPortraitModel", "must", "(Z)V"⟩, 61) := ⟨⟨by decide +kernel, by decide +kernel⟩, List.mem_of_getElem? (i := 1331) (by decide +kernel), List.mem_of_getElem? (i := 1675) (by decide +kernel), List.mem_of_getElem? (i := 1676) (by decide +kernel)⟩
theorem lw_p66 : lw_okq (⟨"AgingPortraitModel", "readExpression", "(Z)V"⟩, 61) := ⟨⟨by decide +kernel, by decide +kernel⟩, List.mem_of_getElem? (i := 1331) (by decide +kernel), List.mem_of_getElem? (i := 1679) (by decide +kernel), List.mem_of_getElem? (i := 1680) (by decide +kernel)⟩
theorem lw_p67 : lw_okq (⟨"AgingPortraitModel", "readPlain", "()I"⟩, 61) := ⟨⟨by decide +kernel, by decide +kernel⟩, List.mem_of_getElem? (i := 1331) (by decide +kernel), List.mem_of_getElem? (i := 1683) (by decide +kernel), List.mem_of_getElem? (i := 1684) (by decide +kernel)⟩
theorem lw_p68 : lw_okq (⟨"AgingPortraitModel", "push", "(II)V"⟩, 61) := ⟨⟨by decide +kernel, by decide +kernel⟩, List.mem_of_getElem? (i := 1331) (by decide +kernel), List.mem_of_getElem? (i := 1688) (by decide +kernel), List.mem_of_getElem? (i := 1689) (by decide +kernel)⟩
theorem lw_p69 : lw_okq (⟨"AgingPortraitModel", "isSign", "(I)Z"⟩, 61) := ⟨⟨by decide +kernel, by decide +kernel⟩, List.mem_of_getElem? (i := 1331) (by decide +kernel), List.mem_of_getElem? (i := 1692) (by decide +kernel), List.mem_of_getElem? (i := 1693) (by decide +kernel)⟩
theorem lw_p70 : lw_okq (⟨"AgingPortraitModel", "openBracket", "(I)V"⟩, 61) := ⟨⟨by decide +kernel, by decide +kernel⟩, List.mem_of_getElem? (i := 1331) (by decide +kernel), List.mem_of_getElem? (i := 1696) (by decide +kernel), List.mem_of_getElem? (i := 1697) (by decide +kernel)⟩
theorem lw_p71 : lw_okq (⟨"AgingPortraitModel", "readPart", "()I"⟩, 61) := ⟨⟨by decide +kernel, by decide +kernel⟩, List.mem_of_getElem? (i := 1331) (by decide +kernel), List.mem_of_getElem? (i := 1700) (by decide +kernel), List.mem_of_getElem? (i := 1701) (by decide +kernel)⟩
theorem lw_p72 : lw_okq (⟨"AgingPortraitModel", "orderPartAt", "()I"⟩, 61) := ⟨⟨by decide +kernel, by decide +kernel⟩, List.mem_of_getElem? (i := 1331) (by decide +kernel), List.mem_of_getElem? (i := 1704) (by decide +kernel), List.mem_of_getElem? (i := 1705) (by decide +kernel)⟩
theorem lw_p73 : lw_okq (⟨"AgingPortraitModel", "partAt", "()I"⟩, 61) := ⟨⟨by decide +kernel, by decide +kernel⟩, List.mem_of_getElem? (i := 1331) (by decide +kernel), List.mem_of_getElem? (i := 1708) (by decide +kernel), List.mem_of_getElem? (i := 1709) (by decide +kernel)⟩
theorem lw_p74 : lw_okq (⟨"AgingPortraitModel", "leaf", "(ZII)V"⟩, 61) := ⟨⟨by decide +kernel, by decide +kernel⟩, List.mem_of_getElem? (i := 1331) (by decide +kernel), List.mem_of_getElem? (i := 1713) (by decide +kernel), List.mem_of_getElem? (i := 1714) (by decide +kernel)⟩
theorem lw_p75 : lw_okq (⟨"AgingPortraitModel", "emit", "(II)V"⟩, 61) := ⟨⟨by decide +kernel, by decide +kernel⟩, List.mem_of_getElem? (i := 1331) (by decide +kernel), List.mem_of_getElem? (i := 1717) (by decide +kernel), List.mem_of_getElem? (i := 1718) (by decide +kernel)⟩
theorem lw_p76 : lw_okq (⟨"AgingPortraitModel", "number", "(JJ)I"⟩, 61) := ⟨⟨by decide +kernel, by decide +kernel⟩, List.mem_of_getElem? (i := 1331) (by decide +kernel), List.mem_of_getElem? (i := 1721) (by decide +kernel), List.mem_of_getElem? (i := 1722) (by decide +kernel)⟩
theorem lw_p77 : lw_okq (⟨"AgingPortraitModel", "behindSum", "(Z)I"⟩, 61) := ⟨⟨by decide +kernel, by decide +kernel⟩, List.mem_of_getElem? (i := 1331) (by decide +kernel), List.mem_of_getElem? (i := 1725) (by decide +kernel), List.mem_of_getElem? (i := 1726) (by decide +kernel)⟩
theorem lw_p78 : lw_okq (⟨"AgingPortraitModel", "settle", "(I)V"⟩, 61) := ⟨⟨by decide +kernel, by decide +kernel⟩, List.mem_of_getElem? (i := 1331) (by decide +kernel), List.mem_of_getElem? (i := 1732) (by decide +kernel), List.mem_of_getElem? (i := 1733) (by decide +kernel)⟩
theorem lw_p79 : lw_okq (⟨"AgingPortraitModel", "inner", "()I"⟩, 61) := ⟨⟨by decide +kernel, by decide +kernel⟩, List.mem_of_getElem? (i := 1331) (by decide +kernel), List.mem_of_getElem? (i := 1736) (by decide +kernel), List.mem_of_getElem? (i := 1737) (by decide +kernel)⟩
def lw_privs_5 : List (MethodName × Nat) := [(⟨"AgingPortraitModel", "isWord", "(J)Z"⟩, 61), (⟨"AgingPortraitModel", "must", "(Z)V"⟩, 61), (⟨"AgingPortraitModel", "readExpression", "(Z)V"⟩, 61), (⟨"AgingPortraitModel", "readPlain", "()I"⟩, 61), (⟨"AgingPortraitModel", "push", "(II)V"⟩, 61), (⟨"AgingPortraitModel", "isSign", "(I)Z"⟩, 61), (⟨"AgingPortraitModel", "openBracket", "(I)V"⟩, 61), (⟨"AgingPortraitModel", "readPart", "()I"⟩, 61), (⟨"AgingPortraitModel", "orderPartAt", "()I"⟩, 61), (⟨"AgingPortraitModel", "partAt", "()I"⟩, 61), (⟨"AgingPortraitModel", "leaf", "(ZII)V"⟩, 61), (⟨"AgingPortraitModel", "emit", "(II)V"⟩, 61), (⟨"AgingPortraitModel", "number", "(JJ)I"⟩, 61), (⟨"AgingPortraitModel", "behindSum", "(Z)I"⟩, 61), (⟨"AgingPortraitModel", "settle", "(I)V"⟩, 61), (⟨"AgingPortraitModel", "inner", "()I"⟩, 61)]
theorem lw_r5 : ∀ q ∈ lw_privs_5, lw_okq q := List.forall_mem_cons.mpr ⟨lw_p64, List.forall_mem_cons.mpr ⟨lw_p65, List.forall_mem_cons.mpr ⟨lw_p66, List.forall_mem_cons.mpr ⟨lw_p67, List.forall_mem_cons.mpr ⟨lw_p68, List.forall_mem_cons.mpr ⟨lw_p69, List.forall_mem_cons.mpr ⟨lw_p70, List.forall_mem_cons.mpr ⟨lw_p71, List.forall_mem_cons.mpr ⟨lw_p72, List.forall_mem_cons.mpr ⟨lw_p73, List.forall_mem_cons.mpr ⟨lw_p74, List.forall_mem_cons.mpr ⟨lw_p75, List.forall_mem_cons.mpr ⟨lw_p76, List.forall_mem_cons.mpr ⟨lw_p77, List.forall_mem_cons.mpr ⟨lw_p78, List.forall_mem_cons.mpr ⟨lw_p79, fun _ h => absurd h List.not_mem_nil⟩⟩⟩⟩⟩⟩⟩⟩⟩⟩⟩⟩⟩⟩⟩⟩
theorem lw_p80 : lw_okq (⟨"AgingPortraitModel", "isCompared", "()Z"⟩, 61) := ⟨⟨by decide +kernel, by decide +kernel⟩, List.mem_of_getElem? (i := 1331) (by decide +kernel), List.mem_of_getElem? (i := 1740) (by decide +kernel), List.mem_of_getElem? (i := 1741) (by decide +kernel)⟩
theorem lw_p81 : lw_okq (⟨"AgingPortraitModel", "behindTest", "()I"⟩, 61) := ⟨⟨by decide +kernel, by decide +kernel⟩, List.mem_of_getElem? (i := 1331) (by decide +kernel), List.mem_of_getElem? (i := 1748) (by decide +kernel), List.mem_of_getElem? (i := 1749) (by decide +kernel)⟩
theorem lw_p82 : lw_okq (⟨"AgingPortraitModel", "endText", "()V"⟩, 61) := ⟨⟨by decide +kernel, by decide +kernel⟩, List.mem_of_getElem? (i := 1331) (by decide +kernel), List.mem_of_getElem? (i := 1755) (by decide +kernel), List.mem_of_getElem? (i := 1756) (by decide +kernel)⟩
theorem lw_p83 : lw_okq (⟨"AgingPortraitModel", "ageIn", "(I)I"⟩, 61) := ⟨⟨by decide +kernel, by decide +kernel⟩, List.mem_of_getElem? (i := 1331) (by decide +kernel), List.mem_of_getElem? (i := 1767) (by decide +kernel), List.mem_of_getElem? (i := 1768) (by decide +kernel)⟩
theorem lw_p84 : lw_okq (⟨"AgingPortraitModel", "looksOf", "(II)I"⟩, 61) := ⟨⟨by decide +kernel, by decide +kernel⟩, List.mem_of_getElem? (i := 1331) (by decide +kernel), List.mem_of_getElem? (i := 1774) (by decide +kernel), List.mem_of_getElem? (i := 1775) (by decide +kernel)⟩
theorem lw_p85 : lw_okq (⟨"AgingPortraitModel", "setNone", "(I)V"⟩, 61) := ⟨⟨by decide +kernel, by decide +kernel⟩, List.mem_of_getElem? (i := 1331) (by decide +kernel), List.mem_of_getElem? (i := 1778) (by decide +kernel), List.mem_of_getElem? (i := 1779) (by decide +kernel)⟩
theorem lw_p86 : lw_okq (⟨"AgingPortraitModel", "tells", "(IJ)J"⟩, 61) := ⟨⟨by decide +kernel, by decide +kernel⟩, List.mem_of_getElem? (i := 1331) (by decide +kernel), List.mem_of_getElem? (i := 1782) (by decide +kernel), List.mem_of_getElem? (i := 1783) (by decide +kernel)⟩
theorem lw_p87 : lw_okq (⟨"AgingPortraitModel", "isSo", "(I)Z"⟩, 61) := ⟨⟨by decide +kernel, by decide +kernel⟩, List.mem_of_getElem? (i := 1331) (by decide +kernel), List.mem_of_getElem? (i := 1786) (by decide +kernel), List.mem_of_getElem? (i := 1787) (by decide +kernel)⟩
theorem lw_p88 : lw_okq (⟨"AgingPortraitModel", "reckonAll", "(II)V"⟩, 61) := ⟨⟨by decide +kernel, by decide +kernel⟩, List.mem_of_getElem? (i := 1331) (by decide +kernel), List.mem_of_getElem? (i := 1790) (by decide +kernel), List.mem_of_getElem? (i := 1791) (by decide +kernel)⟩
theorem lw_p89 : lw_okq (⟨"AgingPortraitModel", "seen", "(I)I"⟩, 61) := ⟨⟨by decide +kernel, by decide +kernel⟩, List.mem_of_getElem? (i := 1331) (by decide +kernel), List.mem_of_getElem? (i := 1794) (by decide +kernel), List.mem_of_getElem? (i := 1795) (by decide +kernel)⟩
theorem lw_p90 : lw_okq (⟨"AgingPortraitModel", "years", "()I"⟩, 61) := ⟨⟨by decide +kernel, by decide +kernel⟩, List.mem_of_getElem? (i := 1331) (by decide +kernel), List.mem_of_getElem? (i := 1798) (by decide +kernel), List.mem_of_getElem? (i := 1799) (by decide +kernel)⟩
theorem lw_p91 : lw_okq (⟨"AgingPortraitModel", "toneAt", "(II)I"⟩, 61) := ⟨⟨by decide +kernel, by decide +kernel⟩, List.mem_of_getElem? (i := 1331) (by decide +kernel), List.mem_of_getElem? (i := 1802) (by decide +kernel), List.mem_of_getElem? (i := 1803) (by decide +kernel)⟩
theorem lw_p92 : lw_okq (⟨"AgingPortraitModel", "reckon", "(IJJ)J"⟩, 61) := ⟨⟨by decide +kernel, by decide +kernel⟩, List.mem_of_getElem? (i := 1331) (by decide +kernel), List.mem_of_getElem? (i := 1806) (by decide +kernel), List.mem_of_getElem? (i := 1807) (by decide +kernel)⟩
theorem lw_p93 : lw_okq (⟨"AgingPortraitModel", "letsOf", "(II)I"⟩, 61) := ⟨⟨by decide +kernel, by decide +kernel⟩, List.mem_of_getElem? (i := 1331) (by decide +kernel), List.mem_of_getElem? (i := 1812) (by decide +kernel), List.mem_of_getElem? (i := 1813) (by decide +kernel)⟩
theorem lw_p94 : lw_okq (⟨"AgingPortraitModel", "asksOf", "(II)I"⟩, 61) := ⟨⟨by decide +kernel, by decide +kernel⟩, List.mem_of_getElem? (i := 1331) (by decide +kernel), List.mem_of_getElem? (i := 1820) (by decide +kernel), List.mem_of_getElem? (i := 1821) (by decide +kernel)⟩
theorem lw_p95 : lw_okq (⟨"AgingPortraitModel", "setPainter", "(II)V"⟩, 61) := ⟨⟨by decide +kernel, by decide +kernel⟩, List.mem_of_getElem? (i := 1331) (by decide +kernel), List.mem_of_getElem? (i := 1824) (by decide +kernel), List.mem_of_getElem? (i := 1825) (by decide +kernel)⟩
def lw_privs_6 : List (MethodName × Nat) := [(⟨"AgingPortraitModel", "isCompared", "()Z"⟩, 61), (⟨"AgingPortraitModel", "behindTest", "()I"⟩, 61), (⟨"AgingPortraitModel", "endText", "()V"⟩, 61), (⟨"AgingPortraitModel", "ageIn", "(I)I"⟩, 61), (⟨"AgingPortraitModel", "looksOf", "(II)I"⟩, 61), (⟨"AgingPortraitModel", "setNone", "(I)V"⟩, 61), (⟨"AgingPortraitModel", "tells", "(IJ)J"⟩, 61), (⟨"AgingPortraitModel", "isSo", "(I)Z"⟩, 61), (⟨"AgingPortraitModel", "reckonAll", "(II)V"⟩, 61), (⟨"AgingPortraitModel", "seen", "(I)I"⟩, 61), (⟨"AgingPortraitModel", "years", "()I"⟩, 61), (⟨"AgingPortraitModel", "toneAt", "(II)I"⟩, 61), (⟨"AgingPortraitModel", "reckon", "(IJJ)J"⟩, 61), (⟨"AgingPortraitModel", "letsOf", "(II)I"⟩, 61), (⟨"AgingPortraitModel", "asksOf", "(II)I"⟩, 61), (⟨"AgingPortraitModel", "setPainter", "(II)V"⟩, 61)]
theorem lw_r6 : ∀ q ∈ lw_privs_6, lw_okq q := List.forall_mem_cons.mpr ⟨lw_p80, List.forall_mem_cons.mpr ⟨lw_p81, List.forall_mem_cons.mpr ⟨lw_p82, List.forall_mem_cons.mpr ⟨lw_p83, List.forall_mem_cons.mpr ⟨lw_p84, List.forall_mem_cons.mpr ⟨lw_p85, List.forall_mem_cons.mpr ⟨lw_p86, List.forall_mem_cons.mpr ⟨lw_p87, List.forall_mem_cons.mpr ⟨lw_p88, List.forall_mem_cons.mpr ⟨lw_p89, List.forall_mem_cons.mpr ⟨lw_p90, List.forall_mem_cons.mpr ⟨lw_p91, List.forall_mem_cons.mpr ⟨lw_p92, List.forall_mem_cons.mpr ⟨lw_p93, List.forall_mem_cons.mpr ⟨lw_p94, List.forall_mem_cons.mpr ⟨lw_p95, fun _ h => absurd h List.not_mem_nil⟩⟩⟩⟩⟩⟩⟩⟩⟩⟩⟩⟩⟩⟩⟩⟩
theorem lw_p96 : lw_okq (⟨"AgingPortraitModel", "isBarred", "(II)Z"⟩, 61) := ⟨⟨by decide +kernel, by decide +kernel⟩, List.mem_of_getElem? (i := 1331) (by decide +kernel), List.mem_of_getElem? (i := 1828) (by decide +kernel), List.mem_of_getElem? (i := 1829) (by decide +kernel)⟩
theorem lw_p97 : lw_okq (⟨"AgingPortraitModel", "paintNow", "(I)I"⟩, 61) := ⟨⟨by decide +kernel, by decide +kernel⟩, List.mem_of_getElem? (i := 1331) (by decide +kernel), List.mem_of_getElem? (i := 1836) (by decide +kernel), List.mem_of_getElem? (i := 1837) (by decide +kernel)⟩
theorem lw_p98 : lw_okq (⟨"AgingPortraitModel", "rests", "(II)Z"⟩, 61) := ⟨⟨by decide +kernel, by decide +kernel⟩, List.mem_of_getElem? (i := 1331) (by decide +kernel), List.mem_of_getElem? (i := 1840) (by decide +kernel), List.mem_of_getElem? (i := 1841) (by decide +kernel)⟩
theorem lw_p99 : lw_okq (⟨"AgingPortraitModel", "layLooks", "(I)V"⟩, 61) := ⟨⟨by decide +kernel, by decide +kernel⟩, List.mem_of_getElem? (i := 1331) (by decide +kernel), List.mem_of_getElem? (i := 1844) (by decide +kernel), List.mem_of_getElem? (i := 1845) (by decide +kernel)⟩
theorem lw_p100 : lw_okq (⟨"AgingPortraitModel", "loadPaper", "(II)V"⟩, 61) := ⟨⟨by decide +kernel, by decide +kernel⟩, List.mem_of_getElem? (i := 1331) (by decide +kernel), List.mem_of_getElem? (i := 1848) (by decide +kernel), List.mem_of_getElem? (i := 1849) (by decide +kernel)⟩
theorem lw_p101 : lw_okq (⟨"AgingPortraitModel", "paintPaper", "(IIII)V"⟩, 61) := ⟨⟨by decide +kernel, by decide +kernel⟩, List.mem_of_getElem? (i := 1331) (by decide +kernel), List.mem_of_getElem? (i := 1852) (by decide +kernel), List.mem_of_getElem? (i := 1853) (by decide +kernel)⟩
theorem lw_p102 : lw_okq (⟨"AgingPortraitModel", "painted", "(IIII)I"⟩, 61) := ⟨⟨by decide +kernel, by decide +kernel⟩, List.mem_of_getElem? (i := 1331) (by decide +kernel), List.mem_of_getElem? (i := 1856) (by decide +kernel), List.mem_of_getElem? (i := 1857) (by decide +kernel)⟩
theorem lw_p103 : lw_okq (⟨"AgingPortraitModel", "unlikePaper", "(II)I"⟩, 61) := ⟨⟨by decide +kernel, by decide +kernel⟩, List.mem_of_getElem? (i := 1331) (by decide +kernel), List.mem_of_getElem? (i := 1860) (by decide +kernel), List.mem_of_getElem? (i := 1861) (by decide +kernel)⟩
theorem lw_p104 : lw_okq (⟨"AgingPortraitModel", "isLayer", "(I)Z"⟩, 61) := ⟨⟨by decide +kernel, by decide +kernel⟩, List.mem_of_getElem? (i := 1331) (by decide +kernel), List.mem_of_getElem? (i := 1875) (by decide +kernel), List.mem_of_getElem? (i := 1876) (by decide +kernel)⟩
theorem lw_p105 : lw_okq (⟨"AgingPortraitModel", "unlikeOf", "(I)I"⟩, 61) := ⟨⟨by decide +kernel, by decide +kernel⟩, List.mem_of_getElem? (i := 1331) (by decide +kernel), List.mem_of_getElem? (i := 1883) (by decide +kernel), List.mem_of_getElem? (i := 1884) (by decide +kernel)⟩
theorem lw_p106 : lw_okq (⟨"AgingPortraitModel", "tooFarIn", "(I)I"⟩, 61) := ⟨⟨by decide +kernel, by decide +kernel⟩, List.mem_of_getElem? (i := 1331) (by decide +kernel), List.mem_of_getElem? (i := 1887) (by decide +kernel), List.mem_of_getElem? (i := 1888) (by decide +kernel)⟩
theorem lw_p107 : lw_okq (⟨"AgingPortraitModel", "tooFar", "(II)I"⟩, 61) := ⟨⟨by decide +kernel, by decide +kernel⟩, List.mem_of_getElem? (i := 1331) (by decide +kernel), List.mem_of_getElem? (i := 1891) (by decide +kernel), List.mem_of_getElem? (i := 1892) (by decide +kernel)⟩
theorem lw_p108 : lw_okq (⟨"AgingPortraitModel", "moneyBehind", "(I)I"⟩, 61) := ⟨⟨by decide +kernel, by decide +kernel⟩, List.mem_of_getElem? (i := 1331) (by decide +kernel), List.mem_of_getElem? (i := 1903) (by decide +kernel), List.mem_of_getElem? (i := 1904) (by decide +kernel)⟩
theorem lw_p109 : lw_okq (⟨"AgingPortraitModel", "goThrough", "(II)V"⟩, 61) := ⟨⟨by decide +kernel, by decide +kernel⟩, List.mem_of_getElem? (i := 1331) (by decide +kernel), List.mem_of_getElem? (i := 1916) (by decide +kernel), List.mem_of_getElem? (i := 1917) (by decide +kernel)⟩
theorem lw_p110 : lw_okq (⟨"AgingPortraitModel", "weigh", "(II)V"⟩, 61) := ⟨⟨by decide +kernel, by decide +kernel⟩, List.mem_of_getElem? (i := 1331) (by decide +kernel), List.mem_of_getElem? (i := 1920) (by decide +kernel), List.mem_of_getElem? (i := 1921) (by decide +kernel)⟩
theorem lw_p111 : lw_okq (⟨"AgingPortraitModel", "restsInRow", "(II)Z"⟩, 61) := ⟨⟨by decide +kernel, by decide +kernel⟩, List.mem_of_getElem? (i := 1331) (by decide +kernel), List.mem_of_getElem? (i := 1924) (by decide +kernel), List.mem_of_getElem? (i := 1925) (by decide +kernel)⟩
def lw_privs_7 : List (MethodName × Nat) := [(⟨"AgingPortraitModel", "isBarred", "(II)Z"⟩, 61), (⟨"AgingPortraitModel", "paintNow", "(I)I"⟩, 61), (⟨"AgingPortraitModel", "rests", "(II)Z"⟩, 61), (⟨"AgingPortraitModel", "layLooks", "(I)V"⟩, 61), (⟨"AgingPortraitModel", "loadPaper", "(II)V"⟩, 61), (⟨"AgingPortraitModel", "paintPaper", "(IIII)V"⟩, 61), (⟨"AgingPortraitModel", "painted", "(IIII)I"⟩, 61), (⟨"AgingPortraitModel", "unlikePaper", "(II)I"⟩, 61), (⟨"AgingPortraitModel", "isLayer", "(I)Z"⟩, 61), (⟨"AgingPortraitModel", "unlikeOf", "(I)I"⟩, 61), (⟨"AgingPortraitModel", "tooFarIn", "(I)I"⟩, 61), (⟨"AgingPortraitModel", "tooFar", "(II)I"⟩, 61), (⟨"AgingPortraitModel", "moneyBehind", "(I)I"⟩, 61), (⟨"AgingPortraitModel", "goThrough", "(II)V"⟩, 61), (⟨"AgingPortraitModel", "weigh", "(II)V"⟩, 61), (⟨"AgingPortraitModel", "restsInRow", "(II)Z"⟩, 61)]
theorem lw_r7 : ∀ q ∈ lw_privs_7, lw_okq q := List.forall_mem_cons.mpr ⟨lw_p96, List.forall_mem_cons.mpr ⟨lw_p97, List.forall_mem_cons.mpr ⟨lw_p98, List.forall_mem_cons.mpr ⟨lw_p99, List.forall_mem_cons.mpr ⟨lw_p100, List.forall_mem_cons.mpr ⟨lw_p101, List.forall_mem_cons.mpr ⟨lw_p102, List.forall_mem_cons.mpr ⟨lw_p103, List.forall_mem_cons.mpr ⟨lw_p104, List.forall_mem_cons.mpr ⟨lw_p105, List.forall_mem_cons.mpr ⟨lw_p106, List.forall_mem_cons.mpr ⟨lw_p107, List.forall_mem_cons.mpr ⟨lw_p108, List.forall_mem_cons.mpr ⟨lw_p109, List.forall_mem_cons.mpr ⟨lw_p110, List.forall_mem_cons.mpr ⟨lw_p111, fun _ h => absurd h List.not_mem_nil⟩⟩⟩⟩⟩⟩⟩⟩⟩⟩⟩⟩⟩⟩⟩⟩
theorem lw_p112 : lw_okq (⟨"AgingPortraitModel", "driftOf", "(II)I"⟩, 61) := ⟨⟨by decide +kernel, by decide +kernel⟩, List.mem_of_getElem? (i := 1331) (by decide +kernel), List.mem_of_getElem? (i := 1932) (by decide +kernel), List.mem_of_getElem? (i := 1933) (by decide +kernel)⟩
theorem lw_p113 : lw_okq (⟨"AgingPortraitModel", "isSame", "(II)Z"⟩, 61) := ⟨⟨by decide +kernel, by decide +kernel⟩, List.mem_of_getElem? (i := 1331) (by decide +kernel), List.mem_of_getElem? (i := 1943) (by decide +kernel), List.mem_of_getElem? (i := 1944) (by decide +kernel)⟩
theorem lw_p114 : lw_okq (⟨"AgingPortraitModel", "copyNow", "()I"⟩, 61) := ⟨⟨by decide +kernel, by decide +kernel⟩, List.mem_of_getElem? (i := 1331) (by decide +kernel), List.mem_of_getElem? (i := 1951) (by decide +kernel), List.mem_of_getElem? (i := 1952) (by decide +kernel)⟩
theorem lw_p115 : lw_okq (⟨"AgingPortraitModel", "isCopy", "(I)Z"⟩, 61) := ⟨⟨by decide +kernel, by decide +kernel⟩, List.mem_of_getElem? (i := 1331) (by decide +kernel), List.mem_of_getElem? (i := 1959) (by decide +kernel), List.mem_of_getElem? (i := 1960) (by decide +kernel)⟩
theorem lw_p116 : lw_okq (⟨"AgingPortraitModel", "nearOf", "(I)I"⟩, 61) := ⟨⟨by decide +kernel, by decide +kernel⟩, List.mem_of_getElem? (i := 1331) (by decide +kernel), List.mem_of_getElem? (i := 1971) (by decide +kernel), List.mem_of_getElem? (i := 1972) (by decide +kernel)⟩
theorem lw_p117 : lw_okq (⟨"AgingPortraitModel", "apart", "(II)I"⟩, 61) := ⟨⟨by decide +kernel, by decide +kernel⟩, List.mem_of_getElem? (i := 1331) (by decide +kernel), List.mem_of_getElem? (i := 1975) (by decide +kernel), List.mem_of_getElem? (i := 1976) (by decide +kernel)⟩
theorem lw_p118 : lw_okq (⟨"AgingPortraitModel", "pictureAt", "(I)I"⟩, 61) := ⟨⟨by decide +kernel, by decide +kernel⟩, List.mem_of_getElem? (i := 1331) (by decide +kernel), List.mem_of_getElem? (i := 1984) (by decide +kernel), List.mem_of_getElem? (i := 1985) (by decide +kernel)⟩
theorem lw_p119 : lw_okq (⟨"AgingPortraitModel", "findTree", "()V"⟩, 61) := ⟨⟨by decide +kernel, by decide +kernel⟩, List.mem_of_getElem? (i := 1331) (by decide +kernel), List.mem_of_getElem? (i := 1992) (by decide +kernel), List.mem_of_getElem? (i := 1993) (by decide +kernel)⟩
theorem lw_p120 : lw_okq (⟨"AgingPortraitModel", "isTree", "(I)Z"⟩, 61) := ⟨⟨by decide +kernel, by decide +kernel⟩, List.mem_of_getElem? (i := 1331) (by decide +kernel), List.mem_of_getElem? (i := 1996) (by decide +kernel), List.mem_of_getElem? (i := 1997) (by decide +kernel)⟩
theorem lw_p121 : lw_okq (⟨"AgingPortraitModel", "findDepths", "()V"⟩, 61) := ⟨⟨by decide +kernel, by decide +kernel⟩, List.mem_of_getElem? (i := 1331) (by decide +kernel), List.mem_of_getElem? (i := 2012) (by decide +kernel), List.mem_of_getElem? (i := 2013) (by decide +kernel)⟩
theorem lw_p122 : lw_okq (⟨"AgingPortraitModel", "worst", "(II)I"⟩, 61) := ⟨⟨by decide +kernel, by decide +kernel⟩, List.mem_of_getElem? (i := 1331) (by decide +kernel), List.mem_of_getElem? (i := 2016) (by decide +kernel), List.mem_of_getElem? (i := 2017) (by decide +kernel)⟩
theorem lw_p123 : lw_okq (⟨"AgingPortraitModel", "whoOf", "(I)I"⟩, 61) := ⟨⟨by decide +kernel, by decide +kernel⟩, List.mem_of_getElem? (i := 1331) (by decide +kernel), List.mem_of_getElem? (i := 2024) (by decide +kernel), List.mem_of_getElem? (i := 2025) (by decide +kernel)⟩
theorem lw_p124 : lw_okq (⟨"AgingPortraitModel", "layAll", "()V"⟩, 61) := ⟨⟨by decide +kernel, by decide +kernel⟩, List.mem_of_getElem? (i := 1331) (by decide +kernel), List.mem_of_getElem? (i := 2044) (by decide +kernel), List.mem_of_getElem? (i := 2045) (by decide +kernel)⟩
theorem lw_p125 : lw_okq (⟨"AgingPortraitModel", "wasOf", "(I)I"⟩, 61) := ⟨⟨by decide +kernel, by decide +kernel⟩, List.mem_of_getElem? (i := 1331) (by decide +kernel), List.mem_of_getElem? (i := 2048) (by decide +kernel), List.mem_of_getElem? (i := 2049) (by decide +kernel)⟩
theorem lw_p126 : lw_okq (⟨"AgingPortraitModel", "isClaimant", "(I)Z"⟩, 61) := ⟨⟨by decide +kernel, by decide +kernel⟩, List.mem_of_getElem? (i := 1331) (by decide +kernel), List.mem_of_getElem? (i := 2060) (by decide +kernel), List.mem_of_getElem? (i := 2061) (by decide +kernel)⟩
theorem lw_p127 : lw_okq (⟨"AgingPortraitModel", "ofClaimant", "(II)I"⟩, 61) := ⟨⟨by decide +kernel, by decide +kernel⟩, List.mem_of_getElem? (i := 1331) (by decide +kernel), List.mem_of_getElem? (i := 2069) (by decide +kernel), List.mem_of_getElem? (i := 2070) (by decide +kernel)⟩
def lw_privs_8 : List (MethodName × Nat) := [(⟨"AgingPortraitModel", "driftOf", "(II)I"⟩, 61), (⟨"AgingPortraitModel", "isSame", "(II)Z"⟩, 61), (⟨"AgingPortraitModel", "copyNow", "()I"⟩, 61), (⟨"AgingPortraitModel", "isCopy", "(I)Z"⟩, 61), (⟨"AgingPortraitModel", "nearOf", "(I)I"⟩, 61), (⟨"AgingPortraitModel", "apart", "(II)I"⟩, 61), (⟨"AgingPortraitModel", "pictureAt", "(I)I"⟩, 61), (⟨"AgingPortraitModel", "findTree", "()V"⟩, 61), (⟨"AgingPortraitModel", "isTree", "(I)Z"⟩, 61), (⟨"AgingPortraitModel", "findDepths", "()V"⟩, 61), (⟨"AgingPortraitModel", "worst", "(II)I"⟩, 61), (⟨"AgingPortraitModel", "whoOf", "(I)I"⟩, 61), (⟨"AgingPortraitModel", "layAll", "()V"⟩, 61), (⟨"AgingPortraitModel", "wasOf", "(I)I"⟩, 61), (⟨"AgingPortraitModel", "isClaimant", "(I)Z"⟩, 61), (⟨"AgingPortraitModel", "ofClaimant", "(II)I"⟩, 61)]
theorem lw_r8 : ∀ q ∈ lw_privs_8, lw_okq q := List.forall_mem_cons.mpr ⟨lw_p112, List.forall_mem_cons.mpr ⟨lw_p113, List.forall_mem_cons.mpr ⟨lw_p114, List.forall_mem_cons.mpr ⟨lw_p115, List.forall_mem_cons.mpr ⟨lw_p116, List.forall_mem_cons.mpr ⟨lw_p117, List.forall_mem_cons.mpr ⟨lw_p118, List.forall_mem_cons.mpr ⟨lw_p119, List.forall_mem_cons.mpr ⟨lw_p120, List.forall_mem_cons.mpr ⟨lw_p121, List.forall_mem_cons.mpr ⟨lw_p122, List.forall_mem_cons.mpr ⟨lw_p123, List.forall_mem_cons.mpr ⟨lw_p124, List.forall_mem_cons.mpr ⟨lw_p125, List.forall_mem_cons.mpr ⟨lw_p126, List.forall_mem_cons.mpr ⟨lw_p127, fun _ h => absurd h List.not_mem_nil⟩⟩⟩⟩⟩⟩⟩⟩⟩⟩⟩⟩⟩⟩⟩⟩
theorem lw_p128 : lw_okq (⟨"AgingPortraitModel", "isAlive", "(II)Z"⟩, 61) := ⟨⟨by decide +kernel, by decide +kernel⟩, List.mem_of_getElem? (i := 1331) (by decide +kernel), List.mem_of_getElem? (i := 2081) (by decide +kernel), List.mem_of_getElem? (i := 2082) (by decide +kernel)⟩
theorem lw_p129 : lw_okq (⟨"AgingPortraitModel", "ranks", "(II)I"⟩, 61) := ⟨⟨by decide +kernel, by decide +kernel⟩, List.mem_of_getElem? (i := 1331) (by decide +kernel), List.mem_of_getElem? (i := 2085) (by decide +kernel), List.mem_of_getElem? (i := 2086) (by decide +kernel)⟩
theorem lw_p130 : lw_okq (⟨"AgingPortraitModel", "setClaimant", "(II)V"⟩, 61) := ⟨⟨by decide +kernel, by decide +kernel⟩, List.mem_of_getElem? (i := 1331) (by decide +kernel), List.mem_of_getElem? (i := 2089) (by decide +kernel), List.mem_of_getElem? (i := 2090) (by decide +kernel)⟩
theorem lw_p131 : lw_okq (⟨"AgingPortraitModel", "childrenOf", "(II)I"⟩, 61) := ⟨⟨by decide +kernel, by decide +kernel⟩, List.mem_of_getElem? (i := 1331) (by decide +kernel), List.mem_of_getElem? (i := 2093) (by decide +kernel), List.mem_of_getElem? (i := 2094) (by decide +kernel)⟩
theorem lw_p132 : lw_okq (⟨"AgingPortraitModel", "isOut", "(II)Z"⟩, 61) := ⟨⟨by decide +kernel, by decide +kernel⟩, List.mem_of_getElem? (i := 1331) (by decide +kernel), List.mem_of_getElem? (i := 2097) (by decide +kernel), List.mem_of_getElem? (i := 2098) (by decide +kernel)⟩
theorem lw_p133 : lw_okq (⟨"AgingPortraitModel", "findRulers", "()V"⟩, 61) := ⟨⟨by decide +kernel, by decide +kernel⟩, List.mem_of_getElem? (i := 1331) (by decide +kernel), List.mem_of_getElem? (i := 2105) (by decide +kernel), List.mem_of_getElem? (i := 2106) (by decide +kernel)⟩
theorem lw_p134 : lw_okq (⟨"AgingPortraitModel", "readOrder", "()V"⟩, 61) := ⟨⟨by decide +kernel, by decide +kernel⟩, List.mem_of_getElem? (i := 1331) (by decide +kernel), List.mem_of_getElem? (i := 2125) (by decide +kernel), List.mem_of_getElem? (i := 2126) (by decide +kernel)⟩
theorem lw_p135 : lw_okq (⟨"AgingPortraitModel", "readHead", "()I"⟩, 61) := ⟨⟨by decide +kernel, by decide +kernel⟩, List.mem_of_getElem? (i := 1331) (by decide +kernel), List.mem_of_getElem? (i := 2129) (by decide +kernel), List.mem_of_getElem? (i := 2130) (by decide +kernel)⟩
theorem lw_p136 : lw_okq (⟨"AgingPortraitModel", "readSum", "(I)V"⟩, 61) := ⟨⟨by decide +kernel, by decide +kernel⟩, List.mem_of_getElem? (i := 1331) (by decide +kernel), List.mem_of_getElem? (i := 2140) (by decide +kernel), List.mem_of_getElem? (i := 2141) (by decide +kernel)⟩
theorem lw_p137 : lw_okq (⟨"AgingPortraitModel", "run", "(I)I"⟩, 61) := ⟨⟨by decide +kernel, by decide +kernel⟩, List.mem_of_getElem? (i := 1331) (by decide +kernel), List.mem_of_getElem? (i := 2147) (by decide +kernel), List.mem_of_getElem? (i := 2148) (by decide +kernel)⟩
theorem lw_p138 : lw_okq (⟨"AgingPortraitModel", "setNow", "()V"⟩, 61) := ⟨⟨by decide +kernel, by decide +kernel⟩, List.mem_of_getElem? (i := 1331) (by decide +kernel), List.mem_of_getElem? (i := 2151) (by decide +kernel), List.mem_of_getElem? (i := 2152) (by decide +kernel)⟩
theorem lw_p139 : lw_okq (⟨"AgingPortraitModel", "sumOf", "(I)J"⟩, 61) := ⟨⟨by decide +kernel, by decide +kernel⟩, List.mem_of_getElem? (i := 1331) (by decide +kernel), List.mem_of_getElem? (i := 2155) (by decide +kernel), List.mem_of_getElem? (i := 2156) (by decide +kernel)⟩
theorem lw_p140 : lw_okq (⟨"AgingPortraitModel", "act", "(II)I"⟩, 61) := ⟨⟨by decide +kernel, by decide +kernel⟩, List.mem_of_getElem? (i := 1331) (by decide +kernel), List.mem_of_getElem? (i := 2159) (by decide +kernel), List.mem_of_getElem? (i := 2160) (by decide +kernel)⟩
theorem lw_p141 : lw_okq (⟨"AgingPortraitModel", "touchNow", "(I)I"⟩, 61) := ⟨⟨by decide +kernel, by decide +kernel⟩, List.mem_of_getElem? (i := 1331) (by decide +kernel), List.mem_of_getElem? (i := 2163) (by decide +kernel), List.mem_of_getElem? (i := 2164) (by decide +kernel)⟩
theorem lw_p142 : lw_okq (⟨"AgingPortraitModel", "draw", "(I)I"⟩, 61) := ⟨⟨by decide +kernel, by decide +kernel⟩, List.mem_of_getElem? (i := 1331) (by decide +kernel), List.mem_of_getElem? (i := 2176) (by decide +kernel), List.mem_of_getElem? (i := 2177) (by decide +kernel)⟩
def lw_privs_9 : List (MethodName × Nat) := [(⟨"AgingPortraitModel", "isAlive", "(II)Z"⟩, 61), (⟨"AgingPortraitModel", "ranks", "(II)I"⟩, 61), (⟨"AgingPortraitModel", "setClaimant", "(II)V"⟩, 61), (⟨"AgingPortraitModel", "childrenOf", "(II)I"⟩, 61), (⟨"AgingPortraitModel", "isOut", "(II)Z"⟩, 61), (⟨"AgingPortraitModel", "findRulers", "()V"⟩, 61), (⟨"AgingPortraitModel", "readOrder", "()V"⟩, 61), (⟨"AgingPortraitModel", "readHead", "()I"⟩, 61), (⟨"AgingPortraitModel", "readSum", "(I)V"⟩, 61), (⟨"AgingPortraitModel", "run", "(I)I"⟩, 61), (⟨"AgingPortraitModel", "setNow", "()V"⟩, 61), (⟨"AgingPortraitModel", "sumOf", "(I)J"⟩, 61), (⟨"AgingPortraitModel", "act", "(II)I"⟩, 61), (⟨"AgingPortraitModel", "touchNow", "(I)I"⟩, 61), (⟨"AgingPortraitModel", "draw", "(I)I"⟩, 61)]
theorem lw_r9 : ∀ q ∈ lw_privs_9, lw_okq q := List.forall_mem_cons.mpr ⟨lw_p128, List.forall_mem_cons.mpr ⟨lw_p129, List.forall_mem_cons.mpr ⟨lw_p130, List.forall_mem_cons.mpr ⟨lw_p131, List.forall_mem_cons.mpr ⟨lw_p132, List.forall_mem_cons.mpr ⟨lw_p133, List.forall_mem_cons.mpr ⟨lw_p134, List.forall_mem_cons.mpr ⟨lw_p135, List.forall_mem_cons.mpr ⟨lw_p136, List.forall_mem_cons.mpr ⟨lw_p137, List.forall_mem_cons.mpr ⟨lw_p138, List.forall_mem_cons.mpr ⟨lw_p139, List.forall_mem_cons.mpr ⟨lw_p140, List.forall_mem_cons.mpr ⟨lw_p141, List.forall_mem_cons.mpr ⟨lw_p142, fun _ h => absurd h List.not_mem_nil⟩⟩⟩⟩⟩⟩⟩⟩⟩⟩⟩⟩⟩⟩⟩
def lw_privs : List (MethodName × Nat) := lw_privs_1 ++ (lw_privs_2 ++ (lw_privs_3 ++ (lw_privs_4 ++ (lw_privs_5 ++ (lw_privs_6 ++ (lw_privs_7 ++ (lw_privs_8 ++ (lw_privs_9))))))))
def lw_tbl : List Cond := k2_sels lw_privs ++ tables_1
theorem lw_privs_ok : ∀ q ∈ lw_privs, lw_okq q := by
  show ∀ q ∈ lw_privs_1 ++ (lw_privs_2 ++ (lw_privs_3 ++ (lw_privs_4 ++ (lw_privs_5 ++ (lw_privs_6 ++ (lw_privs_7 ++ (lw_privs_8 ++ (lw_privs_9)))))))), lw_okq q
  exact List.forall_mem_append.mpr ⟨lw_r1, List.forall_mem_append.mpr ⟨lw_r2, List.forall_mem_append.mpr ⟨lw_r3, List.forall_mem_append.mpr ⟨lw_r4, List.forall_mem_append.mpr ⟨lw_r5, List.forall_mem_append.mpr ⟨lw_r6, List.forall_mem_append.mpr ⟨lw_r7, List.forall_mem_append.mpr ⟨lw_r8, lw_r9⟩⟩⟩⟩⟩⟩⟩⟩
/-! ===== BEGIN words of one list among another's, by their places ===== -/
theorem goodIn_r {big : List Cond} (ws : List Cond) (ps : List Nat) (hp : ws = ps.filterMap (fun i => big[i]?)) (h : ws.all goodWord = true) : GoodIn big ws := by
  intro w hw
  have h1 := List.all_eq_true.mp h w hw
  rw [hp] at hw
  obtain ⟨i, -, hi⟩ := List.mem_filterMap.mp hw
  have hm : w ∈ big := by first | exact List.mem_of_getElem? hi | exact List.getElem?_mem hi
  exact ⟨hm, good_of_word h1⟩
theorem goodIn_app {big a b : List Cond} (ha : GoodIn big a) (hb : GoodIn big b) : GoodIn big (a ++ b) := fun w h => (List.mem_append.mp h).elim (ha w) (hb w)
theorem goodIn_ca {big a b : List Cond} {c : Cond} (ha : GoodIn big (c :: a)) (hb : GoodIn big b) : GoodIn big (c :: (a ++ b)) := fun w h => (List.mem_cons.mp h).elim (fun e => ha w (List.mem_cons.mpr (Or.inl e))) (fun h => (List.mem_append.mp h).elim (fun h => ha w (List.mem_cons.mpr (Or.inr h))) (hb w))
theorem goodIn_sub {big ws : List Cond} (hm : ∀ w ∈ ws, w ∈ big) (h : ws.all goodWord = true) : GoodIn big ws := fun w hw => ⟨hm w hw, good_of_word (List.all_eq_true.mp h w hw)⟩
/-! ===== END ===== -/

/-! ===== BEGIN printed: names, fields, word lists, decode rows ===== -/
def RX0 : String := "AgingPortrait$Century"
def TX0 : u_T := fun k => match k with
  | 0 => ("AgingPortrait$Century", "now", "LAgingPortrait$State;", true)
  | 1 => ("AgingPortrait$Century", "judge", "LAgingPortrait$Judge;", true)
  | 2 => ("AgingPortrait$Century", "seed", "I", false)
  | 3 => ("AgingPortrait$Century", "painters", "I", false)
  | 4 => ("AgingPortrait$Century", "painted", "[I", true)
  | 5 => ("AgingPortrait$Century", "picture", "[I", true)
  | 6 => ("AgingPortrait$Century", "unlikeInTheEnd", "I", false)
  | _ => ("AgingPortrait$Century", "passed", "Z", false)
def tyX0 : Nat → FieldType := fun k => match k with
  | 0 => .object "AgingPortrait$State"
  | 1 => .object "AgingPortrait$Judge"
  | 2 => .int
  | 3 => .int
  | 4 => .array .int
  | 5 => .array .int
  | 6 => .int
  | _ => .boolean
abbrev wsX00 : List Cond := u_ws RX0 TX0 8
theorem nmX0 : ∀ a, a < 8 → ∀ b, b < 8 → a ≠ b → (TX0 a).2.1 ≠ (TX0 b).2.1 := by decide +kernel
theorem tyX0_ok : ∀ k, k < 8 → parseFieldDescriptor (TX0 k).2.2.1 = some (tyX0 k) := by decide +kernel
abbrev cX0_init : ByteArray := prog_2_method_1_code
def yX0_init : MethodName := ⟨RX0, "<init>", "(LAgingPortrait$State;LAgingPortrait$Judge;)V"⟩
abbrev cX0_pass : ByteArray := prog_2_method_2_code
def yX0_pass : MethodName := ⟨RX0, "pass", "(II)V"⟩
abbrev cX0_yearsOf : ByteArray := prog_2_method_3_code
def yX0_yearsOf : MethodName := ⟨RX0, "yearsOf", "(I)I"⟩
abbrev cX0_paintOne : ByteArray := prog_2_method_4_code
def yX0_paintOne : MethodName := ⟨RX0, "paintOne", "(I)V"⟩
abbrev cX0_draw : ByteArray := prog_2_method_5_code
def yX0_draw : MethodName := ⟨RX0, "draw", "(I)I"⟩
def RX1 : String := "AgingPortrait$Clerk"
def TX1 : u_T := fun k => match k with
  | 0 => ("AgingPortrait$Clerk", "now", "LAgingPortrait$State;", true)
  | 1 => ("AgingPortrait$Clerk", "before", "LAgingPortrait$State;", true)
  | 2 => ("AgingPortrait$Clerk", "judge", "LAgingPortrait$Judge;", true)
  | 3 => ("AgingPortrait$Clerk", "studio", "LAgingPortrait$Studio;", true)
  | 4 => ("AgingPortrait$Clerk", "planner", "LAgingPortrait$Planner;", true)
  | 5 => ("AgingPortrait$Clerk", "engine", "LAgingPortrait$Engine;", true)
  | 6 => ("AgingPortrait$Clerk", "words", "[I", true)
  | 7 => ("AgingPortrait$Clerk", "sums", "[I", true)
  | 8 => ("AgingPortrait$Clerk", "order", "I", false)
  | _ => ("AgingPortrait$Clerk", "done", "I", false)
def tyX1 : Nat → FieldType := fun k => match k with
  | 0 => .object "AgingPortrait$State"
  | 1 => .object "AgingPortrait$State"
  | 2 => .object "AgingPortrait$Judge"
  | 3 => .object "AgingPortrait$Studio"
  | 4 => .object "AgingPortrait$Planner"
  | 5 => .object "AgingPortrait$Engine"
  | 6 => .array .int
  | 7 => .array .int
  | 8 => .int
  | _ => .int
abbrev wsX10 : List Cond := u_ws RX1 TX1 10
theorem nmX1 : ∀ a, a < 10 → ∀ b, b < 10 → a ≠ b → (TX1 a).2.1 ≠ (TX1 b).2.1 := by decide +kernel
theorem tyX1_ok : ∀ k, k < 10 → parseFieldDescriptor (TX1 k).2.2.1 = some (tyX1 k) := by decide +kernel
abbrev cX1_init : ByteArray := prog_3_method_1_code
def yX1_init : MethodName := ⟨RX1, "<init>", "(LAgingPortrait$State;LAgingPortrait$Judge;LAgingPortrait$Studio;LAgingPortrait$Planner;)V"⟩
abbrev cX1_runAll : ByteArray := prog_3_method_2_code
def yX1_runAll : MethodName := ⟨RX1, "runAll", "(LAgingPortrait$Text;)I"⟩
abbrev cX1_learnWords : ByteArray := prog_3_method_3_code
def yX1_learnWords : MethodName := ⟨RX1, "learnWords", "(I)V"⟩
abbrev cX1_isWanted : ByteArray := prog_3_method_4_code
def yX1_isWanted : MethodName := ⟨RX1, "isWanted", "(LAgingPortrait$Text;I)Z"⟩
abbrev cX1_sumsWork : ByteArray := prog_3_method_5_code
def yX1_sumsWork : MethodName := ⟨RX1, "sumsWork", "(LAgingPortrait$Text;I)Z"⟩
abbrev cX1_paints : ByteArray := prog_3_method_6_code
def yX1_paints : MethodName := ⟨RX1, "paints", "(I)I"⟩
abbrev cX1_changes : ByteArray := prog_3_method_7_code
def yX1_changes : MethodName := ⟨RX1, "changes", "(I)I"⟩
def RX2 : String := "AgingPortrait$Court"
def TX2 : u_T := fun k => match k with
  | 0 => ("AgingPortrait$Court", "now", "LAgingPortrait$State;", true)
  | 1 => ("AgingPortrait$Court", "judge", "LAgingPortrait$Judge;", true)
  | 2 => ("AgingPortrait$Court", "ranks", "[I", true)
  | 3 => ("AgingPortrait$Court", "ruling", "[I", true)
  | 4 => ("AgingPortrait$Court", "queue", "[I", true)
  | _ => ("AgingPortrait$Court", "standing", "I", false)
def tyX2 : Nat → FieldType := fun k => match k with
  | 0 => .object "AgingPortrait$State"
  | 1 => .object "AgingPortrait$Judge"
  | 2 => .array .int
  | 3 => .array .int
  | 4 => .array .int
  | _ => .int
abbrev wsX20 : List Cond := u_ws RX2 TX2 6
theorem nmX2 : ∀ a, a < 6 → ∀ b, b < 6 → a ≠ b → (TX2 a).2.1 ≠ (TX2 b).2.1 := by decide +kernel
theorem tyX2_ok : ∀ k, k < 6 → parseFieldDescriptor (TX2 k).2.2.1 = some (tyX2 k) := by decide +kernel
abbrev cX2_init : ByteArray := prog_4_method_1_code
def yX2_init : MethodName := ⟨RX2, "<init>", "(LAgingPortrait$State;LAgingPortrait$Judge;)V"⟩
abbrev cX2_crownTill : ByteArray := prog_4_method_2_code
def yX2_crownTill : MethodName := ⟨RX2, "crownTill", "(I)V"⟩
abbrev cX2_reigns : ByteArray := prog_4_method_3_code
def yX2_reigns : MethodName := ⟨RX2, "reigns", "()I"⟩
abbrev cX2_reignOf : ByteArray := prog_4_method_4_code
def yX2_reignOf : MethodName := ⟨RX2, "reignOf", "(II)I"⟩
abbrev cX2_standInLine : ByteArray := prog_4_method_5_code
def yX2_standInLine : MethodName := ⟨RX2, "standInLine", "(I)V"⟩
abbrev cX2_begins : ByteArray := prog_4_method_6_code
def yX2_begins : MethodName := ⟨RX2, "begins", "(I)Z"⟩
abbrev cX2_lasts : ByteArray := prog_4_method_7_code
def yX2_lasts : MethodName := ⟨RX2, "lasts", "(I)I"⟩
def RX3 : String := "AgingPortrait$Engine"
def TX3 : u_T := fun k => match k with
  | 0 => ("AgingPortrait$Engine", "stack", "[I", true)
  | 1 => ("AgingPortrait$Engine", "height", "I", false)
  | _ => ("AgingPortrait$Engine", "result", "I", false)
def tyX3 : Nat → FieldType := fun k => match k with
  | 0 => .array .int
  | 1 => .int
  | _ => .int
abbrev wsX30 : List Cond := u_ws RX3 TX3 3
theorem nmX3 : ∀ a, a < 3 → ∀ b, b < 3 → a ≠ b → (TX3 a).2.1 ≠ (TX3 b).2.1 := by decide +kernel
theorem tyX3_ok : ∀ k, k < 3 → parseFieldDescriptor (TX3 k).2.2.1 = some (tyX3 k) := by decide +kernel
abbrev cX3_init : ByteArray := prog_5_method_1_code
def yX3_init : MethodName := ⟨RX3, "<init>", "()V"⟩
abbrev cX3_works : ByteArray := prog_5_method_2_code
def yX3_works : MethodName := ⟨RX3, "works", "(LAgingPortrait$Text;I[I)Z"⟩
abbrev cX3_joins : ByteArray := prog_5_method_3_code
def yX3_joins : MethodName := ⟨RX3, "joins", "(I)Z"⟩
def RX4 : String := "AgingPortrait$Judge"
def TX4 : u_T := fun k => match k with
  | 0 => ("AgingPortrait$Judge", "now", "LAgingPortrait$State;", true)
  | 1 => ("AgingPortrait$Judge", "engine", "LAgingPortrait$Engine;", true)
  | 2 => ("AgingPortrait$Judge", "words", "[I", true)
  | _ => ("AgingPortrait$Judge", "told", "I", false)
def tyX4 : Nat → FieldType := fun k => match k with
  | 0 => .object "AgingPortrait$State"
  | 1 => .object "AgingPortrait$Engine"
  | 2 => .array .int
  | _ => .int
abbrev wsX40 : List Cond := u_ws RX4 TX4 4
theorem nmX4 : ∀ a, a < 4 → ∀ b, b < 4 → a ≠ b → (TX4 a).2.1 ≠ (TX4 b).2.1 := by decide +kernel
theorem tyX4_ok : ∀ k, k < 4 → parseFieldDescriptor (TX4 k).2.2.1 = some (tyX4 k) := by decide +kernel
abbrev cX4_init : ByteArray := prog_6_method_1_code
def yX4_init : MethodName := ⟨RX4, "<init>", "(LAgingPortrait$State;)V"⟩
abbrev cX4_looksOf : ByteArray := prog_6_method_2_code
def yX4_looksOf : MethodName := ⟨RX4, "looksOf", "(II)I"⟩
abbrev cX4_letsOf : ByteArray := prog_6_method_3_code
def yX4_letsOf : MethodName := ⟨RX4, "letsOf", "(II)I"⟩
abbrev cX4_asksOf : ByteArray := prog_6_method_4_code
def yX4_asksOf : MethodName := ⟨RX4, "asksOf", "(II)I"⟩
abbrev cX4_barsPainter : ByteArray := prog_6_method_5_code
def yX4_barsPainter : MethodName := ⟨RX4, "barsPainter", "(II)Z"⟩
abbrev cX4_ranksOf : ByteArray := prog_6_method_6_code
def yX4_ranksOf : MethodName := ⟨RX4, "ranksOf", "(II)I"⟩
abbrev cX4_barsClaimant : ByteArray := prog_6_method_7_code
def yX4_barsClaimant : MethodName := ⟨RX4, "barsClaimant", "(II)Z"⟩
abbrev cX4_scarOn : ByteArray := prog_6_method_8_code
def yX4_scarOn : MethodName := ⟨RX4, "scarOn", "(II)I"⟩
abbrev cX4_ask : ByteArray := prog_6_method_9_code
def yX4_ask : MethodName := ⟨RX4, "ask", "(I)V"⟩
abbrev cX4_askPainter : ByteArray := prog_6_method_10_code
def yX4_askPainter : MethodName := ⟨RX4, "askPainter", "(II)V"⟩
abbrev cX4_askClaimant : ByteArray := prog_6_method_11_code
def yX4_askClaimant : MethodName := ⟨RX4, "askClaimant", "(II)V"⟩
abbrev cX4_tells : ByteArray := prog_6_method_12_code
def yX4_tells : MethodName := ⟨RX4, "tells", "(I)Z"⟩
def RX5 : String := "AgingPortrait$Planner"
def TX5 : u_T := fun k => match k with
  | 0 => ("AgingPortrait$Planner", "now", "LAgingPortrait$State;", true)
  | 1 => ("AgingPortrait$Planner", "judge", "LAgingPortrait$Judge;", true)
  | 2 => ("AgingPortrait$Planner", "aims", "[I", true)
  | 3 => ("AgingPortrait$Planner", "lets", "[I", true)
  | 4 => ("AgingPortrait$Planner", "asked", "[I", true)
  | 5 => ("AgingPortrait$Planner", "barred", "[Z", true)
  | 6 => ("AgingPortrait$Planner", "pictures", "[I", true)
  | 7 => ("AgingPortrait$Planner", "row", "[I", true)
  | 8 => ("AgingPortrait$Planner", "by", "I", false)
  | 9 => ("AgingPortrait$Planner", "length", "I", false)
  | 10 => ("AgingPortrait$Planner", "money", "I", false)
  | 11 => ("AgingPortrait$Planner", "best", "[I", true)
  | 12 => ("AgingPortrait$Planner", "leastUnlike", "I", false)
  | 13 => ("AgingPortrait$Planner", "leastAsked", "I", false)
  | _ => ("AgingPortrait$Planner", "rows", "I", false)
def tyX5 : Nat → FieldType := fun k => match k with
  | 0 => .object "AgingPortrait$State"
  | 1 => .object "AgingPortrait$Judge"
  | 2 => .array .int
  | 3 => .array .int
  | 4 => .array .int
  | 5 => .array .boolean
  | 6 => .array .int
  | 7 => .array .int
  | 8 => .int
  | 9 => .int
  | 10 => .int
  | 11 => .array .int
  | 12 => .int
  | 13 => .int
  | _ => .int
abbrev wsX50 : List Cond := u_ws RX5 TX5 15
theorem nmX5 : ∀ a, a < 15 → ∀ b, b < 15 → a ≠ b → (TX5 a).2.1 ≠ (TX5 b).2.1 := by decide +kernel
theorem tyX5_ok : ∀ k, k < 15 → parseFieldDescriptor (TX5 k).2.2.1 = some (tyX5 k) := by decide +kernel
abbrev cX5_init : ByteArray := prog_7_method_1_code
def yX5_init : MethodName := ⟨RX5, "<init>", "(LAgingPortrait$State;LAgingPortrait$Judge;)V"⟩
abbrev cX5_seek : ByteArray := prog_7_method_2_code
def yX5_seek : MethodName := ⟨RX5, "seek", "(II)V"⟩
abbrev cX5_walk : ByteArray := prog_7_method_3_code
def yX5_walk : MethodName := ⟨RX5, "walk", "(LAgingPortrait$Planner;II)V"⟩
abbrev cX5_mayPaint : ByteArray := prog_7_method_4_code
def yX5_mayPaint : MethodName := ⟨RX5, "mayPaint", "(II)Z"⟩
abbrev cX5_paintOver : ByteArray := prog_7_method_5_code
def yX5_paintOver : MethodName := ⟨RX5, "paintOver", "(II)V"⟩
abbrev cX5_isGood : ByteArray := prog_7_method_6_code
def yX5_isGood : MethodName := ⟨RX5, "isGood", "(II)Z"⟩
abbrev cX5_weigh : ByteArray := prog_7_method_7_code
def yX5_weigh : MethodName := ⟨RX5, "weigh", "(I)V"⟩
abbrev cX5_isBetter : ByteArray := prog_7_method_8_code
def yX5_isBetter : MethodName := ⟨RX5, "isBetter", "(II)Z"⟩
def RX6 : String := "AgingPortrait$Reader"
def TX6 : u_T := fun k => match k with
  | 0 => ("AgingPortrait$Reader", "tape", "[I", true)
  | 1 => ("AgingPortrait$Reader", "length", "I", false)
  | 2 => ("AgingPortrait$Reader", "into", "LAgingPortrait$Text;", true)
  | 3 => ("AgingPortrait$Reader", "isOrders", "Z", false)
  | 4 => ("AgingPortrait$Reader", "kind", "I", false)
  | 5 => ("AgingPortrait$Reader", "start", "I", false)
  | 6 => ("AgingPortrait$Reader", "stop", "I", false)
  | 7 => ("AgingPortrait$Reader", "number", "I", false)
  | _ => ("AgingPortrait$Reader", "parts", "I", false)
def tyX6 : Nat → FieldType := fun k => match k with
  | 0 => .array .int
  | 1 => .int
  | 2 => .object "AgingPortrait$Text"
  | 3 => .boolean
  | 4 => .int
  | 5 => .int
  | 6 => .int
  | 7 => .int
  | _ => .int
abbrev wsX60 : List Cond := u_ws RX6 TX6 9
theorem nmX6 : ∀ a, a < 9 → ∀ b, b < 9 → a ≠ b → (TX6 a).2.1 ≠ (TX6 b).2.1 := by decide +kernel
theorem tyX6_ok : ∀ k, k < 9 → parseFieldDescriptor (TX6 k).2.2.1 = some (tyX6 k) := by decide +kernel
abbrev cX6_init : ByteArray := prog_8_method_1_code
def yX6_init : MethodName := ⟨RX6, "<init>", "([ILAgingPortrait$Text;)V"⟩
abbrev cX6_faultIn : ByteArray := prog_8_method_2_code
def yX6_faultIn : MethodName := ⟨RX6, "faultIn", "(IZ)I"⟩
abbrev cX6_clearRow : ByteArray := prog_8_method_3_code
def yX6_clearRow : MethodName := ⟨RX6, "clearRow", "(I)V"⟩
abbrev cX6_readClause : ByteArray := prog_8_method_4_code
def yX6_readClause : MethodName := ⟨RX6, "readClause", "(I)Z"⟩
abbrev cX6_readOrder : ByteArray := prog_8_method_5_code
def yX6_readOrder : MethodName := ⟨RX6, "readOrder", "(I)Z"⟩
abbrev cX6_readTimes : ByteArray := prog_8_method_6_code
def yX6_readTimes : MethodName := ⟨RX6, "readTimes", "(I)Z"⟩
abbrev cX6_readIf : ByteArray := prog_8_method_7_code
def yX6_readIf : MethodName := ⟨RX6, "readIf", "(I)Z"⟩
abbrev cX6_readSumOf : ByteArray := prog_8_method_8_code
def yX6_readSumOf : MethodName := ⟨RX6, "readSumOf", "(II)Z"⟩
abbrev cX6_readTest : ByteArray := prog_8_method_9_code
def yX6_readTest : MethodName := ⟨RX6, "readTest", "(I)Z"⟩
abbrev cX6_readBoth : ByteArray := prog_8_method_10_code
def yX6_readBoth : MethodName := ⟨RX6, "readBoth", "(I)Z"⟩
abbrev cX6_readPlain : ByteArray := prog_8_method_11_code
def yX6_readPlain : MethodName := ⟨RX6, "readPlain", "(I)Z"⟩
abbrev cX6_readSum : ByteArray := prog_8_method_12_code
def yX6_readSum : MethodName := ⟨RX6, "readSum", "(I)Z"⟩
abbrev cX6_readTerm : ByteArray := prog_8_method_13_code
def yX6_readTerm : MethodName := ⟨RX6, "readTerm", "(I)Z"⟩
abbrev cX6_readPart : ByteArray := prog_8_method_14_code
def yX6_readPart : MethodName := ⟨RX6, "readPart", "(I)Z"⟩
abbrev cX6_opens : ByteArray := prog_8_method_15_code
def yX6_opens : MethodName := ⟨RX6, "opens", "(I)Z"⟩
abbrev cX6_isSign : ByteArray := prog_8_method_16_code
def yX6_isSign : MethodName := ⟨RX6, "isSign", "(C)Z"⟩
abbrev cX6_takes : ByteArray := prog_8_method_17_code
def yX6_takes : MethodName := ⟨RX6, "takes", "(C)Z"⟩
abbrev cX6_takesWord : ByteArray := prog_8_method_18_code
def yX6_takesWord : MethodName := ⟨RX6, "takesWord", "(Ljava/lang/String;)Z"⟩
abbrev cX6_placeIn : ByteArray := prog_8_method_19_code
def yX6_placeIn : MethodName := ⟨RX6, "placeIn", "(Ljava/lang/String;)I"⟩
abbrev cX6_isSame : ByteArray := prog_8_method_20_code
def yX6_isSame : MethodName := ⟨RX6, "isSame", "(Ljava/lang/String;II)Z"⟩
abbrev cX6_next : ByteArray := prog_8_method_21_code
def yX6_next : MethodName := ⟨RX6, "next", "()V"⟩
abbrev cX6_kindOf : ByteArray := prog_8_method_22_code
def yX6_kindOf : MethodName := ⟨RX6, "kindOf", "(I)I"⟩
def RX7 : String := "AgingPortrait$State"
def TX7 : u_T := fun k => match k with
  | 0 => ("AgingPortrait$State", "painters", "I", false)
  | 1 => ("AgingPortrait$State", "facts", "[I", true)
  | 2 => ("AgingPortrait$State", "scars", "I", false)
  | 3 => ("AgingPortrait$State", "marks", "[I", true)
  | 4 => ("AgingPortrait$State", "terms", "[I", true)
  | 5 => ("AgingPortrait$State", "laws", "I", false)
  | 6 => ("AgingPortrait$State", "texts", "[LAgingPortrait$Text;", true)
  | 7 => ("AgingPortrait$State", "inForce", "I", false)
  | 8 => ("AgingPortrait$State", "years", "I", false)
  | 9 => ("AgingPortrait$State", "by", "[I", true)
  | 10 => ("AgingPortrait$State", "tones", "[I", true)
  | 11 => ("AgingPortrait$State", "copies", "I", false)
  | 12 => ("AgingPortrait$State", "pictures", "[I", true)
  | 13 => ("AgingPortrait$State", "claimants", "I", false)
  | _ => ("AgingPortrait$State", "traits", "[I", true)
def tyX7 : Nat → FieldType := fun k => match k with
  | 0 => .int
  | 1 => .array .int
  | 2 => .int
  | 3 => .array .int
  | 4 => .array .int
  | 5 => .int
  | 6 => .array (.object "AgingPortrait$Text")
  | 7 => .int
  | 8 => .int
  | 9 => .array .int
  | 10 => .array .int
  | 11 => .int
  | 12 => .array .int
  | 13 => .int
  | _ => .array .int
abbrev wsX70 : List Cond := u_ws RX7 TX7 15
theorem nmX7 : ∀ a, a < 15 → ∀ b, b < 15 → a ≠ b → (TX7 a).2.1 ≠ (TX7 b).2.1 := by decide +kernel
theorem tyX7_ok : ∀ k, k < 15 → parseFieldDescriptor (TX7 k).2.2.1 = some (tyX7 k) := by decide +kernel
abbrev cX7_init : ByteArray := prog_9_method_1_code
def yX7_init : MethodName := ⟨RX7, "<init>", "()V"⟩
abbrev cX7_takeFrom : ByteArray := prog_9_method_2_code
def yX7_takeFrom : MethodName := ⟨RX7, "takeFrom", "(LAgingPortrait$State;)V"⟩
abbrev cX7_hasPainter : ByteArray := prog_9_method_3_code
def yX7_hasPainter : MethodName := ⟨RX7, "hasPainter", "(I)Z"⟩
abbrev cX7_hasLayer : ByteArray := prog_9_method_4_code
def yX7_hasLayer : MethodName := ⟨RX7, "hasLayer", "(I)Z"⟩
abbrev cX7_hasClaimant : ByteArray := prog_9_method_5_code
def yX7_hasClaimant : MethodName := ⟨RX7, "hasClaimant", "(I)Z"⟩
abbrev cX7_ageIn : ByteArray := prog_9_method_6_code
def yX7_ageIn : MethodName := ⟨RX7, "ageIn", "(I)I"⟩
abbrev cX7_rests : ByteArray := prog_9_method_7_code
def yX7_rests : MethodName := ⟨RX7, "rests", "(II)Z"⟩
abbrev cX7_seenAt : ByteArray := prog_9_method_8_code
def yX7_seenAt : MethodName := ⟨RX7, "seenAt", "(I)I"⟩
abbrev cX7_addCopy : ByteArray := prog_9_method_9_code
def yX7_addCopy : MethodName := ⟨RX7, "addCopy", "()V"⟩
abbrev cX7_nearOf : ByteArray := prog_9_method_10_code
def yX7_nearOf : MethodName := ⟨RX7, "nearOf", "(I)I"⟩
abbrev cX7_isAlive : ByteArray := prog_9_method_11_code
def yX7_isAlive : MethodName := ⟨RX7, "isAlive", "(II)Z"⟩
abbrev cX7_childrenOf : ByteArray := prog_9_method_12_code
def yX7_childrenOf : MethodName := ⟨RX7, "childrenOf", "(II)I"⟩
abbrev cX7_brushed : ByteArray := prog_9_method_13_code
def yX7_brushed : MethodName := ⟨RX7, "brushed", "(IIII)I"⟩
def RX8 : String := "AgingPortrait$Stemma"
def TX8 : u_T := fun k => match k with
  | 0 => ("AgingPortrait$Stemma", "now", "LAgingPortrait$State;", true)
  | 1 => ("AgingPortrait$Stemma", "nodes", "I", false)
  | 2 => ("AgingPortrait$Stemma", "apart", "[I", true)
  | 3 => ("AgingPortrait$Stemma", "least", "[I", true)
  | 4 => ("AgingPortrait$Stemma", "ways", "[I", true)
  | 5 => ("AgingPortrait$Stemma", "parents", "[I", true)
  | 6 => ("AgingPortrait$Stemma", "worst", "[I", true)
  | 7 => ("AgingPortrait$Stemma", "cellsToKnow", "I", false)
  | _ => ("AgingPortrait$Stemma", "cellToBegin", "I", false)
def tyX8 : Nat → FieldType := fun k => match k with
  | 0 => .object "AgingPortrait$State"
  | 1 => .int
  | 2 => .array .int
  | 3 => .array .int
  | 4 => .array .int
  | 5 => .array .int
  | 6 => .array .int
  | 7 => .int
  | _ => .int
abbrev wsX80 : List Cond := u_ws RX8 TX8 9
theorem nmX8 : ∀ a, a < 9 → ∀ b, b < 9 → a ≠ b → (TX8 a).2.1 ≠ (TX8 b).2.1 := by decide +kernel
theorem tyX8_ok : ∀ k, k < 9 → parseFieldDescriptor (TX8 k).2.2.1 = some (tyX8 k) := by decide +kernel
abbrev cX8_init : ByteArray := prog_10_method_1_code
def yX8_init : MethodName := ⟨RX8, "<init>", "(LAgingPortrait$State;)V"⟩
abbrev cX8_between : ByteArray := prog_10_method_2_code
def yX8_between : MethodName := ⟨RX8, "between", "(II)I"⟩
abbrev cX8_weigh : ByteArray := prog_10_method_3_code
def yX8_weigh : MethodName := ⟨RX8, "weigh", "()V"⟩
abbrev cX8_changed : ByteArray := prog_10_method_4_code
def yX8_changed : MethodName := ⟨RX8, "changed", "()I"⟩
abbrev cX8_waysInAll : ByteArray := prog_10_method_5_code
def yX8_waysInAll : MethodName := ⟨RX8, "waysInAll", "()I"⟩
abbrev cX8_parentOf : ByteArray := prog_10_method_6_code
def yX8_parentOf : MethodName := ⟨RX8, "parentOf", "(I)I"⟩
abbrev cX8_datedBy : ByteArray := prog_10_method_7_code
def yX8_datedBy : MethodName := ⟨RX8, "datedBy", "(II)I"⟩
abbrev cX8_learn : ByteArray := prog_10_method_8_code
def yX8_learn : MethodName := ⟨RX8, "learn", "()V"⟩
abbrev cX8_needBehind : ByteArray := prog_10_method_9_code
def yX8_needBehind : MethodName := ⟨RX8, "needBehind", "(II)I"⟩
abbrev cX8_sameIn : ByteArray := prog_10_method_10_code
def yX8_sameIn : MethodName := ⟨RX8, "sameIn", "(III)I"⟩
abbrev cX8_toneIn : ByteArray := prog_10_method_11_code
def yX8_toneIn : MethodName := ⟨RX8, "toneIn", "(II)I"⟩
abbrev cX8_fromLayer : ByteArray := prog_10_method_12_code
def yX8_fromLayer : MethodName := ⟨RX8, "fromLayer", "(II)I"⟩
abbrev cX8_weighSet : ByteArray := prog_10_method_13_code
def yX8_weighSet : MethodName := ⟨RX8, "weighSet", "(I)V"⟩
abbrev cX8_joinBranch : ByteArray := prog_10_method_14_code
def yX8_joinBranch : MethodName := ⟨RX8, "joinBranch", "(II)V"⟩
abbrev cX8_fits : ByteArray := prog_10_method_15_code
def yX8_fits : MethodName := ⟨RX8, "fits", "(LAgingPortrait$Stemma;II)Z"⟩
abbrev cX8_leastFrom : ByteArray := prog_10_method_16_code
def yX8_leastFrom : MethodName := ⟨RX8, "leastFrom", "(I)I"⟩
abbrev cX8_comesFrom : ByteArray := prog_10_method_17_code
def yX8_comesFrom : MethodName := ⟨RX8, "comesFrom", "(II)Z"⟩
def RX9 : String := "AgingPortrait$Studio"
def TX9 : u_T := fun k => match k with
  | 0 => ("AgingPortrait$Studio", "now", "LAgingPortrait$State;", true)
  | 1 => ("AgingPortrait$Studio", "judge", "LAgingPortrait$Judge;", true)
  | 2 => ("AgingPortrait$Studio", "aims", "[I", true)
  | _ => ("AgingPortrait$Studio", "laterAims", "[I", true)
def tyX9 : Nat → FieldType := fun k => match k with
  | 0 => .object "AgingPortrait$State"
  | 1 => .object "AgingPortrait$Judge"
  | 2 => .array .int
  | _ => .array .int
abbrev wsX90 : List Cond := u_ws RX9 TX9 4
theorem nmX9 : ∀ a, a < 4 → ∀ b, b < 4 → a ≠ b → (TX9 a).2.1 ≠ (TX9 b).2.1 := by decide +kernel
theorem tyX9_ok : ∀ k, k < 4 → parseFieldDescriptor (TX9 k).2.2.1 = some (tyX9 k) := by decide +kernel
abbrev cX9_init : ByteArray := prog_11_method_1_code
def yX9_init : MethodName := ⟨RX9, "<init>", "(LAgingPortrait$State;LAgingPortrait$Judge;)V"⟩
abbrev cX9_paintNext : ByteArray := prog_11_method_2_code
def yX9_paintNext : MethodName := ⟨RX9, "paintNext", "(I)V"⟩
abbrev cX9_unlikeOf : ByteArray := prog_11_method_3_code
def yX9_unlikeOf : MethodName := ⟨RX9, "unlikeOf", "(I)I"⟩
abbrev cX9_farCell : ByteArray := prog_11_method_4_code
def yX9_farCell : MethodName := ⟨RX9, "farCell", "(I)I"⟩
abbrev cX9_moneyBehind : ByteArray := prog_11_method_5_code
def yX9_moneyBehind : MethodName := ⟨RX9, "moneyBehind", "(I)I"⟩
abbrev cX9_whoCan : ByteArray := prog_11_method_6_code
def yX9_whoCan : MethodName := ⟨RX9, "whoCan", "(I)I"⟩
abbrev cX9_rowsInto : ByteArray := prog_11_method_7_code
def yX9_rowsInto : MethodName := ⟨RX9, "rowsInto", "(II)I"⟩
abbrev cX9_driftOf : ByteArray := prog_11_method_8_code
def yX9_driftOf : MethodName := ⟨RX9, "driftOf", "(II)I"⟩
abbrev cX9_undoingPair : ByteArray := prog_11_method_9_code
def yX9_undoingPair : MethodName := ⟨RX9, "undoingPair", "(I)I"⟩
abbrev cX9_firstTones : ByteArray := prog_11_method_10_code
def yX9_firstTones : MethodName := ⟨RX9, "firstTones", "(I)I"⟩
abbrev cX9_aimAt : ByteArray := prog_11_method_11_code
def yX9_aimAt : MethodName := ⟨RX9, "aimAt", "(I[I)V"⟩
abbrev cX9_comesOut : ByteArray := prog_11_method_12_code
def yX9_comesOut : MethodName := ⟨RX9, "comesOut", "(III)Z"⟩
abbrev cX9_carried : ByteArray := prog_11_method_13_code
def yX9_carried : MethodName := ⟨RX9, "carried", "(IIII)I"⟩
abbrev cX9_undo : ByteArray := prog_11_method_14_code
def yX9_undo : MethodName := ⟨RX9, "undo", "(II)Z"⟩
def RX10 : String := "AgingPortrait$Text"
def TX10 : u_T := fun k => match k with
  | 0 => ("AgingPortrait$Text", "rows", "[I", true)
  | 1 => ("AgingPortrait$Text", "steps", "[I", true)
  | 2 => ("AgingPortrait$Text", "clauses", "I", false)
  | 3 => ("AgingPortrait$Text", "length", "I", false)
  | _ => ("AgingPortrait$Text", "words", "I", false)
def tyX10 : Nat → FieldType := fun k => match k with
  | 0 => .array .int
  | 1 => .array .int
  | 2 => .int
  | 3 => .int
  | _ => .int
abbrev wsX100 : List Cond := u_ws RX10 TX10 5
theorem nmX10 : ∀ a, a < 5 → ∀ b, b < 5 → a ≠ b → (TX10 a).2.1 ≠ (TX10 b).2.1 := by decide +kernel
theorem tyX10_ok : ∀ k, k < 5 → parseFieldDescriptor (TX10 k).2.2.1 = some (tyX10 k) := by decide +kernel
abbrev cX10_init : ByteArray := prog_12_method_1_code
def yX10_init : MethodName := ⟨RX10, "<init>", "(II)V"⟩
abbrev cX10_clear : ByteArray := prog_12_method_2_code
def yX10_clear : MethodName := ⟨RX10, "clear", "()V"⟩
abbrev cX10_add : ByteArray := prog_12_method_3_code
def yX10_add : MethodName := ⟨RX10, "add", "(II)V"⟩
abbrev cX10_jumpHere : ByteArray := prog_12_method_4_code
def yX10_jumpHere : MethodName := ⟨RX10, "jumpHere", "(I)V"⟩
abbrev cX10_trimmed : ByteArray := prog_12_method_5_code
def yX10_trimmed : MethodName := ⟨RX10, "trimmed", "()LAgingPortrait$Text;"⟩
def RX11 : String := "AgingPortrait"
def TX11 : u_T := fun k => match k with
  | 0 => ("AgingPortrait", "now", "LAgingPortrait$State;", true)
  | 1 => ("AgingPortrait", "images", "[LAgingPortrait$State;", true)
  | 2 => ("AgingPortrait", "imagesKept", "I", false)
  | 3 => ("AgingPortrait", "tape", "[I", true)
  | 4 => ("AgingPortrait", "tapeLength", "I", false)
  | 5 => ("AgingPortrait", "reader", "LAgingPortrait$Reader;", true)
  | 6 => ("AgingPortrait", "read", "LAgingPortrait$Text;", true)
  | 7 => ("AgingPortrait", "judge", "LAgingPortrait$Judge;", true)
  | 8 => ("AgingPortrait", "studio", "LAgingPortrait$Studio;", true)
  | 9 => ("AgingPortrait", "planner", "LAgingPortrait$Planner;", true)
  | 10 => ("AgingPortrait", "stemma", "LAgingPortrait$Stemma;", true)
  | 11 => ("AgingPortrait", "court", "LAgingPortrait$Court;", true)
  | 12 => ("AgingPortrait", "clerk", "LAgingPortrait$Clerk;", true)
  | 13 => ("AgingPortrait", "latest", "LAgingPortrait$Century;", true)
  | 14 => ("AgingPortrait", "faultPlace", "I", false)
  | 15 => ("AgingPortrait", "flakesFallen", "I", false)
  | 16 => ("AgingPortrait", "stoppedAt", "I", false)
  | 17 => ("AgingPortrait", "lastStatus", "I", false)
  | _ => ("AgingPortrait", "refused", "[I", true)
def tyX11 : Nat → FieldType := fun k => match k with
  | 0 => .object "AgingPortrait$State"
  | 1 => .array (.object "AgingPortrait$State")
  | 2 => .int
  | 3 => .array .int
  | 4 => .int
  | 5 => .object "AgingPortrait$Reader"
  | 6 => .object "AgingPortrait$Text"
  | 7 => .object "AgingPortrait$Judge"
  | 8 => .object "AgingPortrait$Studio"
  | 9 => .object "AgingPortrait$Planner"
  | 10 => .object "AgingPortrait$Stemma"
  | 11 => .object "AgingPortrait$Court"
  | 12 => .object "AgingPortrait$Clerk"
  | 13 => .object "AgingPortrait$Century"
  | 14 => .int
  | 15 => .int
  | 16 => .int
  | 17 => .int
  | _ => .array .int
abbrev wsX110 : List Cond := u_ws RX11 TX11 19
theorem nmX11 : ∀ a, a < 19 → ∀ b, b < 19 → a ≠ b → (TX11 a).2.1 ≠ (TX11 b).2.1 := by decide +kernel
theorem tyX11_ok : ∀ k, k < 19 → parseFieldDescriptor (TX11 k).2.2.1 = some (tyX11 k) := by decide +kernel
abbrev cX11_init : ByteArray := prog_1_method_1_code
def yX11_init : MethodName := ⟨RX11, "<init>", "()V"⟩
abbrev cX11_first : ByteArray := prog_1_method_2_code
def yX11_first : MethodName := ⟨RX11, "first", "(II)I"⟩
abbrev cX11_painter : ByteArray := prog_1_method_3_code
def yX11_painter : MethodName := ⟨RX11, "painter", "(II)I"⟩
abbrev cX11_err : ByteArray := prog_1_method_4_code
def yX11_err : MethodName := ⟨RX11, "err", "(III)I"⟩
abbrev cX11_of : ByteArray := prog_1_method_5_code
def yX11_of : MethodName := ⟨RX11, "of", "(II)I"⟩
abbrev cX11_terms : ByteArray := prog_1_method_6_code
def yX11_terms : MethodName := ⟨RX11, "terms", "(II)I"⟩
abbrev cX11_scar : ByteArray := prog_1_method_7_code
def yX11_scar : MethodName := ⟨RX11, "scar", "(III)I"⟩
abbrev cX11_heal : ByteArray := prog_1_method_8_code
def yX11_heal : MethodName := ⟨RX11, "heal", "(I)I"⟩
abbrev cX11_feed : ByteArray := prog_1_method_9_code
def yX11_feed : MethodName := ⟨RX11, "feed", "(IIIII)I"⟩
abbrev cX11_end : ByteArray := prog_1_method_10_code
def yX11_end : MethodName := ⟨RX11, "end", "(I)I"⟩
abbrev cX11_row : ByteArray := prog_1_method_11_code
def yX11_row : MethodName := ⟨RX11, "row", "()I"⟩
abbrev cX11_flakes : ByteArray := prog_1_method_12_code
def yX11_flakes : MethodName := ⟨RX11, "flakes", "()I"⟩
abbrev cX11_law : ByteArray := prog_1_method_13_code
def yX11_law : MethodName := ⟨RX11, "law", "()I"⟩
abbrev cX11_orders : ByteArray := prog_1_method_14_code
def yX11_orders : MethodName := ⟨RX11, "orders", "()I"⟩
abbrev cX11_fault : ByteArray := prog_1_method_15_code
def yX11_fault : MethodName := ⟨RX11, "fault", "()I"⟩
abbrev cX11_stopped : ByteArray := prog_1_method_16_code
def yX11_stopped : MethodName := ⟨RX11, "stopped", "()I"⟩
abbrev cX11_force : ByteArray := prog_1_method_17_code
def yX11_force : MethodName := ⟨RX11, "force", "(I)I"⟩
abbrev cX11_looks : ByteArray := prog_1_method_18_code
def yX11_looks : MethodName := ⟨RX11, "looks", "(III)I"⟩
abbrev cX11_asks : ByteArray := prog_1_method_19_code
def yX11_asks : MethodName := ⟨RX11, "asks", "(III)I"⟩
abbrev cX11_paint : ByteArray := prog_1_method_20_code
def yX11_paint : MethodName := ⟨RX11, "paint", "(I)I"⟩
abbrev cX11_scrape : ByteArray := prog_1_method_21_code
def yX11_scrape : MethodName := ⟨RX11, "scrape", "()I"⟩
abbrev cX11_tone : ByteArray := prog_1_method_22_code
def yX11_tone : MethodName := ⟨RX11, "tone", "(II)I"⟩
abbrev cX11_layer : ByteArray := prog_1_method_23_code
def yX11_layer : MethodName := ⟨RX11, "layer", "(II)I"⟩
abbrev cX11_unlawful : ByteArray := prog_1_method_24_code
def yX11_unlawful : MethodName := ⟨RX11, "unlawful", "()I"⟩
abbrev cX11_money : ByteArray := prog_1_method_25_code
def yX11_money : MethodName := ⟨RX11, "money", "(I)I"⟩
abbrev cX11_broke : ByteArray := prog_1_method_26_code
def yX11_broke : MethodName := ⟨RX11, "broke", "()I"⟩
abbrev cX11_plan : ByteArray := prog_1_method_27_code
def yX11_plan : MethodName := ⟨RX11, "plan", "(III)I"⟩
abbrev cX11_drift : ByteArray := prog_1_method_28_code
def yX11_drift : MethodName := ⟨RX11, "drift", "(III)I"⟩
abbrev cX11_undoing : ByteArray := prog_1_method_29_code
def yX11_undoing : MethodName := ⟨RX11, "undoing", "(I)I"⟩
abbrev cX11_copy : ByteArray := prog_1_method_30_code
def yX11_copy : MethodName := ⟨RX11, "copy", "()I"⟩
abbrev cX11_touch : ByteArray := prog_1_method_31_code
def yX11_touch : MethodName := ⟨RX11, "touch", "(III)I"⟩
abbrev cX11_burn : ByteArray := prog_1_method_32_code
def yX11_burn : MethodName := ⟨RX11, "burn", "()I"⟩
abbrev cX11_near : ByteArray := prog_1_method_33_code
def yX11_near : MethodName := ⟨RX11, "near", "(I)I"⟩
abbrev cX11_like : ByteArray := prog_1_method_34_code
def yX11_like : MethodName := ⟨RX11, "like", "(II)I"⟩
abbrev cX11_tree : ByteArray := prog_1_method_35_code
def yX11_tree : MethodName := ⟨RX11, "tree", "(I)I"⟩
abbrev cX11_trees : ByteArray := prog_1_method_36_code
def yX11_trees : MethodName := ⟨RX11, "trees", "()I"⟩
abbrev cX11_dated : ByteArray := prog_1_method_37_code
def yX11_dated : MethodName := ⟨RX11, "dated", "(II)I"⟩
abbrev cX11_know : ByteArray := prog_1_method_38_code
def yX11_know : MethodName := ⟨RX11, "know", "(I)I"⟩
abbrev cX11_who : ByteArray := prog_1_method_39_code
def yX11_who : MethodName := ⟨RX11, "who", "(I)I"⟩
abbrev cX11_forge : ByteArray := prog_1_method_40_code
def yX11_forge : MethodName := ⟨RX11, "forge", "(III)I"⟩
abbrev cX11_skipped : ByteArray := prog_1_method_41_code
def yX11_skipped : MethodName := ⟨RX11, "skipped", "()I"⟩
abbrev cX11_missing : ByteArray := prog_1_method_42_code
def yX11_missing : MethodName := ⟨RX11, "missing", "(II)I"⟩
abbrev cX11_was : ByteArray := prog_1_method_43_code
def yX11_was : MethodName := ⟨RX11, "was", "(I)I"⟩
abbrev cX11_ways : ByteArray := prog_1_method_44_code
def yX11_ways : MethodName := ⟨RX11, "ways", "()J"⟩
abbrev cX11_claimant : ByteArray := prog_1_method_45_code
def yX11_claimant : MethodName := ⟨RX11, "claimant", "(IIII)I"⟩
abbrev cX11_claim : ByteArray := prog_1_method_46_code
def yX11_claim : MethodName := ⟨RX11, "claim", "(III)I"⟩
abbrev cX11_born : ByteArray := prog_1_method_47_code
def yX11_born : MethodName := ⟨RX11, "born", "(II)I"⟩
abbrev cX11_stands : ByteArray := prog_1_method_48_code
def yX11_stands : MethodName := ⟨RX11, "stands", "(III)I"⟩
abbrev cX11_ruler : ByteArray := prog_1_method_49_code
def yX11_ruler : MethodName := ⟨RX11, "ruler", "(I)I"⟩
abbrev cX11_reign : ByteArray := prog_1_method_50_code
def yX11_reign : MethodName := ⟨RX11, "reign", "(II)I"⟩
abbrev cX11_vacant : ByteArray := prog_1_method_51_code
def yX11_vacant : MethodName := ⟨RX11, "vacant", "()I"⟩
abbrev cX11_line : ByteArray := prog_1_method_52_code
def yX11_line : MethodName := ⟨RX11, "line", "(II)I"⟩
abbrev cX11_century : ByteArray := prog_1_method_53_code
def yX11_century : MethodName := ⟨RX11, "century", "(II)I"⟩
abbrev cX11_drawn : ByteArray := prog_1_method_54_code
def yX11_drawn : MethodName := ⟨RX11, "drawn", "(I)I"⟩
abbrev cX11_image : ByteArray := prog_1_method_55_code
def yX11_image : MethodName := ⟨RX11, "image", "(I)I"⟩
abbrev cX11_back : ByteArray := prog_1_method_56_code
def yX11_back : MethodName := ⟨RX11, "back", "(I)I"⟩
abbrev cX11_count : ByteArray := prog_1_method_57_code
def yX11_count : MethodName := ⟨RX11, "count", "(I)I"⟩
abbrev cX11_status : ByteArray := prog_1_method_58_code
def yX11_status : MethodName := ⟨RX11, "status", "()I"⟩
abbrev cX11_answer : ByteArray := prog_1_method_59_code
def yX11_answer : MethodName := ⟨RX11, "answer", "(I)I"⟩
abbrev cX11_refuse : ByteArray := prog_1_method_60_code
def yX11_refuse : MethodName := ⟨RX11, "refuse", "(I)I"⟩
abbrev cX11_putBytes : ByteArray := prog_1_method_61_code
def yX11_putBytes : MethodName := ⟨RX11, "putBytes", "(I)V"⟩
abbrev cX11_heirs : ByteArray := prog_1_method_62_code
def yX11_heirs : MethodName := ⟨RX11, "heirs", "()I"⟩
abbrev cX11_isRootOrCopy : ByteArray := prog_1_method_63_code
def yX11_isRootOrCopy : MethodName := ⟨RX11, "isRootOrCopy", "(I)Z"⟩
abbrev cX11_highestTerm : ByteArray := prog_1_method_64_code
def yX11_highestTerm : MethodName := ⟨RX11, "highestTerm", "(I)I"⟩
abbrev cX11_inside : ByteArray := prog_1_method_65_code
def yX11_inside : MethodName := ⟨RX11, "inside", "(II)Z"⟩
abbrev cX11_isCell : ByteArray := prog_1_method_66_code
def yX11_isCell : MethodName := ⟨RX11, "isCell", "(I)Z"⟩
abbrev cX11_isTone : ByteArray := prog_1_method_67_code
def yX11_isTone : MethodName := ⟨RX11, "isTone", "(I)Z"⟩
abbrev cX11_canBeCopy : ByteArray := prog_1_method_68_code
def yX11_canBeCopy : MethodName := ⟨RX11, "canBeCopy", "(I)Z"⟩
abbrev cX11_bit : ByteArray := prog_1_method_69_code
def yX11_bit : MethodName := ⟨RX11, "bit", "(Z)I"⟩
abbrev cX11_lowestIn : ByteArray := prog_1_method_70_code
def yX11_lowestIn : MethodName := ⟨RX11, "lowestIn", "(I)I"⟩
abbrev cX11_highestIn : ByteArray := prog_1_method_71_code
def yX11_highestIn : MethodName := ⟨RX11, "highestIn", "(I)I"⟩
abbrev cX11_nearest : ByteArray := prog_1_method_72_code
def yX11_nearest : MethodName := ⟨RX11, "nearest", "(III)I"⟩
def RX12 : String := "AgingPortraitModel"
def TX12 : u_T := fun k => match k with
  | 0 => ("AgingPortraitModel", "thrown", "I", false)
  | 1 => ("AgingPortraitModel", "status", "I", false)
  | 2 => ("AgingPortraitModel", "refusals", "[I", true)
  | 3 => ("AgingPortraitModel", "row", "[I", true)
  | 4 => ("AgingPortraitModel", "images", "[I", true)
  | 5 => ("AgingPortraitModel", "before", "[I", true)
  | 6 => ("AgingPortraitModel", "isKept", "[Z", true)
  | 7 => ("AgingPortraitModel", "flakes", "I", false)
  | 8 => ("AgingPortraitModel", "tape", "[I", true)
  | 9 => ("AgingPortraitModel", "taped", "I", false)
  | 10 => ("AgingPortraitModel", "from", "I", false)
  | 11 => ("AgingPortraitModel", "to", "I", false)
  | 12 => ("AgingPortraitModel", "sort", "I", false)
  | 13 => ("AgingPortraitModel", "worth", "J", false)
  | 14 => ("AgingPortraitModel", "fault", "I", false)
  | 15 => ("AgingPortraitModel", "bad", "Z", false)
  | 16 => ("AgingPortraitModel", "ordered", "Z", false)
  | 17 => ("AgingPortraitModel", "nClauses", "I", false)
  | 18 => ("AgingPortraitModel", "nClause", "[I", true)
  | 19 => ("AgingPortraitModel", "nCode", "I", false)
  | 20 => ("AgingPortraitModel", "nOp", "[I", true)
  | 21 => ("AgingPortraitModel", "nArg", "[I", true)
  | 22 => ("AgingPortraitModel", "nLeaves", "I", false)
  | 23 => ("AgingPortraitModel", "pile", "[I", true)
  | 24 => ("AgingPortraitModel", "pileAt", "[I", true)
  | 25 => ("AgingPortraitModel", "piled", "I", false)
  | 26 => ("AgingPortraitModel", "opened", "I", false)
  | 27 => ("AgingPortraitModel", "words", "[J", true)
  | 28 => ("AgingPortraitModel", "orderWords", "[J", true)
  | 29 => ("AgingPortraitModel", "headWords", "[J", true)
  | 30 => ("AgingPortraitModel", "law", "I", false)
  | 31 => ("AgingPortraitModel", "set", "[J", true)
  | 32 => ("AgingPortraitModel", "now", "[J", true)
  | 33 => ("AgingPortraitModel", "rest", "[J", true)
  | 34 => ("AgingPortraitModel", "broken", "Z", false)
  | 35 => ("AgingPortraitModel", "value", "J", false)
  | 36 => ("AgingPortraitModel", "sum", "J", false)
  | 37 => ("AgingPortraitModel", "look", "[I", true)
  | 38 => ("AgingPortraitModel", "paper", "[I", true)
  | 39 => ("AgingPortraitModel", "rowOf", "[I", true)
  | 40 => ("AgingPortraitModel", "best", "[I", true)
  | 41 => ("AgingPortraitModel", "asked", "[I", true)
  | 42 => ("AgingPortraitModel", "bars", "[Z", true)
  | 43 => ("AgingPortraitModel", "lawful", "[Z", true)
  | 44 => ("AgingPortraitModel", "bestUnlike", "I", false)
  | 45 => ("AgingPortraitModel", "bestAsks", "I", false)
  | 46 => ("AgingPortraitModel", "ways", "I", false)
  | 47 => ("AgingPortraitModel", "parents", "[I", true)
  | 48 => ("AgingPortraitModel", "firstTree", "[I", true)
  | 49 => ("AgingPortraitModel", "treeLeast", "I", false)
  | 50 => ("AgingPortraitModel", "treeWays", "I", false)
  | 51 => ("AgingPortraitModel", "depths", "[I", true)
  | 52 => ("AgingPortraitModel", "rules", "[I", true)
  | 53 => ("AgingPortraitModel", "rankOf", "[I", true)
  | 54 => ("AgingPortraitModel", "nOrder", "[I", true)
  | 55 => ("AgingPortraitModel", "done", "I", false)
  | 56 => ("AgingPortraitModel", "stopped", "I", false)
  | 57 => ("AgingPortraitModel", "state", "J", false)
  | 58 => ("AgingPortraitModel", "drawn", "[I", true)
  | 59 => ("AgingPortraitModel", "isCentury", "Z", false)
  | _ => ("AgingPortraitModel", "nDrawn", "I", false)
def tyX12 : Nat → FieldType := fun k => match k with
  | 0 => .int
  | 1 => .int
  | 2 => .array .int
  | 3 => .array .int
  | 4 => .array .int
  | 5 => .array .int
  | 6 => .array .boolean
  | 7 => .int
  | 8 => .array .int
  | 9 => .int
  | 10 => .int
  | 11 => .int
  | 12 => .int
  | 13 => .long
  | 14 => .int
  | 15 => .boolean
  | 16 => .boolean
  | 17 => .int
  | 18 => .array .int
  | 19 => .int
  | 20 => .array .int
  | 21 => .array .int
  | 22 => .int
  | 23 => .array .int
  | 24 => .array .int
  | 25 => .int
  | 26 => .int
  | 27 => .array .long
  | 28 => .array .long
  | 29 => .array .long
  | 30 => .int
  | 31 => .array .long
  | 32 => .array .long
  | 33 => .array .long
  | 34 => .boolean
  | 35 => .long
  | 36 => .long
  | 37 => .array .int
  | 38 => .array .int
  | 39 => .array .int
  | 40 => .array .int
  | 41 => .array .int
  | 42 => .array .boolean
  | 43 => .array .boolean
  | 44 => .int
  | 45 => .int
  | 46 => .int
  | 47 => .array .int
  | 48 => .array .int
  | 49 => .int
  | 50 => .int
  | 51 => .array .int
  | 52 => .array .int
  | 53 => .array .int
  | 54 => .array .int
  | 55 => .int
  | 56 => .int
  | 57 => .long
  | 58 => .array .int
  | 59 => .boolean
  | _ => .int
abbrev wsX120 : List Cond := u_ws RX12 TX12 61
theorem nmX12 : ∀ a, a < 61 → ∀ b, b < 61 → a ≠ b → (TX12 a).2.1 ≠ (TX12 b).2.1 := by decide +kernel
theorem tyX12_ok : ∀ k, k < 61 → parseFieldDescriptor (TX12 k).2.2.1 = some (tyX12 k) := by decide +kernel
abbrev cX12_init : ByteArray := prog_14_method_1_code
def yX12_init : MethodName := ⟨RX12, "<init>", "()V"⟩
abbrev cX12_in : ByteArray := prog_14_method_3_code
def yX12_in : MethodName := ⟨RX12, "in", "(JJJ)Z"⟩
abbrev cX12_is : ByteArray := prog_14_method_4_code
def yX12_is : MethodName := ⟨RX12, "is", "(II)Z"⟩
abbrev cX12_size : ByteArray := prog_14_method_5_code
def yX12_size : MethodName := ⟨RX12, "size", "(I)I"⟩
abbrev cX12_within : ByteArray := prog_14_method_6_code
def yX12_within : MethodName := ⟨RX12, "within", "(JII)I"⟩
abbrev cX12_tell : ByteArray := prog_14_method_7_code
def yX12_tell : MethodName := ⟨RX12, "tell", "(I)I"⟩
abbrev cX12_change : ByteArray := prog_14_method_8_code
def yX12_change : MethodName := ⟨RX12, "change", "(II)I"⟩
abbrev cX12_image : ByteArray := prog_14_method_9_code
def yX12_image : MethodName := ⟨RX12, "image", "(I)I"⟩
abbrev cX12_back : ByteArray := prog_14_method_10_code
def yX12_back : MethodName := ⟨RX12, "back", "(I)I"⟩
abbrev cX12_isCell : ByteArray := prog_14_method_11_code
def yX12_isCell : MethodName := ⟨RX12, "isCell", "(I)Z"⟩
abbrev cX12_isTone : ByteArray := prog_14_method_12_code
def yX12_isTone : MethodName := ⟨RX12, "isTone", "(I)Z"⟩
abbrev cX12_isYear : ByteArray := prog_14_method_13_code
def yX12_isYear : MethodName := ⟨RX12, "isYear", "(I)Z"⟩
abbrev cX12_years : ByteArray := prog_14_method_14_code
def yX12_years : MethodName := ⟨RX12, "years", "()I"⟩
abbrev cX12_isLayer : ByteArray := prog_14_method_15_code
def yX12_isLayer : MethodName := ⟨RX12, "isLayer", "(I)Z"⟩
abbrev cX12_isPainter : ByteArray := prog_14_method_16_code
def yX12_isPainter : MethodName := ⟨RX12, "isPainter", "(I)Z"⟩
abbrev cX12_isCopy : ByteArray := prog_14_method_17_code
def yX12_isCopy : MethodName := ⟨RX12, "isCopy", "(I)Z"⟩
abbrev cX12_isClaimant : ByteArray := prog_14_method_18_code
def yX12_isClaimant : MethodName := ⟨RX12, "isClaimant", "(I)Z"⟩
abbrev cX12_toneAt : ByteArray := prog_14_method_19_code
def yX12_toneAt : MethodName := ⟨RX12, "toneAt", "(II)I"⟩
abbrev cX12_seen : ByteArray := prog_14_method_20_code
def yX12_seen : MethodName := ⟨RX12, "seen", "(I)I"⟩
abbrev cX12_first : ByteArray := prog_14_method_21_code
def yX12_first : MethodName := ⟨RX12, "first", "(II)I"⟩
abbrev cX12_painter : ByteArray := prog_14_method_22_code
def yX12_painter : MethodName := ⟨RX12, "painter", "(II)I"⟩
abbrev cX12_err : ByteArray := prog_14_method_23_code
def yX12_err : MethodName := ⟨RX12, "err", "(III)I"⟩
abbrev cX12_of : ByteArray := prog_14_method_24_code
def yX12_of : MethodName := ⟨RX12, "of", "(II)I"⟩
abbrev cX12_isTerm : ByteArray := prog_14_method_25_code
def yX12_isTerm : MethodName := ⟨RX12, "isTerm", "(II)Z"⟩
abbrev cX12_terms : ByteArray := prog_14_method_26_code
def yX12_terms : MethodName := ⟨RX12, "terms", "(II)I"⟩
abbrev cX12_scar : ByteArray := prog_14_method_27_code
def yX12_scar : MethodName := ⟨RX12, "scar", "(III)I"⟩
abbrev cX12_heal : ByteArray := prog_14_method_28_code
def yX12_heal : MethodName := ⟨RX12, "heal", "(I)I"⟩
abbrev cX12_row : ByteArray := prog_14_method_29_code
def yX12_row : MethodName := ⟨RX12, "row", "()I"⟩
abbrev cX12_flakes : ByteArray := prog_14_method_30_code
def yX12_flakes : MethodName := ⟨RX12, "flakes", "()I"⟩
abbrev cX12_four : ByteArray := prog_14_method_31_code
def yX12_four : MethodName := ⟨RX12, "four", "(I)V"⟩
abbrev cX12_feed : ByteArray := prog_14_method_32_code
def yX12_feed : MethodName := ⟨RX12, "feed", "(IIIII)I"⟩
abbrev cX12_end : ByteArray := prog_14_method_33_code
def yX12_end : MethodName := ⟨RX12, "end", "(I)I"⟩
abbrev cX12_isSmall : ByteArray := prog_14_method_34_code
def yX12_isSmall : MethodName := ⟨RX12, "isSmall", "(I)Z"⟩
abbrev cX12_isDigit : ByteArray := prog_14_method_35_code
def yX12_isDigit : MethodName := ⟨RX12, "isDigit", "(I)Z"⟩
abbrev cX12_begin : ByteArray := prog_14_method_36_code
def yX12_begin : MethodName := ⟨RX12, "begin", "()V"⟩
abbrev cX12_next : ByteArray := prog_14_method_37_code
def yX12_next : MethodName := ⟨RX12, "next", "()V"⟩
abbrev cX12_isWord : ByteArray := prog_14_method_38_code
def yX12_isWord : MethodName := ⟨RX12, "isWord", "(J)Z"⟩
abbrev cX12_isSign : ByteArray := prog_14_method_39_code
def yX12_isSign : MethodName := ⟨RX12, "isSign", "(I)Z"⟩
abbrev cX12_must : ByteArray := prog_14_method_40_code
def yX12_must : MethodName := ⟨RX12, "must", "(Z)V"⟩
abbrev cX12_number : ByteArray := prog_14_method_41_code
def yX12_number : MethodName := ⟨RX12, "number", "(JJ)I"⟩
abbrev cX12_fault : ByteArray := prog_14_method_42_code
def yX12_fault : MethodName := ⟨RX12, "fault", "()I"⟩
abbrev cX12_emit : ByteArray := prog_14_method_43_code
def yX12_emit : MethodName := ⟨RX12, "emit", "(II)V"⟩
abbrev cX12_push : ByteArray := prog_14_method_44_code
def yX12_push : MethodName := ⟨RX12, "push", "(II)V"⟩
abbrev cX12_binds : ByteArray := prog_14_method_45_code
def yX12_binds : MethodName := ⟨RX12, "binds", "(I)I"⟩
abbrev cX12_settle : ByteArray := prog_14_method_46_code
def yX12_settle : MethodName := ⟨RX12, "settle", "(I)V"⟩
abbrev cX12_inner : ByteArray := prog_14_method_47_code
def yX12_inner : MethodName := ⟨RX12, "inner", "()I"⟩
abbrev cX12_isCompared : ByteArray := prog_14_method_48_code
def yX12_isCompared : MethodName := ⟨RX12, "isCompared", "()Z"⟩
abbrev cX12_partAt : ByteArray := prog_14_method_49_code
def yX12_partAt : MethodName := ⟨RX12, "partAt", "()I"⟩
abbrev cX12_orderPartAt : ByteArray := prog_14_method_50_code
def yX12_orderPartAt : MethodName := ⟨RX12, "orderPartAt", "()I"⟩
abbrev cX12_openBracket : ByteArray := prog_14_method_51_code
def yX12_openBracket : MethodName := ⟨RX12, "openBracket", "(I)V"⟩
abbrev cX12_leaf : ByteArray := prog_14_method_52_code
def yX12_leaf : MethodName := ⟨RX12, "leaf", "(ZII)V"⟩
abbrev cX12_readPart : ByteArray := prog_14_method_53_code
def yX12_readPart : MethodName := ⟨RX12, "readPart", "()I"⟩
abbrev cX12_readPlain : ByteArray := prog_14_method_54_code
def yX12_readPlain : MethodName := ⟨RX12, "readPlain", "()I"⟩
abbrev cX12_behindSum : ByteArray := prog_14_method_55_code
def yX12_behindSum : MethodName := ⟨RX12, "behindSum", "(Z)I"⟩
abbrev cX12_behindTest : ByteArray := prog_14_method_56_code
def yX12_behindTest : MethodName := ⟨RX12, "behindTest", "()I"⟩
abbrev cX12_readExpression : ByteArray := prog_14_method_57_code
def yX12_readExpression : MethodName := ⟨RX12, "readExpression", "(Z)V"⟩
abbrev cX12_readClause : ByteArray := prog_14_method_58_code
def yX12_readClause : MethodName := ⟨RX12, "readClause", "()V"⟩
abbrev cX12_beginText : ByteArray := prog_14_method_59_code
def yX12_beginText : MethodName := ⟨RX12, "beginText", "(Z)V"⟩
abbrev cX12_endText : ByteArray := prog_14_method_60_code
def yX12_endText : MethodName := ⟨RX12, "endText", "()V"⟩
abbrev cX12_law : ByteArray := prog_14_method_61_code
def yX12_law : MethodName := ⟨RX12, "law", "()I"⟩
abbrev cX12_force : ByteArray := prog_14_method_62_code
def yX12_force : MethodName := ⟨RX12, "force", "(I)I"⟩
abbrev cX12_reckon : ByteArray := prog_14_method_63_code
def yX12_reckon : MethodName := ⟨RX12, "reckon", "(IJJ)J"⟩
abbrev cX12_reckonAll : ByteArray := prog_14_method_64_code
def yX12_reckonAll : MethodName := ⟨RX12, "reckonAll", "(II)V"⟩
abbrev cX12_isSo : ByteArray := prog_14_method_65_code
def yX12_isSo : MethodName := ⟨RX12, "isSo", "(I)Z"⟩
abbrev cX12_tells : ByteArray := prog_14_method_66_code
def yX12_tells : MethodName := ⟨RX12, "tells", "(IJ)J"⟩
abbrev cX12_setNone : ByteArray := prog_14_method_67_code
def yX12_setNone : MethodName := ⟨RX12, "setNone", "(I)V"⟩
abbrev cX12_ageIn : ByteArray := prog_14_method_68_code
def yX12_ageIn : MethodName := ⟨RX12, "ageIn", "(I)I"⟩
abbrev cX12_looksOf : ByteArray := prog_14_method_69_code
def yX12_looksOf : MethodName := ⟨RX12, "looksOf", "(II)I"⟩
abbrev cX12_letsOf : ByteArray := prog_14_method_70_code
def yX12_letsOf : MethodName := ⟨RX12, "letsOf", "(II)I"⟩
abbrev cX12_setPainter : ByteArray := prog_14_method_71_code
def yX12_setPainter : MethodName := ⟨RX12, "setPainter", "(II)V"⟩
abbrev cX12_asksOf : ByteArray := prog_14_method_72_code
def yX12_asksOf : MethodName := ⟨RX12, "asksOf", "(II)I"⟩
abbrev cX12_isBarred : ByteArray := prog_14_method_73_code
def yX12_isBarred : MethodName := ⟨RX12, "isBarred", "(II)Z"⟩
abbrev cX12_looks : ByteArray := prog_14_method_74_code
def yX12_looks : MethodName := ⟨RX12, "looks", "(III)I"⟩
abbrev cX12_asks : ByteArray := prog_14_method_75_code
def yX12_asks : MethodName := ⟨RX12, "asks", "(III)I"⟩
abbrev cX12_layLooks : ByteArray := prog_14_method_76_code
def yX12_layLooks : MethodName := ⟨RX12, "layLooks", "(I)V"⟩
abbrev cX12_painted : ByteArray := prog_14_method_77_code
def yX12_painted : MethodName := ⟨RX12, "painted", "(IIII)I"⟩
abbrev cX12_paintPaper : ByteArray := prog_14_method_78_code
def yX12_paintPaper : MethodName := ⟨RX12, "paintPaper", "(IIII)V"⟩
abbrev cX12_loadPaper : ByteArray := prog_14_method_79_code
def yX12_loadPaper : MethodName := ⟨RX12, "loadPaper", "(II)V"⟩
abbrev cX12_unlikePaper : ByteArray := prog_14_method_80_code
def yX12_unlikePaper : MethodName := ⟨RX12, "unlikePaper", "(II)I"⟩
abbrev cX12_unlikeOf : ByteArray := prog_14_method_81_code
def yX12_unlikeOf : MethodName := ⟨RX12, "unlikeOf", "(I)I"⟩
abbrev cX12_rests : ByteArray := prog_14_method_82_code
def yX12_rests : MethodName := ⟨RX12, "rests", "(II)Z"⟩
abbrev cX12_paintNow : ByteArray := prog_14_method_83_code
def yX12_paintNow : MethodName := ⟨RX12, "paintNow", "(I)I"⟩
abbrev cX12_paint : ByteArray := prog_14_method_84_code
def yX12_paint : MethodName := ⟨RX12, "paint", "(I)I"⟩
abbrev cX12_scrape : ByteArray := prog_14_method_85_code
def yX12_scrape : MethodName := ⟨RX12, "scrape", "()I"⟩
abbrev cX12_tone : ByteArray := prog_14_method_86_code
def yX12_tone : MethodName := ⟨RX12, "tone", "(II)I"⟩
abbrev cX12_tooFar : ByteArray := prog_14_method_87_code
def yX12_tooFar : MethodName := ⟨RX12, "tooFar", "(II)I"⟩
abbrev cX12_tooFarIn : ByteArray := prog_14_method_88_code
def yX12_tooFarIn : MethodName := ⟨RX12, "tooFarIn", "(I)I"⟩
abbrev cX12_layer : ByteArray := prog_14_method_89_code
def yX12_layer : MethodName := ⟨RX12, "layer", "(II)I"⟩
abbrev cX12_unlawful : ByteArray := prog_14_method_90_code
def yX12_unlawful : MethodName := ⟨RX12, "unlawful", "()I"⟩
abbrev cX12_moneyBehind : ByteArray := prog_14_method_91_code
def yX12_moneyBehind : MethodName := ⟨RX12, "moneyBehind", "(I)I"⟩
abbrev cX12_money : ByteArray := prog_14_method_92_code
def yX12_money : MethodName := ⟨RX12, "money", "(I)I"⟩
abbrev cX12_broke : ByteArray := prog_14_method_93_code
def yX12_broke : MethodName := ⟨RX12, "broke", "()I"⟩
abbrev cX12_restsInRow : ByteArray := prog_14_method_94_code
def yX12_restsInRow : MethodName := ⟨RX12, "restsInRow", "(II)Z"⟩
abbrev cX12_goThrough : ByteArray := prog_14_method_95_code
def yX12_goThrough : MethodName := ⟨RX12, "goThrough", "(II)V"⟩
abbrev cX12_weigh : ByteArray := prog_14_method_96_code
def yX12_weigh : MethodName := ⟨RX12, "weigh", "(II)V"⟩
abbrev cX12_plan : ByteArray := prog_14_method_97_code
def yX12_plan : MethodName := ⟨RX12, "plan", "(III)I"⟩
abbrev cX12_driftOf : ByteArray := prog_14_method_98_code
def yX12_driftOf : MethodName := ⟨RX12, "driftOf", "(II)I"⟩
abbrev cX12_drift : ByteArray := prog_14_method_99_code
def yX12_drift : MethodName := ⟨RX12, "drift", "(III)I"⟩
abbrev cX12_undoing : ByteArray := prog_14_method_100_code
def yX12_undoing : MethodName := ⟨RX12, "undoing", "(I)I"⟩
abbrev cX12_isSame : ByteArray := prog_14_method_101_code
def yX12_isSame : MethodName := ⟨RX12, "isSame", "(II)Z"⟩
abbrev cX12_copyNow : ByteArray := prog_14_method_102_code
def yX12_copyNow : MethodName := ⟨RX12, "copyNow", "()I"⟩
abbrev cX12_copy : ByteArray := prog_14_method_103_code
def yX12_copy : MethodName := ⟨RX12, "copy", "()I"⟩
abbrev cX12_touch : ByteArray := prog_14_method_104_code
def yX12_touch : MethodName := ⟨RX12, "touch", "(III)I"⟩
abbrev cX12_burn : ByteArray := prog_14_method_105_code
def yX12_burn : MethodName := ⟨RX12, "burn", "()I"⟩
abbrev cX12_apart : ByteArray := prog_14_method_106_code
def yX12_apart : MethodName := ⟨RX12, "apart", "(II)I"⟩
abbrev cX12_nearOf : ByteArray := prog_14_method_107_code
def yX12_nearOf : MethodName := ⟨RX12, "nearOf", "(I)I"⟩
abbrev cX12_near : ByteArray := prog_14_method_108_code
def yX12_near : MethodName := ⟨RX12, "near", "(I)I"⟩
abbrev cX12_pictureAt : ByteArray := prog_14_method_109_code
def yX12_pictureAt : MethodName := ⟨RX12, "pictureAt", "(I)I"⟩
abbrev cX12_like : ByteArray := prog_14_method_110_code
def yX12_like : MethodName := ⟨RX12, "like", "(II)I"⟩
abbrev cX12_isTree : ByteArray := prog_14_method_111_code
def yX12_isTree : MethodName := ⟨RX12, "isTree", "(I)Z"⟩
abbrev cX12_findTree : ByteArray := prog_14_method_112_code
def yX12_findTree : MethodName := ⟨RX12, "findTree", "()V"⟩
abbrev cX12_tree : ByteArray := prog_14_method_113_code
def yX12_tree : MethodName := ⟨RX12, "tree", "(I)I"⟩
abbrev cX12_trees : ByteArray := prog_14_method_114_code
def yX12_trees : MethodName := ⟨RX12, "trees", "()I"⟩
abbrev cX12_dated : ByteArray := prog_14_method_115_code
def yX12_dated : MethodName := ⟨RX12, "dated", "(II)I"⟩
abbrev cX12_worst : ByteArray := prog_14_method_116_code
def yX12_worst : MethodName := ⟨RX12, "worst", "(II)I"⟩
abbrev cX12_findDepths : ByteArray := prog_14_method_117_code
def yX12_findDepths : MethodName := ⟨RX12, "findDepths", "()V"⟩
abbrev cX12_know : ByteArray := prog_14_method_118_code
def yX12_know : MethodName := ⟨RX12, "know", "(I)I"⟩
abbrev cX12_whoOf : ByteArray := prog_14_method_119_code
def yX12_whoOf : MethodName := ⟨RX12, "whoOf", "(I)I"⟩
abbrev cX12_who : ByteArray := prog_14_method_120_code
def yX12_who : MethodName := ⟨RX12, "who", "(I)I"⟩
abbrev cX12_forge : ByteArray := prog_14_method_121_code
def yX12_forge : MethodName := ⟨RX12, "forge", "(III)I"⟩
abbrev cX12_skipped : ByteArray := prog_14_method_122_code
def yX12_skipped : MethodName := ⟨RX12, "skipped", "()I"⟩
abbrev cX12_missing : ByteArray := prog_14_method_123_code
def yX12_missing : MethodName := ⟨RX12, "missing", "(II)I"⟩
abbrev cX12_wasOf : ByteArray := prog_14_method_124_code
def yX12_wasOf : MethodName := ⟨RX12, "wasOf", "(I)I"⟩
abbrev cX12_layAll : ByteArray := prog_14_method_125_code
def yX12_layAll : MethodName := ⟨RX12, "layAll", "()V"⟩
abbrev cX12_was : ByteArray := prog_14_method_126_code
def yX12_was : MethodName := ⟨RX12, "was", "(I)I"⟩
abbrev cX12_ways : ByteArray := prog_14_method_127_code
def yX12_ways : MethodName := ⟨RX12, "ways", "()J"⟩
abbrev cX12_claimant : ByteArray := prog_14_method_128_code
def yX12_claimant : MethodName := ⟨RX12, "claimant", "(IIII)I"⟩
abbrev cX12_ofClaimant : ByteArray := prog_14_method_129_code
def yX12_ofClaimant : MethodName := ⟨RX12, "ofClaimant", "(II)I"⟩
abbrev cX12_claim : ByteArray := prog_14_method_130_code
def yX12_claim : MethodName := ⟨RX12, "claim", "(III)I"⟩
abbrev cX12_born : ByteArray := prog_14_method_131_code
def yX12_born : MethodName := ⟨RX12, "born", "(II)I"⟩
abbrev cX12_isAlive : ByteArray := prog_14_method_132_code
def yX12_isAlive : MethodName := ⟨RX12, "isAlive", "(II)Z"⟩
abbrev cX12_childrenOf : ByteArray := prog_14_method_133_code
def yX12_childrenOf : MethodName := ⟨RX12, "childrenOf", "(II)I"⟩
abbrev cX12_setClaimant : ByteArray := prog_14_method_134_code
def yX12_setClaimant : MethodName := ⟨RX12, "setClaimant", "(II)V"⟩
abbrev cX12_ranks : ByteArray := prog_14_method_135_code
def yX12_ranks : MethodName := ⟨RX12, "ranks", "(II)I"⟩
abbrev cX12_isOut : ByteArray := prog_14_method_136_code
def yX12_isOut : MethodName := ⟨RX12, "isOut", "(II)Z"⟩
abbrev cX12_stands : ByteArray := prog_14_method_137_code
def yX12_stands : MethodName := ⟨RX12, "stands", "(III)I"⟩
abbrev cX12_findRulers : ByteArray := prog_14_method_138_code
def yX12_findRulers : MethodName := ⟨RX12, "findRulers", "()V"⟩
abbrev cX12_ruler : ByteArray := prog_14_method_139_code
def yX12_ruler : MethodName := ⟨RX12, "ruler", "(I)I"⟩
abbrev cX12_reign : ByteArray := prog_14_method_140_code
def yX12_reign : MethodName := ⟨RX12, "reign", "(II)I"⟩
abbrev cX12_vacant : ByteArray := prog_14_method_141_code
def yX12_vacant : MethodName := ⟨RX12, "vacant", "()I"⟩
abbrev cX12_line : ByteArray := prog_14_method_142_code
def yX12_line : MethodName := ⟨RX12, "line", "(II)I"⟩
abbrev cX12_readSum : ByteArray := prog_14_method_143_code
def yX12_readSum : MethodName := ⟨RX12, "readSum", "(I)V"⟩
abbrev cX12_readHead : ByteArray := prog_14_method_144_code
def yX12_readHead : MethodName := ⟨RX12, "readHead", "()I"⟩
abbrev cX12_readOrder : ByteArray := prog_14_method_145_code
def yX12_readOrder : MethodName := ⟨RX12, "readOrder", "()V"⟩
abbrev cX12_setNow : ByteArray := prog_14_method_146_code
def yX12_setNow : MethodName := ⟨RX12, "setNow", "()V"⟩
abbrev cX12_sumOf : ByteArray := prog_14_method_147_code
def yX12_sumOf : MethodName := ⟨RX12, "sumOf", "(I)J"⟩
abbrev cX12_run : ByteArray := prog_14_method_148_code
def yX12_run : MethodName := ⟨RX12, "run", "(I)I"⟩
abbrev cX12_act : ByteArray := prog_14_method_149_code
def yX12_act : MethodName := ⟨RX12, "act", "(II)I"⟩
abbrev cX12_touchNow : ByteArray := prog_14_method_150_code
def yX12_touchNow : MethodName := ⟨RX12, "touchNow", "(I)I"⟩
abbrev cX12_orders : ByteArray := prog_14_method_151_code
def yX12_orders : MethodName := ⟨RX12, "orders", "()I"⟩
abbrev cX12_stopped : ByteArray := prog_14_method_152_code
def yX12_stopped : MethodName := ⟨RX12, "stopped", "()I"⟩
abbrev cX12_draw : ByteArray := prog_14_method_153_code
def yX12_draw : MethodName := ⟨RX12, "draw", "(I)I"⟩
abbrev cX12_century : ByteArray := prog_14_method_154_code
def yX12_century : MethodName := ⟨RX12, "century", "(II)I"⟩
abbrev cX12_drawn : ByteArray := prog_14_method_155_code
def yX12_drawn : MethodName := ⟨RX12, "drawn", "(I)I"⟩
abbrev cX12_count : ByteArray := prog_14_method_156_code
def yX12_count : MethodName := ⟨RX12, "count", "(I)I"⟩
abbrev cX12_status : ByteArray := prog_14_method_157_code
def yX12_status : MethodName := ⟨RX12, "status", "()I"⟩
def RJ6 : String := "java/lang/Integer"
def TJ6 : u_T := fun k => match k with
  | _ => ("", "", "", false)
def tyJ6 : Nat → FieldType := fun k => match k with
  | _ => .int
abbrev wsJ60 : List Cond := u_ws RJ6 TJ6 0
theorem nmJ6 : ∀ a, a < 0 → ∀ b, b < 0 → a ≠ b → (TJ6 a).2.1 ≠ (TJ6 b).2.1 := by decide +kernel
theorem tyJ6_ok : ∀ k, k < 0 → parseFieldDescriptor (TJ6 k).2.2.1 = some (tyJ6 k) := by decide +kernel
abbrev cJ6_bitCount_0f7a4 : ByteArray := prog_15_method_49_code
def yJ6_bitCount_0f7a4 : MethodName := ⟨RJ6, "bitCount", "(I)I"⟩
def RJ9 : String := "java/lang/Math"
def TJ9 : u_T := fun k => match k with
  | _ => ("", "", "", false)
def tyJ9 : Nat → FieldType := fun k => match k with
  | _ => .int
abbrev wsJ90 : List Cond := u_ws RJ9 TJ9 0
theorem nmJ9 : ∀ a, a < 0 → ∀ b, b < 0 → a ≠ b → (TJ9 a).2.1 ≠ (TJ9 b).2.1 := by decide +kernel
theorem tyJ9_ok : ∀ k, k < 0 → parseFieldDescriptor (TJ9 k).2.2.1 = some (tyJ9 k) := by decide +kernel
abbrev cJ9_abs_0f7a4 : ByteArray := prog_16_method_59_code
def yJ9_abs_0f7a4 : MethodName := ⟨RJ9, "abs", "(I)I"⟩
abbrev cJ9_max_7cf53 : ByteArray := prog_16_method_65_code
def yJ9_max_7cf53 : MethodName := ⟨RJ9, "max", "(II)I"⟩
abbrev cJ9_min_7cf53 : ByteArray := prog_16_method_69_code
def yJ9_min_7cf53 : MethodName := ⟨RJ9, "min", "(II)I"⟩
def RJ0 : String := "java/lang/String"
def TJ0 : u_T := fun k => match k with
  | _ => ("", "", "", false)
def tyJ0 : Nat → FieldType := fun k => match k with
  | _ => .int
abbrev wsJ00 : List Cond := u_ws RJ0 TJ0 0
theorem nmJ0 : ∀ a, a < 0 → ∀ b, b < 0 → a ≠ b → (TJ0 a).2.1 ≠ (TJ0 b).2.1 := by decide +kernel
theorem tyJ0_ok : ∀ k, k < 0 → parseFieldDescriptor (TJ0 k).2.2.1 = some (tyJ0 k) := by decide +kernel
abbrev cJ0_length_8abf5 : ByteArray := prog_17_method_54_code
def yJ0_length_8abf5 : MethodName := ⟨RJ0, "length", "()I"⟩
abbrev cJ0_charAt_5068e : ByteArray := prog_17_method_56_code
def yJ0_charAt_5068e : MethodName := ⟨RJ0, "charAt", "(I)C"⟩
abbrev cJ0_coder_7d493 : ByteArray := prog_17_method_152_code
def yJ0_coder_7d493 : MethodName := ⟨RJ0, "coder", "()B"⟩
abbrev cJ0_isLatin1_aae02 : ByteArray := prog_17_method_154_code
def yJ0_isLatin1_aae02 : MethodName := ⟨RJ0, "isLatin1", "()Z"⟩
abbrev cJ0_checkIndex_df160 : ByteArray := prog_17_method_155_code
def yJ0_checkIndex_df160 : MethodName := ⟨RJ0, "checkIndex", "(II)V"⟩
def RJ1 : String := "java/lang/StringLatin1"
def TJ1 : u_T := fun k => match k with
  | _ => ("", "", "", false)
def tyJ1 : Nat → FieldType := fun k => match k with
  | _ => .int
abbrev wsJ10 : List Cond := u_ws RJ1 TJ1 0
theorem nmJ1 : ∀ a, a < 0 → ∀ b, b < 0 → a ≠ b → (TJ1 a).2.1 ≠ (TJ1 b).2.1 := by decide +kernel
theorem tyJ1_ok : ∀ k, k < 0 → parseFieldDescriptor (TJ1 k).2.2.1 = some (tyJ1 k) := by decide +kernel
abbrev cJ1_charAt_3b067 : ByteArray := prog_18_method_2_code
def yJ1_charAt_3b067 : MethodName := ⟨RJ1, "charAt", "([BI)C"⟩
def RJ2 : String := "java/lang/StringUTF16"
def TJ2 : u_T := fun k => match k with
  | _ => ("", "", "", false)
def tyJ2 : Nat → FieldType := fun k => match k with
  | _ => .int
abbrev wsJ20 : List Cond := u_ws RJ2 TJ2 0
theorem nmJ2 : ∀ a, a < 0 → ∀ b, b < 0 → a ≠ b → (TJ2 a).2.1 ≠ (TJ2 b).2.1 := by decide +kernel
theorem tyJ2_ok : ∀ k, k < 0 → parseFieldDescriptor (TJ2 k).2.2.1 = some (tyJ2 k) := by decide +kernel
abbrev cJ2_getChar_3b067 : ByteArray := prog_19_method_5_code
def yJ2_getChar_3b067 : MethodName := ⟨RJ2, "getChar", "([BI)C"⟩
abbrev cJ2_length_9d52b : ByteArray := prog_19_method_6_code
def yJ2_length_9d52b : MethodName := ⟨RJ2, "length", "([B)I"⟩
abbrev cJ2_charAt_3b067 : ByteArray := prog_19_method_83_code
def yJ2_charAt_3b067 : MethodName := ⟨RJ2, "charAt", "([BI)C"⟩
abbrev cJ2_checkIndex_2214a : ByteArray := prog_19_method_91_code
def yJ2_checkIndex_2214a : MethodName := ⟨RJ2, "checkIndex", "(I[B)V"⟩
def RJ10 : String := "java/lang/System"
def TJ10 : u_T := fun k => match k with
  | _ => ("", "", "", false)
def tyJ10 : Nat → FieldType := fun k => match k with
  | _ => .int
abbrev wsJ100 : List Cond := u_ws RJ10 TJ10 0
theorem nmJ10 : ∀ a, a < 0 → ∀ b, b < 0 → a ≠ b → (TJ10 a).2.1 ≠ (TJ10 b).2.1 := by decide +kernel
theorem tyJ10_ok : ∀ k, k < 0 → parseFieldDescriptor (TJ10 k).2.2.1 = some (tyJ10 k) := by decide +kernel
def RJ3 : String := "jdk/internal/util/Preconditions"
def TJ3 : u_T := fun k => match k with
  | _ => ("", "", "", false)
def tyJ3 : Nat → FieldType := fun k => match k with
  | _ => .int
abbrev wsJ30 : List Cond := u_ws RJ3 TJ3 0
theorem nmJ3 : ∀ a, a < 0 → ∀ b, b < 0 → a ≠ b → (TJ3 a).2.1 ≠ (TJ3 b).2.1 := by decide +kernel
theorem tyJ3_ok : ∀ k, k < 0 → parseFieldDescriptor (TJ3 k).2.2.1 = some (tyJ3 k) := by decide +kernel
abbrev cJ3_checkIndex_8e157 : ByteArray := prog_21_method_11_code
def yJ3_checkIndex_8e157 : MethodName := ⟨RJ3, "checkIndex", "(IILjava/util/function/BiFunction;)I"⟩
def RL : String := "AgingPortraitLaw"
abbrev cL_law : ByteArray := code
def yL_law : MethodName := ⟨RL, "law", "([I)Z"⟩
abbrev vwCl : List vw_C := [(RX0, TX0, 8), (RX1, TX1, 10), (RX2, TX2, 6), (RX3, TX3, 3), (RX4, TX4, 4), (RX5, TX5, 15), (RX6, TX6, 9), (RX7, TX7, 15), (RX8, TX8, 9), (RX9, TX9, 4), (RX10, TX10, 5), (RX11, TX11, 19), (RX12, TX12, 61)]
end
section
/-! AN INTERPRETER OVER RESOLVED INSTRUCTIONS (own work). Values: int, long, reference (0: null, k+1: cell k, -1: the script, -(100+j): String constant j, -(200+j): its bytes, -5: a JDK static that nobody looks into), unset. Memory: shapes of the cells (kind, size, final references), numbers by cell and place. Kinds: 0 int[], 1 long[], 2 boolean[], 3 State[], 4 Text[], 10+c: object of class c of vwCl. -/
abbrev V : Type := Int ⊕ Int ⊕ Int ⊕ Unit
abbrev vI (x : Int) : V := .inl x
abbrev vL (x : Int) : V := .inr (.inl x)
abbrev vR (x : Int) : V := .inr (.inr (.inl x))
abbrev vU : V := .inr (.inr (.inr ()))
abbrev Shp : Type := Nat × Int × List Int
abbrev Mem : Type := List Shp × (Nat → Int → Int)
abbrev Ins : Type := Nat × Nat × Nat × Int
abbrev Res : Type := Option (Option V × Mem)
def w32 (x : Int) : Int := (x + 2147483648) % 4294967296 - 2147483648
def w64 (x : Int) : Int := (x + 9223372036854775808) % 18446744073709551616 - 9223372036854775808
/-- a number is written -/
def up (c : Nat → Int → Int) (k : Nat) (i v : Int) : Nat → Int → Int := fun a j => if a = k then (if j = i then v else c a j) else c a j
/-- a cell begins with zeros -/
def uz (c : Nat → Int → Int) (k : Nat) : Nat → Int → Int := fun a j => if a = k then 0 else c a j
/-- n numbers of cell s from sp on are copied to cell d from dp on -/
def cpy (c : Nat → Int → Int) (s : Nat) (sp : Int) (d : Nat) (dp n : Int) : Nat → Int → Int := fun a j => if a = d then (if dp ≤ j ∧ j < dp + n then c s (sp + (j - dp)) else c a j) else c a j
def drf (L : List Shp) (r : Int) : Option (Nat × Shp) := match r with
  | .ofNat (k + 1) => (L[k]?).elim none (fun s => some (k, s))
  | _ => none
def strOf (r : Int) : Option Nat := match r with
  | .negSucc n => bif Nat.ble 99 n && Nat.ble n 110 then some (n - 99) else none
  | _ => none
def bytOf (r : Int) : Option Nat := match r with
  | .negSucc n => bif Nat.ble 199 n && Nat.ble n 210 then some (n - 199) else none
  | _ => none
def tyV (v : V) : Nat := match v with
  | .inl _ => 0
  | .inr (.inl _) => 1
  | .inr (.inr (.inl _)) => 2
  | .inr (.inr (.inr _)) => 3
def iand (x y : Int) : Int := (Int32.ofInt x &&& Int32.ofInt y).toInt
def ior (x y : Int) : Int := (Int32.ofInt x ||| Int32.ofInt y).toInt
def ixor (x y : Int) : Int := (Int32.ofInt x ^^^ Int32.ofInt y).toInt
def ishl (x y : Int) : Int := (Int32.ofInt x <<< (Int32.ofInt y &&& 31)).toInt
def ishr (x y : Int) : Int := (Int32.ofInt x >>> (Int32.ofInt y &&& 31)).toInt
def iushr (x y : Int) : Int := ((Int32.ofInt x).toUInt32 >>> ((Int32.ofInt y).toUInt32 &&& Int32.toUInt32 31)).toInt32.toInt
def ibin (a : Nat) (x y : Int) : Int := match a with
  | 0 => w32 (x + y)
  | 1 => w32 (x - y)
  | 2 => w32 (x * y)
  | 3 => iand x y
  | 4 => ior x y
  | 5 => ixor x y
  | 6 => ishl x y
  | 7 => ishr x y
  | _ => iushr x y
def lbin (a : Nat) (x y : Int) : Int := match a with
  | 0 => w64 (x + y)
  | 1 => w64 (x - y)
  | _ => w64 (x * y)
def arv (a : Nat) (x : Int) : V := match a with
  | 0 => vI x
  | 1 => vL x
  | 2 => vI x
  | _ => vR x
/-- the locals, where a long ahead of a place ends -/
def kil (ls : List V) (a : Nat) : List V := match a with
  | 0 => ls
  | b + 1 => (ls[b]?).elim ls (fun v => bif Nat.beq (tyV v) 1 then ls.set b vU else ls)
def sto (ls : List V) (a b : Nat) (v : V) : List V := bif Nat.beq b 1 then ((kil ls a).set a v).set (a + 1) vU else (kil ls a).set a v
def pu (r : Option V) (st : List V) : List V := match r with
  | none => st
  | some v => v :: st
def cnd {α : Type} (a : Nat) (x y : Int) (t e : α) : α := match a with
  | 0 => if x = y then t else e
  | 1 => if x = y then e else t
  | 2 => if x < y then t else e
  | 3 => if x < y then e else t
  | 4 => if y < x then t else e
  | _ => if y < x then e else t
def swc {α : Type} (x : Int) (J : Nat → α) (d : Nat) : List (Int × Nat) → α
  | [] => J d
  | (v, t) :: l => if x = v then J t else swc x J d l
def swt (a : Nat) : List (Int × Nat) × Nat := match a with
  | 0 => ([(2, 92), (3, 101), (4, 110), (5, 119), (6, 139), (7, 156)], 173)
  | 1 => ([(0, 100), (1, 102), (2, 105)], 108)
  | 2 => ([(0, 44), (1, 53), (2, 71), (3, 97)], 106)
  | 3 => ([(0, 52), (1, 65), (2, 75), (3, 88)], 98)
  | 4 => ([(0, 116), (1, 124), (2, 132), (3, 140), (4, 148), (5, 156), (6, 164), (7, 177), (8, 177), (9, 177), (10, 177), (11, 177), (12, 169)], 177)
  | 5 => ([(0, 32), (1, 35), (2, 37), (3, 40)], 44)
  | 6 => ([(0, 36), (1, 46), (2, 56), (3, 66), (4, 76)], 86)
  | 7 => ([(20, 40), (21, 45), (22, 50), (23, 55), (24, 87), (25, 100)], 113)
  | 8 => ([(0, 56), (1, 62), (2, 81)], 105)
  | 9 => ([(0, 60), (1, 75), (2, 82)], 97)
  | 10 => ([(2, 65), (3, 32), (4, 54), (5, 59)], 109)
  | 11 => ([(0, 72), (1, 79), (2, 86), (3, 93), (4, 98), (5, 105), (6, 113), (7, 118), (8, 125), (9, 132), (10, 139), (11, 146), (12, 154)], 161)
  | 12 => ([(0, 276), (1, 309), (2, 342), (3, 385), (4, 418), (5, 451), (6, 494), (7, 517), (8, 580), (9, 603), (10, 616), (11, 629), (12, 642), (13, 655), (14, 668), (15, 681), (16, 704), (17, 747), (18, 790), (19, 813), (20, 826), (21, 859), (22, 892), (23, 905), (24, 928), (25, 941), (26, 984), (27, 1027), (28, 1050), (29, 1063), (30, 1106), (31, 1119), (32, 1142), (33, 1175), (34, 1198), (35, 1211), (36, 1244), (37, 1267), (38, 1290), (39, 1333), (40, 1346), (41, 1379), (42, 1402), (43, 1416), (44, 1469), (45, 1512), (46, 1545), (47, 1588), (48, 1611), (49, 1644), (50, 1657), (51, 1690), (52, 1723), (53, 1746), (54, 1769), (55, 1792), (56, 1815)], 1828)
  | _ => ([], 0)
def strb (j : Nat) : List Int := match j with
  | 0 => [108, 111, 111, 107, 115, 32, 108, 101, 116, 115, 32, 97, 115, 107, 115, 32, 114, 97, 110, 107, 115, 32, 98, 97, 114, 115]
  | 1 => [112, 97, 105, 110, 116, 32, 115, 99, 114, 97, 112, 101, 32, 99, 111, 112, 121, 32, 116, 111, 117, 99, 104]
  | 2 => [108, 105, 107, 101, 115, 116, 32, 99, 104, 101, 97, 112, 101, 115, 116, 32, 98, 121]
  | 3 => [97, 116]
  | 4 => [119, 105, 116, 104]
  | 5 => [116, 105, 109, 101, 115]
  | 6 => [105, 102]
  | 7 => [111, 114]
  | 8 => [97, 110, 100]
  | 9 => [110, 111, 116]
  | 10 => [121, 101, 97, 114, 115, 32, 117, 110, 108, 105, 107, 101, 32, 109, 111, 110, 101, 121, 32, 99, 111, 112, 105, 101, 115, 32, 97, 103, 101, 32, 100, 111, 110, 101, 32, 116, 111, 110, 101]
  | 11 => [99, 101, 108, 108, 32, 97, 103, 101, 32, 121, 101, 97, 114, 32, 112, 97, 105, 110, 116, 101, 114, 32, 112, 114, 105, 99, 101, 32, 109, 111, 111, 100, 32, 99, 108, 97, 105, 109, 97, 110, 116, 32, 98, 111, 114, 110, 32, 110, 101, 97, 114, 32, 99, 104, 105, 108, 100, 114, 101, 110]
  | _ => []
/-- words on the stack -/
def catS : List V → Nat
  | [] => 0
  | v :: l => (bif Nat.beq (tyV v) 1 then 2 else 1) + catS l
/-- a call's receiver: kinds of calls 0, 1 static, 2, 3 virtual (kind of the cell rk), 4, 5 constructors, 6 of a String -/
def rcv {α : Type} (Z : α) (kd rk : Nat) (L : List Shp) (args : List V) (y : α) : α := match kd, args with
  | 0, _ => y
  | 1, _ => y
  | 2, .inr (.inr (.inl r)) :: _ => (drf L r).elim Z (fun p => bif Nat.beq p.2.1 rk then y else Z)
  | 3, .inr (.inr (.inl r)) :: _ => (drf L r).elim Z (fun p => bif Nat.beq p.2.1 rk then y else Z)
  | 4, .inr (.inr (.inl r)) :: _ => (drf L r).elim Z (fun _ => y)
  | 5, .inr (.inr (.inl r)) :: _ => (drf L r).elim Z (fun _ => y)
  | 6, .inr (.inr (.inl r)) :: _ => (strOf r).elim Z (fun _ => y)
  | _, _ => Z
def pV {α : Type} (Z : α) (st : List V) (f : V → List V → α) : α := match st with
  | v :: st => f v st
  | [] => Z
def pI {α : Type} (Z : α) (st : List V) (f : Int → List V → α) : α := match st with
  | .inl x :: st => f x st
  | _ => Z
def pL {α : Type} (Z : α) (st : List V) (f : Int → List V → α) : α := match st with
  | .inr (.inl x) :: st => f x st
  | _ => Z
def pR {α : Type} (Z : α) (st : List V) (f : Int → List V → α) : α := match st with
  | .inr (.inr (.inl x)) :: st => f x st
  | _ => Z
def pE {α : Type} (Z : α) (st : List V) (y : α) : α := match st with
  | [] => y
  | _ => Z
/-- the cell of a reference -/
def pD {α : Type} (Z : α) (L : List Shp) (r : Int) (f : Nat → Shp → α) : α := (drf L r).elim Z (fun p => f p.1 p.2)
def one1 (v : V) : Bool := Nat.beq (tyV v) 0 || Nat.beq (tyV v) 2
def stp {α : Type} (Z : α) (J : Nat → List V → List V → Mem → α) (C : Nat → List V → List V → List V → Mem → α) (R : Option V → Mem → α) (k : List V → List V → Mem → α) (i : Ins) (ls st : List V) (M : Mem) : α :=
  match i.1 with
  | 0 => k ls (vI i.2.2.2 :: st) M
  | 1 => k ls (vL i.2.2.2 :: st) M
  | 2 => k ls (vR 0 :: st) M
  | 3 => (ls[i.2.1]?).elim Z (fun v => bif Nat.beq (tyV v) i.2.2.1 then k ls (v :: st) M else Z)
  | 4 => pV Z st (fun v st => bif Nat.beq (tyV v) i.2.2.1 then k (sto ls i.2.1 i.2.2.1 v) st M else Z)
  | 5 => pI Z (ls.drop i.2.1) (fun y _ => k (sto ls i.2.1 0 (vI (w32 (y + i.2.2.2)))) st M)
  | 6 => pI Z st (fun y st => pI Z st (fun x st => k ls (vI (ibin i.2.1 x y) :: st) M))
  | 7 => pI Z st (fun x st => k ls (vI (w32 (-x)) :: st) M)
  | 8 => pL Z st (fun y st => pL Z st (fun x st => k ls (vL (lbin i.2.1 x y) :: st) M))
  | 9 => pL Z st (fun y st => pL Z st (fun x st => k ls (vI (if x < y then -1 else if x = y then 0 else 1) :: st) M))
  | 10 => pI Z st (fun x st => k ls (vL x :: st) M)
  | 11 => pV Z st (fun v st => bif one1 v then k ls (v :: v :: st) M else Z)
  | 12 => pI Z st (fun x st => cnd i.2.1 x 0 (J i.2.2.1 ls st M) (k ls st M))
  | 13 => pI Z st (fun y st => pI Z st (fun x st => cnd i.2.1 x y (J i.2.2.1 ls st M) (k ls st M)))
  | 14 => pR Z st (fun r st => if r = 0 then k ls st M else pD Z M.1 r (fun _ _ => J i.2.2.1 ls st M))
  | 15 => k ls st M
  | 16 => J i.2.2.1 ls st M
  | 17 => pI Z st (fun x st => swc x (fun t => J t ls st M) (swt i.2.1).2 (swt i.2.1).1)
  | 18 => pR Z st (fun r st => pD Z M.1 r (fun p s => bif Nat.beq s.1 (10 + i.2.1) then k ls (vI (M.2 p (Int.ofNat i.2.2.1)) :: st) M else Z))
  | 19 => pR Z st (fun r st => pD Z M.1 r (fun p s => bif Nat.beq s.1 (10 + i.2.1) then k ls (vL (M.2 p (Int.ofNat i.2.2.1)) :: st) M else Z))
  | 20 => pR Z st (fun r st => pD Z M.1 r (fun p s => bif Nat.beq s.1 (10 + i.2.1) then k ls (vI (M.2 p (Int.ofNat i.2.2.1)) :: st) M else Z))
  | 21 => pR Z st (fun r st => pD Z M.1 r (fun _ s => bif Nat.beq s.1 (10 + i.2.1) then k ls (vR (s.2.2.getD i.2.2.1 0) :: st) M else Z))
  | 22 => pI Z st (fun x st => pR Z st (fun r st => pD Z M.1 r (fun p s => bif Nat.beq s.1 (10 + i.2.1) then k ls st (M.1, up M.2 p (Int.ofNat i.2.2.1) x) else Z)))
  | 23 => pL Z st (fun x st => pR Z st (fun r st => pD Z M.1 r (fun p s => bif Nat.beq s.1 (10 + i.2.1) then k ls st (M.1, up M.2 p (Int.ofNat i.2.2.1) x) else Z)))
  | 24 => pI Z st (fun x st => pR Z st (fun r st => pD Z M.1 r (fun p s => bif Nat.beq s.1 (10 + i.2.1) then (if x = 0 ∨ x = 1 then k ls st (M.1, up M.2 p (Int.ofNat i.2.2.1) x) else Z) else Z)))
  | 25 => pR Z st (fun x st => pR Z st (fun r st => pD Z M.1 r (fun p s => bif Nat.beq s.1 (10 + i.2.1) then pD Z M.1 x (fun _ _ => k ls st (M.1.set p (s.1, s.2.1, s.2.2.set i.2.2.1 x), M.2)) else Z)))
  | 26 => pI Z st (fun j st => pR Z st (fun r st => pD Z M.1 r (fun p s => bif Nat.beq s.1 i.2.1 then (if 0 ≤ j ∧ j < s.2.1 then k ls (arv i.2.1 (M.2 p j) :: st) M else Z) else Z)))
  | 27 => pI Z st (fun x st => pI Z st (fun j st => pR Z st (fun r st => pD Z M.1 r (fun p s => bif Nat.beq s.1 0 then (if 0 ≤ j ∧ j < s.2.1 then k ls st (M.1, up M.2 p j x) else Z) else Z))))
  | 28 => pR Z st (fun r st => pD Z M.1 r (fun _ s => bif Nat.ble s.1 4 then k ls (vI s.2.1 :: st) M else Z))
  | 29 => pI Z st (fun j st => pR Z st (fun r st => if r = -1 then (if 0 ≤ j ∧ j < M.2 1000001 0 then k ls (vI (M.2 1000000 j) :: st) M else Z) else Z))
  | 30 => pR Z st (fun r st => if r = -1 then k ls (vI (M.2 1000001 0) :: st) M else Z)
  | 31 => pR Z st (fun r st => (strOf r).elim Z (fun _ => k ls (vR (r - 100) :: st) M))
  | 32 => pR Z st (fun r st => (strOf r).elim Z (fun _ => k ls (vI 0 :: st) M))
  | 33 => pI Z st (fun j st => pR Z st (fun r st => (bytOf r).elim Z (fun n => if 0 ≤ j ∧ j < ((strb n).length : Int) then k ls (vI ((strb n).getD j.toNat 0) :: st) M else Z)))
  | 34 => pR Z st (fun r st => (bytOf r).elim Z (fun n => k ls (vI ((strb n).length : Int) :: st) M))
  | 35 => k ls (vI 1 :: st) M
  | 36 => k ls (vR ((M.1.length : Int) + 1) :: st) (M.1 ++ [(10 + i.2.1, (i.2.2.1 : Int), List.replicate i.2.2.1 0)], uz M.2 M.1.length)
  | 37 => pI Z st (fun n st => if 0 ≤ n ∧ n ≤ 60000000 then k ls (vR ((M.1.length : Int) + 1) :: st) (M.1 ++ [(i.2.1, n, [])], uz M.2 M.1.length) else Z)
  | 38 => pI Z st (fun n st => if 0 ≤ n ∧ n ≤ 60000000 then k ls (vR ((M.1.length : Int) + 1) :: st) (M.1 ++ [(i.2.1, n, [])], uz M.2 M.1.length) else Z)
  | 39 => bif Nat.ble (i.2.1 / 10 % 100) st.length && Nat.ble (catS (st.drop (i.2.1 / 10 % 100))) 8 then rcv Z (i.2.1 % 10) (i.2.1 / 1000) M.1 (st.take (i.2.1 / 10 % 100)).reverse (C i.2.2.1 (st.take (i.2.1 / 10 % 100)).reverse ls (st.drop (i.2.1 / 10 % 100)) M) else Z
  | 40 => pR Z st (fun r st => pD Z M.1 r (fun _ _ => k ls st M))
  | 41 => pI Z st (fun n st => pI Z st (fun dp st => pR Z st (fun d st => pI Z st (fun sp st => pR Z st (fun r st => pD Z M.1 r (fun p s => pD Z M.1 d (fun q t => bif Nat.beq s.1 0 && Nat.beq t.1 0 && !Nat.beq p q && Nat.ble (catS st) 8 then (if (0 ≤ sp ∧ 0 ≤ dp ∧ 0 ≤ n) ∧ sp + n ≤ s.2.1 ∧ dp + n ≤ t.2.1 then k ls st (M.1, cpy M.2 p sp q dp n) else Z) else Z)))))))
  | 42 => pE Z st (R none M)
  | 43 => pI Z st (fun y st => pI Z st (fun x st => if y = 0 then Z else k ls (vI (w32 (Int.tdiv x y)) :: st) M))
  | 44 => pI Z st (fun y st => pI Z st (fun x st => if y = 0 then Z else k ls (vI (w32 (Int.tmod x y)) :: st) M))
  | 45 => pL Z st (fun y st => pL Z st (fun x st => if y = 0 then Z else k ls (vL (w64 (Int.tdiv x y)) :: st) M))
  | 46 => pL Z st (fun y st => pL Z st (fun x st => if y = 0 then Z else k ls (vL (w64 (Int.tmod x y)) :: st) M))
  | 47 => k ls (vR (-100 - (i.2.1 : Int)) :: st) M
  | 48 => pL Z st (fun x st => k ls (vI (w32 x) :: st) M)
  | 49 => pI Z st (fun x st => k ls (vI (x % 65536) :: st) M)
  | 50 => pV Z st (fun v st => pV Z st (fun w st => bif one1 v && one1 w then k ls (v :: w :: v :: w :: st) M else Z))
  | 51 => pV Z st (fun v st => bif one1 v then k ls st M else Z)
  | 52 => pL Z st (fun x st => pI Z st (fun j st => pR Z st (fun r st => pD Z M.1 r (fun p s => bif Nat.beq s.1 1 then (if 0 ≤ j ∧ j < s.2.1 then k ls st (M.1, up M.2 p j x) else Z) else Z))))
  | 53 => pI Z st (fun x st => pI Z st (fun j st => pR Z st (fun r st => pD Z M.1 r (fun p s => bif Nat.beq s.1 2 then (if 0 ≤ j ∧ j < s.2.1 then (if x = 0 ∨ x = 1 then k ls st (M.1, up M.2 p j x) else Z) else Z) else Z))))
  | 54 => pR Z st (fun x st => pI Z st (fun j st => pR Z st (fun r st => pD Z M.1 r (fun p s => bif Nat.beq s.1 i.2.1 then (if 0 ≤ j ∧ j < s.2.1 then pD Z M.1 x (fun _ t => bif Nat.beq t.1 i.2.2.1 then k ls st (M.1, up M.2 p j x) else Z) else Z) else Z))))
  | 55 => pI Z st (fun x st => pE Z st (R (some (vI x)) M))
  | 56 => pL Z st (fun x st => pE Z st (R (some (vL x)) M))
  | 57 => pR Z st (fun x st => pE Z st (R (some (vR x)) M))
  | 58 => pI Z st (fun x st => pE Z st (if x = 0 ∨ x = 1 then R (some (vI x)) M else Z))
  | 59 => pI Z st (fun x st => pE Z st (if 0 ≤ x ∧ x < 65536 then R (some (vI x)) M else Z))
  | 60 => pI Z st (fun x st => pE Z st (if -128 ≤ x ∧ x < 128 then R (some (vI x)) M else Z))
  | 61 => k ls (vR (-5) :: st) M
  | _ => Z
/-- a row of instructions -/
def runL (J : Nat → List V → List V → Mem → Res) (C : Nat → List V → Mem → Res) : List Ins → List V → List V → Mem → Res
  | [], _, _, _ => none
  | i :: l, ls, st, M => stp (α := Res) none J (fun f args ls st M => (C f args M).elim none (fun q => runL J C l ls (pu q.1 st) q.2)) (fun v M => some (v, M)) (fun ls st M => runL J C l ls st M) i ls st M
/-- the locals that are looked at later -/
def msk : Nat → List V → List V
  | _, [] => []
  | b, v :: l => (bif Nat.beq (b % 2) 1 then v else vU) :: msk (b / 2) l
def fnd (p : Nat) : List (Nat × Nat × List Ins) → Nat × List Ins
  | [] => (0, [])
  | (q, b, l) :: r => bif Nat.beq p q then (b, l) else fnd p r
/-- the locals with which a method begins -/
def mkl (n : Nat) : List V → List V
  | [] => List.replicate n vU
  | v :: l => bif Nat.beq (tyV v) 1 then v :: vU :: mkl (n - 2) l else v :: mkl (n - 1) l
end
section
/-! THE CODE, resolved, by program out of the decode rows: of each method (places in the locals, needed depth, blocks: where it begins, which locals are looked at later, instructions) -/
def k_X0_init : List (Nat × Nat × List Ins) := [(0, 7, [(3, 0, 2, 0), (40, 0, 0, 3), (3, 0, 2, 0), (0, 0, 0, 5), (37, 0, 0, 0), (25, 0, 4, 9), (3, 0, 2, 0), (0, 1, 0, 12), (37, 0, 0, 0), (25, 0, 5, 15), (3, 0, 2, 0), (3, 1, 2, 0), (25, 0, 0, 18), (3, 0, 2, 0), (3, 2, 2, 0), (25, 0, 1, 22), (42, 0, 0, 0)])]
def k_X0_pass : List (Nat × Nat × List Ins) := [(0, 7, [(3, 0, 2, 0), (3, 1, 0, 0), (22, 0, 2, 26), (3, 0, 2, 0), (3, 0, 2, 0), (21, 0, 0, 18), (18, 7, 0, 30), (22, 0, 3, 35), (3, 0, 2, 0), (0, 0, 0, 1), (24, 0, 7, 36), (3, 0, 2, 0), (21, 0, 0, 18), (21, 7, 10, 40), (3, 0, 2, 0), (21, 0, 0, 18), (18, 7, 8, 43), (0, 1, 0, 12), (6, 2, 0, 0), (3, 0, 2, 0), (21, 0, 5, 15), (0, 0, 0, 0), (0, 1, 0, 12), (41, 0, 0, 46), (0, 0, 0, 0), (4, 3, 0, 0), (16, 0, 50, 0)]),
  (50, 13, [(3, 3, 0, 0), (0, 0, 0, 5), (13, 3, 68, 0), (3, 0, 2, 0), (21, 0, 4, 9), (3, 3, 0, 0), (0, 0, 0, 0), (27, 0, 0, 0), (5, 3, 0, 1), (15, 0, 50, 0), (16, 0, 50, 0)]),
  (68, 5, [(3, 0, 2, 0), (21, 0, 0, 18), (18, 7, 8, 43), (3, 2, 0, 0), (6, 0, 0, 0), (4, 3, 0, 0), (3, 0, 2, 0), (21, 0, 0, 18), (18, 7, 8, 43), (0, 0, 0, 1), (6, 0, 0, 0), (4, 4, 0, 0), (16, 0, 89, 0)]),
  (89, 25, [(3, 4, 0, 0), (3, 3, 0, 0), (13, 4, 114, 0), (3, 0, 2, 0), (18, 0, 3, 35), (12, 5, 114, 0), (3, 0, 2, 0), (3, 4, 0, 0), (39, 10022, 3, 52), (5, 4, 0, 1), (15, 0, 89, 0), (16, 0, 89, 0)]),
  (114, 9, [(3, 0, 2, 0), (0, 0, 0, 0), (22, 0, 6, 56), (0, 0, 0, 0), (4, 4, 0, 0), (16, 0, 122, 0)]),
  (122, 25, [(3, 4, 0, 0), (0, 1, 0, 12), (13, 3, 165, 0), (3, 0, 2, 0), (11, 0, 0, 0), (18, 0, 6, 56), (3, 0, 2, 0), (21, 0, 5, 15), (3, 4, 0, 0), (26, 0, 0, 0), (3, 0, 2, 0), (21, 0, 1, 22), (3, 4, 0, 0), (3, 3, 0, 0), (39, 14032, 23, 59), (6, 1, 0, 0), (39, 10, 342, 65), (6, 0, 0, 0), (22, 0, 6, 56), (5, 4, 0, 1), (15, 0, 122, 0), (16, 0, 122, 0)]),
  (165, 0, [(42, 0, 0, 0)])]
def k_X0_yearsOf : List (Nat × Nat × List Ins) := [(0, 3, [(3, 1, 0, 0), (3, 0, 2, 0), (18, 0, 3, 35), (39, 21, 177, 71), (12, 0, 20, 0), (3, 0, 2, 0), (21, 0, 4, 9), (3, 1, 0, 0), (26, 0, 0, 0), (15, 0, 21, 0), (55, 0, 0, 0)]),
  (20, 0, [(0, 0, 0, (-1)), (55, 0, 0, 0)])]
def k_X0_paintOne : List (Nat × Nat × List Ins) := [(0, 3, [(3, 0, 2, 0), (3, 0, 2, 0), (18, 0, 3, 35), (39, 10022, 4, 75), (4, 2, 0, 0), (3, 0, 2, 0), (21, 0, 4, 9), (3, 2, 0, 0), (50, 0, 0, 0), (26, 0, 0, 0), (0, 0, 0, 1), (6, 0, 0, 0), (27, 0, 0, 0), (0, 0, 0, 0), (4, 3, 0, 0), (16, 0, 21, 0)]),
  (21, 15, [(3, 3, 0, 0), (0, 1, 0, 12), (13, 3, 110, 0), (3, 0, 2, 0), (21, 0, 1, 22), (3, 3, 0, 0), (3, 1, 0, 0), (39, 14032, 23, 59), (4, 4, 0, 0), (3, 0, 2, 0), (21, 0, 0, 18), (3, 2, 0, 0), (3, 3, 0, 0), (3, 0, 2, 0), (21, 0, 5, 15), (3, 3, 0, 0), (26, 0, 0, 0), (3, 4, 0, 0), (39, 17052, 76, 78), (4, 5, 0, 0), (3, 0, 2, 0), (0, 1, 0, 8), (39, 10022, 4, 75), (4, 6, 0, 0), (3, 6, 0, 0), (12, 1, 74, 0), (0, 0, 0, (-1)), (15, 0, 85, 0), (16, 0, 85, 0)]),
  (74, 111, [(3, 6, 0, 0), (0, 0, 0, 1), (13, 1, 84, 0), (0, 0, 0, 1), (15, 0, 85, 0), (16, 0, 85, 0)]),
  (84, 47, [(0, 0, 0, 0), (16, 0, 85, 0)]),
  (85, 47, [(4, 7, 0, 0), (3, 0, 2, 0), (21, 0, 5, 15), (3, 3, 0, 0), (3, 5, 0, 0), (3, 7, 0, 0), (6, 0, 0, 0), (0, 0, 0, 0), (0, 1, 0, 9), (39, 31, 184, 82), (27, 0, 0, 0), (5, 3, 0, 1), (15, 0, 21, 0), (16, 0, 21, 0)]),
  (110, 0, [(42, 0, 0, 0)])]
def k_X0_draw : List (Nat × Nat × List Ins) := [(0, 3, [(3, 0, 2, 0), (3, 0, 2, 0), (18, 0, 2, 26), (0, 2, 0, 1103), (6, 2, 0, 0), (0, 2, 0, 12345), (6, 0, 0, 0), (0, 3, 86, 1000003), (44, 0, 0, 0), (22, 0, 2, 26), (3, 1, 0, 0), (12, 5, 32, 0), (3, 0, 2, 0), (18, 0, 2, 26), (3, 1, 0, 0), (44, 0, 0, 0), (15, 0, 33, 0), (55, 0, 0, 0)]),
  (32, 0, [(0, 0, 0, 0), (55, 0, 0, 0)])]
def k_X1_init : List (Nat × Nat × List Ins) := [(0, 31, [(3, 0, 2, 0), (40, 0, 0, 3), (3, 0, 2, 0), (36, 7, 15, 9), (11, 0, 0, 0), (39, 14, 64, 11), (25, 1, 1, 12), (3, 0, 2, 0), (36, 3, 3, 18), (11, 0, 0, 0), (39, 15, 19, 20), (25, 1, 5, 21), (3, 0, 2, 0), (0, 1, 0, 18), (37, 0, 0, 0), (25, 1, 6, 25), (3, 0, 2, 0), (0, 0, 0, 3), (37, 0, 0, 0), (25, 1, 7, 29), (3, 0, 2, 0), (3, 1, 2, 0), (25, 1, 0, 32), (3, 0, 2, 0), (3, 2, 2, 0), (25, 1, 2, 35), (3, 0, 2, 0), (3, 3, 2, 0), (25, 1, 3, 39), (3, 0, 2, 0), (3, 4, 2, 0), (25, 1, 4, 43), (42, 0, 0, 0)])]
def k_X1_runAll : List (Nat × Nat × List Ins) := [(0, 3, [(3, 0, 2, 0), (21, 1, 1, 12), (3, 0, 2, 0), (21, 1, 0, 32), (39, 17022, 65, 47), (3, 0, 2, 0), (0, 0, 0, 0), (22, 1, 9, 51), (3, 0, 2, 0), (0, 0, 0, 0), (22, 1, 8, 55), (16, 0, 21, 0)]),
  (21, 3, [(3, 0, 2, 0), (18, 1, 8, 55), (3, 1, 2, 0), (18, 10, 2, 58), (13, 3, 165, 0), (3, 0, 2, 0), (18, 1, 8, 55), (0, 1, 0, 6), (6, 2, 0, 0), (4, 2, 0, 0), (0, 0, 0, 0), (4, 3, 0, 0), (16, 0, 42, 0)]),
  (42, 15, [(3, 3, 0, 0), (3, 1, 2, 0), (21, 10, 0, 63), (3, 2, 0, 0), (0, 0, 0, 1), (6, 0, 0, 0), (26, 0, 0, 0), (13, 3, 152, 0), (3, 0, 2, 0), (3, 1, 2, 0), (18, 10, 4, 66), (39, 11022, 7, 68), (3, 0, 2, 0), (3, 1, 2, 0), (3, 2, 0, 0), (39, 11032, 8, 72), (12, 0, 146, 0), (0, 1, 0, (-3)), (4, 4, 0, 0), (3, 0, 2, 0), (3, 1, 2, 0), (3, 2, 0, 0), (39, 11032, 9, 76), (12, 0, 117, 0), (3, 1, 2, 0), (21, 10, 0, 63), (3, 2, 0, 0), (0, 0, 0, 0), (6, 0, 0, 0), (26, 0, 0, 0), (4, 5, 0, 0), (3, 5, 0, 0), (0, 0, 0, 2), (13, 4, 109, 0), (3, 0, 2, 0), (3, 5, 0, 0), (39, 11022, 10, 79), (15, 0, 115, 0), (4, 4, 0, 0), (16, 0, 117, 0)]),
  (109, 47, [(3, 0, 2, 0), (3, 5, 0, 0), (39, 11022, 11, 83), (4, 4, 0, 0), (16, 0, 117, 0)]),
  (117, 31, [(3, 4, 0, 0), (12, 0, 136, 0), (3, 0, 2, 0), (21, 1, 0, 32), (3, 0, 2, 0), (21, 1, 1, 12), (39, 17022, 65, 47), (3, 4, 0, 0), (55, 0, 0, 0)]),
  (136, 15, [(3, 0, 2, 0), (11, 0, 0, 0), (18, 1, 9, 51), (0, 0, 0, 1), (6, 0, 0, 0), (22, 1, 9, 51), (16, 0, 146, 0)]),
  (146, 15, [(5, 3, 0, 1), (15, 0, 42, 0), (16, 0, 42, 0)]),
  (152, 3, [(3, 0, 2, 0), (11, 0, 0, 0), (18, 1, 8, 55), (0, 0, 0, 1), (6, 0, 0, 0), (22, 1, 8, 55), (15, 0, 21, 0), (16, 0, 21, 0)]),
  (165, 0, [(0, 0, 0, 0), (55, 0, 0, 0)])]
def k_X1_learnWords : List (Nat × Nat × List Ins) := [(0, 3, [(3, 0, 2, 0), (21, 1, 6, 25), (0, 0, 0, 0), (3, 0, 2, 0), (21, 1, 0, 32), (18, 7, 8, 86), (27, 0, 0, 0), (3, 0, 2, 0), (21, 1, 6, 25), (0, 0, 0, 3), (3, 0, 2, 0), (21, 1, 0, 32), (18, 7, 11, 89), (27, 0, 0, 0), (3, 0, 2, 0), (21, 1, 6, 25), (0, 0, 0, 4), (3, 0, 2, 0), (21, 1, 0, 32), (3, 0, 2, 0), (21, 1, 0, 32), (18, 7, 8, 86), (39, 17022, 69, 92), (27, 0, 0, 0), (3, 0, 2, 0), (21, 1, 6, 25), (0, 0, 0, 5), (3, 0, 2, 0), (18, 1, 9, 51), (27, 0, 0, 0), (0, 0, 0, 0), (4, 2, 0, 0), (16, 0, 58, 0)]),
  (58, 7, [(3, 2, 0, 0), (0, 1, 0, 12), (13, 3, 87, 0), (3, 0, 2, 0), (21, 1, 6, 25), (0, 1, 0, 6), (3, 2, 0, 0), (6, 0, 0, 0), (3, 0, 2, 0), (21, 1, 0, 32), (3, 2, 0, 0), (39, 17022, 71, 95), (27, 0, 0, 0), (5, 2, 0, 1), (15, 0, 58, 0), (16, 0, 58, 0)]),
  (87, 3, [(3, 1, 0, 0), (0, 0, 0, 1), (6, 7, 0, 0), (0, 0, 0, 1), (6, 3, 0, 0), (0, 0, 0, 1), (13, 1, 116, 0), (3, 0, 2, 0), (21, 1, 6, 25), (0, 0, 0, 1), (3, 0, 2, 0), (21, 1, 3, 39), (3, 0, 2, 0), (21, 1, 0, 32), (18, 7, 8, 86), (39, 19022, 96, 98), (27, 0, 0, 0), (16, 0, 116, 0)]),
  (116, 3, [(3, 1, 0, 0), (0, 0, 0, 2), (6, 7, 0, 0), (0, 0, 0, 1), (6, 3, 0, 0), (0, 0, 0, 1), (13, 1, 145, 0), (3, 0, 2, 0), (21, 1, 6, 25), (0, 0, 0, 2), (3, 0, 2, 0), (21, 1, 3, 39), (3, 0, 2, 0), (21, 1, 0, 32), (18, 7, 8, 86), (39, 19022, 98, 103), (27, 0, 0, 0), (16, 0, 145, 0)]),
  (145, 0, [(42, 0, 0, 0)])]
def k_X1_isWanted : List (Nat × Nat × List Ins) := [(0, 7, [(3, 1, 2, 0), (21, 10, 0, 63), (3, 2, 0, 0), (0, 0, 0, 2), (6, 0, 0, 0), (26, 0, 0, 0), (4, 3, 0, 0), (3, 3, 0, 0), (0, 0, 0, (-1)), (13, 0, 41, 0), (3, 0, 2, 0), (21, 1, 5, 21), (3, 1, 2, 0), (3, 3, 0, 0), (3, 0, 2, 0), (21, 1, 6, 25), (39, 13042, 20, 106), (12, 0, 45, 0), (3, 0, 2, 0), (21, 1, 5, 21), (18, 3, 2, 110), (0, 0, 0, 1), (13, 1, 45, 0), (16, 0, 41, 0)]),
  (41, 0, [(0, 0, 0, 1), (15, 0, 46, 0), (58, 0, 0, 0)]),
  (45, 0, [(0, 0, 0, 0), (58, 0, 0, 0)])]
def k_X1_sumsWork : List (Nat × Nat × List Ins) := [(0, 7, [(0, 0, 0, 0), (4, 3, 0, 0), (16, 0, 2, 0)]),
  (2, 15, [(3, 3, 0, 0), (3, 0, 2, 0), (21, 1, 7, 29), (28, 0, 0, 0), (13, 3, 67, 0), (3, 1, 2, 0), (21, 10, 0, 63), (3, 2, 0, 0), (0, 0, 0, 3), (6, 0, 0, 0), (3, 3, 0, 0), (6, 0, 0, 0), (26, 0, 0, 0), (4, 4, 0, 0), (3, 4, 0, 0), (0, 0, 0, (-1)), (13, 0, 61, 0), (3, 0, 2, 0), (21, 1, 5, 21), (3, 1, 2, 0), (3, 4, 0, 0), (3, 0, 2, 0), (21, 1, 6, 25), (39, 13042, 20, 106), (12, 1, 48, 0), (0, 0, 0, 0), (58, 0, 0, 0)]),
  (48, 15, [(3, 0, 2, 0), (21, 1, 7, 29), (3, 3, 0, 0), (3, 0, 2, 0), (21, 1, 5, 21), (18, 3, 2, 110), (27, 0, 0, 0), (16, 0, 61, 0)]),
  (61, 15, [(5, 3, 0, 1), (15, 0, 2, 0), (16, 0, 2, 0)]),
  (67, 0, [(0, 0, 0, 1), (58, 0, 0, 0)])]
def k_X1_paints : List (Nat × Nat × List Ins) := [(0, 3, [(3, 0, 2, 0), (21, 1, 7, 29), (0, 0, 0, 0), (26, 0, 0, 0), (4, 2, 0, 0), (3, 1, 0, 0), (0, 0, 0, 2), (13, 0, 45, 0), (3, 0, 2, 0), (21, 1, 4, 43), (3, 1, 0, 0), (0, 0, 0, 1), (39, 15032, 35, 113), (3, 0, 2, 0), (21, 1, 4, 43), (18, 5, 14, 119), (12, 5, 43, 0), (3, 0, 2, 0), (21, 1, 4, 43), (21, 5, 11, 121), (0, 0, 0, 0), (26, 0, 0, 0), (15, 0, 44, 0), (4, 2, 0, 0), (16, 0, 45, 0)]),
  (43, 1, [(0, 0, 0, (-1)), (4, 2, 0, 0), (16, 0, 45, 0)]),
  (45, 5, [(3, 0, 2, 0), (21, 1, 0, 32), (18, 7, 8, 86), (0, 0, 0, 1), (6, 0, 0, 0), (4, 3, 0, 0), (3, 0, 2, 0), (21, 1, 0, 32), (3, 2, 0, 0), (39, 17022, 66, 124), (12, 0, 90, 0), (3, 0, 2, 0), (21, 1, 2, 35), (3, 2, 0, 0), (3, 3, 0, 0), (39, 14032, 26, 128), (12, 1, 90, 0), (3, 0, 2, 0), (21, 1, 0, 32), (3, 2, 0, 0), (3, 3, 0, 0), (39, 17032, 70, 134), (12, 0, 93, 0), (16, 0, 90, 0)]),
  (90, 0, [(0, 1, 0, (-3)), (55, 0, 0, 0)]),
  (93, 5, [(3, 0, 2, 0), (21, 1, 0, 32), (18, 7, 8, 86), (0, 1, 0, 16), (13, 2, 108, 0), (0, 1, 0, (-5)), (55, 0, 0, 0)]),
  (108, 5, [(3, 0, 2, 0), (21, 1, 3, 39), (3, 2, 0, 0), (39, 19022, 95, 137), (0, 0, 0, 0), (55, 0, 0, 0)])]
def k_X1_changes : List (Nat × Nat × List Ins) := [(0, 3, [(3, 1, 0, 0), (0, 0, 0, 4), (13, 1, 29, 0), (3, 0, 2, 0), (21, 1, 0, 32), (18, 7, 11, 89), (0, 1, 0, 6), (13, 2, 20, 0), (0, 1, 0, (-5)), (55, 0, 0, 0)]),
  (20, 1, [(3, 0, 2, 0), (21, 1, 0, 32), (39, 17012, 72, 140), (0, 0, 0, 0), (55, 0, 0, 0)]),
  (29, 3, [(3, 1, 0, 0), (0, 0, 0, 3), (13, 1, 62, 0), (3, 0, 2, 0), (21, 1, 0, 32), (18, 7, 8, 86), (12, 1, 47, 0), (0, 1, 0, (-3)), (55, 0, 0, 0)]),
  (47, 1, [(3, 0, 2, 0), (21, 1, 0, 32), (11, 0, 0, 0), (18, 7, 8, 86), (0, 0, 0, 1), (6, 1, 0, 0), (22, 7, 8, 86), (0, 0, 0, 0), (55, 0, 0, 0)]),
  (62, 1, [(3, 0, 2, 0), (21, 1, 7, 29), (0, 0, 0, 0), (26, 0, 0, 0), (3, 0, 2, 0), (21, 1, 0, 32), (18, 7, 11, 89), (39, 21, 177, 143), (12, 0, 105, 0), (3, 0, 2, 0), (21, 1, 7, 29), (0, 0, 0, 1), (26, 0, 0, 0), (39, 11, 178, 146), (12, 0, 105, 0), (3, 0, 2, 0), (21, 1, 7, 29), (0, 0, 0, 2), (26, 0, 0, 0), (39, 11, 179, 149), (12, 1, 108, 0), (16, 0, 105, 0)]),
  (105, 0, [(0, 1, 0, (-3)), (55, 0, 0, 0)]),
  (108, 1, [(3, 0, 2, 0), (21, 1, 0, 32), (21, 7, 12, 152), (3, 0, 2, 0), (21, 1, 7, 29), (0, 0, 0, 0), (26, 0, 0, 0), (0, 1, 0, 12), (6, 2, 0, 0), (3, 0, 2, 0), (21, 1, 7, 29), (0, 0, 0, 1), (26, 0, 0, 0), (6, 0, 0, 0), (3, 0, 2, 0), (21, 1, 7, 29), (0, 0, 0, 2), (26, 0, 0, 0), (27, 0, 0, 0), (0, 0, 0, 0), (55, 0, 0, 0)])]
def k_X2_init : List (Nat × Nat × List Ins) := [(0, 7, [(3, 0, 2, 0), (40, 0, 0, 3), (3, 0, 2, 0), (0, 1, 0, 8), (37, 0, 0, 0), (25, 2, 2, 9), (3, 0, 2, 0), (0, 1, 0, 100), (37, 0, 0, 0), (25, 2, 3, 15), (3, 0, 2, 0), (0, 1, 0, 8), (37, 0, 0, 0), (25, 2, 4, 18), (3, 0, 2, 0), (3, 1, 2, 0), (25, 2, 0, 21), (3, 0, 2, 0), (3, 2, 2, 0), (25, 2, 1, 25), (42, 0, 0, 0)])]
def k_X2_crownTill : List (Nat × Nat × List Ins) := [(0, 3, [(0, 0, 0, (-1)), (4, 2, 0, 0), (0, 0, 0, 0), (4, 3, 0, 0), (16, 0, 4, 0)]),
  (4, 15, [(3, 3, 0, 0), (3, 1, 0, 0), (13, 4, 68, 0), (3, 3, 0, 0), (0, 1, 0, 100), (13, 3, 68, 0), (3, 2, 0, 0), (0, 0, 0, (-1)), (13, 0, 32, 0), (3, 0, 2, 0), (21, 2, 0, 21), (3, 2, 0, 0), (3, 3, 0, 0), (39, 17032, 74, 29), (12, 1, 55, 0), (16, 0, 32, 0)]),
  (32, 11, [(3, 0, 2, 0), (3, 3, 0, 0), (39, 12022, 16, 35), (3, 0, 2, 0), (18, 2, 5, 39), (12, 5, 53, 0), (3, 0, 2, 0), (21, 2, 4, 18), (0, 0, 0, 0), (26, 0, 0, 0), (15, 0, 54, 0), (4, 2, 0, 0), (16, 0, 55, 0)]),
  (53, 11, [(0, 0, 0, (-1)), (4, 2, 0, 0), (16, 0, 55, 0)]),
  (55, 15, [(3, 0, 2, 0), (21, 2, 3, 15), (3, 3, 0, 0), (3, 2, 0, 0), (27, 0, 0, 0), (5, 3, 0, 1), (15, 0, 4, 0), (16, 0, 4, 0)]),
  (68, 0, [(42, 0, 0, 0)])]
def k_X2_reigns : List (Nat × Nat × List Ins) := [(0, 1, [(0, 0, 0, 0), (4, 1, 0, 0), (0, 0, 0, 0), (4, 2, 0, 0), (16, 0, 4, 0)]),
  (4, 7, [(3, 2, 0, 0), (0, 1, 0, 100), (13, 3, 27, 0), (3, 0, 2, 0), (3, 2, 0, 0), (39, 12022, 17, 43), (12, 0, 21, 0), (5, 1, 0, 1), (16, 0, 21, 0)]),
  (21, 7, [(5, 2, 0, 1), (15, 0, 4, 0), (16, 0, 4, 0)]),
  (27, 2, [(3, 1, 0, 0), (55, 0, 0, 0)])]
def k_X2_reignOf : List (Nat × Nat × List Ins) := [(0, 7, [(0, 0, 0, 0), (4, 3, 0, 0), (0, 0, 0, 0), (4, 4, 0, 0), (16, 0, 5, 0)]),
  (5, 31, [(3, 4, 0, 0), (0, 1, 0, 100), (13, 3, 66, 0), (3, 0, 2, 0), (3, 4, 0, 0), (39, 12022, 17, 43), (12, 0, 60, 0), (3, 3, 0, 0), (3, 1, 0, 0), (13, 1, 57, 0), (3, 2, 0, 0), (12, 1, 40, 0), (3, 0, 2, 0), (21, 2, 3, 15), (3, 4, 0, 0), (26, 0, 0, 0), (15, 0, 56, 0), (55, 0, 0, 0)]),
  (40, 21, [(3, 2, 0, 0), (0, 0, 0, 1), (13, 1, 50, 0), (3, 4, 0, 0), (15, 0, 56, 0), (55, 0, 0, 0)]),
  (50, 17, [(3, 0, 2, 0), (3, 4, 0, 0), (39, 12022, 18, 47), (55, 0, 0, 0)]),
  (57, 31, [(5, 3, 0, 1), (16, 0, 60, 0)]),
  (60, 31, [(5, 4, 0, 1), (15, 0, 5, 0), (16, 0, 5, 0)]),
  (66, 0, [(0, 0, 0, (-1)), (55, 0, 0, 0)])]
def k_X2_standInLine : List (Nat × Nat × List Ins) := [(0, 3, [(3, 0, 2, 0), (0, 0, 0, 0), (22, 2, 5, 39), (0, 0, 0, 0), (4, 2, 0, 0), (16, 0, 7, 0)]),
  (7, 7, [(3, 2, 0, 0), (3, 0, 2, 0), (21, 2, 0, 21), (18, 7, 13, 51), (13, 3, 146, 0), (3, 0, 2, 0), (21, 2, 0, 21), (3, 2, 0, 0), (3, 1, 0, 0), (39, 17032, 74, 29), (12, 0, 140, 0), (3, 0, 2, 0), (21, 2, 1, 25), (3, 2, 0, 0), (3, 1, 0, 0), (39, 14032, 28, 54), (12, 1, 140, 0), (3, 0, 2, 0), (21, 2, 1, 25), (3, 2, 0, 0), (3, 1, 0, 0), (39, 14032, 27, 59), (4, 3, 0, 0), (3, 0, 2, 0), (18, 2, 5, 39), (4, 4, 0, 0), (16, 0, 58, 0)]),
  (58, 31, [(3, 4, 0, 0), (12, 5, 114, 0), (3, 0, 2, 0), (21, 2, 2, 9), (3, 4, 0, 0), (0, 0, 0, 1), (6, 1, 0, 0), (26, 0, 0, 0), (3, 3, 0, 0), (13, 5, 114, 0), (3, 0, 2, 0), (21, 2, 2, 9), (3, 4, 0, 0), (3, 0, 2, 0), (21, 2, 2, 9), (3, 4, 0, 0), (0, 0, 0, 1), (6, 1, 0, 0), (26, 0, 0, 0), (27, 0, 0, 0), (3, 0, 2, 0), (21, 2, 4, 18), (3, 4, 0, 0), (3, 0, 2, 0), (21, 2, 4, 18), (3, 4, 0, 0), (0, 0, 0, 1), (6, 1, 0, 0), (26, 0, 0, 0), (27, 0, 0, 0), (5, 4, 0, (-1)), (15, 0, 58, 0), (16, 0, 58, 0)]),
  (114, 31, [(3, 0, 2, 0), (21, 2, 2, 9), (3, 4, 0, 0), (3, 3, 0, 0), (27, 0, 0, 0), (3, 0, 2, 0), (21, 2, 4, 18), (3, 4, 0, 0), (3, 2, 0, 0), (27, 0, 0, 0), (3, 0, 2, 0), (11, 0, 0, 0), (18, 2, 5, 39), (0, 0, 0, 1), (6, 0, 0, 0), (22, 2, 5, 39), (16, 0, 140, 0)]),
  (140, 7, [(5, 2, 0, 1), (15, 0, 7, 0), (16, 0, 7, 0)]),
  (146, 0, [(42, 0, 0, 0)])]
def k_X2_begins : List (Nat × Nat × List Ins) := [(0, 3, [(3, 0, 2, 0), (21, 2, 3, 15), (3, 1, 0, 0), (26, 0, 0, 0), (0, 0, 0, (-1)), (13, 0, 35, 0), (3, 1, 0, 0), (12, 0, 31, 0), (3, 0, 2, 0), (21, 2, 3, 15), (3, 1, 0, 0), (0, 0, 0, 1), (6, 1, 0, 0), (26, 0, 0, 0), (3, 0, 2, 0), (21, 2, 3, 15), (3, 1, 0, 0), (26, 0, 0, 0), (13, 0, 35, 0), (16, 0, 31, 0)]),
  (31, 0, [(0, 0, 0, 1), (15, 0, 36, 0), (58, 0, 0, 0)]),
  (35, 0, [(0, 0, 0, 0), (58, 0, 0, 0)])]
def k_X2_lasts : List (Nat × Nat × List Ins) := [(0, 3, [(3, 1, 0, 0), (4, 2, 0, 0), (16, 0, 2, 0)]),
  (2, 7, [(3, 2, 0, 0), (0, 1, 0, 100), (13, 3, 29, 0), (3, 0, 2, 0), (21, 2, 3, 15), (3, 2, 0, 0), (26, 0, 0, 0), (3, 0, 2, 0), (21, 2, 3, 15), (3, 1, 0, 0), (26, 0, 0, 0), (13, 1, 29, 0), (5, 2, 0, 1), (15, 0, 2, 0), (16, 0, 2, 0)]),
  (29, 6, [(3, 2, 0, 0), (3, 1, 0, 0), (6, 1, 0, 0), (55, 0, 0, 0)])]
def k_X3_init : List (Nat × Nat × List Ins) := [(0, 1, [(3, 0, 2, 0), (40, 0, 0, 3), (3, 0, 2, 0), (0, 1, 0, 100), (37, 0, 0, 0), (25, 3, 0, 9), (42, 0, 0, 0)])]
def k_X3_works : List (Nat × Nat × List Ins) := [(0, 15, [(3, 0, 2, 0), (0, 0, 0, 0), (22, 3, 1, 15), (3, 2, 0, 0), (4, 4, 0, 0), (0, 0, 0, 0), (4, 5, 0, 0), (16, 0, 11, 0)]),
  (11, 59, [(3, 5, 0, 0), (0, 2, 0, 450), (13, 3, 271, 0), (3, 4, 0, 0), (3, 1, 2, 0), (18, 10, 3, 19), (39, 21, 177, 24), (12, 0, 271, 0), (3, 1, 2, 0), (21, 10, 1, 28), (3, 4, 0, 0), (26, 0, 0, 0), (0, 1, 0, 15), (6, 3, 0, 0), (4, 6, 0, 0), (3, 1, 2, 0), (21, 10, 1, 28), (3, 4, 0, 0), (26, 0, 0, 0), (0, 0, 0, 4), (6, 7, 0, 0), (4, 7, 0, 0), (5, 4, 0, 1), (3, 6, 0, 0), (12, 0, 68, 0), (3, 6, 0, 0), (0, 0, 0, 1), (13, 1, 131, 0), (16, 0, 68, 0)]),
  (68, 251, [(3, 0, 2, 0), (18, 3, 1, 15), (3, 0, 2, 0), (21, 3, 0, 9), (28, 0, 0, 0), (13, 3, 93, 0), (3, 6, 0, 0), (0, 0, 0, 1), (13, 1, 95, 0), (3, 7, 0, 0), (3, 3, 2, 0), (28, 0, 0, 0), (13, 2, 95, 0), (16, 0, 93, 0)]),
  (93, 0, [(0, 0, 0, 0), (58, 0, 0, 0)]),
  (95, 251, [(3, 0, 2, 0), (21, 3, 0, 9), (3, 0, 2, 0), (18, 3, 1, 15), (3, 6, 0, 0), (12, 1, 113, 0), (3, 7, 0, 0), (15, 0, 117, 0), (16, 0, 117, 0)]),
  (113, 187, [(3, 3, 2, 0), (3, 7, 0, 0), (26, 0, 0, 0), (16, 0, 117, 0)]),
  (117, 59, [(27, 0, 0, 0), (3, 0, 2, 0), (11, 0, 0, 0), (18, 3, 1, 15), (0, 0, 0, 1), (6, 0, 0, 0), (22, 3, 1, 15), (15, 0, 265, 0), (16, 0, 265, 0)]),
  (131, 251, [(3, 0, 2, 0), (18, 3, 1, 15), (0, 0, 0, 1), (13, 3, 141, 0), (0, 0, 0, 0), (58, 0, 0, 0)]),
  (141, 251, [(3, 6, 0, 0), (0, 1, 0, 12), (13, 1, 160, 0), (3, 0, 2, 0), (3, 0, 2, 0), (21, 3, 0, 9), (0, 0, 0, 0), (26, 0, 0, 0), (22, 3, 2, 31), (0, 0, 0, 1), (58, 0, 0, 0)]),
  (160, 251, [(3, 6, 0, 0), (0, 1, 0, 9), (13, 1, 194, 0), (3, 0, 2, 0), (21, 3, 0, 9), (3, 0, 2, 0), (18, 3, 1, 15), (0, 0, 0, 1), (6, 1, 0, 0), (0, 0, 0, 1), (3, 0, 2, 0), (21, 3, 0, 9), (3, 0, 2, 0), (18, 3, 1, 15), (0, 0, 0, 1), (6, 1, 0, 0), (26, 0, 0, 0), (6, 1, 0, 0), (27, 0, 0, 0), (15, 0, 265, 0), (16, 0, 265, 0)]),
  (194, 251, [(3, 6, 0, 0), (0, 1, 0, 10), (13, 0, 208, 0), (3, 6, 0, 0), (0, 1, 0, 11), (13, 1, 254, 0), (16, 0, 208, 0)]),
  (208, 251, [(3, 0, 2, 0), (21, 3, 0, 9), (3, 0, 2, 0), (18, 3, 1, 15), (0, 0, 0, 1), (6, 1, 0, 0), (26, 0, 0, 0), (3, 6, 0, 0), (0, 1, 0, 10), (13, 1, 230, 0), (0, 0, 0, 1), (15, 0, 231, 0), (16, 0, 231, 0)]),
  (230, 187, [(0, 0, 0, 0), (16, 0, 231, 0)]),
  (231, 187, [(13, 1, 241, 0), (3, 7, 0, 0), (4, 4, 0, 0), (15, 0, 265, 0), (16, 0, 265, 0)]),
  (241, 59, [(3, 0, 2, 0), (11, 0, 0, 0), (18, 3, 1, 15), (0, 0, 0, 1), (6, 1, 0, 0), (22, 3, 1, 15), (15, 0, 265, 0), (16, 0, 265, 0)]),
  (254, 123, [(3, 0, 2, 0), (3, 6, 0, 0), (39, 13022, 21, 34), (12, 1, 265, 0), (0, 0, 0, 0), (58, 0, 0, 0)]),
  (265, 59, [(5, 5, 0, 1), (15, 0, 11, 0), (16, 0, 11, 0)]),
  (271, 0, [(0, 0, 0, 0), (58, 0, 0, 0)])]
def k_X3_joins : List (Nat × Nat × List Ins) := [(0, 3, [(3, 0, 2, 0), (18, 3, 1, 15), (0, 0, 0, 2), (13, 3, 10, 0), (0, 0, 0, 0), (58, 0, 0, 0)]),
  (10, 3, [(3, 0, 2, 0), (21, 3, 0, 9), (3, 0, 2, 0), (18, 3, 1, 15), (0, 0, 0, 2), (6, 1, 0, 0), (26, 0, 0, 0), (10, 0, 0, 0), (4, 2, 1, 0), (3, 0, 2, 0), (21, 3, 0, 9), (3, 0, 2, 0), (18, 3, 1, 15), (0, 0, 0, 1), (6, 1, 0, 0), (26, 0, 0, 0), (10, 0, 0, 0), (4, 4, 1, 0), (3, 1, 0, 0), (0, 0, 0, 5), (13, 1, 51, 0), (3, 4, 1, 0), (1, 0, 0, 0), (9, 0, 0, 0), (12, 1, 51, 0), (0, 0, 0, 0), (58, 0, 0, 0)]),
  (51, 23, [(3, 1, 0, 0), (17, 0, 0, 40)]),
  (92, 21, [(3, 2, 1, 0), (3, 4, 1, 0), (8, 0, 0, 0), (4, 6, 1, 0), (15, 0, 187, 0), (16, 0, 187, 0)]),
  (101, 21, [(3, 2, 1, 0), (3, 4, 1, 0), (8, 1, 0, 0), (4, 6, 1, 0), (15, 0, 187, 0), (16, 0, 187, 0)]),
  (110, 21, [(3, 2, 1, 0), (3, 4, 1, 0), (8, 2, 0, 0), (4, 6, 1, 0), (15, 0, 187, 0), (16, 0, 187, 0)]),
  (119, 21, [(3, 4, 1, 0), (1, 0, 0, 0), (9, 0, 0, 0), (12, 1, 130, 0), (1, 0, 0, 0), (15, 0, 134, 0), (4, 6, 1, 0), (15, 0, 187, 0), (16, 0, 187, 0)]),
  (130, 21, [(3, 2, 1, 0), (3, 4, 1, 0), (45, 0, 0, 0), (4, 6, 1, 0), (15, 0, 187, 0), (16, 0, 187, 0)]),
  (139, 21, [(3, 2, 1, 0), (3, 4, 1, 0), (9, 0, 0, 0), (12, 3, 150, 0), (1, 0, 0, 1), (15, 0, 151, 0), (4, 6, 1, 0), (15, 0, 187, 0), (16, 0, 187, 0)]),
  (150, 1, [(1, 0, 0, 0), (4, 6, 1, 0), (15, 0, 187, 0), (16, 0, 187, 0)]),
  (156, 21, [(3, 2, 1, 0), (3, 4, 1, 0), (9, 0, 0, 0), (12, 5, 167, 0), (1, 0, 0, 1), (15, 0, 168, 0), (4, 6, 1, 0), (15, 0, 187, 0), (16, 0, 187, 0)]),
  (167, 1, [(1, 0, 0, 0), (4, 6, 1, 0), (15, 0, 187, 0), (16, 0, 187, 0)]),
  (173, 21, [(3, 2, 1, 0), (3, 4, 1, 0), (9, 0, 0, 0), (12, 1, 184, 0), (1, 0, 0, 1), (15, 0, 185, 0), (4, 6, 1, 0), (16, 0, 187, 0)]),
  (184, 1, [(1, 0, 0, 0), (4, 6, 1, 0), (16, 0, 187, 0)]),
  (187, 65, [(3, 6, 1, 0), (1, 1, 38, 1000000000), (9, 0, 0, 0), (12, 4, 205, 0), (3, 6, 1, 0), (1, 1, 40, (-1000000000)), (9, 0, 0, 0), (12, 3, 207, 0), (16, 0, 205, 0)]),
  (205, 0, [(0, 0, 0, 0), (58, 0, 0, 0)]),
  (207, 65, [(3, 0, 2, 0), (11, 0, 0, 0), (18, 3, 1, 15), (0, 0, 0, 1), (6, 1, 0, 0), (22, 3, 1, 15), (3, 0, 2, 0), (21, 3, 0, 9), (3, 0, 2, 0), (18, 3, 1, 15), (0, 0, 0, 1), (6, 1, 0, 0), (3, 6, 1, 0), (48, 0, 0, 0), (27, 0, 0, 0), (0, 0, 0, 1), (58, 0, 0, 0)])]
def k_X4_init : List (Nat × Nat × List Ins) := [(0, 3, [(3, 0, 2, 0), (40, 0, 0, 3), (3, 0, 2, 0), (36, 3, 3, 9), (11, 0, 0, 0), (39, 15, 19, 11), (25, 4, 1, 12), (3, 0, 2, 0), (0, 1, 0, 10), (37, 0, 0, 0), (25, 4, 2, 18), (3, 0, 2, 0), (3, 1, 2, 0), (25, 4, 0, 22), (42, 0, 0, 0)])]
def k_X4_looksOf : List (Nat × Nat × List Ins) := [(0, 7, [(3, 0, 2, 0), (3, 1, 0, 0), (3, 2, 0, 0), (39, 14032, 29, 26), (4, 3, 0, 0), (3, 3, 0, 0), (0, 0, 0, (-1)), (13, 0, 14, 0), (3, 3, 0, 0), (55, 0, 0, 0)]),
  (14, 7, [(3, 0, 2, 0), (3, 2, 0, 0), (39, 14022, 30, 30), (3, 0, 2, 0), (21, 4, 2, 18), (0, 0, 0, 0), (3, 1, 0, 0), (27, 0, 0, 0), (3, 0, 2, 0), (0, 0, 0, 0), (39, 14022, 33, 34), (12, 0, 45, 0), (3, 0, 2, 0), (18, 4, 3, 38), (0, 0, 0, 0), (0, 1, 0, 9), (39, 31, 184, 42), (55, 0, 0, 0)]),
  (45, 5, [(0, 1, 0, 9), (3, 0, 2, 0), (21, 4, 0, 22), (3, 2, 0, 0), (39, 17022, 69, 46), (0, 1, 0, 10), (43, 0, 0, 0), (39, 20, 344, 52), (55, 0, 0, 0)])]
def k_X4_letsOf : List (Nat × Nat × List Ins) := [(0, 7, [(3, 0, 2, 0), (3, 2, 0, 0), (39, 14022, 30, 30), (3, 0, 2, 0), (21, 4, 2, 18), (0, 0, 0, 0), (3, 1, 0, 0), (27, 0, 0, 0), (3, 0, 2, 0), (0, 0, 0, 1), (39, 14022, 33, 34), (12, 0, 33, 0), (3, 0, 2, 0), (18, 4, 3, 38), (0, 0, 0, 0), (0, 1, 0, 9), (39, 31, 184, 42), (15, 0, 35, 0), (55, 0, 0, 0)]),
  (33, 0, [(0, 1, 0, 9), (55, 0, 0, 0)])]
def k_X4_asksOf : List (Nat × Nat × List Ins) := [(0, 7, [(3, 0, 2, 0), (3, 1, 0, 0), (3, 2, 0, 0), (39, 14032, 31, 57), (3, 0, 2, 0), (0, 0, 0, 2), (39, 14022, 33, 34), (12, 0, 28, 0), (3, 0, 2, 0), (18, 4, 3, 38), (0, 0, 0, 0), (0, 2, 0, 999), (39, 31, 184, 42), (15, 0, 41, 0), (55, 0, 0, 0)]),
  (28, 3, [(3, 0, 2, 0), (21, 4, 0, 22), (21, 7, 1, 61), (3, 1, 0, 0), (0, 0, 0, 5), (6, 2, 0, 0), (0, 0, 0, 1), (6, 0, 0, 0), (26, 0, 0, 0), (55, 0, 0, 0)])]
def k_X4_barsPainter : List (Nat × Nat × List Ins) := [(0, 7, [(3, 0, 2, 0), (3, 1, 0, 0), (3, 2, 0, 0), (39, 14032, 31, 57), (3, 0, 2, 0), (0, 0, 0, 4), (39, 14022, 33, 34), (58, 0, 0, 0)])]
def k_X4_ranksOf : List (Nat × Nat × List Ins) := [(0, 7, [(3, 0, 2, 0), (3, 1, 0, 0), (3, 2, 0, 0), (39, 14032, 32, 64), (3, 0, 2, 0), (0, 0, 0, 3), (39, 14022, 33, 34), (12, 0, 28, 0), (3, 0, 2, 0), (18, 4, 3, 38), (0, 0, 0, 0), (0, 2, 0, 999), (39, 31, 184, 42), (15, 0, 29, 0), (55, 0, 0, 0)]),
  (28, 2, [(3, 1, 0, 0), (55, 0, 0, 0)])]
def k_X4_barsClaimant : List (Nat × Nat × List Ins) := [(0, 7, [(3, 0, 2, 0), (3, 1, 0, 0), (3, 2, 0, 0), (39, 14032, 32, 64), (3, 0, 2, 0), (0, 0, 0, 4), (39, 14022, 33, 34), (58, 0, 0, 0)])]
def k_X4_scarOn : List (Nat × Nat × List Ins) := [(0, 7, [(0, 0, 0, (-1)), (4, 3, 0, 0), (0, 0, 0, (-1)), (4, 4, 0, 0), (0, 0, 0, 0), (4, 5, 0, 0), (16, 0, 8, 0)]),
  (8, 63, [(3, 5, 0, 0), (3, 0, 2, 0), (21, 4, 0, 22), (18, 7, 2, 67), (0, 0, 0, 3), (6, 2, 0, 0), (13, 3, 85, 0), (3, 0, 2, 0), (21, 4, 0, 22), (21, 7, 3, 70), (3, 5, 0, 0), (0, 0, 0, 1), (6, 0, 0, 0), (26, 0, 0, 0), (4, 6, 0, 0), (3, 0, 2, 0), (21, 4, 0, 22), (21, 7, 3, 70), (3, 5, 0, 0), (26, 0, 0, 0), (3, 1, 0, 0), (13, 1, 79, 0), (3, 6, 0, 0), (3, 2, 0, 0), (13, 4, 79, 0), (3, 6, 0, 0), (3, 3, 0, 0), (13, 2, 79, 0), (3, 6, 0, 0), (4, 3, 0, 0), (3, 0, 2, 0), (21, 4, 0, 22), (21, 7, 3, 70), (3, 5, 0, 0), (0, 0, 0, 2), (6, 0, 0, 0), (26, 0, 0, 0), (4, 4, 0, 0), (16, 0, 79, 0)]),
  (79, 63, [(5, 5, 0, 3), (15, 0, 8, 0), (16, 0, 8, 0)]),
  (85, 16, [(3, 4, 0, 0), (55, 0, 0, 0)])]
def k_X4_ask : List (Nat × Nat × List Ins) := [(0, 3, [(0, 0, 0, 0), (4, 2, 0, 0), (16, 0, 2, 0)]),
  (2, 7, [(3, 2, 0, 0), (3, 0, 2, 0), (21, 4, 2, 18), (28, 0, 0, 0), (13, 3, 24, 0), (3, 0, 2, 0), (21, 4, 2, 18), (3, 2, 0, 0), (0, 0, 0, (-1)), (27, 0, 0, 0), (5, 2, 0, 1), (15, 0, 2, 0), (16, 0, 2, 0)]),
  (24, 3, [(3, 0, 2, 0), (21, 4, 2, 18), (0, 0, 0, 1), (3, 0, 2, 0), (21, 4, 0, 22), (3, 1, 0, 0), (39, 17022, 69, 46), (27, 0, 0, 0), (3, 0, 2, 0), (21, 4, 2, 18), (0, 0, 0, 2), (3, 1, 0, 0), (27, 0, 0, 0), (3, 0, 2, 0), (21, 4, 2, 18), (0, 0, 0, 5), (3, 0, 2, 0), (21, 4, 0, 22), (21, 7, 4, 73), (0, 0, 0, 2), (26, 0, 0, 0), (27, 0, 0, 0), (42, 0, 0, 0)])]
def k_X4_askPainter : List (Nat × Nat × List Ins) := [(0, 7, [(3, 0, 2, 0), (3, 2, 0, 0), (39, 14022, 30, 30), (3, 0, 2, 0), (21, 4, 2, 18), (0, 0, 0, 3), (3, 1, 0, 0), (27, 0, 0, 0), (3, 0, 2, 0), (21, 4, 2, 18), (0, 0, 0, 4), (3, 0, 2, 0), (21, 4, 0, 22), (21, 7, 1, 61), (3, 1, 0, 0), (0, 0, 0, 5), (6, 2, 0, 0), (0, 0, 0, 1), (6, 0, 0, 0), (26, 0, 0, 0), (27, 0, 0, 0), (42, 0, 0, 0)])]
def k_X4_askClaimant : List (Nat × Nat × List Ins) := [(0, 7, [(3, 0, 2, 0), (3, 2, 0, 0), (39, 14022, 30, 30), (3, 1, 0, 0), (0, 0, 0, 4), (6, 2, 0, 0), (4, 3, 0, 0), (3, 0, 2, 0), (21, 4, 0, 22), (21, 7, 14, 76), (3, 3, 0, 0), (0, 0, 0, 3), (6, 0, 0, 0), (26, 0, 0, 0), (4, 4, 0, 0), (3, 0, 2, 0), (21, 4, 2, 18), (0, 1, 0, 6), (3, 1, 0, 0), (27, 0, 0, 0), (3, 0, 2, 0), (21, 4, 2, 18), (0, 1, 0, 7), (3, 0, 2, 0), (21, 4, 0, 22), (21, 7, 14, 76), (3, 3, 0, 0), (0, 0, 0, 1), (6, 0, 0, 0), (26, 0, 0, 0), (27, 0, 0, 0), (3, 0, 2, 0), (21, 4, 2, 18), (0, 0, 0, 1), (3, 2, 0, 0), (3, 0, 2, 0), (21, 4, 0, 22), (21, 7, 14, 76), (3, 3, 0, 0), (0, 0, 0, 1), (6, 0, 0, 0), (26, 0, 0, 0), (6, 1, 0, 0), (27, 0, 0, 0), (3, 0, 2, 0), (21, 4, 2, 18), (0, 1, 0, 8), (3, 4, 0, 0), (3, 0, 2, 0), (21, 4, 0, 22), (18, 7, 11, 79), (39, 21, 177, 82), (12, 0, 100, 0), (3, 0, 2, 0), (21, 4, 0, 22), (3, 4, 0, 0), (39, 17022, 73, 86), (15, 0, 101, 0), (16, 0, 101, 0)]),
  (100, 7, [(0, 0, 0, (-1)), (16, 0, 101, 0)]),
  (101, 7, [(27, 0, 0, 0), (3, 0, 2, 0), (21, 4, 2, 18), (0, 1, 0, 9), (3, 0, 2, 0), (21, 4, 0, 22), (3, 1, 0, 0), (3, 2, 0, 0), (39, 17032, 75, 89), (27, 0, 0, 0), (42, 0, 0, 0)])]
def k_X4_tells : List (Nat × Nat × List Ins) := [(0, 3, [(3, 0, 2, 0), (21, 4, 0, 22), (18, 7, 7, 92), (3, 0, 2, 0), (21, 4, 0, 22), (18, 7, 5, 95), (39, 21, 177, 82), (12, 0, 38, 0), (3, 0, 2, 0), (21, 4, 0, 22), (21, 7, 6, 98), (3, 0, 2, 0), (21, 4, 0, 22), (18, 7, 7, 92), (26, 4, 0, 0), (15, 0, 39, 0), (16, 0, 39, 0)]),
  (38, 3, [(2, 0, 0, 0), (16, 0, 39, 0)]),
  (39, 3, [(4, 2, 2, 0), (3, 2, 2, 0), (14, 0, 46, 0), (0, 0, 0, 0), (58, 0, 0, 0)]),
  (46, 7, [(3, 2, 2, 0), (18, 10, 2, 102), (0, 0, 0, 1), (6, 1, 0, 0), (0, 1, 0, 6), (6, 2, 0, 0), (4, 3, 0, 0), (16, 0, 56, 0)]),
  (56, 15, [(3, 3, 0, 0), (12, 2, 180, 0), (3, 2, 2, 0), (21, 10, 0, 107), (3, 3, 0, 0), (0, 0, 0, 0), (6, 0, 0, 0), (26, 0, 0, 0), (3, 1, 0, 0), (13, 1, 174, 0), (3, 2, 2, 0), (21, 10, 0, 107), (3, 3, 0, 0), (0, 0, 0, 2), (6, 0, 0, 0), (26, 0, 0, 0), (4, 4, 0, 0), (3, 2, 2, 0), (21, 10, 0, 107), (3, 3, 0, 0), (0, 0, 0, 3), (6, 0, 0, 0), (26, 0, 0, 0), (4, 5, 0, 0), (3, 4, 0, 0), (0, 0, 0, (-1)), (13, 0, 126, 0), (3, 0, 2, 0), (21, 4, 1, 12), (3, 2, 2, 0), (3, 4, 0, 0), (3, 0, 2, 0), (21, 4, 2, 18), (39, 13042, 20, 110), (12, 0, 130, 0), (3, 0, 2, 0), (21, 4, 1, 12), (18, 3, 2, 114), (0, 0, 0, 1), (13, 1, 130, 0), (16, 0, 126, 0)]),
  (126, 47, [(0, 0, 0, 1), (15, 0, 131, 0), (16, 0, 131, 0)]),
  (130, 47, [(0, 0, 0, 0), (16, 0, 131, 0)]),
  (131, 47, [(4, 6, 0, 0), (3, 6, 0, 0), (12, 0, 174, 0), (3, 5, 0, 0), (0, 0, 0, (-1)), (13, 0, 161, 0), (3, 0, 2, 0), (21, 4, 1, 12), (3, 2, 2, 0), (3, 5, 0, 0), (3, 0, 2, 0), (21, 4, 2, 18), (39, 13042, 20, 110), (12, 0, 174, 0), (16, 0, 161, 0)]),
  (161, 1, [(3, 0, 2, 0), (3, 0, 2, 0), (21, 4, 1, 12), (18, 3, 2, 114), (22, 4, 3, 38), (0, 0, 0, 1), (58, 0, 0, 0)]),
  (174, 15, [(5, 3, 0, (-6)), (15, 0, 56, 0), (16, 0, 56, 0)]),
  (180, 0, [(0, 0, 0, 0), (58, 0, 0, 0)])]
def k_X5_init : List (Nat × Nat × List Ins) := [(0, 7, [(3, 0, 2, 0), (40, 0, 0, 3), (3, 0, 2, 0), (0, 1, 0, 72), (37, 0, 0, 0), (25, 5, 2, 9), (3, 0, 2, 0), (0, 1, 0, 72), (37, 0, 0, 0), (25, 5, 3, 15), (3, 0, 2, 0), (0, 1, 0, 30), (37, 0, 0, 0), (25, 5, 4, 18), (3, 0, 2, 0), (0, 1, 0, 30), (37, 2, 0, 0), (25, 5, 5, 21), (3, 0, 2, 0), (0, 1, 0, 72), (37, 0, 0, 0), (25, 5, 6, 25), (3, 0, 2, 0), (0, 0, 0, 5), (37, 0, 0, 0), (25, 5, 7, 28), (3, 0, 2, 0), (0, 0, 0, 5), (37, 0, 0, 0), (25, 5, 11, 31), (3, 0, 2, 0), (3, 1, 2, 0), (25, 5, 0, 34), (3, 0, 2, 0), (3, 2, 2, 0), (25, 5, 1, 38), (42, 0, 0, 0)])]
def k_X5_seek : List (Nat × Nat × List Ins) := [(0, 7, [(3, 0, 2, 0), (3, 1, 0, 0), (22, 5, 8, 42), (3, 0, 2, 0), (3, 2, 0, 0), (0, 0, 0, 5), (39, 20, 344, 46), (22, 5, 9, 52), (3, 0, 2, 0), (0, 0, 0, 0), (22, 5, 14, 55), (3, 0, 2, 0), (3, 0, 2, 0), (21, 5, 0, 34), (21, 7, 4, 58), (0, 0, 0, 3), (26, 0, 0, 0), (3, 0, 2, 0), (21, 5, 0, 34), (18, 7, 8, 63), (6, 2, 0, 0), (22, 5, 10, 66), (0, 0, 0, 1), (4, 3, 0, 0), (16, 0, 42, 0)]),
  (42, 9, [(3, 3, 0, 0), (3, 0, 2, 0), (21, 5, 0, 34), (18, 7, 8, 63), (13, 4, 85, 0), (3, 0, 2, 0), (11, 0, 0, 0), (18, 5, 10, 66), (3, 0, 2, 0), (21, 5, 1, 38), (3, 0, 2, 0), (21, 5, 0, 34), (21, 7, 9, 69), (3, 3, 0, 0), (26, 0, 0, 0), (3, 3, 0, 0), (39, 14032, 25, 71), (6, 1, 0, 0), (22, 5, 10, 66), (5, 3, 0, 1), (15, 0, 42, 0), (16, 0, 42, 0)]),
  (85, 1, [(0, 0, 0, 0), (4, 3, 0, 0), (16, 0, 87, 0)]),
  (87, 9, [(3, 3, 0, 0), (3, 0, 2, 0), (18, 5, 9, 52), (13, 4, 239, 0), (3, 0, 2, 0), (21, 5, 0, 34), (18, 7, 8, 63), (3, 3, 0, 0), (6, 0, 0, 0), (4, 4, 0, 0), (0, 0, 0, 0), (4, 5, 0, 0), (16, 0, 109, 0)]),
  (109, 57, [(3, 5, 0, 0), (0, 1, 0, 12), (13, 3, 168, 0), (3, 0, 2, 0), (21, 5, 2, 9), (3, 3, 0, 0), (0, 1, 0, 12), (6, 2, 0, 0), (3, 5, 0, 0), (6, 0, 0, 0), (3, 0, 2, 0), (21, 5, 1, 38), (3, 5, 0, 0), (3, 4, 0, 0), (39, 14032, 23, 76), (27, 0, 0, 0), (3, 0, 2, 0), (21, 5, 3, 15), (3, 3, 0, 0), (0, 1, 0, 12), (6, 2, 0, 0), (3, 5, 0, 0), (6, 0, 0, 0), (3, 0, 2, 0), (21, 5, 1, 38), (3, 5, 0, 0), (3, 4, 0, 0), (39, 14032, 24, 79), (27, 0, 0, 0), (5, 5, 0, 1), (15, 0, 109, 0), (16, 0, 109, 0)]),
  (168, 25, [(0, 0, 0, 0), (4, 5, 0, 0), (16, 0, 171, 0)]),
  (171, 57, [(3, 5, 0, 0), (3, 0, 2, 0), (21, 5, 0, 34), (18, 7, 0, 82), (13, 3, 233, 0), (3, 0, 2, 0), (21, 5, 4, 18), (3, 3, 0, 0), (0, 0, 0, 5), (6, 2, 0, 0), (3, 5, 0, 0), (6, 0, 0, 0), (3, 0, 2, 0), (21, 5, 1, 38), (3, 5, 0, 0), (3, 4, 0, 0), (39, 14032, 25, 71), (27, 0, 0, 0), (3, 0, 2, 0), (21, 5, 5, 21), (3, 3, 0, 0), (0, 0, 0, 5), (6, 2, 0, 0), (3, 5, 0, 0), (6, 0, 0, 0), (3, 0, 2, 0), (21, 5, 1, 38), (3, 5, 0, 0), (3, 4, 0, 0), (39, 14032, 26, 85), (53, 0, 0, 0), (5, 5, 0, 1), (15, 0, 171, 0), (16, 0, 171, 0)]),
  (233, 9, [(5, 3, 0, 1), (15, 0, 87, 0), (16, 0, 87, 0)]),
  (239, 1, [(3, 0, 2, 0), (21, 5, 0, 34), (21, 7, 10, 89), (3, 0, 2, 0), (21, 5, 0, 34), (18, 7, 8, 63), (0, 1, 0, 12), (6, 2, 0, 0), (3, 0, 2, 0), (21, 5, 6, 25), (0, 0, 0, 0), (0, 1, 0, 12), (41, 0, 0, 92), (3, 0, 2, 0), (0, 0, 0, 0), (0, 0, 0, 0), (39, 30, 36, 98), (42, 0, 0, 0)])]
def k_X5_walk : List (Nat × Nat × List Ins) := [(0, 7, [(3, 1, 0, 0), (3, 0, 2, 0), (18, 5, 9, 52), (13, 2, 14, 0), (3, 0, 2, 0), (3, 2, 0, 0), (39, 15022, 40, 102), (42, 0, 0, 0)]),
  (14, 7, [(3, 1, 0, 0), (0, 0, 0, 1), (6, 0, 0, 0), (4, 3, 0, 0), (0, 0, 0, 0), (4, 4, 0, 0), (16, 0, 21, 0)]),
  (21, 31, [(3, 4, 0, 0), (3, 0, 2, 0), (21, 5, 0, 34), (18, 7, 0, 82), (13, 3, 96, 0), (3, 0, 2, 0), (3, 4, 0, 0), (3, 1, 0, 0), (39, 15032, 37, 106), (12, 0, 90, 0), (3, 2, 0, 0), (3, 0, 2, 0), (21, 5, 4, 18), (3, 3, 0, 0), (0, 0, 0, 5), (6, 2, 0, 0), (3, 4, 0, 0), (6, 0, 0, 0), (26, 0, 0, 0), (6, 0, 0, 0), (4, 5, 0, 0), (3, 0, 2, 0), (21, 5, 7, 28), (3, 1, 0, 0), (3, 4, 0, 0), (27, 0, 0, 0), (3, 0, 2, 0), (3, 4, 0, 0), (3, 3, 0, 0), (39, 15032, 38, 109), (3, 0, 2, 0), (3, 3, 0, 0), (3, 5, 0, 0), (39, 15032, 39, 113), (12, 0, 90, 0), (3, 0, 2, 0), (3, 3, 0, 0), (3, 5, 0, 0), (39, 30, 36, 98), (16, 0, 90, 0)]),
  (90, 31, [(5, 4, 0, 1), (15, 0, 21, 0), (16, 0, 21, 0)]),
  (96, 0, [(42, 0, 0, 0)])]
def k_X5_mayPaint : List (Nat × Nat × List Ins) := [(0, 7, [(3, 2, 0, 0), (0, 0, 0, 1), (6, 0, 0, 0), (4, 3, 0, 0), (3, 0, 2, 0), (21, 5, 5, 21), (3, 3, 0, 0), (0, 0, 0, 5), (6, 2, 0, 0), (3, 1, 0, 0), (6, 0, 0, 0), (26, 2, 0, 0), (12, 1, 37, 0), (3, 0, 2, 0), (21, 5, 0, 34), (3, 1, 0, 0), (3, 0, 2, 0), (21, 5, 0, 34), (18, 7, 8, 63), (3, 3, 0, 0), (6, 0, 0, 0), (39, 17032, 70, 116), (12, 0, 39, 0), (16, 0, 37, 0)]),
  (37, 0, [(0, 0, 0, 0), (58, 0, 0, 0)]),
  (39, 7, [(0, 0, 0, 0), (3, 2, 0, 0), (3, 0, 2, 0), (21, 5, 0, 34), (21, 7, 4, 58), (0, 0, 0, 4), (26, 0, 0, 0), (6, 1, 0, 0), (39, 20, 343, 119), (4, 4, 0, 0), (16, 0, 56, 0)]),
  (56, 23, [(3, 4, 0, 0), (3, 2, 0, 0), (13, 3, 81, 0), (3, 0, 2, 0), (21, 5, 7, 28), (3, 4, 0, 0), (26, 0, 0, 0), (3, 1, 0, 0), (13, 1, 75, 0), (0, 0, 0, 0), (58, 0, 0, 0)]),
  (75, 23, [(5, 4, 0, 1), (15, 0, 56, 0), (16, 0, 56, 0)]),
  (81, 0, [(0, 0, 0, 1), (58, 0, 0, 0)])]
def k_X5_paintOver : List (Nat × Nat × List Ins) := [(0, 7, [(3, 2, 0, 0), (0, 1, 0, 12), (6, 2, 0, 0), (4, 3, 0, 0), (0, 0, 0, 0), (4, 4, 0, 0), (16, 0, 8, 0)]),
  (8, 27, [(3, 4, 0, 0), (0, 1, 0, 12), (13, 3, 61, 0), (3, 0, 2, 0), (21, 5, 6, 25), (3, 3, 0, 0), (3, 4, 0, 0), (6, 0, 0, 0), (3, 0, 2, 0), (21, 5, 0, 34), (3, 1, 0, 0), (3, 4, 0, 0), (3, 0, 2, 0), (21, 5, 6, 25), (3, 3, 0, 0), (0, 1, 0, 12), (6, 1, 0, 0), (3, 4, 0, 0), (6, 0, 0, 0), (26, 0, 0, 0), (3, 0, 2, 0), (21, 5, 2, 9), (3, 3, 0, 0), (3, 4, 0, 0), (6, 0, 0, 0), (26, 0, 0, 0), (39, 17052, 76, 122), (27, 0, 0, 0), (5, 4, 0, 1), (15, 0, 8, 0), (16, 0, 8, 0)]),
  (61, 0, [(42, 0, 0, 0)])]
def k_X5_isGood : List (Nat × Nat × List Ins) := [(0, 7, [(3, 0, 2, 0), (18, 5, 8, 42), (0, 0, 0, 2), (13, 1, 35, 0), (3, 0, 2, 0), (18, 5, 10, 66), (3, 0, 2, 0), (21, 5, 0, 34), (21, 7, 4, 58), (0, 0, 0, 3), (26, 0, 0, 0), (3, 1, 0, 0), (6, 2, 0, 0), (6, 0, 0, 0), (3, 2, 0, 0), (6, 1, 0, 0), (12, 2, 33, 0), (0, 0, 0, 1), (15, 0, 34, 0), (58, 0, 0, 0)]),
  (33, 0, [(0, 0, 0, 0), (58, 0, 0, 0)]),
  (35, 3, [(3, 0, 2, 0), (18, 5, 8, 42), (0, 0, 0, 1), (13, 1, 100, 0), (3, 1, 0, 0), (0, 1, 0, 12), (6, 2, 0, 0), (4, 3, 0, 0), (0, 0, 0, 0), (4, 4, 0, 0), (16, 0, 51, 0)]),
  (51, 25, [(3, 4, 0, 0), (0, 1, 0, 12), (13, 3, 100, 0), (3, 0, 2, 0), (21, 5, 6, 25), (3, 3, 0, 0), (3, 4, 0, 0), (6, 0, 0, 0), (26, 0, 0, 0), (3, 0, 2, 0), (21, 5, 2, 9), (3, 3, 0, 0), (3, 4, 0, 0), (6, 0, 0, 0), (26, 0, 0, 0), (6, 1, 0, 0), (39, 10, 342, 126), (3, 0, 2, 0), (21, 5, 3, 15), (3, 3, 0, 0), (3, 4, 0, 0), (6, 0, 0, 0), (26, 0, 0, 0), (13, 5, 94, 0), (0, 0, 0, 0), (58, 0, 0, 0)]),
  (94, 25, [(5, 4, 0, 1), (15, 0, 51, 0), (16, 0, 51, 0)]),
  (100, 0, [(0, 0, 0, 1), (58, 0, 0, 0)])]
def k_X5_weigh : List (Nat × Nat × List Ins) := [(0, 3, [(3, 0, 2, 0), (18, 5, 9, 52), (0, 1, 0, 12), (6, 2, 0, 0), (4, 2, 0, 0), (0, 0, 0, 0), (4, 3, 0, 0), (0, 0, 0, 0), (4, 4, 0, 0), (16, 0, 13, 0)]),
  (13, 31, [(3, 4, 0, 0), (0, 1, 0, 12), (13, 3, 51, 0), (3, 3, 0, 0), (3, 0, 2, 0), (21, 5, 6, 25), (3, 2, 0, 0), (3, 4, 0, 0), (6, 0, 0, 0), (26, 0, 0, 0), (3, 0, 2, 0), (21, 5, 2, 9), (3, 2, 0, 0), (3, 4, 0, 0), (6, 0, 0, 0), (26, 0, 0, 0), (6, 1, 0, 0), (39, 10, 342, 126), (6, 0, 0, 0), (4, 3, 0, 0), (5, 4, 0, 1), (15, 0, 13, 0), (16, 0, 13, 0)]),
  (51, 11, [(3, 0, 2, 0), (18, 5, 14, 55), (12, 5, 87, 0), (3, 3, 0, 0), (3, 0, 2, 0), (18, 5, 12, 130), (13, 1, 87, 0), (3, 1, 0, 0), (3, 0, 2, 0), (18, 5, 13, 133), (13, 1, 87, 0), (3, 0, 2, 0), (11, 0, 0, 0), (18, 5, 14, 55), (0, 0, 0, 1), (6, 0, 0, 0), (22, 5, 14, 55), (15, 0, 135, 0), (16, 0, 135, 0)]),
  (87, 11, [(3, 0, 2, 0), (18, 5, 14, 55), (12, 0, 103, 0), (3, 0, 2, 0), (3, 3, 0, 0), (3, 1, 0, 0), (39, 15032, 41, 136), (12, 0, 135, 0), (16, 0, 103, 0)]),
  (103, 11, [(3, 0, 2, 0), (0, 0, 0, 1), (22, 5, 14, 55), (3, 0, 2, 0), (3, 3, 0, 0), (22, 5, 12, 130), (3, 0, 2, 0), (3, 1, 0, 0), (22, 5, 13, 133), (3, 0, 2, 0), (21, 5, 7, 28), (0, 0, 0, 0), (3, 0, 2, 0), (21, 5, 11, 31), (0, 0, 0, 0), (3, 0, 2, 0), (18, 5, 9, 52), (41, 0, 0, 92), (16, 0, 135, 0)]),
  (135, 0, [(42, 0, 0, 0)])]
def k_X5_isBetter : List (Nat × Nat × List Ins) := [(0, 7, [(3, 0, 2, 0), (18, 5, 8, 42), (0, 0, 0, 1), (13, 1, 38, 0), (3, 2, 0, 0), (3, 0, 2, 0), (18, 5, 13, 133), (13, 2, 32, 0), (3, 2, 0, 0), (3, 0, 2, 0), (18, 5, 13, 133), (13, 1, 36, 0), (3, 1, 0, 0), (3, 0, 2, 0), (18, 5, 12, 130), (13, 3, 36, 0), (16, 0, 32, 0)]),
  (32, 0, [(0, 0, 0, 1), (15, 0, 37, 0), (58, 0, 0, 0)]),
  (36, 0, [(0, 0, 0, 0), (58, 0, 0, 0)]),
  (38, 7, [(3, 1, 0, 0), (3, 0, 2, 0), (18, 5, 12, 130), (13, 2, 62, 0), (3, 1, 0, 0), (3, 0, 2, 0), (18, 5, 12, 130), (13, 1, 66, 0), (3, 2, 0, 0), (3, 0, 2, 0), (18, 5, 13, 133), (13, 3, 66, 0), (16, 0, 62, 0)]),
  (62, 0, [(0, 0, 0, 1), (15, 0, 67, 0), (58, 0, 0, 0)]),
  (66, 0, [(0, 0, 0, 0), (58, 0, 0, 0)])]
def k_X6_init : List (Nat × Nat × List Ins) := [(0, 7, [(3, 0, 2, 0), (40, 0, 0, 3), (3, 0, 2, 0), (3, 1, 2, 0), (25, 6, 0, 9), (3, 0, 2, 0), (3, 2, 2, 0), (25, 6, 2, 15), (42, 0, 0, 0)])]
def k_X6_faultIn : List (Nat × Nat × List Ins) := [(0, 7, [(3, 0, 2, 0), (3, 1, 0, 0), (3, 0, 2, 0), (21, 6, 0, 9), (28, 0, 0, 0), (39, 20, 344, 19), (22, 6, 1, 25), (3, 0, 2, 0), (3, 2, 0, 0), (24, 6, 3, 29), (3, 0, 2, 0), (21, 6, 2, 15), (39, 20012, 109, 33), (3, 0, 2, 0), (0, 0, 0, 0), (22, 6, 6, 38), (3, 0, 2, 0), (0, 0, 0, 0), (22, 6, 8, 41), (3, 0, 2, 0), (39, 16012, 62, 44), (0, 0, 0, 0), (4, 3, 0, 0), (16, 0, 41, 0)]),
  (41, 9, [(3, 3, 0, 0), (0, 1, 0, 12), (13, 3, 141, 0), (3, 3, 0, 0), (0, 1, 0, 6), (6, 2, 0, 0), (4, 4, 0, 0), (3, 0, 2, 0), (3, 4, 0, 0), (39, 16022, 44, 47), (3, 0, 2, 0), (20, 6, 3, 29), (12, 0, 78, 0), (3, 0, 2, 0), (3, 4, 0, 0), (39, 16022, 46, 51), (12, 0, 96, 0), (15, 0, 87, 0), (16, 0, 87, 0)]),
  (78, 25, [(3, 0, 2, 0), (3, 4, 0, 0), (39, 16022, 45, 55), (12, 0, 96, 0), (16, 0, 87, 0)]),
  (87, 25, [(3, 0, 2, 0), (3, 4, 0, 0), (39, 16022, 48, 58), (12, 1, 101, 0), (16, 0, 96, 0)]),
  (96, 1, [(3, 0, 2, 0), (18, 6, 5, 61), (55, 0, 0, 0)]),
  (101, 9, [(3, 0, 2, 0), (21, 6, 2, 15), (3, 3, 0, 0), (0, 0, 0, 1), (6, 0, 0, 0), (22, 10, 2, 64), (3, 0, 2, 0), (18, 6, 4, 67), (0, 0, 0, 3), (13, 1, 121, 0), (0, 0, 0, (-1)), (55, 0, 0, 0)]),
  (121, 9, [(3, 0, 2, 0), (0, 1, 0, 59), (39, 16022, 58, 70), (12, 1, 135, 0), (3, 0, 2, 0), (18, 6, 5, 61), (55, 0, 0, 0)]),
  (135, 9, [(5, 3, 0, 1), (15, 0, 41, 0), (16, 0, 41, 0)]),
  (141, 1, [(3, 0, 2, 0), (18, 6, 5, 61), (55, 0, 0, 0)])]
def k_X6_clearRow : List (Nat × Nat × List Ins) := [(0, 3, [(0, 0, 0, 0), (4, 2, 0, 0), (16, 0, 2, 0)]),
  (2, 7, [(3, 2, 0, 0), (0, 1, 0, 6), (13, 3, 26, 0), (3, 0, 2, 0), (21, 6, 2, 15), (21, 10, 0, 74), (3, 1, 0, 0), (3, 2, 0, 0), (6, 0, 0, 0), (0, 0, 0, (-1)), (27, 0, 0, 0), (5, 2, 0, 1), (15, 0, 2, 0), (16, 0, 2, 0)]),
  (26, 3, [(3, 0, 2, 0), (21, 6, 2, 15), (21, 10, 0, 74), (3, 1, 0, 0), (0, 0, 0, 1), (6, 0, 0, 0), (0, 0, 0, 1), (27, 0, 0, 0), (42, 0, 0, 0)])]
def k_X6_readClause : List (Nat × Nat × List Ins) := [(0, 3, [(3, 0, 2, 0), (47, 0, 77, 0), (39, 16022, 60, 79), (4, 2, 0, 0), (3, 2, 0, 0), (0, 0, 0, (-1)), (13, 1, 14, 0), (0, 0, 0, 0), (58, 0, 0, 0)]),
  (14, 7, [(3, 0, 2, 0), (21, 6, 2, 15), (21, 10, 0, 74), (3, 1, 0, 0), (0, 0, 0, 0), (6, 0, 0, 0), (3, 2, 0, 0), (27, 0, 0, 0), (3, 0, 2, 0), (39, 16012, 62, 44), (3, 2, 0, 0), (0, 0, 0, 4), (13, 0, 44, 0), (3, 0, 2, 0), (3, 1, 0, 0), (0, 0, 0, 0), (39, 16032, 49, 83), (12, 0, 48, 0), (16, 0, 44, 0)]),
  (44, 0, [(0, 0, 0, 1), (15, 0, 49, 0), (58, 0, 0, 0)]),
  (48, 0, [(0, 0, 0, 0), (58, 0, 0, 0)])]
def k_X6_readOrder : List (Nat × Nat × List Ins) := [(0, 3, [(3, 0, 2, 0), (47, 1, 87, 0), (39, 16022, 60, 79), (4, 2, 0, 0), (3, 2, 0, 0), (0, 0, 0, (-1)), (13, 1, 14, 0), (0, 0, 0, 0), (58, 0, 0, 0)]),
  (14, 7, [(3, 0, 2, 0), (39, 16012, 62, 44), (3, 2, 0, 0), (12, 1, 43, 0), (3, 0, 2, 0), (47, 2, 89, 0), (39, 16022, 60, 79), (4, 2, 0, 0), (3, 2, 0, 0), (0, 0, 0, (-1)), (13, 1, 36, 0), (0, 0, 0, 0), (58, 0, 0, 0)]),
  (36, 7, [(3, 0, 2, 0), (39, 16012, 62, 44), (15, 0, 46, 0), (16, 0, 46, 0)]),
  (43, 7, [(5, 2, 0, 2), (16, 0, 46, 0)]),
  (46, 7, [(3, 0, 2, 0), (21, 6, 2, 15), (21, 10, 0, 74), (3, 1, 0, 0), (0, 0, 0, 0), (6, 0, 0, 0), (3, 2, 0, 0), (27, 0, 0, 0), (3, 2, 0, 0), (0, 0, 0, 2), (13, 1, 74, 0), (3, 0, 2, 0), (3, 1, 0, 0), (0, 0, 0, 0), (39, 16032, 49, 83), (12, 1, 74, 0), (0, 0, 0, 0), (58, 0, 0, 0)]),
  (74, 7, [(3, 2, 0, 0), (0, 0, 0, 5), (13, 1, 126, 0), (3, 0, 2, 0), (3, 1, 0, 0), (0, 0, 0, 0), (39, 16032, 49, 83), (12, 0, 124, 0), (3, 0, 2, 0), (47, 3, 91, 0), (39, 16022, 59, 93), (12, 0, 124, 0), (3, 0, 2, 0), (3, 1, 0, 0), (0, 0, 0, 1), (39, 16032, 49, 83), (12, 0, 124, 0), (3, 0, 2, 0), (47, 4, 97, 0), (39, 16022, 59, 93), (12, 0, 124, 0), (3, 0, 2, 0), (3, 1, 0, 0), (0, 0, 0, 2), (39, 16032, 49, 83), (12, 1, 126, 0), (16, 0, 124, 0)]),
  (124, 0, [(0, 0, 0, 0), (58, 0, 0, 0)]),
  (126, 3, [(3, 0, 2, 0), (3, 1, 0, 0), (39, 16022, 47, 99), (58, 0, 0, 0)])]
def k_X6_readTimes : List (Nat × Nat × List Ins) := [(0, 3, [(3, 0, 2, 0), (47, 5, 102, 0), (39, 16022, 59, 93), (12, 1, 11, 0), (0, 0, 0, 1), (58, 0, 0, 0)]),
  (11, 3, [(3, 0, 2, 0), (18, 6, 4, 67), (0, 0, 0, 1), (13, 1, 36, 0), (3, 0, 2, 0), (18, 6, 7, 104), (0, 0, 0, 1), (13, 2, 36, 0), (3, 0, 2, 0), (18, 6, 7, 104), (0, 1, 0, 20), (13, 5, 38, 0), (16, 0, 36, 0)]),
  (36, 0, [(0, 0, 0, 0), (58, 0, 0, 0)]),
  (38, 3, [(3, 0, 2, 0), (21, 6, 2, 15), (21, 10, 0, 74), (3, 1, 0, 0), (0, 0, 0, 1), (6, 0, 0, 0), (3, 0, 2, 0), (18, 6, 7, 104), (27, 0, 0, 0), (3, 0, 2, 0), (39, 16012, 62, 44), (0, 0, 0, 1), (58, 0, 0, 0)])]
def k_X6_readIf : List (Nat × Nat × List Ins) := [(0, 3, [(3, 0, 2, 0), (47, 6, 107, 0), (39, 16022, 59, 93), (12, 1, 11, 0), (0, 0, 0, 1), (58, 0, 0, 0)]),
  (11, 3, [(3, 0, 2, 0), (21, 6, 2, 15), (21, 10, 0, 74), (3, 1, 0, 0), (0, 0, 0, 2), (6, 0, 0, 0), (3, 0, 2, 0), (21, 6, 2, 15), (18, 10, 3, 109), (27, 0, 0, 0), (3, 0, 2, 0), (0, 0, 0, 0), (39, 16022, 50, 110), (4, 2, 0, 0), (3, 0, 2, 0), (21, 6, 2, 15), (0, 1, 0, 12), (0, 0, 0, 0), (39, 20032, 110, 113), (3, 2, 0, 0), (58, 0, 0, 0)])]
def k_X6_readSumOf : List (Nat × Nat × List Ins) := [(0, 7, [(3, 0, 2, 0), (21, 6, 2, 15), (21, 10, 0, 74), (3, 1, 0, 0), (0, 0, 0, 3), (6, 0, 0, 0), (3, 2, 0, 0), (6, 0, 0, 0), (3, 0, 2, 0), (21, 6, 2, 15), (18, 10, 3, 109), (27, 0, 0, 0), (3, 0, 2, 0), (0, 0, 0, 0), (39, 16022, 53, 117), (4, 3, 0, 0), (3, 0, 2, 0), (21, 6, 2, 15), (0, 1, 0, 12), (0, 0, 0, 0), (39, 20032, 110, 113), (3, 3, 0, 0), (58, 0, 0, 0)])]
def k_X6_readTest : List (Nat × Nat × List Ins) := [(0, 3, [(3, 0, 2, 0), (3, 1, 0, 0), (39, 16022, 51, 120), (4, 2, 0, 0), (0, 0, 0, 0), (4, 3, 0, 0), (16, 0, 8, 0)]),
  (8, 15, [(3, 2, 0, 0), (12, 0, 68, 0), (3, 3, 0, 0), (0, 2, 0, 400), (13, 3, 68, 0), (3, 0, 2, 0), (47, 7, 123, 0), (39, 16022, 59, 93), (12, 0, 68, 0), (3, 0, 2, 0), (21, 6, 2, 15), (18, 10, 3, 109), (4, 4, 0, 0), (3, 0, 2, 0), (21, 6, 2, 15), (0, 1, 0, 10), (0, 0, 0, 0), (39, 20032, 110, 113), (3, 0, 2, 0), (3, 1, 0, 0), (39, 16022, 51, 120), (4, 2, 0, 0), (3, 0, 2, 0), (21, 6, 2, 15), (3, 4, 0, 0), (39, 20022, 111, 125), (5, 3, 0, 1), (15, 0, 8, 0), (16, 0, 8, 0)]),
  (68, 4, [(3, 2, 0, 0), (58, 0, 0, 0)])]
def k_X6_readBoth : List (Nat × Nat × List Ins) := [(0, 3, [(3, 0, 2, 0), (3, 1, 0, 0), (39, 16022, 52, 128), (4, 2, 0, 0), (0, 0, 0, 0), (4, 3, 0, 0), (16, 0, 8, 0)]),
  (8, 15, [(3, 2, 0, 0), (12, 0, 68, 0), (3, 3, 0, 0), (0, 2, 0, 400), (13, 3, 68, 0), (3, 0, 2, 0), (47, 8, 131, 0), (39, 16022, 59, 93), (12, 0, 68, 0), (3, 0, 2, 0), (21, 6, 2, 15), (18, 10, 3, 109), (4, 4, 0, 0), (3, 0, 2, 0), (21, 6, 2, 15), (0, 1, 0, 11), (0, 0, 0, 0), (39, 20032, 110, 113), (3, 0, 2, 0), (3, 1, 0, 0), (39, 16022, 52, 128), (4, 2, 0, 0), (3, 0, 2, 0), (21, 6, 2, 15), (3, 4, 0, 0), (39, 20022, 111, 125), (5, 3, 0, 1), (15, 0, 8, 0), (16, 0, 8, 0)]),
  (68, 4, [(3, 2, 0, 0), (58, 0, 0, 0)])]
def k_X6_readPlain : List (Nat × Nat × List Ins) := [(0, 3, [(0, 0, 0, 0), (4, 2, 0, 0), (0, 0, 0, 0), (4, 3, 0, 0), (16, 0, 4, 0)]),
  (4, 15, [(3, 3, 0, 0), (0, 2, 0, 400), (13, 3, 36, 0), (3, 0, 2, 0), (47, 9, 133, 0), (39, 16022, 59, 93), (12, 0, 36, 0), (3, 2, 0, 0), (12, 1, 28, 0), (0, 0, 0, 1), (15, 0, 29, 0), (4, 2, 0, 0), (5, 3, 0, 1), (15, 0, 4, 0), (16, 0, 4, 0)]),
  (28, 11, [(0, 0, 0, 0), (4, 2, 0, 0), (5, 3, 0, 1), (15, 0, 4, 0), (16, 0, 4, 0)]),
  (36, 7, [(3, 0, 2, 0), (0, 1, 0, 40), (39, 16022, 57, 135), (12, 0, 81, 0), (3, 0, 2, 0), (3, 1, 0, 0), (39, 16022, 56, 138), (12, 0, 76, 0), (3, 0, 2, 0), (3, 1, 0, 0), (0, 0, 0, 1), (6, 0, 0, 0), (39, 16022, 50, 110), (12, 0, 76, 0), (3, 0, 2, 0), (0, 1, 0, 41), (39, 16022, 58, 70), (12, 0, 76, 0), (0, 0, 0, 1), (15, 0, 77, 0), (16, 0, 77, 0)]),
  (76, 5, [(0, 0, 0, 0), (16, 0, 77, 0)]),
  (77, 5, [(4, 3, 0, 0), (15, 0, 174, 0), (16, 0, 174, 0)]),
  (81, 7, [(3, 0, 2, 0), (3, 1, 0, 0), (39, 16022, 53, 117), (4, 3, 0, 0), (3, 0, 2, 0), (0, 1, 0, 60), (39, 16022, 57, 135), (12, 0, 101, 0), (0, 1, 0, 6), (15, 0, 117, 0), (16, 0, 117, 0)]),
  (101, 15, [(3, 0, 2, 0), (0, 1, 0, 62), (39, 16022, 57, 135), (12, 0, 115, 0), (0, 1, 0, 7), (15, 0, 117, 0), (16, 0, 117, 0)]),
  (115, 15, [(0, 1, 0, 8), (16, 0, 117, 0)]),
  (117, 15, [(4, 4, 0, 0), (3, 3, 0, 0), (12, 0, 162, 0), (3, 0, 2, 0), (0, 1, 0, 60), (39, 16022, 58, 70), (12, 1, 150, 0), (3, 0, 2, 0), (0, 1, 0, 62), (39, 16022, 58, 70), (12, 1, 150, 0), (3, 0, 2, 0), (0, 1, 0, 61), (39, 16022, 58, 70), (12, 0, 162, 0), (16, 0, 150, 0)]),
  (150, 23, [(3, 0, 2, 0), (3, 1, 0, 0), (39, 16022, 53, 117), (12, 0, 162, 0), (0, 0, 0, 1), (15, 0, 163, 0), (16, 0, 163, 0)]),
  (162, 21, [(0, 0, 0, 0), (16, 0, 163, 0)]),
  (163, 21, [(4, 3, 0, 0), (3, 0, 2, 0), (21, 6, 2, 15), (3, 4, 0, 0), (0, 0, 0, 0), (39, 20032, 110, 113), (16, 0, 174, 0)]),
  (174, 13, [(3, 2, 0, 0), (12, 0, 188, 0), (3, 0, 2, 0), (21, 6, 2, 15), (0, 1, 0, 9), (0, 0, 0, 0), (39, 20032, 110, 113), (16, 0, 188, 0)]),
  (188, 8, [(3, 3, 0, 0), (58, 0, 0, 0)])]
def k_X6_readSum : List (Nat × Nat × List Ins) := [(0, 3, [(3, 0, 2, 0), (3, 1, 0, 0), (39, 16022, 54, 141), (4, 2, 0, 0), (0, 0, 0, 0), (4, 3, 0, 0), (16, 0, 8, 0)]),
  (8, 15, [(3, 2, 0, 0), (12, 0, 79, 0), (3, 3, 0, 0), (0, 2, 0, 400), (13, 3, 79, 0), (3, 0, 2, 0), (0, 1, 0, 43), (39, 16022, 57, 135), (12, 1, 37, 0), (3, 0, 2, 0), (0, 1, 0, 45), (39, 16022, 57, 135), (12, 0, 79, 0), (16, 0, 37, 0)]),
  (37, 11, [(3, 0, 2, 0), (0, 1, 0, 43), (39, 16022, 57, 135), (12, 0, 50, 0), (0, 0, 0, 2), (15, 0, 51, 0), (16, 0, 51, 0)]),
  (50, 11, [(0, 0, 0, 3), (16, 0, 51, 0)]),
  (51, 11, [(4, 4, 0, 0), (3, 0, 2, 0), (39, 16012, 62, 44), (3, 0, 2, 0), (3, 1, 0, 0), (39, 16022, 54, 141), (4, 2, 0, 0), (3, 0, 2, 0), (21, 6, 2, 15), (3, 4, 0, 0), (0, 0, 0, 0), (39, 20032, 110, 113), (5, 3, 0, 1), (15, 0, 8, 0), (16, 0, 8, 0)]),
  (79, 4, [(3, 2, 0, 0), (58, 0, 0, 0)])]
def k_X6_readTerm : List (Nat × Nat × List Ins) := [(0, 3, [(3, 0, 2, 0), (3, 1, 0, 0), (39, 16022, 55, 144), (4, 2, 0, 0), (0, 0, 0, 0), (4, 3, 0, 0), (16, 0, 8, 0)]),
  (8, 15, [(3, 2, 0, 0), (12, 0, 79, 0), (3, 3, 0, 0), (0, 2, 0, 400), (13, 3, 79, 0), (3, 0, 2, 0), (0, 1, 0, 42), (39, 16022, 57, 135), (12, 1, 37, 0), (3, 0, 2, 0), (0, 1, 0, 47), (39, 16022, 57, 135), (12, 0, 79, 0), (16, 0, 37, 0)]),
  (37, 11, [(3, 0, 2, 0), (0, 1, 0, 42), (39, 16022, 57, 135), (12, 0, 50, 0), (0, 0, 0, 4), (15, 0, 51, 0), (16, 0, 51, 0)]),
  (50, 11, [(0, 0, 0, 5), (16, 0, 51, 0)]),
  (51, 11, [(4, 4, 0, 0), (3, 0, 2, 0), (39, 16012, 62, 44), (3, 0, 2, 0), (3, 1, 0, 0), (39, 16022, 55, 144), (4, 2, 0, 0), (3, 0, 2, 0), (21, 6, 2, 15), (3, 4, 0, 0), (0, 0, 0, 0), (39, 20032, 110, 113), (5, 3, 0, 1), (15, 0, 8, 0), (16, 0, 8, 0)]),
  (79, 4, [(3, 2, 0, 0), (58, 0, 0, 0)])]
def k_X6_readPart : List (Nat × Nat × List Ins) := [(0, 3, [(3, 0, 2, 0), (0, 1, 0, 91), (39, 16022, 57, 135), (12, 0, 42, 0), (3, 0, 2, 0), (3, 1, 0, 0), (39, 16022, 56, 138), (12, 0, 40, 0), (3, 0, 2, 0), (3, 1, 0, 0), (0, 0, 0, 1), (6, 0, 0, 0), (39, 16022, 53, 117), (12, 0, 40, 0), (3, 0, 2, 0), (0, 1, 0, 93), (39, 16022, 58, 70), (12, 0, 40, 0), (0, 0, 0, 1), (15, 0, 41, 0), (58, 0, 0, 0)]),
  (40, 0, [(0, 0, 0, 0), (58, 0, 0, 0)]),
  (42, 1, [(3, 0, 2, 0), (18, 6, 4, 67), (0, 0, 0, 1), (13, 1, 99, 0), (3, 0, 2, 0), (18, 6, 7, 104), (0, 2, 0, 1000), (13, 4, 69, 0), (3, 0, 2, 0), (18, 6, 8, 41), (0, 1, 0, 50), (13, 2, 71, 0), (16, 0, 69, 0)]),
  (69, 0, [(0, 0, 0, 0), (58, 0, 0, 0)]),
  (71, 1, [(3, 0, 2, 0), (21, 6, 2, 15), (0, 0, 0, 0), (3, 0, 2, 0), (18, 6, 7, 104), (39, 20032, 110, 113), (3, 0, 2, 0), (11, 0, 0, 0), (18, 6, 8, 41), (0, 0, 0, 1), (6, 0, 0, 0), (22, 6, 8, 41), (3, 0, 2, 0), (39, 16012, 62, 44), (0, 0, 0, 1), (58, 0, 0, 0)]),
  (99, 1, [(3, 0, 2, 0), (3, 0, 2, 0), (20, 6, 3, 29), (12, 0, 112, 0), (47, 10, 147, 0), (15, 0, 114, 0), (16, 0, 114, 0)]),
  (112, 1, [(47, 11, 149, 0), (16, 0, 114, 0)]),
  (114, 1, [(39, 16022, 60, 79), (4, 2, 0, 0), (3, 2, 0, 0), (0, 0, 0, (-1)), (13, 0, 132, 0), (3, 0, 2, 0), (18, 6, 8, 41), (0, 1, 0, 50), (13, 2, 134, 0), (16, 0, 132, 0)]),
  (132, 0, [(0, 0, 0, 0), (58, 0, 0, 0)]),
  (134, 5, [(3, 0, 2, 0), (11, 0, 0, 0), (18, 6, 8, 41), (0, 0, 0, 1), (6, 0, 0, 0), (22, 6, 8, 41), (3, 0, 2, 0), (39, 16012, 62, 44), (3, 0, 2, 0), (20, 6, 3, 29), (12, 0, 191, 0), (3, 2, 0, 0), (0, 1, 0, 6), (13, 1, 191, 0), (3, 0, 2, 0), (18, 6, 4, 67), (0, 0, 0, 1), (13, 1, 178, 0), (3, 0, 2, 0), (18, 6, 7, 104), (0, 1, 0, 12), (13, 2, 180, 0), (16, 0, 178, 0)]),
  (178, 0, [(0, 0, 0, 0), (58, 0, 0, 0)]),
  (180, 5, [(3, 2, 0, 0), (3, 0, 2, 0), (18, 6, 7, 104), (6, 0, 0, 0), (4, 2, 0, 0), (3, 0, 2, 0), (39, 16012, 62, 44), (16, 0, 191, 0)]),
  (191, 5, [(3, 0, 2, 0), (21, 6, 2, 15), (0, 0, 0, 1), (3, 2, 0, 0), (39, 20032, 110, 113), (3, 0, 2, 0), (21, 6, 2, 15), (11, 0, 0, 0), (18, 10, 4, 151), (0, 0, 0, 1), (3, 2, 0, 0), (6, 6, 0, 0), (6, 4, 0, 0), (22, 10, 4, 151), (0, 0, 0, 1), (58, 0, 0, 0)])]
def k_X6_opens : List (Nat × Nat × List Ins) := [(0, 3, [(3, 1, 0, 0), (0, 1, 0, 8), (13, 2, 8, 0), (0, 0, 0, 0), (58, 0, 0, 0)]),
  (8, 1, [(3, 0, 2, 0), (39, 16012, 62, 44), (0, 0, 0, 1), (58, 0, 0, 0)])]
def k_X6_isSign : List (Nat × Nat × List Ins) := [(0, 3, [(3, 0, 2, 0), (18, 6, 4, 67), (0, 0, 0, 2), (13, 1, 36, 0), (3, 0, 2, 0), (18, 6, 5, 61), (3, 0, 2, 0), (18, 6, 1, 25), (13, 3, 36, 0), (3, 0, 2, 0), (21, 6, 0, 9), (3, 0, 2, 0), (18, 6, 5, 61), (26, 0, 0, 0), (3, 1, 0, 0), (13, 1, 36, 0), (0, 0, 0, 1), (15, 0, 37, 0), (58, 0, 0, 0)]),
  (36, 0, [(0, 0, 0, 0), (58, 0, 0, 0)])]
def k_X6_takes : List (Nat × Nat × List Ins) := [(0, 3, [(3, 0, 2, 0), (3, 1, 0, 0), (39, 16022, 57, 135), (4, 2, 0, 0), (3, 2, 0, 0), (12, 0, 14, 0), (3, 0, 2, 0), (39, 16012, 62, 44), (16, 0, 14, 0)]),
  (14, 4, [(3, 2, 0, 0), (58, 0, 0, 0)])]
def k_X6_takesWord : List (Nat × Nat × List Ins) := [(0, 3, [(3, 0, 2, 0), (3, 1, 2, 0), (0, 0, 0, 0), (3, 1, 2, 0), (39, 16, 345, 154), (39, 16042, 61, 159), (4, 2, 0, 0), (3, 2, 0, 0), (12, 0, 19, 0), (3, 0, 2, 0), (39, 16012, 62, 44), (16, 0, 19, 0)]),
  (19, 4, [(3, 2, 0, 0), (58, 0, 0, 0)])]
def k_X6_placeIn : List (Nat × Nat × List Ins) := [(0, 3, [(0, 0, 0, 0), (4, 2, 0, 0), (0, 0, 0, 0), (4, 3, 0, 0), (0, 0, 0, 0), (4, 4, 0, 0), (16, 0, 7, 0)]),
  (7, 31, [(3, 4, 0, 0), (3, 1, 2, 0), (39, 16, 345, 154), (13, 4, 63, 0), (3, 4, 0, 0), (3, 1, 2, 0), (39, 16, 345, 154), (13, 0, 36, 0), (3, 1, 2, 0), (3, 4, 0, 0), (39, 26, 346, 163), (0, 1, 0, 32), (13, 1, 57, 0), (16, 0, 36, 0)]),
  (36, 31, [(3, 0, 2, 0), (3, 1, 2, 0), (3, 3, 0, 0), (3, 4, 0, 0), (39, 16042, 61, 159), (12, 0, 49, 0), (3, 2, 0, 0), (55, 0, 0, 0)]),
  (49, 23, [(5, 2, 0, 1), (3, 4, 0, 0), (0, 0, 0, 1), (6, 0, 0, 0), (4, 3, 0, 0), (16, 0, 57, 0)]),
  (57, 31, [(5, 4, 0, 1), (15, 0, 7, 0), (16, 0, 7, 0)]),
  (63, 0, [(0, 0, 0, (-1)), (55, 0, 0, 0)])]
def k_X6_isSame : List (Nat × Nat × List Ins) := [(0, 15, [(3, 0, 2, 0), (18, 6, 4, 67), (12, 1, 22, 0), (3, 3, 0, 0), (3, 2, 0, 0), (6, 1, 0, 0), (3, 0, 2, 0), (18, 6, 6, 38), (3, 0, 2, 0), (18, 6, 5, 61), (6, 1, 0, 0), (13, 0, 24, 0), (16, 0, 22, 0)]),
  (22, 0, [(0, 0, 0, 0), (58, 0, 0, 0)]),
  (24, 15, [(0, 0, 0, 0), (4, 4, 0, 0), (16, 0, 27, 0)]),
  (27, 31, [(3, 4, 0, 0), (3, 3, 0, 0), (3, 2, 0, 0), (6, 1, 0, 0), (13, 3, 66, 0), (3, 1, 2, 0), (3, 2, 0, 0), (3, 4, 0, 0), (6, 0, 0, 0), (39, 26, 346, 163), (3, 0, 2, 0), (21, 6, 0, 9), (3, 0, 2, 0), (18, 6, 5, 61), (3, 4, 0, 0), (6, 0, 0, 0), (26, 0, 0, 0), (13, 0, 60, 0), (0, 0, 0, 0), (58, 0, 0, 0)]),
  (60, 31, [(5, 4, 0, 1), (15, 0, 27, 0), (16, 0, 27, 0)]),
  (66, 0, [(0, 0, 0, 1), (58, 0, 0, 0)])]
def k_X6_next : List (Nat × Nat × List Ins) := [(0, 1, [(3, 0, 2, 0), (3, 0, 2, 0), (18, 6, 6, 38), (22, 6, 5, 61), (16, 0, 8, 0)]),
  (8, 1, [(3, 0, 2, 0), (18, 6, 5, 61), (3, 0, 2, 0), (18, 6, 1, 25), (13, 3, 46, 0), (3, 0, 2, 0), (21, 6, 0, 9), (3, 0, 2, 0), (18, 6, 5, 61), (26, 0, 0, 0), (0, 1, 0, 32), (13, 1, 46, 0), (3, 0, 2, 0), (11, 0, 0, 0), (18, 6, 5, 61), (0, 0, 0, 1), (6, 0, 0, 0), (22, 6, 5, 61), (15, 0, 8, 0), (16, 0, 8, 0)]),
  (46, 1, [(3, 0, 2, 0), (3, 0, 2, 0), (18, 6, 5, 61), (22, 6, 6, 38), (3, 0, 2, 0), (0, 0, 0, 0), (22, 6, 7, 104), (3, 0, 2, 0), (18, 6, 5, 61), (3, 0, 2, 0), (18, 6, 1, 25), (13, 2, 76, 0), (3, 0, 2, 0), (0, 0, 0, 3), (22, 6, 4, 67), (42, 0, 0, 0)]),
  (76, 1, [(3, 0, 2, 0), (3, 0, 2, 0), (21, 6, 0, 9), (3, 0, 2, 0), (18, 6, 5, 61), (26, 0, 0, 0), (39, 10, 63, 167), (22, 6, 4, 67), (3, 0, 2, 0), (18, 6, 4, 67), (0, 0, 0, 2), (13, 1, 111, 0), (3, 0, 2, 0), (11, 0, 0, 0), (18, 6, 6, 38), (0, 0, 0, 1), (6, 0, 0, 0), (22, 6, 6, 38), (42, 0, 0, 0)]),
  (111, 1, [(3, 0, 2, 0), (18, 6, 6, 38), (3, 0, 2, 0), (18, 6, 1, 25), (13, 3, 192, 0), (3, 0, 2, 0), (21, 6, 0, 9), (3, 0, 2, 0), (18, 6, 6, 38), (26, 0, 0, 0), (39, 10, 63, 167), (3, 0, 2, 0), (18, 6, 4, 67), (13, 1, 192, 0), (3, 0, 2, 0), (18, 6, 4, 67), (0, 0, 0, 1), (13, 1, 179, 0), (3, 0, 2, 0), (0, 2, 0, 10000), (3, 0, 2, 0), (18, 6, 7, 104), (0, 1, 0, 10), (6, 2, 0, 0), (3, 0, 2, 0), (21, 6, 0, 9), (3, 0, 2, 0), (18, 6, 6, 38), (26, 0, 0, 0), (6, 0, 0, 0), (0, 1, 0, 48), (6, 1, 0, 0), (39, 20, 344, 19), (22, 6, 7, 104), (16, 0, 179, 0)]),
  (179, 1, [(3, 0, 2, 0), (11, 0, 0, 0), (18, 6, 6, 38), (0, 0, 0, 1), (6, 0, 0, 0), (22, 6, 6, 38), (15, 0, 111, 0), (16, 0, 111, 0)]),
  (192, 0, [(42, 0, 0, 0)])]
def k_X6_kindOf : List (Nat × Nat × List Ins) := [(0, 1, [(3, 0, 0, 0), (0, 1, 0, 97), (13, 2, 14, 0), (3, 0, 0, 0), (0, 1, 0, 122), (13, 4, 14, 0), (0, 0, 0, 0), (55, 0, 0, 0)]),
  (14, 1, [(3, 0, 0, 0), (0, 1, 0, 48), (13, 2, 30, 0), (3, 0, 0, 0), (0, 1, 0, 57), (13, 4, 30, 0), (0, 0, 0, 1), (15, 0, 31, 0), (55, 0, 0, 0)]),
  (30, 0, [(0, 0, 0, 2), (55, 0, 0, 0)])]
def k_X7_init : List (Nat × Nat × List Ins) := [(0, 1, [(3, 0, 2, 0), (40, 0, 0, 3), (3, 0, 2, 0), (0, 1, 0, 25), (37, 0, 0, 0), (25, 7, 1, 9), (3, 0, 2, 0), (0, 1, 0, 18), (37, 0, 0, 0), (25, 7, 3, 15), (3, 0, 2, 0), (0, 0, 0, 5), (37, 0, 0, 0), (25, 7, 4, 18), (3, 0, 2, 0), (0, 1, 0, 6), (38, 4, 0, 21), (25, 7, 6, 23), (3, 0, 2, 0), (0, 0, 0, (-1)), (22, 7, 7, 27), (3, 0, 2, 0), (0, 1, 0, 17), (37, 0, 0, 0), (25, 7, 9, 31), (3, 0, 2, 0), (0, 2, 0, 204), (37, 0, 0, 0), (25, 7, 10, 34), (3, 0, 2, 0), (0, 1, 0, 72), (37, 0, 0, 0), (25, 7, 12, 37), (3, 0, 2, 0), (0, 1, 0, 32), (37, 0, 0, 0), (25, 7, 14, 40), (3, 0, 2, 0), (21, 7, 4, 18), (0, 0, 0, 0), (0, 1, 0, 20), (27, 0, 0, 0), (3, 0, 2, 0), (21, 7, 4, 18), (0, 0, 0, 1), (0, 0, 0, 3), (27, 0, 0, 0), (3, 0, 2, 0), (21, 7, 4, 18), (0, 0, 0, 3), (0, 1, 0, 100), (27, 0, 0, 0), (42, 0, 0, 0)])]
def k_X7_takeFrom : List (Nat × Nat × List Ins) := [(0, 3, [(3, 0, 2, 0), (3, 1, 2, 0), (18, 7, 0, 43), (22, 7, 0, 43), (3, 1, 2, 0), (21, 7, 1, 9), (0, 0, 0, 0), (3, 0, 2, 0), (21, 7, 1, 9), (0, 0, 0, 0), (3, 0, 2, 0), (21, 7, 1, 9), (28, 0, 0, 0), (41, 0, 0, 46), (3, 0, 2, 0), (3, 1, 2, 0), (18, 7, 2, 52), (22, 7, 2, 52), (3, 1, 2, 0), (21, 7, 3, 15), (0, 0, 0, 0), (3, 0, 2, 0), (21, 7, 3, 15), (0, 0, 0, 0), (3, 0, 2, 0), (21, 7, 3, 15), (28, 0, 0, 0), (41, 0, 0, 46), (3, 1, 2, 0), (21, 7, 4, 18), (0, 0, 0, 0), (3, 0, 2, 0), (21, 7, 4, 18), (0, 0, 0, 0), (3, 0, 2, 0), (21, 7, 4, 18), (28, 0, 0, 0), (41, 0, 0, 46), (3, 0, 2, 0), (3, 1, 2, 0), (18, 7, 5, 55), (22, 7, 5, 55), (0, 0, 0, 0), (4, 2, 0, 0), (16, 0, 80, 0)]),
  (80, 7, [(3, 2, 0, 0), (3, 0, 2, 0), (21, 7, 6, 23), (28, 0, 0, 0), (13, 3, 107, 0), (3, 0, 2, 0), (21, 7, 6, 23), (3, 2, 0, 0), (3, 1, 2, 0), (21, 7, 6, 23), (3, 2, 0, 0), (26, 4, 0, 0), (54, 4, 20, 0), (5, 2, 0, 1), (15, 0, 80, 0), (16, 0, 80, 0)]),
  (107, 3, [(3, 0, 2, 0), (3, 1, 2, 0), (18, 7, 7, 27), (22, 7, 7, 27), (3, 0, 2, 0), (3, 1, 2, 0), (18, 7, 8, 58), (22, 7, 8, 58), (3, 1, 2, 0), (21, 7, 9, 31), (0, 0, 0, 0), (3, 0, 2, 0), (21, 7, 9, 31), (0, 0, 0, 0), (3, 0, 2, 0), (21, 7, 9, 31), (28, 0, 0, 0), (41, 0, 0, 46), (3, 1, 2, 0), (21, 7, 10, 34), (0, 0, 0, 0), (3, 0, 2, 0), (21, 7, 10, 34), (0, 0, 0, 0), (3, 0, 2, 0), (21, 7, 10, 34), (28, 0, 0, 0), (41, 0, 0, 46), (3, 0, 2, 0), (3, 1, 2, 0), (18, 7, 11, 61), (22, 7, 11, 61), (3, 1, 2, 0), (21, 7, 12, 37), (0, 0, 0, 0), (3, 0, 2, 0), (21, 7, 12, 37), (0, 0, 0, 0), (3, 0, 2, 0), (21, 7, 12, 37), (28, 0, 0, 0), (41, 0, 0, 46), (3, 0, 2, 0), (3, 1, 2, 0), (18, 7, 13, 64), (22, 7, 13, 64), (3, 1, 2, 0), (21, 7, 14, 40), (0, 0, 0, 0), (3, 0, 2, 0), (21, 7, 14, 40), (0, 0, 0, 0), (3, 0, 2, 0), (21, 7, 14, 40), (28, 0, 0, 0), (41, 0, 0, 46), (42, 0, 0, 0)])]
def k_X7_hasPainter : List (Nat × Nat × List Ins) := [(0, 3, [(3, 1, 0, 0), (3, 0, 2, 0), (18, 7, 0, 43), (39, 21, 177, 67), (58, 0, 0, 0)])]
def k_X7_hasLayer : List (Nat × Nat × List Ins) := [(0, 3, [(3, 1, 0, 0), (3, 0, 2, 0), (18, 7, 8, 58), (0, 0, 0, 1), (6, 0, 0, 0), (39, 21, 177, 67), (58, 0, 0, 0)])]
def k_X7_hasClaimant : List (Nat × Nat × List Ins) := [(0, 3, [(3, 1, 0, 0), (3, 0, 2, 0), (18, 7, 13, 64), (39, 21, 177, 67), (58, 0, 0, 0)])]
def k_X7_ageIn : List (Nat × Nat × List Ins) := [(0, 3, [(3, 0, 2, 0), (21, 7, 4, 18), (0, 0, 0, 0), (26, 0, 0, 0), (3, 0, 2, 0), (21, 7, 4, 18), (0, 0, 0, 1), (26, 0, 0, 0), (0, 0, 0, 2), (6, 1, 0, 0), (3, 1, 0, 0), (6, 2, 0, 0), (6, 0, 0, 0), (4, 2, 0, 0), (3, 2, 0, 0), (12, 3, 26, 0), (0, 0, 0, 0), (15, 0, 40, 0), (55, 0, 0, 0)]),
  (26, 4, [(3, 2, 0, 0), (0, 2, 0, 199), (13, 5, 39, 0), (0, 2, 0, 199), (15, 0, 40, 0), (55, 0, 0, 0)]),
  (39, 4, [(3, 2, 0, 0), (55, 0, 0, 0)])]
def k_X7_rests : List (Nat × Nat × List Ins) := [(0, 7, [(0, 0, 0, 1), (4, 3, 0, 0), (16, 0, 2, 0)]),
  (2, 15, [(3, 3, 0, 0), (3, 0, 2, 0), (21, 7, 4, 18), (0, 0, 0, 4), (26, 0, 0, 0), (13, 4, 51, 0), (3, 2, 0, 0), (3, 3, 0, 0), (6, 1, 0, 0), (4, 4, 0, 0), (3, 4, 0, 0), (0, 0, 0, 1), (13, 2, 45, 0), (3, 4, 0, 0), (3, 0, 2, 0), (18, 7, 8, 58), (13, 4, 45, 0), (3, 0, 2, 0), (21, 7, 9, 31), (3, 4, 0, 0), (26, 0, 0, 0), (3, 1, 0, 0), (13, 1, 45, 0), (0, 0, 0, 1), (58, 0, 0, 0)]),
  (45, 15, [(5, 3, 0, 1), (15, 0, 2, 0), (16, 0, 2, 0)]),
  (51, 0, [(0, 0, 0, 0), (58, 0, 0, 0)])]
def k_X7_seenAt : List (Nat × Nat × List Ins) := [(0, 3, [(3, 0, 2, 0), (21, 7, 10, 34), (3, 0, 2, 0), (18, 7, 8, 58), (0, 1, 0, 12), (6, 2, 0, 0), (3, 1, 0, 0), (6, 0, 0, 0), (26, 0, 0, 0), (55, 0, 0, 0)])]
def k_X7_addCopy : List (Nat × Nat × List Ins) := [(0, 1, [(3, 0, 2, 0), (21, 7, 10, 34), (3, 0, 2, 0), (18, 7, 8, 58), (0, 1, 0, 12), (6, 2, 0, 0), (3, 0, 2, 0), (21, 7, 12, 37), (3, 0, 2, 0), (18, 7, 11, 61), (0, 1, 0, 12), (6, 2, 0, 0), (0, 1, 0, 12), (41, 0, 0, 46), (3, 0, 2, 0), (11, 0, 0, 0), (18, 7, 11, 61), (0, 0, 0, 1), (6, 0, 0, 0), (22, 7, 11, 61), (42, 0, 0, 0)])]
def k_X7_nearOf : List (Nat × Nat × List Ins) := [(0, 3, [(0, 0, 0, 0), (4, 2, 0, 0), (0, 0, 0, 0), (4, 3, 0, 0), (16, 0, 4, 0)]),
  (4, 15, [(3, 3, 0, 0), (0, 1, 0, 12), (13, 3, 47, 0), (3, 0, 2, 0), (21, 7, 12, 37), (3, 1, 0, 0), (0, 1, 0, 12), (6, 2, 0, 0), (3, 3, 0, 0), (6, 0, 0, 0), (26, 0, 0, 0), (3, 0, 2, 0), (21, 7, 10, 34), (3, 0, 2, 0), (18, 7, 8, 58), (0, 1, 0, 12), (6, 2, 0, 0), (3, 3, 0, 0), (6, 0, 0, 0), (26, 0, 0, 0), (13, 0, 41, 0), (5, 2, 0, 1), (16, 0, 41, 0)]),
  (41, 15, [(5, 3, 0, 1), (15, 0, 4, 0), (16, 0, 4, 0)]),
  (47, 4, [(3, 2, 0, 0), (55, 0, 0, 0)])]
def k_X7_isAlive : List (Nat × Nat × List Ins) := [(0, 7, [(3, 1, 0, 0), (0, 0, 0, 4), (6, 2, 0, 0), (4, 3, 0, 0), (3, 0, 2, 0), (21, 7, 14, 40), (3, 3, 0, 0), (0, 0, 0, 1), (6, 0, 0, 0), (26, 0, 0, 0), (3, 2, 0, 0), (13, 4, 32, 0), (3, 2, 0, 0), (3, 0, 2, 0), (21, 7, 14, 40), (3, 3, 0, 0), (0, 0, 0, 2), (6, 0, 0, 0), (26, 0, 0, 0), (13, 3, 32, 0), (0, 0, 0, 1), (15, 0, 33, 0), (58, 0, 0, 0)]),
  (32, 0, [(0, 0, 0, 0), (58, 0, 0, 0)])]
def k_X7_childrenOf : List (Nat × Nat × List Ins) := [(0, 7, [(0, 0, 0, 0), (4, 3, 0, 0), (0, 0, 0, 0), (4, 4, 0, 0), (16, 0, 5, 0)]),
  (5, 31, [(3, 4, 0, 0), (3, 0, 2, 0), (18, 7, 13, 64), (13, 3, 46, 0), (3, 0, 2, 0), (21, 7, 14, 40), (3, 4, 0, 0), (0, 0, 0, 4), (6, 2, 0, 0), (26, 0, 0, 0), (3, 1, 0, 0), (13, 1, 40, 0), (3, 0, 2, 0), (3, 4, 0, 0), (3, 2, 0, 0), (39, 17032, 74, 71), (12, 0, 40, 0), (5, 3, 0, 1), (16, 0, 40, 0)]),
  (40, 31, [(5, 4, 0, 1), (15, 0, 5, 0), (16, 0, 5, 0)]),
  (46, 8, [(3, 3, 0, 0), (55, 0, 0, 0)])]
def k_X7_brushed : List (Nat × Nat × List Ins) := [(0, 31, [(3, 1, 0, 0), (0, 0, 0, 5), (6, 2, 0, 0), (4, 5, 0, 0), (3, 0, 2, 0), (21, 7, 1, 9), (3, 5, 0, 0), (26, 0, 0, 0), (4, 6, 0, 0), (3, 3, 0, 0), (3, 4, 0, 0), (3, 3, 0, 0), (6, 1, 0, 0), (3, 6, 0, 0), (7, 0, 0, 0), (3, 6, 0, 0), (39, 31, 184, 74), (6, 0, 0, 0), (4, 7, 0, 0), (3, 7, 0, 0), (3, 0, 2, 0), (21, 7, 1, 9), (3, 5, 0, 0), (0, 0, 0, 2), (6, 0, 0, 0), (3, 2, 0, 0), (0, 0, 0, 3), (44, 0, 0, 0), (6, 0, 0, 0), (26, 0, 0, 0), (6, 0, 0, 0), (0, 0, 0, 3), (6, 1, 0, 0), (0, 0, 0, 0), (0, 1, 0, 9), (39, 31, 184, 74), (55, 0, 0, 0)])]
def k_X8_init : List (Nat × Nat × List Ins) := [(0, 3, [(3, 0, 2, 0), (40, 0, 0, 3), (3, 0, 2, 0), (0, 1, 0, 49), (37, 0, 0, 0), (25, 8, 2, 11), (3, 0, 2, 0), (0, 2, 0, 128), (37, 0, 0, 0), (25, 8, 3, 15), (3, 0, 2, 0), (0, 2, 0, 128), (37, 0, 0, 0), (25, 8, 4, 18), (3, 0, 2, 0), (0, 1, 0, 7), (37, 0, 0, 0), (25, 8, 5, 21), (3, 0, 2, 0), (0, 1, 0, 64), (37, 0, 0, 0), (25, 8, 6, 24), (3, 0, 2, 0), (3, 1, 2, 0), (25, 8, 0, 27), (42, 0, 0, 0)])]
def k_X8_between : List (Nat × Nat × List Ins) := [(0, 7, [(0, 0, 0, 0), (4, 3, 0, 0), (0, 0, 0, 0), (4, 4, 0, 0), (16, 0, 5, 0)]),
  (5, 31, [(3, 4, 0, 0), (0, 1, 0, 12), (13, 3, 38, 0), (3, 0, 2, 0), (3, 1, 0, 0), (3, 4, 0, 0), (39, 18032, 87, 31), (3, 0, 2, 0), (3, 2, 0, 0), (3, 4, 0, 0), (39, 18032, 87, 31), (13, 0, 32, 0), (5, 3, 0, 1), (16, 0, 32, 0)]),
  (32, 31, [(5, 4, 0, 1), (15, 0, 5, 0), (16, 0, 5, 0)]),
  (38, 8, [(3, 3, 0, 0), (55, 0, 0, 0)])]
def k_X8_weigh : List (Nat × Nat × List Ins) := [(0, 1, [(3, 0, 2, 0), (3, 0, 2, 0), (21, 8, 0, 27), (18, 7, 11, 35), (0, 0, 0, 1), (6, 0, 0, 0), (22, 8, 1, 41), (0, 0, 0, 0), (4, 1, 0, 0), (16, 0, 15, 0)]),
  (15, 3, [(3, 1, 0, 0), (3, 0, 2, 0), (18, 8, 1, 41), (13, 3, 62, 0), (0, 0, 0, 0), (4, 2, 0, 0), (16, 0, 25, 0)]),
  (25, 7, [(3, 2, 0, 0), (3, 0, 2, 0), (18, 8, 1, 41), (13, 3, 56, 0), (3, 0, 2, 0), (21, 8, 2, 11), (3, 1, 0, 0), (0, 1, 0, 7), (6, 2, 0, 0), (3, 2, 0, 0), (6, 0, 0, 0), (3, 0, 2, 0), (3, 1, 0, 0), (3, 2, 0, 0), (39, 18032, 78, 44), (27, 0, 0, 0), (5, 2, 0, 1), (15, 0, 25, 0), (16, 0, 25, 0)]),
  (56, 3, [(5, 1, 0, 1), (15, 0, 15, 0), (16, 0, 15, 0)]),
  (62, 1, [(0, 0, 0, 1), (4, 1, 0, 0), (16, 0, 64, 0)]),
  (64, 3, [(3, 1, 0, 0), (0, 0, 0, 1), (3, 0, 2, 0), (18, 8, 1, 41), (6, 6, 0, 0), (13, 3, 85, 0), (3, 0, 2, 0), (3, 1, 0, 0), (39, 18022, 89, 47), (5, 1, 0, 1), (15, 0, 64, 0), (16, 0, 64, 0)]),
  (85, 0, [(42, 0, 0, 0)])]
def k_X8_changed : List (Nat × Nat × List Ins) := [(0, 1, [(3, 0, 2, 0), (21, 8, 3, 15), (0, 0, 0, 1), (3, 0, 2, 0), (18, 8, 1, 41), (6, 6, 0, 0), (0, 0, 0, 1), (6, 1, 0, 0), (26, 0, 0, 0), (55, 0, 0, 0)])]
def k_X8_waysInAll : List (Nat × Nat × List Ins) := [(0, 1, [(3, 0, 2, 0), (21, 8, 4, 18), (0, 0, 0, 1), (3, 0, 2, 0), (18, 8, 1, 41), (6, 6, 0, 0), (0, 0, 0, 1), (6, 1, 0, 0), (26, 0, 0, 0), (55, 0, 0, 0)])]
def k_X8_parentOf : List (Nat × Nat × List Ins) := [(0, 3, [(0, 0, 0, 0), (4, 2, 0, 0), (16, 0, 2, 0)]),
  (2, 7, [(3, 2, 0, 0), (0, 1, 0, 7), (13, 3, 21, 0), (3, 0, 2, 0), (21, 8, 5, 21), (3, 2, 0, 0), (0, 0, 0, (-1)), (27, 0, 0, 0), (5, 2, 0, 1), (15, 0, 2, 0), (16, 0, 2, 0)]),
  (21, 3, [(3, 0, 2, 0), (0, 0, 0, 1), (0, 0, 0, 0), (39, 30, 91, 51), (12, 0, 39, 0), (3, 0, 2, 0), (21, 8, 5, 21), (3, 1, 0, 0), (26, 0, 0, 0), (15, 0, 40, 0), (55, 0, 0, 0)]),
  (39, 0, [(0, 0, 0, 0), (55, 0, 0, 0)])]
def k_X8_datedBy : List (Nat × Nat × List Ins) := [(0, 7, [(0, 1, 0, 13), (4, 3, 0, 0), (0, 0, 0, 0), (4, 4, 0, 0), (0, 0, 0, 0), (4, 5, 0, 0), (0, 0, 0, 0), (4, 6, 0, 0), (0, 0, 0, 0), (4, 7, 0, 0), (16, 0, 15, 0)]),
  (15, 255, [(3, 7, 0, 0), (3, 0, 2, 0), (21, 8, 0, 27), (18, 7, 8, 55), (13, 4, 71, 0), (3, 0, 2, 0), (3, 1, 0, 0), (3, 7, 0, 0), (39, 18032, 88, 58), (4, 8, 0, 0), (3, 8, 0, 0), (3, 3, 0, 0), (13, 3, 52, 0), (3, 8, 0, 0), (4, 3, 0, 0), (3, 7, 0, 0), (4, 4, 0, 0), (0, 0, 0, 0), (4, 6, 0, 0), (16, 0, 52, 0)]),
  (52, 511, [(3, 8, 0, 0), (3, 3, 0, 0), (13, 1, 65, 0), (3, 7, 0, 0), (4, 5, 0, 0), (5, 6, 0, 1), (16, 0, 65, 0)]),
  (65, 255, [(5, 7, 0, 1), (15, 0, 15, 0), (16, 0, 15, 0)]),
  (71, 124, [(3, 2, 0, 0), (17, 1, 0, 28)]),
  (100, 8, [(3, 3, 0, 0), (55, 0, 0, 0)]),
  (102, 16, [(3, 4, 0, 0), (55, 0, 0, 0)]),
  (105, 32, [(3, 5, 0, 0), (55, 0, 0, 0)]),
  (108, 64, [(3, 6, 0, 0), (55, 0, 0, 0)])]
def k_X8_learn : List (Nat × Nat × List Ins) := [(0, 1, [(0, 0, 0, 1), (3, 0, 2, 0), (21, 8, 0, 27), (18, 7, 11, 35), (6, 6, 0, 0), (0, 0, 0, 1), (6, 1, 0, 0), (4, 1, 0, 0), (3, 0, 2, 0), (0, 0, 0, 0), (22, 8, 7, 61), (3, 0, 2, 0), (0, 0, 0, (-1)), (22, 8, 8, 64), (0, 0, 0, 1), (4, 2, 0, 0), (16, 0, 24, 0)]),
  (24, 7, [(3, 2, 0, 0), (3, 1, 0, 0), (13, 4, 108, 0), (0, 0, 0, 0), (4, 3, 0, 0), (0, 0, 0, (-1)), (4, 4, 0, 0), (0, 0, 0, 0), (4, 5, 0, 0), (16, 0, 37, 0)]),
  (37, 63, [(3, 5, 0, 0), (0, 1, 0, 12), (13, 3, 84, 0), (3, 0, 2, 0), (3, 2, 0, 0), (3, 5, 0, 0), (39, 18032, 85, 67), (4, 6, 0, 0), (3, 6, 0, 0), (0, 0, 0, (-1)), (13, 0, 78, 0), (3, 4, 0, 0), (0, 0, 0, (-1)), (13, 0, 71, 0), (3, 6, 0, 0), (3, 3, 0, 0), (13, 3, 78, 0), (16, 0, 71, 0)]),
  (71, 103, [(3, 6, 0, 0), (4, 3, 0, 0), (3, 5, 0, 0), (4, 4, 0, 0), (16, 0, 78, 0)]),
  (78, 63, [(5, 5, 0, 1), (15, 0, 37, 0), (16, 0, 37, 0)]),
  (84, 31, [(3, 0, 2, 0), (21, 8, 6, 24), (3, 2, 0, 0), (3, 3, 0, 0), (27, 0, 0, 0), (3, 0, 2, 0), (3, 3, 0, 0), (22, 8, 7, 61), (3, 0, 2, 0), (3, 4, 0, 0), (22, 8, 8, 64), (5, 2, 0, 1), (15, 0, 24, 0), (16, 0, 24, 0)]),
  (108, 0, [(42, 0, 0, 0)])]
def k_X8_needBehind : List (Nat × Nat × List Ins) := [(0, 7, [(0, 0, 0, 0), (4, 3, 0, 0), (3, 1, 0, 0), (4, 4, 0, 0), (0, 0, 0, 0), (4, 5, 0, 0), (16, 0, 8, 0)]),
  (8, 63, [(3, 5, 0, 0), (3, 0, 2, 0), (21, 8, 0, 27), (18, 7, 11, 35), (13, 3, 80, 0), (3, 4, 0, 0), (12, 0, 80, 0), (3, 4, 0, 0), (3, 5, 0, 0), (6, 7, 0, 0), (0, 0, 0, 1), (6, 3, 0, 0), (0, 0, 0, 1), (13, 1, 74, 0), (3, 0, 2, 0), (3, 4, 0, 0), (3, 5, 0, 0), (3, 2, 0, 0), (39, 18042, 86, 70), (4, 6, 0, 0), (3, 6, 0, 0), (3, 1, 0, 0), (13, 1, 55, 0), (0, 0, 0, (-1)), (55, 0, 0, 0)]),
  (55, 127, [(3, 3, 0, 0), (3, 0, 2, 0), (21, 8, 6, 24), (3, 6, 0, 0), (26, 0, 0, 0), (39, 20, 343, 74), (4, 3, 0, 0), (3, 4, 0, 0), (3, 6, 0, 0), (6, 5, 0, 0), (4, 4, 0, 0), (16, 0, 74, 0)]),
  (74, 63, [(5, 5, 0, 1), (15, 0, 8, 0), (16, 0, 8, 0)]),
  (80, 8, [(3, 3, 0, 0), (0, 0, 0, 1), (6, 0, 0, 0), (55, 0, 0, 0)])]
def k_X8_sameIn : List (Nat × Nat × List Ins) := [(0, 15, [(0, 0, 0, 0), (4, 4, 0, 0), (3, 2, 0, 0), (4, 5, 0, 0), (16, 0, 6, 0)]),
  (6, 63, [(3, 5, 0, 0), (3, 0, 2, 0), (21, 8, 0, 27), (18, 7, 11, 35), (13, 3, 75, 0), (3, 1, 0, 0), (3, 5, 0, 0), (6, 7, 0, 0), (0, 0, 0, 1), (6, 3, 0, 0), (0, 0, 0, 1), (13, 1, 69, 0), (3, 0, 2, 0), (21, 8, 0, 27), (21, 7, 12, 79), (3, 5, 0, 0), (0, 1, 0, 12), (6, 2, 0, 0), (3, 3, 0, 0), (6, 0, 0, 0), (26, 0, 0, 0), (3, 0, 2, 0), (21, 8, 0, 27), (21, 7, 12, 79), (3, 2, 0, 0), (0, 1, 0, 12), (6, 2, 0, 0), (3, 3, 0, 0), (6, 0, 0, 0), (26, 0, 0, 0), (13, 1, 69, 0), (3, 4, 0, 0), (0, 0, 0, 1), (3, 5, 0, 0), (6, 6, 0, 0), (6, 4, 0, 0), (4, 4, 0, 0), (16, 0, 69, 0)]),
  (69, 63, [(5, 5, 0, 1), (15, 0, 6, 0), (16, 0, 6, 0)]),
  (75, 16, [(3, 4, 0, 0), (55, 0, 0, 0)])]
def k_X8_toneIn : List (Nat × Nat × List Ins) := [(0, 7, [(3, 1, 0, 0), (12, 1, 16, 0), (3, 0, 2, 0), (21, 8, 0, 27), (21, 7, 10, 82), (3, 2, 0, 0), (26, 0, 0, 0), (15, 0, 32, 0), (55, 0, 0, 0)]),
  (16, 7, [(3, 0, 2, 0), (21, 8, 0, 27), (21, 7, 12, 79), (3, 1, 0, 0), (0, 0, 0, 1), (6, 1, 0, 0), (0, 1, 0, 12), (6, 2, 0, 0), (3, 2, 0, 0), (6, 0, 0, 0), (26, 0, 0, 0), (55, 0, 0, 0)])]
def k_X8_fromLayer : List (Nat × Nat × List Ins) := [(0, 7, [(0, 0, 0, 0), (4, 3, 0, 0), (0, 0, 0, 0), (4, 4, 0, 0), (16, 0, 5, 0)]),
  (5, 31, [(3, 4, 0, 0), (0, 1, 0, 12), (13, 3, 54, 0), (3, 0, 2, 0), (21, 8, 0, 27), (21, 7, 12, 79), (3, 1, 0, 0), (0, 1, 0, 12), (6, 2, 0, 0), (3, 4, 0, 0), (6, 0, 0, 0), (26, 0, 0, 0), (3, 0, 2, 0), (21, 8, 0, 27), (21, 7, 10, 82), (3, 2, 0, 0), (0, 1, 0, 12), (6, 2, 0, 0), (3, 4, 0, 0), (6, 0, 0, 0), (26, 0, 0, 0), (13, 0, 48, 0), (5, 3, 0, 1), (16, 0, 48, 0)]),
  (48, 31, [(5, 4, 0, 1), (15, 0, 5, 0), (16, 0, 5, 0)]),
  (54, 8, [(3, 3, 0, 0), (55, 0, 0, 0)])]
def k_X8_weighSet : List (Nat × Nat × List Ins) := [(0, 3, [(3, 1, 0, 0), (3, 1, 0, 0), (0, 0, 0, 1), (6, 1, 0, 0), (6, 3, 0, 0), (4, 2, 0, 0), (3, 2, 0, 0), (12, 1, 25, 0), (3, 0, 2, 0), (21, 8, 3, 15), (3, 1, 0, 0), (0, 0, 0, 0), (27, 0, 0, 0), (3, 0, 2, 0), (21, 8, 4, 18), (3, 1, 0, 0), (0, 0, 0, 1), (27, 0, 0, 0), (42, 0, 0, 0)]),
  (25, 7, [(3, 0, 2, 0), (21, 8, 3, 15), (3, 1, 0, 0), (0, 1, 0, 84), (27, 0, 0, 0), (3, 0, 2, 0), (21, 8, 4, 18), (3, 1, 0, 0), (0, 0, 0, 0), (27, 0, 0, 0), (3, 2, 0, 0), (3, 2, 0, 0), (7, 0, 0, 0), (6, 3, 0, 0), (4, 3, 0, 0), (3, 2, 0, 0), (3, 3, 0, 0), (6, 5, 0, 0), (4, 4, 0, 0), (0, 0, 0, 0), (4, 5, 0, 0), (16, 0, 53, 0)]),
  (53, 59, [(3, 5, 0, 0), (3, 4, 0, 0), (13, 4, 85, 0), (3, 5, 0, 0), (3, 4, 0, 0), (6, 3, 0, 0), (3, 5, 0, 0), (13, 1, 79, 0), (3, 0, 2, 0), (3, 1, 0, 0), (3, 5, 0, 0), (3, 3, 0, 0), (6, 4, 0, 0), (39, 18032, 90, 85), (16, 0, 79, 0)]),
  (79, 59, [(5, 5, 0, 1), (15, 0, 53, 0), (16, 0, 53, 0)]),
  (85, 0, [(42, 0, 0, 0)])]
def k_X8_joinBranch : List (Nat × Nat × List Ins) := [(0, 7, [(0, 0, 0, 0), (3, 1, 0, 0), (39, 11, 182, 89), (39, 20, 343, 74), (4, 3, 0, 0), (3, 1, 0, 0), (3, 2, 0, 0), (6, 5, 0, 0), (4, 4, 0, 0), (3, 0, 2, 0), (21, 8, 4, 18), (3, 2, 0, 0), (26, 0, 0, 0), (3, 0, 2, 0), (21, 8, 4, 18), (3, 4, 0, 0), (26, 0, 0, 0), (6, 2, 0, 0), (4, 5, 0, 0), (0, 0, 0, 0), (4, 6, 0, 0), (16, 0, 33, 0)]),
  (33, 127, [(3, 6, 0, 0), (3, 0, 2, 0), (18, 8, 1, 41), (13, 3, 135, 0), (3, 2, 0, 0), (3, 6, 0, 0), (6, 7, 0, 0), (0, 0, 0, 1), (6, 3, 0, 0), (0, 0, 0, 1), (13, 1, 129, 0), (3, 0, 2, 0), (21, 8, 3, 15), (3, 2, 0, 0), (26, 0, 0, 0), (3, 0, 2, 0), (21, 8, 3, 15), (3, 4, 0, 0), (26, 0, 0, 0), (6, 0, 0, 0), (3, 0, 2, 0), (21, 8, 2, 11), (3, 3, 0, 0), (0, 1, 0, 7), (6, 2, 0, 0), (3, 6, 0, 0), (6, 0, 0, 0), (26, 0, 0, 0), (6, 0, 0, 0), (4, 7, 0, 0), (3, 7, 0, 0), (3, 0, 2, 0), (21, 8, 3, 15), (3, 1, 0, 0), (26, 0, 0, 0), (13, 3, 107, 0), (3, 0, 2, 0), (21, 8, 3, 15), (3, 1, 0, 0), (3, 7, 0, 0), (27, 0, 0, 0), (3, 0, 2, 0), (21, 8, 4, 18), (3, 1, 0, 0), (0, 0, 0, 0), (27, 0, 0, 0), (16, 0, 107, 0)]),
  (107, 255, [(3, 7, 0, 0), (3, 0, 2, 0), (21, 8, 3, 15), (3, 1, 0, 0), (26, 0, 0, 0), (13, 1, 129, 0), (3, 0, 2, 0), (21, 8, 4, 18), (3, 1, 0, 0), (50, 0, 0, 0), (26, 0, 0, 0), (3, 5, 0, 0), (6, 0, 0, 0), (27, 0, 0, 0), (16, 0, 129, 0)]),
  (129, 127, [(5, 6, 0, 1), (15, 0, 33, 0), (16, 0, 33, 0)]),
  (135, 0, [(42, 0, 0, 0)])]
def k_X8_fits : List (Nat × Nat × List Ins) := [(0, 7, [(3, 1, 0, 0), (3, 0, 2, 0), (18, 8, 1, 41), (13, 2, 22, 0), (3, 2, 0, 0), (3, 0, 2, 0), (39, 18012, 80, 93), (13, 1, 20, 0), (0, 0, 0, 1), (15, 0, 21, 0), (58, 0, 0, 0)]),
  (20, 0, [(0, 0, 0, 0), (58, 0, 0, 0)]),
  (22, 7, [(3, 2, 0, 0), (3, 0, 2, 0), (3, 1, 0, 0), (39, 18022, 92, 97), (6, 0, 0, 0), (3, 0, 2, 0), (39, 18012, 80, 93), (13, 5, 38, 0), (0, 0, 0, 0), (58, 0, 0, 0)]),
  (38, 7, [(0, 0, 0, 0), (4, 3, 0, 0), (16, 0, 40, 0)]),
  (40, 15, [(3, 3, 0, 0), (3, 0, 2, 0), (18, 8, 1, 41), (13, 3, 102, 0), (3, 0, 2, 0), (3, 3, 0, 0), (3, 1, 0, 0), (39, 18032, 93, 100), (12, 1, 96, 0), (3, 0, 2, 0), (21, 8, 5, 21), (3, 1, 0, 0), (3, 3, 0, 0), (27, 0, 0, 0), (3, 0, 2, 0), (3, 1, 0, 0), (0, 0, 0, 1), (6, 0, 0, 0), (3, 2, 0, 0), (3, 0, 2, 0), (21, 8, 2, 11), (3, 1, 0, 0), (0, 1, 0, 7), (6, 2, 0, 0), (3, 3, 0, 0), (6, 0, 0, 0), (26, 0, 0, 0), (6, 0, 0, 0), (39, 30, 91, 51), (12, 0, 89, 0), (0, 0, 0, 1), (58, 0, 0, 0)]),
  (89, 15, [(3, 0, 2, 0), (21, 8, 5, 21), (3, 1, 0, 0), (0, 0, 0, (-1)), (27, 0, 0, 0), (16, 0, 96, 0)]),
  (96, 15, [(5, 3, 0, 1), (15, 0, 40, 0), (16, 0, 40, 0)]),
  (102, 0, [(0, 0, 0, 0), (58, 0, 0, 0)])]
def k_X8_leastFrom : List (Nat × Nat × List Ins) := [(0, 3, [(0, 0, 0, 0), (4, 2, 0, 0), (3, 1, 0, 0), (4, 3, 0, 0), (16, 0, 4, 0)]),
  (4, 13, [(3, 3, 0, 0), (3, 0, 2, 0), (18, 8, 1, 41), (13, 3, 70, 0), (0, 1, 0, 12), (4, 4, 0, 0), (0, 0, 0, 0), (4, 5, 0, 0), (16, 0, 19, 0)]),
  (19, 61, [(3, 5, 0, 0), (3, 0, 2, 0), (18, 8, 1, 41), (13, 3, 59, 0), (3, 5, 0, 0), (3, 3, 0, 0), (13, 0, 53, 0), (3, 4, 0, 0), (3, 0, 2, 0), (21, 8, 2, 11), (3, 3, 0, 0), (0, 1, 0, 7), (6, 2, 0, 0), (3, 5, 0, 0), (6, 0, 0, 0), (26, 0, 0, 0), (39, 20, 344, 104), (4, 4, 0, 0), (16, 0, 53, 0)]),
  (53, 61, [(5, 5, 0, 1), (15, 0, 19, 0), (16, 0, 19, 0)]),
  (59, 29, [(3, 2, 0, 0), (3, 4, 0, 0), (6, 0, 0, 0), (4, 2, 0, 0), (5, 3, 0, 1), (15, 0, 4, 0), (16, 0, 4, 0)]),
  (70, 4, [(3, 2, 0, 0), (55, 0, 0, 0)])]
def k_X8_comesFrom : List (Nat × Nat × List Ins) := [(0, 7, [(3, 1, 0, 0), (4, 3, 0, 0), (0, 0, 0, 0), (4, 4, 0, 0), (16, 0, 5, 0)]),
  (5, 29, [(3, 4, 0, 0), (0, 1, 0, 7), (13, 3, 42, 0), (3, 3, 0, 0), (12, 5, 42, 0), (3, 3, 0, 0), (0, 1, 0, 7), (13, 3, 42, 0), (3, 3, 0, 0), (3, 2, 0, 0), (13, 1, 29, 0), (0, 0, 0, 1), (58, 0, 0, 0)]),
  (29, 29, [(3, 0, 2, 0), (21, 8, 5, 21), (3, 3, 0, 0), (26, 0, 0, 0), (4, 3, 0, 0), (5, 4, 0, 1), (15, 0, 5, 0), (16, 0, 5, 0)]),
  (42, 0, [(0, 0, 0, 0), (58, 0, 0, 0)])]
def k_X9_init : List (Nat × Nat × List Ins) := [(0, 7, [(3, 0, 2, 0), (40, 0, 0, 3), (3, 0, 2, 0), (0, 1, 0, 12), (37, 0, 0, 0), (25, 9, 2, 9), (3, 0, 2, 0), (0, 1, 0, 12), (37, 0, 0, 0), (25, 9, 3, 15), (3, 0, 2, 0), (3, 1, 2, 0), (25, 9, 0, 18), (3, 0, 2, 0), (3, 2, 2, 0), (25, 9, 1, 22), (42, 0, 0, 0)])]
def k_X9_paintNext : List (Nat × Nat × List Ins) := [(0, 3, [(3, 0, 2, 0), (21, 9, 0, 18), (18, 7, 8, 26), (0, 0, 0, 1), (6, 0, 0, 0), (4, 2, 0, 0), (3, 2, 0, 0), (0, 1, 0, 16), (13, 5, 17, 0), (42, 0, 0, 0)]),
  (17, 7, [(0, 0, 0, 0), (4, 3, 0, 0), (16, 0, 19, 0)]),
  (19, 15, [(3, 3, 0, 0), (0, 1, 0, 12), (13, 3, 75, 0), (3, 0, 2, 0), (21, 9, 1, 22), (3, 3, 0, 0), (3, 2, 0, 0), (39, 14032, 23, 32), (4, 4, 0, 0), (3, 0, 2, 0), (21, 9, 0, 18), (21, 7, 10, 38), (3, 2, 0, 0), (0, 1, 0, 12), (6, 2, 0, 0), (3, 3, 0, 0), (6, 0, 0, 0), (3, 0, 2, 0), (21, 9, 0, 18), (3, 1, 0, 0), (3, 3, 0, 0), (3, 0, 2, 0), (21, 9, 0, 18), (3, 3, 0, 0), (39, 17022, 71, 41), (3, 4, 0, 0), (39, 17052, 76, 45), (27, 0, 0, 0), (5, 3, 0, 1), (15, 0, 19, 0), (16, 0, 19, 0)]),
  (75, 7, [(3, 0, 2, 0), (21, 9, 0, 18), (21, 7, 9, 49), (3, 2, 0, 0), (3, 1, 0, 0), (27, 0, 0, 0), (3, 0, 2, 0), (21, 9, 0, 18), (3, 2, 0, 0), (22, 7, 8, 26), (42, 0, 0, 0)])]
def k_X9_unlikeOf : List (Nat × Nat × List Ins) := [(0, 3, [(0, 0, 0, 0), (4, 2, 0, 0), (0, 0, 0, 0), (4, 3, 0, 0), (16, 0, 4, 0)]),
  (4, 15, [(3, 3, 0, 0), (0, 1, 0, 12), (13, 3, 46, 0), (3, 2, 0, 0), (3, 0, 2, 0), (21, 9, 0, 18), (21, 7, 10, 38), (3, 1, 0, 0), (0, 1, 0, 12), (6, 2, 0, 0), (3, 3, 0, 0), (6, 0, 0, 0), (26, 0, 0, 0), (3, 0, 2, 0), (21, 9, 1, 22), (3, 3, 0, 0), (3, 1, 0, 0), (39, 14032, 23, 32), (6, 1, 0, 0), (39, 10, 342, 52), (6, 0, 0, 0), (4, 2, 0, 0), (5, 3, 0, 1), (15, 0, 4, 0), (16, 0, 4, 0)]),
  (46, 4, [(3, 2, 0, 0), (55, 0, 0, 0)])]
def k_X9_farCell : List (Nat × Nat × List Ins) := [(0, 3, [(0, 0, 0, 0), (4, 2, 0, 0), (16, 0, 2, 0)]),
  (2, 7, [(3, 2, 0, 0), (0, 1, 0, 12), (13, 3, 57, 0), (3, 0, 2, 0), (21, 9, 0, 18), (21, 7, 10, 38), (3, 1, 0, 0), (0, 1, 0, 12), (6, 2, 0, 0), (3, 2, 0, 0), (6, 0, 0, 0), (26, 0, 0, 0), (3, 0, 2, 0), (21, 9, 1, 22), (3, 2, 0, 0), (3, 1, 0, 0), (39, 14032, 23, 32), (6, 1, 0, 0), (39, 10, 342, 52), (4, 3, 0, 0), (3, 3, 0, 0), (3, 0, 2, 0), (21, 9, 1, 22), (3, 2, 0, 0), (3, 1, 0, 0), (39, 14032, 24, 57), (13, 5, 51, 0), (3, 2, 0, 0), (55, 0, 0, 0)]),
  (51, 7, [(5, 2, 0, 1), (15, 0, 2, 0), (16, 0, 2, 0)]),
  (57, 0, [(0, 0, 0, (-1)), (55, 0, 0, 0)])]
def k_X9_moneyBehind : List (Nat × Nat × List Ins) := [(0, 3, [(3, 0, 2, 0), (21, 9, 0, 18), (21, 7, 4, 60), (0, 0, 0, 3), (26, 0, 0, 0), (3, 1, 0, 0), (6, 2, 0, 0), (4, 2, 0, 0), (0, 0, 0, 1), (4, 3, 0, 0), (16, 0, 14, 0)]),
  (14, 15, [(3, 3, 0, 0), (3, 1, 0, 0), (13, 4, 45, 0), (3, 2, 0, 0), (3, 0, 2, 0), (21, 9, 1, 22), (3, 0, 2, 0), (21, 9, 0, 18), (21, 7, 9, 49), (3, 3, 0, 0), (26, 0, 0, 0), (3, 3, 0, 0), (39, 14032, 25, 63), (6, 1, 0, 0), (4, 2, 0, 0), (5, 3, 0, 1), (15, 0, 14, 0), (16, 0, 14, 0)]),
  (45, 4, [(3, 2, 0, 0), (55, 0, 0, 0)])]
def k_X9_whoCan : List (Nat × Nat × List Ins) := [(0, 3, [(3, 0, 2, 0), (3, 1, 0, 0), (3, 0, 2, 0), (21, 9, 2, 9), (39, 19032, 104, 66), (0, 0, 0, 0), (4, 2, 0, 0), (0, 0, 0, 0), (4, 3, 0, 0), (16, 0, 13, 0)]),
  (13, 15, [(3, 3, 0, 0), (3, 0, 2, 0), (21, 9, 0, 18), (18, 7, 0, 70), (13, 3, 46, 0), (3, 0, 2, 0), (3, 1, 0, 0), (3, 3, 0, 0), (0, 0, 0, 1), (39, 19042, 105, 73), (12, 0, 40, 0), (3, 2, 0, 0), (0, 0, 0, 1), (3, 3, 0, 0), (6, 6, 0, 0), (6, 4, 0, 0), (4, 2, 0, 0), (16, 0, 40, 0)]),
  (40, 15, [(5, 3, 0, 1), (15, 0, 13, 0), (16, 0, 13, 0)]),
  (46, 4, [(3, 2, 0, 0), (55, 0, 0, 0)])]
def k_X9_rowsInto : List (Nat × Nat × List Ins) := [(0, 7, [(3, 0, 2, 0), (3, 1, 0, 0), (3, 0, 2, 0), (21, 9, 2, 9), (39, 19032, 104, 66), (0, 0, 0, 1), (4, 3, 0, 0), (0, 0, 0, 0), (4, 4, 0, 0), (16, 0, 14, 0)]),
  (14, 31, [(3, 4, 0, 0), (3, 2, 0, 0), (13, 3, 36, 0), (3, 3, 0, 0), (3, 0, 2, 0), (21, 9, 0, 18), (18, 7, 0, 70), (6, 2, 0, 0), (4, 3, 0, 0), (5, 4, 0, 1), (15, 0, 14, 0), (16, 0, 14, 0)]),
  (36, 15, [(0, 0, 0, 0), (4, 4, 0, 0), (0, 0, 0, 0), (4, 5, 0, 0), (16, 0, 42, 0)]),
  (42, 63, [(3, 5, 0, 0), (3, 3, 0, 0), (13, 3, 68, 0), (3, 0, 2, 0), (3, 1, 0, 0), (3, 5, 0, 0), (3, 2, 0, 0), (39, 19042, 105, 73), (12, 0, 62, 0), (5, 4, 0, 1), (16, 0, 62, 0)]),
  (62, 63, [(5, 5, 0, 1), (15, 0, 42, 0), (16, 0, 42, 0)]),
  (68, 16, [(3, 4, 0, 0), (55, 0, 0, 0)])]
def k_X9_driftOf : List (Nat × Nat × List Ins) := [(0, 7, [(0, 0, 0, 1), (3, 0, 2, 0), (21, 9, 0, 18), (3, 1, 0, 0), (39, 17022, 71, 41), (6, 6, 0, 0), (4, 3, 0, 0), (3, 0, 2, 0), (21, 9, 0, 18), (18, 7, 8, 26), (0, 0, 0, 1), (6, 0, 0, 0), (4, 4, 0, 0), (16, 0, 22, 0)]),
  (22, 31, [(3, 4, 0, 0), (3, 0, 2, 0), (21, 9, 0, 18), (18, 7, 8, 26), (3, 2, 0, 0), (6, 0, 0, 0), (13, 4, 110, 0), (3, 0, 2, 0), (21, 9, 1, 22), (3, 1, 0, 0), (3, 4, 0, 0), (39, 14032, 23, 32), (4, 5, 0, 0), (0, 0, 0, 0), (4, 6, 0, 0), (0, 0, 0, 0), (4, 7, 0, 0), (16, 0, 54, 0)]),
  (54, 255, [(3, 7, 0, 0), (3, 0, 2, 0), (21, 9, 0, 18), (18, 7, 0, 70), (13, 3, 101, 0), (3, 0, 2, 0), (21, 9, 1, 22), (3, 7, 0, 0), (3, 4, 0, 0), (39, 14032, 26, 77), (12, 1, 95, 0), (3, 6, 0, 0), (3, 0, 2, 0), (3, 3, 0, 0), (3, 7, 0, 0), (3, 1, 0, 0), (3, 5, 0, 0), (39, 19052, 106, 81), (6, 4, 0, 0), (4, 6, 0, 0), (16, 0, 95, 0)]),
  (95, 255, [(5, 7, 0, 1), (15, 0, 54, 0), (16, 0, 54, 0)]),
  (101, 87, [(3, 6, 0, 0), (4, 3, 0, 0), (5, 4, 0, 1), (15, 0, 22, 0), (16, 0, 22, 0)]),
  (110, 8, [(3, 3, 0, 0), (55, 0, 0, 0)])]
def k_X9_undoingPair : List (Nat × Nat × List Ins) := [(0, 3, [(3, 0, 2, 0), (3, 0, 2, 0), (21, 9, 0, 18), (18, 7, 8, 26), (0, 0, 0, 1), (6, 0, 0, 0), (3, 0, 2, 0), (21, 9, 2, 9), (39, 19032, 104, 66), (3, 0, 2, 0), (3, 0, 2, 0), (21, 9, 0, 18), (18, 7, 8, 26), (0, 0, 0, 2), (6, 0, 0, 0), (3, 0, 2, 0), (21, 9, 3, 15), (39, 19032, 104, 66), (0, 0, 0, 0), (4, 2, 0, 0), (0, 0, 0, 0), (4, 3, 0, 0), (16, 0, 38, 0)]),
  (38, 15, [(3, 3, 0, 0), (3, 0, 2, 0), (21, 9, 0, 18), (18, 7, 0, 70), (13, 3, 101, 0), (0, 0, 0, 0), (4, 4, 0, 0), (16, 0, 52, 0)]),
  (52, 31, [(3, 4, 0, 0), (3, 0, 2, 0), (21, 9, 0, 18), (18, 7, 0, 70), (13, 3, 95, 0), (3, 0, 2, 0), (3, 3, 0, 0), (3, 4, 0, 0), (39, 19032, 107, 84), (12, 0, 89, 0), (3, 2, 0, 0), (3, 1, 0, 0), (13, 1, 86, 0), (0, 0, 0, 5), (3, 3, 0, 0), (6, 2, 0, 0), (3, 4, 0, 0), (6, 0, 0, 0), (55, 0, 0, 0)]),
  (86, 31, [(5, 2, 0, 1), (16, 0, 89, 0)]),
  (89, 31, [(5, 4, 0, 1), (15, 0, 52, 0), (16, 0, 52, 0)]),
  (95, 15, [(5, 3, 0, 1), (15, 0, 38, 0), (16, 0, 38, 0)]),
  (101, 6, [(3, 1, 0, 0), (0, 0, 0, (-1)), (13, 1, 110, 0), (3, 2, 0, 0), (15, 0, 111, 0), (55, 0, 0, 0)]),
  (110, 0, [(0, 0, 0, (-1)), (55, 0, 0, 0)])]
def k_X9_firstTones : List (Nat × Nat × List Ins) := [(0, 3, [(0, 0, 0, 1), (3, 0, 2, 0), (21, 9, 0, 18), (3, 1, 0, 0), (39, 17022, 71, 41), (6, 6, 0, 0), (4, 2, 0, 0), (3, 0, 2, 0), (21, 9, 0, 18), (18, 7, 8, 26), (4, 3, 0, 0), (16, 0, 19, 0)]),
  (19, 15, [(3, 3, 0, 0), (0, 0, 0, 1), (13, 2, 100, 0), (3, 0, 2, 0), (21, 9, 1, 22), (3, 1, 0, 0), (3, 3, 0, 0), (39, 14032, 23, 32), (4, 4, 0, 0), (0, 0, 0, 0), (4, 5, 0, 0), (0, 0, 0, 0), (4, 6, 0, 0), (16, 0, 41, 0)]),
  (41, 127, [(3, 6, 0, 0), (0, 1, 0, 10), (13, 3, 91, 0), (3, 0, 2, 0), (21, 9, 0, 18), (3, 0, 2, 0), (21, 9, 0, 18), (21, 7, 9, 49), (3, 3, 0, 0), (26, 0, 0, 0), (3, 1, 0, 0), (3, 6, 0, 0), (3, 4, 0, 0), (39, 17052, 76, 45), (4, 7, 0, 0), (3, 5, 0, 0), (3, 2, 0, 0), (3, 7, 0, 0), (6, 7, 0, 0), (0, 0, 0, 1), (6, 3, 0, 0), (3, 6, 0, 0), (6, 6, 0, 0), (6, 4, 0, 0), (4, 5, 0, 0), (5, 6, 0, 1), (15, 0, 41, 0), (16, 0, 41, 0)]),
  (91, 43, [(3, 5, 0, 0), (4, 2, 0, 0), (5, 3, 0, (-1)), (15, 0, 19, 0), (16, 0, 19, 0)]),
  (100, 4, [(3, 2, 0, 0), (55, 0, 0, 0)])]
def k_X9_aimAt : List (Nat × Nat × List Ins) := [(0, 7, [(0, 0, 0, 0), (4, 3, 0, 0), (16, 0, 2, 0)]),
  (2, 15, [(3, 3, 0, 0), (0, 1, 0, 12), (13, 3, 26, 0), (3, 2, 2, 0), (3, 3, 0, 0), (3, 0, 2, 0), (21, 9, 1, 22), (3, 3, 0, 0), (3, 1, 0, 0), (39, 14032, 23, 32), (27, 0, 0, 0), (5, 3, 0, 1), (15, 0, 2, 0), (16, 0, 2, 0)]),
  (26, 0, [(42, 0, 0, 0)])]
def k_X9_comesOut : List (Nat × Nat × List Ins) := [(0, 15, [(3, 0, 2, 0), (21, 9, 0, 18), (18, 7, 0, 70), (12, 1, 12, 0), (0, 0, 0, 0), (58, 0, 0, 0)]),
  (12, 15, [(0, 0, 0, 0), (4, 4, 0, 0), (16, 0, 15, 0)]),
  (15, 31, [(3, 4, 0, 0), (0, 1, 0, 12), (13, 3, 129, 0), (3, 0, 2, 0), (21, 9, 0, 18), (21, 7, 10, 38), (3, 1, 0, 0), (0, 0, 0, 1), (6, 1, 0, 0), (0, 1, 0, 12), (6, 2, 0, 0), (3, 4, 0, 0), (6, 0, 0, 0), (26, 0, 0, 0), (4, 5, 0, 0), (3, 2, 0, 0), (4, 6, 0, 0), (0, 0, 0, 0), (4, 7, 0, 0), (16, 0, 47, 0)]),
  (47, 255, [(3, 7, 0, 0), (3, 3, 0, 0), (13, 3, 101, 0), (3, 0, 2, 0), (21, 9, 0, 18), (3, 6, 0, 0), (3, 0, 2, 0), (21, 9, 0, 18), (18, 7, 0, 70), (44, 0, 0, 0), (3, 4, 0, 0), (3, 5, 0, 0), (3, 0, 2, 0), (21, 9, 2, 9), (3, 4, 0, 0), (26, 0, 0, 0), (39, 17052, 76, 45), (4, 5, 0, 0), (3, 6, 0, 0), (3, 0, 2, 0), (21, 9, 0, 18), (18, 7, 0, 70), (43, 0, 0, 0), (4, 6, 0, 0), (5, 7, 0, 1), (15, 0, 47, 0), (16, 0, 47, 0)]),
  (101, 63, [(3, 5, 0, 0), (3, 0, 2, 0), (21, 9, 0, 18), (21, 7, 10, 38), (3, 1, 0, 0), (0, 1, 0, 12), (6, 2, 0, 0), (3, 4, 0, 0), (6, 0, 0, 0), (26, 0, 0, 0), (13, 0, 123, 0), (0, 0, 0, 0), (58, 0, 0, 0)]),
  (123, 31, [(5, 4, 0, 1), (15, 0, 15, 0), (16, 0, 15, 0)]),
  (129, 0, [(0, 0, 0, 1), (58, 0, 0, 0)])]
def k_X9_carried : List (Nat × Nat × List Ins) := [(0, 31, [(0, 0, 0, 0), (4, 5, 0, 0), (0, 0, 0, 0), (4, 6, 0, 0), (16, 0, 6, 0)]),
  (6, 127, [(3, 6, 0, 0), (0, 1, 0, 10), (13, 3, 49, 0), (3, 1, 0, 0), (3, 6, 0, 0), (6, 7, 0, 0), (0, 0, 0, 1), (6, 3, 0, 0), (0, 0, 0, 1), (13, 1, 43, 0), (3, 5, 0, 0), (0, 0, 0, 1), (3, 0, 2, 0), (21, 9, 0, 18), (3, 2, 0, 0), (3, 3, 0, 0), (3, 6, 0, 0), (3, 4, 0, 0), (39, 17052, 76, 45), (6, 6, 0, 0), (6, 4, 0, 0), (4, 5, 0, 0), (16, 0, 43, 0)]),
  (43, 127, [(5, 6, 0, 1), (15, 0, 6, 0), (16, 0, 6, 0)]),
  (49, 32, [(3, 5, 0, 0), (55, 0, 0, 0)])]
def k_X9_undo : List (Nat × Nat × List Ins) := [(0, 7, [(0, 0, 0, 0), (4, 3, 0, 0), (16, 0, 2, 0)]),
  (2, 15, [(3, 3, 0, 0), (0, 1, 0, 12), (13, 3, 67, 0), (3, 0, 2, 0), (21, 9, 0, 18), (3, 3, 0, 0), (39, 17022, 71, 41), (4, 4, 0, 0), (3, 0, 2, 0), (21, 9, 0, 18), (3, 1, 0, 0), (3, 3, 0, 0), (3, 4, 0, 0), (3, 0, 2, 0), (21, 9, 2, 9), (3, 3, 0, 0), (26, 0, 0, 0), (39, 17052, 76, 45), (4, 5, 0, 0), (3, 0, 2, 0), (21, 9, 0, 18), (3, 2, 0, 0), (3, 3, 0, 0), (3, 5, 0, 0), (3, 0, 2, 0), (21, 9, 3, 15), (3, 3, 0, 0), (26, 0, 0, 0), (39, 17052, 76, 45), (3, 4, 0, 0), (13, 0, 61, 0), (0, 0, 0, 0), (58, 0, 0, 0)]),
  (61, 15, [(5, 3, 0, 1), (15, 0, 2, 0), (16, 0, 2, 0)]),
  (67, 0, [(0, 0, 0, 1), (58, 0, 0, 0)])]
def k_X10_init : List (Nat × Nat × List Ins) := [(0, 7, [(3, 0, 2, 0), (40, 0, 0, 3), (3, 0, 2, 0), (3, 1, 0, 0), (0, 1, 0, 6), (6, 2, 0, 0), (37, 0, 0, 0), (25, 10, 0, 9), (3, 0, 2, 0), (3, 2, 0, 0), (37, 0, 0, 0), (25, 10, 1, 15), (42, 0, 0, 0)])]
def k_X10_clear : List (Nat × Nat × List Ins) := [(0, 1, [(3, 0, 2, 0), (0, 0, 0, 0), (22, 10, 2, 18), (3, 0, 2, 0), (0, 0, 0, 0), (22, 10, 3, 22), (3, 0, 2, 0), (0, 0, 0, 0), (22, 10, 4, 25), (42, 0, 0, 0)])]
def k_X10_add : List (Nat × Nat × List Ins) := [(0, 7, [(3, 0, 2, 0), (18, 10, 3, 22), (3, 0, 2, 0), (21, 10, 1, 15), (28, 0, 0, 0), (13, 3, 37, 0), (3, 0, 2, 0), (21, 10, 1, 15), (3, 0, 2, 0), (18, 10, 3, 22), (3, 1, 0, 0), (0, 1, 0, 16), (3, 2, 0, 0), (6, 2, 0, 0), (6, 0, 0, 0), (27, 0, 0, 0), (3, 0, 2, 0), (11, 0, 0, 0), (18, 10, 3, 22), (0, 0, 0, 1), (6, 0, 0, 0), (22, 10, 3, 22), (16, 0, 37, 0)]),
  (37, 0, [(42, 0, 0, 0)])]
def k_X10_jumpHere : List (Nat × Nat × List Ins) := [(0, 3, [(3, 1, 0, 0), (12, 2, 35, 0), (3, 1, 0, 0), (3, 0, 2, 0), (18, 10, 3, 22), (13, 3, 35, 0), (3, 0, 2, 0), (21, 10, 1, 15), (3, 1, 0, 0), (3, 0, 2, 0), (21, 10, 1, 15), (3, 1, 0, 0), (26, 0, 0, 0), (0, 1, 0, 15), (6, 3, 0, 0), (0, 1, 0, 16), (3, 0, 2, 0), (18, 10, 3, 22), (6, 2, 0, 0), (6, 0, 0, 0), (27, 0, 0, 0), (16, 0, 35, 0)]),
  (35, 0, [(42, 0, 0, 0)])]
def k_X10_trimmed : List (Nat × Nat × List Ins) := [(0, 1, [(36, 10, 5, 10), (11, 0, 0, 0), (3, 0, 2, 0), (18, 10, 2, 18), (3, 0, 2, 0), (18, 10, 3, 22), (39, 34, 108, 28), (4, 1, 2, 0), (3, 0, 2, 0), (21, 10, 0, 9), (0, 0, 0, 0), (3, 1, 2, 0), (21, 10, 0, 9), (0, 0, 0, 0), (3, 0, 2, 0), (18, 10, 2, 18), (0, 1, 0, 6), (6, 2, 0, 0), (41, 0, 0, 31), (3, 0, 2, 0), (21, 10, 1, 15), (0, 0, 0, 0), (3, 1, 2, 0), (21, 10, 1, 15), (0, 0, 0, 0), (3, 0, 2, 0), (18, 10, 3, 22), (41, 0, 0, 31), (3, 1, 2, 0), (3, 0, 2, 0), (18, 10, 2, 18), (22, 10, 2, 18), (3, 1, 2, 0), (3, 0, 2, 0), (18, 10, 3, 22), (22, 10, 3, 22), (3, 1, 2, 0), (3, 0, 2, 0), (18, 10, 4, 25), (22, 10, 4, 25), (3, 1, 2, 0), (57, 0, 0, 0)])]
def k_X11_init : List (Nat × Nat × List Ins) := [(0, 1, [(3, 0, 2, 0), (40, 0, 0, 3), (36, 7, 15, 9), (11, 0, 0, 0), (39, 14, 64, 11), (4, 1, 2, 0), (0, 2, 0, 400), (37, 0, 0, 0), (4, 2, 2, 0), (36, 10, 5, 12), (11, 0, 0, 0), (0, 1, 0, 12), (0, 2, 0, 450), (39, 34, 108, 14), (4, 3, 2, 0), (36, 4, 4, 17), (11, 0, 0, 0), (3, 1, 2, 0), (39, 24, 22, 19), (4, 4, 2, 0), (36, 9, 4, 22), (11, 0, 0, 0), (3, 1, 2, 0), (3, 4, 2, 0), (39, 34, 94, 24), (4, 5, 2, 0), (36, 5, 15, 27), (11, 0, 0, 0), (3, 1, 2, 0), (3, 4, 2, 0), (39, 34, 34, 29), (4, 6, 2, 0), (3, 0, 2, 0), (3, 1, 2, 0), (25, 11, 0, 30), (3, 0, 2, 0), (0, 0, 0, 2), (38, 3, 0, 9), (25, 11, 1, 34), (3, 0, 2, 0), (21, 11, 1, 34), (0, 0, 0, 0), (36, 7, 15, 9), (11, 0, 0, 0), (39, 14, 64, 11), (54, 3, 17, 0), (3, 0, 2, 0), (21, 11, 1, 34), (0, 0, 0, 1), (36, 7, 15, 9), (11, 0, 0, 0), (39, 14, 64, 11), (54, 3, 17, 0), (3, 0, 2, 0), (3, 2, 2, 0), (25, 11, 3, 38), (3, 0, 2, 0), (3, 3, 2, 0), (25, 11, 6, 42), (3, 0, 2, 0), (36, 6, 9, 46), (11, 0, 0, 0), (3, 2, 2, 0), (3, 3, 2, 0), (39, 34, 42, 48), (25, 11, 5, 51), (3, 0, 2, 0), (3, 4, 2, 0), (25, 11, 7, 55), (3, 0, 2, 0), (3, 5, 2, 0), (25, 11, 8, 59), (3, 0, 2, 0), (3, 6, 2, 0), (25, 11, 9, 63), (3, 0, 2, 0), (36, 8, 9, 67), (11, 0, 0, 0), (3, 1, 2, 0), (39, 24, 77, 69), (25, 11, 10, 70), (3, 0, 2, 0), (36, 2, 6, 74), (11, 0, 0, 0), (3, 1, 2, 0), (3, 4, 2, 0), (39, 34, 12, 76), (25, 11, 11, 77), (3, 0, 2, 0), (36, 1, 10, 81), (11, 0, 0, 0), (3, 1, 2, 0), (3, 4, 2, 0), (3, 5, 2, 0), (3, 6, 2, 0), (39, 54, 5, 83), (25, 11, 12, 86), (3, 0, 2, 0), (36, 0, 8, 90), (11, 0, 0, 0), (3, 1, 2, 0), (3, 4, 2, 0), (39, 34, 0, 92), (25, 11, 13, 93), (3, 0, 2, 0), (0, 0, 0, 5), (37, 0, 0, 0), (25, 11, 18, 97), (3, 0, 2, 0), (0, 0, 0, (-1)), (22, 11, 14, 100), (3, 0, 2, 0), (0, 0, 0, (-1)), (22, 11, 16, 104), (42, 0, 0, 0)])]
def k_X11_first : List (Nat × Nat × List Ins) := [(0, 7, [(3, 1, 0, 0), (39, 10, 178, 107), (12, 0, 14, 0), (3, 2, 0, 0), (39, 10, 179, 111), (12, 1, 20, 0), (16, 0, 14, 0)]),
  (14, 1, [(3, 0, 2, 0), (0, 0, 0, (-1)), (39, 21022, 172, 114), (55, 0, 0, 0)]),
  (20, 7, [(3, 0, 2, 0), (21, 11, 0, 30), (21, 7, 10, 118), (3, 1, 0, 0), (26, 0, 0, 0), (4, 3, 0, 0), (3, 0, 2, 0), (21, 11, 0, 30), (21, 7, 10, 118), (3, 1, 0, 0), (3, 2, 0, 0), (27, 0, 0, 0), (3, 0, 2, 0), (21, 11, 0, 30), (0, 0, 0, 0), (22, 7, 8, 121), (3, 0, 2, 0), (3, 3, 0, 0), (39, 21022, 171, 124), (55, 0, 0, 0)])]
def k_X11_painter : List (Nat × Nat × List Ins) := [(0, 7, [(3, 1, 0, 0), (0, 0, 0, 1), (13, 2, 20, 0), (3, 1, 0, 0), (0, 1, 0, 9), (13, 4, 20, 0), (3, 2, 0, 0), (0, 1, 0, 100), (39, 20, 177, 127), (12, 1, 26, 0), (16, 0, 20, 0)]),
  (20, 1, [(3, 0, 2, 0), (0, 0, 0, (-1)), (39, 21022, 172, 114), (55, 0, 0, 0)]),
  (26, 7, [(3, 0, 2, 0), (21, 11, 0, 30), (18, 7, 0, 131), (0, 0, 0, 5), (13, 2, 44, 0), (3, 0, 2, 0), (0, 1, 0, (-5)), (39, 21022, 172, 114), (55, 0, 0, 0)]),
  (44, 7, [(3, 0, 2, 0), (21, 11, 0, 30), (18, 7, 0, 131), (0, 0, 0, 5), (6, 2, 0, 0), (4, 3, 0, 0), (3, 0, 2, 0), (21, 11, 0, 30), (21, 7, 1, 134), (3, 3, 0, 0), (3, 1, 0, 0), (27, 0, 0, 0), (3, 0, 2, 0), (21, 11, 0, 30), (21, 7, 1, 134), (3, 3, 0, 0), (0, 0, 0, 1), (6, 0, 0, 0), (3, 2, 0, 0), (27, 0, 0, 0), (0, 0, 0, 0), (4, 4, 0, 0), (16, 0, 79, 0)]),
  (79, 25, [(3, 4, 0, 0), (0, 0, 0, 3), (13, 3, 106, 0), (3, 0, 2, 0), (21, 11, 0, 30), (21, 7, 1, 134), (3, 3, 0, 0), (0, 0, 0, 2), (6, 0, 0, 0), (3, 4, 0, 0), (6, 0, 0, 0), (0, 0, 0, 3), (27, 0, 0, 0), (5, 4, 0, 1), (15, 0, 79, 0), (16, 0, 79, 0)]),
  (106, 1, [(3, 0, 2, 0), (21, 11, 0, 30), (11, 0, 0, 0), (18, 7, 0, 131), (0, 0, 0, 1), (6, 0, 0, 0), (22, 7, 0, 131), (3, 0, 2, 0), (3, 0, 2, 0), (21, 11, 0, 30), (18, 7, 0, 131), (0, 0, 0, 1), (6, 1, 0, 0), (39, 21022, 171, 124), (55, 0, 0, 0)])]
def k_X11_err : List (Nat × Nat × List Ins) := [(0, 15, [(3, 2, 0, 0), (0, 0, 0, 3), (39, 20, 177, 127), (12, 0, 17, 0), (3, 3, 0, 0), (0, 1, 0, 7), (39, 20, 177, 127), (12, 1, 23, 0), (16, 0, 17, 0)]),
  (17, 1, [(3, 0, 2, 0), (0, 0, 0, (-1)), (39, 21022, 172, 114), (55, 0, 0, 0)]),
  (23, 15, [(3, 0, 2, 0), (21, 11, 0, 30), (3, 1, 0, 0), (39, 17022, 66, 137), (12, 1, 41, 0), (3, 0, 2, 0), (0, 1, 0, (-2)), (39, 21022, 172, 114), (55, 0, 0, 0)]),
  (41, 15, [(3, 1, 0, 0), (0, 0, 0, 5), (6, 2, 0, 0), (0, 0, 0, 2), (6, 0, 0, 0), (3, 2, 0, 0), (6, 0, 0, 0), (4, 4, 0, 0), (3, 0, 2, 0), (21, 11, 0, 30), (21, 7, 1, 134), (3, 4, 0, 0), (26, 0, 0, 0), (4, 5, 0, 0), (3, 0, 2, 0), (21, 11, 0, 30), (21, 7, 1, 134), (3, 4, 0, 0), (3, 3, 0, 0), (27, 0, 0, 0), (3, 0, 2, 0), (3, 5, 0, 0), (39, 21022, 171, 124), (55, 0, 0, 0)])]
def k_X11_of : List (Nat × Nat × List Ins) := [(0, 7, [(3, 0, 2, 0), (21, 11, 0, 30), (3, 1, 0, 0), (39, 17022, 66, 137), (12, 0, 19, 0), (3, 2, 0, 0), (0, 0, 0, 5), (39, 20, 177, 127), (12, 1, 21, 0), (16, 0, 19, 0)]),
  (19, 0, [(0, 0, 0, (-1)), (55, 0, 0, 0)]),
  (21, 7, [(3, 0, 2, 0), (21, 11, 0, 30), (21, 7, 1, 134), (3, 1, 0, 0), (0, 0, 0, 5), (6, 2, 0, 0), (3, 2, 0, 0), (6, 0, 0, 0), (26, 0, 0, 0), (55, 0, 0, 0)])]
def k_X11_terms : List (Nat × Nat × List Ins) := [(0, 7, [(3, 1, 0, 0), (0, 0, 0, 5), (39, 20, 177, 127), (12, 0, 20, 0), (3, 2, 0, 0), (12, 2, 20, 0), (3, 2, 0, 0), (3, 1, 0, 0), (39, 10, 176, 140), (13, 5, 26, 0), (16, 0, 20, 0)]),
  (20, 1, [(3, 0, 2, 0), (0, 0, 0, (-1)), (39, 21022, 172, 114), (55, 0, 0, 0)]),
  (26, 7, [(3, 0, 2, 0), (21, 11, 0, 30), (21, 7, 4, 143), (3, 1, 0, 0), (26, 0, 0, 0), (4, 3, 0, 0), (3, 0, 2, 0), (21, 11, 0, 30), (21, 7, 4, 143), (3, 1, 0, 0), (3, 2, 0, 0), (27, 0, 0, 0), (3, 0, 2, 0), (3, 3, 0, 0), (39, 21022, 171, 124), (55, 0, 0, 0)])]
def k_X11_scar : List (Nat × Nat × List Ins) := [(0, 15, [(3, 1, 0, 0), (39, 10, 178, 107), (12, 0, 23, 0), (3, 2, 0, 0), (0, 1, 0, 100), (39, 20, 177, 127), (12, 0, 23, 0), (3, 3, 0, 0), (39, 10, 179, 111), (12, 1, 29, 0), (16, 0, 23, 0)]),
  (23, 1, [(3, 0, 2, 0), (0, 0, 0, (-1)), (39, 21022, 172, 114), (55, 0, 0, 0)]),
  (29, 15, [(3, 0, 2, 0), (21, 11, 0, 30), (18, 7, 2, 146), (0, 1, 0, 6), (13, 2, 48, 0), (3, 0, 2, 0), (0, 1, 0, (-5)), (39, 21022, 172, 114), (55, 0, 0, 0)]),
  (48, 15, [(3, 0, 2, 0), (21, 11, 0, 30), (18, 7, 2, 146), (0, 0, 0, 3), (6, 2, 0, 0), (4, 4, 0, 0), (3, 0, 2, 0), (21, 11, 0, 30), (21, 7, 3, 149), (3, 4, 0, 0), (3, 1, 0, 0), (27, 0, 0, 0), (3, 0, 2, 0), (21, 11, 0, 30), (21, 7, 3, 149), (3, 4, 0, 0), (0, 0, 0, 1), (6, 0, 0, 0), (3, 2, 0, 0), (27, 0, 0, 0), (3, 0, 2, 0), (21, 11, 0, 30), (21, 7, 3, 149), (3, 4, 0, 0), (0, 0, 0, 2), (6, 0, 0, 0), (3, 3, 0, 0), (27, 0, 0, 0), (3, 0, 2, 0), (21, 11, 0, 30), (11, 0, 0, 0), (18, 7, 2, 146), (0, 0, 0, 1), (6, 0, 0, 0), (22, 7, 2, 146), (3, 0, 2, 0), (3, 0, 2, 0), (21, 11, 0, 30), (18, 7, 2, 146), (0, 0, 0, 1), (6, 1, 0, 0), (39, 21022, 171, 124), (55, 0, 0, 0)])]
def k_X11_heal : List (Nat × Nat × List Ins) := [(0, 3, [(3, 1, 0, 0), (3, 0, 2, 0), (21, 11, 0, 30), (18, 7, 2, 146), (39, 20, 177, 127), (12, 1, 21, 0), (3, 0, 2, 0), (0, 1, 0, (-2)), (39, 21022, 172, 114), (55, 0, 0, 0)]),
  (21, 3, [(3, 1, 0, 0), (0, 0, 0, 1), (6, 0, 0, 0), (0, 0, 0, 3), (6, 2, 0, 0), (4, 2, 0, 0), (16, 0, 27, 0)]),
  (27, 5, [(3, 2, 0, 0), (3, 0, 2, 0), (21, 11, 0, 30), (18, 7, 2, 146), (0, 0, 0, 3), (6, 2, 0, 0), (13, 3, 66, 0), (3, 0, 2, 0), (21, 11, 0, 30), (21, 7, 3, 149), (3, 2, 0, 0), (0, 0, 0, 3), (6, 1, 0, 0), (3, 0, 2, 0), (21, 11, 0, 30), (21, 7, 3, 149), (3, 2, 0, 0), (26, 0, 0, 0), (27, 0, 0, 0), (5, 2, 0, 1), (15, 0, 27, 0), (16, 0, 27, 0)]),
  (66, 1, [(3, 0, 2, 0), (21, 11, 0, 30), (11, 0, 0, 0), (18, 7, 2, 146), (0, 0, 0, 1), (6, 1, 0, 0), (22, 7, 2, 146), (3, 0, 2, 0), (3, 0, 2, 0), (21, 11, 0, 30), (18, 7, 2, 146), (39, 21022, 171, 124), (55, 0, 0, 0)])]
def k_X11_feed : List (Nat × Nat × List Ins) := [(0, 63, [(3, 0, 2, 0), (18, 11, 4, 152), (0, 1, 0, 20), (6, 0, 0, 0), (0, 2, 0, 400), (13, 5, 15, 0), (0, 0, 0, (-1)), (55, 0, 0, 0)]),
  (15, 63, [(3, 0, 2, 0), (3, 1, 0, 0), (39, 21022, 173, 155), (3, 0, 2, 0), (3, 2, 0, 0), (39, 21022, 173, 155), (3, 0, 2, 0), (3, 3, 0, 0), (39, 21022, 173, 155), (3, 0, 2, 0), (3, 4, 0, 0), (39, 21022, 173, 155), (3, 0, 2, 0), (3, 5, 0, 0), (39, 21022, 173, 155), (3, 0, 2, 0), (18, 11, 4, 152), (55, 0, 0, 0)])]
def k_X11_end : List (Nat × Nat × List Ins) := [(0, 3, [(3, 1, 0, 0), (12, 2, 12, 0), (3, 1, 0, 0), (3, 0, 2, 0), (18, 11, 4, 152), (13, 5, 14, 0), (16, 0, 12, 0)]),
  (12, 0, [(0, 0, 0, (-1)), (55, 0, 0, 0)]),
  (14, 3, [(3, 0, 2, 0), (3, 1, 0, 0), (22, 11, 4, 152), (3, 1, 0, 0), (55, 0, 0, 0)])]
def k_X11_row : List (Nat × Nat × List Ins) := [(0, 1, [(3, 0, 2, 0), (18, 11, 4, 152), (12, 1, 14, 0), (3, 0, 2, 0), (0, 1, 0, (-6)), (39, 21022, 172, 114), (55, 0, 0, 0)]),
  (14, 1, [(0, 0, 0, 0), (4, 1, 0, 0), (0, 0, 0, 0), (4, 2, 0, 0), (16, 0, 18, 0)]),
  (18, 7, [(3, 2, 0, 0), (3, 0, 2, 0), (18, 11, 4, 152), (13, 3, 67, 0), (3, 2, 0, 0), (0, 1, 0, 12), (13, 3, 67, 0), (3, 0, 2, 0), (21, 11, 3, 38), (3, 2, 0, 0), (26, 0, 0, 0), (0, 1, 0, 10), (13, 3, 61, 0), (3, 0, 2, 0), (21, 11, 0, 30), (21, 7, 10, 118), (3, 2, 0, 0), (3, 0, 2, 0), (21, 11, 3, 38), (3, 2, 0, 0), (26, 0, 0, 0), (27, 0, 0, 0), (5, 1, 0, 1), (16, 0, 61, 0)]),
  (61, 7, [(5, 2, 0, 1), (15, 0, 18, 0), (16, 0, 18, 0)]),
  (67, 3, [(3, 0, 2, 0), (3, 0, 2, 0), (18, 11, 4, 152), (3, 1, 0, 0), (6, 1, 0, 0), (22, 11, 15, 159), (3, 0, 2, 0), (21, 11, 0, 30), (0, 0, 0, 0), (22, 7, 8, 121), (3, 0, 2, 0), (0, 0, 0, 0), (22, 11, 4, 152), (3, 0, 2, 0), (3, 1, 0, 0), (39, 21022, 171, 124), (55, 0, 0, 0)])]
def k_X11_flakes : List (Nat × Nat × List Ins) := [(0, 1, [(3, 0, 2, 0), (18, 11, 15, 159), (55, 0, 0, 0)])]
def k_X11_law : List (Nat × Nat × List Ins) := [(0, 1, [(3, 0, 2, 0), (18, 11, 4, 152), (4, 1, 0, 0), (3, 0, 2, 0), (0, 0, 0, 0), (22, 11, 4, 152), (3, 0, 2, 0), (21, 11, 0, 30), (18, 7, 5, 162), (0, 1, 0, 6), (13, 2, 29, 0), (3, 0, 2, 0), (0, 1, 0, (-5)), (39, 21022, 172, 114), (55, 0, 0, 0)]),
  (29, 3, [(3, 0, 2, 0), (3, 0, 2, 0), (21, 11, 5, 51), (3, 1, 0, 0), (0, 0, 0, 0), (39, 16032, 43, 165), (22, 11, 14, 100), (3, 0, 2, 0), (18, 11, 14, 100), (0, 0, 0, (-1)), (13, 0, 57, 0), (3, 0, 2, 0), (0, 1, 0, (-6)), (39, 21022, 172, 114), (55, 0, 0, 0)]),
  (57, 1, [(3, 0, 2, 0), (21, 11, 0, 30), (21, 7, 6, 169), (3, 0, 2, 0), (21, 11, 0, 30), (18, 7, 5, 162), (3, 0, 2, 0), (21, 11, 6, 42), (39, 20012, 112, 173), (54, 4, 20, 0), (3, 0, 2, 0), (21, 11, 0, 30), (11, 0, 0, 0), (18, 7, 5, 162), (0, 0, 0, 1), (6, 0, 0, 0), (22, 7, 5, 162), (3, 0, 2, 0), (3, 0, 2, 0), (21, 11, 0, 30), (18, 7, 5, 162), (0, 0, 0, 1), (6, 1, 0, 0), (39, 21022, 171, 124), (55, 0, 0, 0)])]
def k_X11_orders : List (Nat × Nat × List Ins) := [(0, 1, [(3, 0, 2, 0), (18, 11, 4, 152), (4, 1, 0, 0), (3, 0, 2, 0), (0, 0, 0, 0), (22, 11, 4, 152), (3, 0, 2, 0), (0, 0, 0, (-1)), (22, 11, 16, 104), (3, 0, 2, 0), (3, 0, 2, 0), (21, 11, 5, 51), (3, 1, 0, 0), (0, 0, 0, 1), (39, 16032, 43, 165), (22, 11, 14, 100), (3, 0, 2, 0), (18, 11, 14, 100), (0, 0, 0, (-1)), (13, 0, 43, 0), (3, 0, 2, 0), (0, 1, 0, (-6)), (39, 21022, 172, 114), (55, 0, 0, 0)]),
  (43, 1, [(3, 0, 2, 0), (21, 11, 12, 86), (3, 0, 2, 0), (21, 11, 6, 42), (39, 11022, 6, 177), (4, 2, 0, 0), (3, 2, 0, 0), (12, 0, 76, 0), (3, 0, 2, 0), (3, 0, 2, 0), (21, 11, 12, 86), (18, 1, 8, 181), (22, 11, 16, 104), (3, 0, 2, 0), (3, 2, 0, 0), (39, 21022, 172, 114), (55, 0, 0, 0)]),
  (76, 1, [(3, 0, 2, 0), (3, 0, 2, 0), (21, 11, 12, 86), (18, 1, 9, 184), (39, 21022, 171, 124), (55, 0, 0, 0)])]
def k_X11_fault : List (Nat × Nat × List Ins) := [(0, 1, [(3, 0, 2, 0), (18, 11, 14, 100), (55, 0, 0, 0)])]
def k_X11_stopped : List (Nat × Nat × List Ins) := [(0, 1, [(3, 0, 2, 0), (18, 11, 16, 104), (55, 0, 0, 0)])]
def k_X11_force : List (Nat × Nat × List Ins) := [(0, 3, [(3, 1, 0, 0), (0, 0, 0, (-1)), (13, 0, 26, 0), (3, 1, 0, 0), (3, 0, 2, 0), (21, 11, 0, 30), (18, 7, 5, 162), (39, 20, 177, 127), (12, 1, 26, 0), (3, 0, 2, 0), (0, 1, 0, (-2)), (39, 21022, 172, 114), (55, 0, 0, 0)]),
  (26, 3, [(3, 0, 2, 0), (21, 11, 0, 30), (18, 7, 7, 187), (4, 2, 0, 0), (3, 0, 2, 0), (21, 11, 0, 30), (3, 1, 0, 0), (22, 7, 7, 187), (3, 0, 2, 0), (3, 2, 0, 0), (39, 21022, 171, 124), (55, 0, 0, 0)])]
def k_X11_looks : List (Nat × Nat × List Ins) := [(0, 15, [(3, 2, 0, 0), (0, 1, 0, 100), (39, 20, 177, 127), (12, 1, 11, 0), (0, 0, 0, (-1)), (55, 0, 0, 0)]),
  (11, 15, [(3, 1, 0, 0), (0, 0, 0, (-1)), (13, 1, 25, 0), (3, 0, 2, 0), (21, 11, 0, 30), (3, 2, 0, 0), (39, 17022, 69, 190), (55, 0, 0, 0)]),
  (25, 15, [(3, 1, 0, 0), (39, 10, 178, 107), (12, 0, 40, 0), (3, 3, 0, 0), (0, 0, 0, 2), (39, 20, 177, 127), (12, 1, 42, 0), (16, 0, 40, 0)]),
  (40, 0, [(0, 0, 0, (-1)), (55, 0, 0, 0)]),
  (42, 15, [(3, 3, 0, 0), (12, 1, 58, 0), (3, 0, 2, 0), (21, 11, 7, 55), (3, 1, 0, 0), (3, 2, 0, 0), (39, 14032, 23, 193), (15, 0, 67, 0), (55, 0, 0, 0)]),
  (58, 7, [(3, 0, 2, 0), (21, 11, 7, 55), (3, 1, 0, 0), (3, 2, 0, 0), (39, 14032, 24, 197), (55, 0, 0, 0)])]
def k_X11_asks : List (Nat × Nat × List Ins) := [(0, 15, [(3, 0, 2, 0), (21, 11, 0, 30), (3, 1, 0, 0), (39, 17022, 66, 137), (12, 0, 28, 0), (3, 2, 0, 0), (0, 1, 0, 100), (39, 20, 177, 127), (12, 0, 28, 0), (3, 3, 0, 0), (0, 0, 0, 2), (39, 20, 177, 127), (12, 1, 30, 0), (16, 0, 28, 0)]),
  (28, 0, [(0, 0, 0, (-1)), (55, 0, 0, 0)]),
  (30, 15, [(3, 3, 0, 0), (12, 1, 46, 0), (3, 0, 2, 0), (21, 11, 7, 55), (3, 1, 0, 0), (3, 2, 0, 0), (39, 14032, 25, 200), (15, 0, 58, 0), (55, 0, 0, 0)]),
  (46, 7, [(3, 0, 2, 0), (21, 11, 7, 55), (3, 1, 0, 0), (3, 2, 0, 0), (39, 14032, 26, 203), (39, 10, 181, 206), (55, 0, 0, 0)])]
def k_X11_paint : List (Nat × Nat × List Ins) := [(0, 3, [(3, 0, 2, 0), (21, 11, 0, 30), (3, 1, 0, 0), (39, 17022, 66, 137), (12, 1, 18, 0), (3, 0, 2, 0), (0, 1, 0, (-2)), (39, 21022, 172, 114), (55, 0, 0, 0)]),
  (18, 3, [(3, 0, 2, 0), (21, 11, 0, 30), (18, 7, 8, 121), (0, 0, 0, 1), (6, 0, 0, 0), (4, 2, 0, 0), (3, 0, 2, 0), (21, 11, 7, 55), (3, 1, 0, 0), (3, 2, 0, 0), (39, 14032, 26, 203), (12, 1, 52, 0), (3, 0, 2, 0), (21, 11, 0, 30), (3, 1, 0, 0), (3, 2, 0, 0), (39, 17032, 70, 210), (12, 0, 59, 0), (16, 0, 52, 0)]),
  (52, 1, [(3, 0, 2, 0), (0, 1, 0, (-3)), (39, 21022, 172, 114), (55, 0, 0, 0)]),
  (59, 3, [(3, 0, 2, 0), (21, 11, 0, 30), (18, 7, 8, 121), (0, 1, 0, 16), (13, 2, 78, 0), (3, 0, 2, 0), (0, 1, 0, (-5)), (39, 21022, 172, 114), (55, 0, 0, 0)]),
  (78, 3, [(3, 0, 2, 0), (21, 11, 8, 59), (3, 1, 0, 0), (39, 19022, 95, 213), (3, 0, 2, 0), (3, 0, 2, 0), (21, 11, 8, 59), (3, 0, 2, 0), (21, 11, 0, 30), (18, 7, 8, 121), (39, 19022, 96, 216), (39, 21022, 171, 124), (55, 0, 0, 0)])]
def k_X11_scrape : List (Nat × Nat × List Ins) := [(0, 1, [(3, 0, 2, 0), (21, 11, 0, 30), (18, 7, 8, 121), (12, 1, 17, 0), (3, 0, 2, 0), (0, 1, 0, (-3)), (39, 21022, 172, 114), (55, 0, 0, 0)]),
  (17, 1, [(3, 0, 2, 0), (21, 11, 0, 30), (11, 0, 0, 0), (18, 7, 8, 121), (0, 0, 0, 1), (6, 1, 0, 0), (22, 7, 8, 121), (3, 0, 2, 0), (3, 0, 2, 0), (21, 11, 0, 30), (21, 7, 9, 219), (3, 0, 2, 0), (21, 11, 0, 30), (18, 7, 8, 121), (0, 0, 0, 1), (6, 0, 0, 0), (26, 0, 0, 0), (39, 21022, 171, 124), (55, 0, 0, 0)])]
def k_X11_tone : List (Nat × Nat × List Ins) := [(0, 7, [(3, 0, 2, 0), (21, 11, 0, 30), (3, 1, 0, 0), (39, 17022, 67, 222), (12, 0, 18, 0), (3, 2, 0, 0), (39, 10, 178, 107), (12, 1, 20, 0), (16, 0, 18, 0)]),
  (18, 0, [(0, 0, 0, (-1)), (55, 0, 0, 0)]),
  (20, 7, [(3, 0, 2, 0), (21, 11, 0, 30), (21, 7, 10, 118), (3, 1, 0, 0), (0, 1, 0, 12), (6, 2, 0, 0), (3, 2, 0, 0), (6, 0, 0, 0), (26, 0, 0, 0), (55, 0, 0, 0)])]
def k_X11_layer : List (Nat × Nat × List Ins) := [(0, 7, [(3, 0, 2, 0), (21, 11, 0, 30), (3, 1, 0, 0), (39, 17022, 67, 222), (12, 1, 13, 0), (0, 0, 0, (-1)), (55, 0, 0, 0)]),
  (13, 7, [(3, 2, 0, 0), (17, 2, 0, 30)]),
  (44, 3, [(3, 0, 2, 0), (21, 11, 8, 59), (3, 1, 0, 0), (39, 19022, 96, 216), (55, 0, 0, 0)]),
  (53, 3, [(3, 1, 0, 0), (12, 1, 61, 0), (0, 0, 0, (-1)), (15, 0, 70, 0), (55, 0, 0, 0)]),
  (61, 3, [(3, 0, 2, 0), (21, 11, 0, 30), (21, 7, 9, 219), (3, 1, 0, 0), (26, 0, 0, 0), (55, 0, 0, 0)]),
  (71, 3, [(3, 1, 0, 0), (12, 1, 79, 0), (0, 0, 0, 0), (15, 0, 96, 0), (55, 0, 0, 0)]),
  (79, 3, [(3, 0, 2, 0), (21, 11, 7, 55), (3, 0, 2, 0), (21, 11, 0, 30), (21, 7, 9, 219), (3, 1, 0, 0), (26, 0, 0, 0), (3, 1, 0, 0), (39, 14032, 25, 200), (55, 0, 0, 0)]),
  (97, 3, [(3, 0, 2, 0), (21, 11, 8, 59), (3, 1, 0, 0), (39, 19022, 97, 225), (55, 0, 0, 0)]),
  (106, 0, [(0, 0, 0, (-1)), (55, 0, 0, 0)])]
def k_X11_unlawful : List (Nat × Nat × List Ins) := [(0, 1, [(0, 0, 0, 0), (4, 1, 0, 0), (16, 0, 2, 0)]),
  (2, 3, [(3, 1, 0, 0), (3, 0, 2, 0), (21, 11, 0, 30), (18, 7, 8, 121), (13, 4, 33, 0), (3, 0, 2, 0), (21, 11, 8, 59), (3, 1, 0, 0), (39, 19022, 97, 225), (0, 0, 0, (-1)), (13, 0, 27, 0), (3, 1, 0, 0), (55, 0, 0, 0)]),
  (27, 3, [(5, 1, 0, 1), (15, 0, 2, 0), (16, 0, 2, 0)]),
  (33, 0, [(0, 0, 0, (-1)), (55, 0, 0, 0)])]
def k_X11_money : List (Nat × Nat × List Ins) := [(0, 3, [(3, 0, 2, 0), (21, 11, 0, 30), (3, 1, 0, 0), (39, 17022, 67, 222), (12, 0, 22, 0), (3, 0, 2, 0), (21, 11, 8, 59), (3, 1, 0, 0), (39, 19022, 98, 228), (15, 0, 24, 0), (55, 0, 0, 0)]),
  (22, 0, [(0, 3, 231, (-1000000)), (55, 0, 0, 0)])]
def k_X11_broke : List (Nat × Nat × List Ins) := [(0, 1, [(0, 0, 0, 0), (4, 1, 0, 0), (16, 0, 2, 0)]),
  (2, 3, [(3, 1, 0, 0), (3, 0, 2, 0), (21, 11, 0, 30), (18, 7, 8, 121), (13, 4, 32, 0), (3, 0, 2, 0), (21, 11, 8, 59), (3, 1, 0, 0), (39, 19022, 98, 228), (12, 3, 26, 0), (3, 1, 0, 0), (55, 0, 0, 0)]),
  (26, 3, [(5, 1, 0, 1), (15, 0, 2, 0), (16, 0, 2, 0)]),
  (32, 0, [(0, 0, 0, (-1)), (55, 0, 0, 0)])]
def k_X11_plan : List (Nat × Nat × List Ins) := [(0, 15, [(3, 1, 0, 0), (12, 2, 18, 0), (3, 1, 0, 0), (0, 0, 0, 2), (13, 4, 18, 0), (3, 2, 0, 0), (0, 1, 0, 6), (39, 20, 177, 127), (12, 1, 20, 0), (16, 0, 18, 0)]),
  (18, 0, [(0, 0, 0, (-1)), (55, 0, 0, 0)]),
  (20, 15, [(3, 3, 0, 0), (12, 2, 31, 0), (3, 3, 0, 0), (0, 0, 0, 3), (3, 2, 0, 0), (6, 0, 0, 0), (13, 2, 33, 0), (16, 0, 31, 0)]),
  (31, 0, [(0, 0, 0, (-1)), (55, 0, 0, 0)]),
  (33, 15, [(3, 0, 2, 0), (21, 11, 9, 63), (3, 1, 0, 0), (3, 2, 0, 0), (39, 15032, 35, 232), (3, 3, 0, 0), (0, 0, 0, 2), (13, 1, 55, 0), (3, 0, 2, 0), (21, 11, 9, 63), (18, 5, 14, 235), (55, 0, 0, 0)]),
  (55, 9, [(3, 0, 2, 0), (21, 11, 9, 63), (18, 5, 14, 235), (12, 1, 67, 0), (0, 0, 0, (-1)), (55, 0, 0, 0)]),
  (67, 9, [(3, 3, 0, 0), (12, 1, 79, 0), (3, 0, 2, 0), (21, 11, 9, 63), (18, 5, 12, 238), (55, 0, 0, 0)]),
  (79, 9, [(3, 3, 0, 0), (0, 0, 0, 1), (13, 1, 94, 0), (3, 0, 2, 0), (21, 11, 9, 63), (18, 5, 13, 241), (15, 0, 105, 0), (55, 0, 0, 0)]),
  (94, 9, [(3, 0, 2, 0), (21, 11, 9, 63), (21, 5, 11, 244), (3, 3, 0, 0), (0, 0, 0, 3), (6, 1, 0, 0), (26, 0, 0, 0), (55, 0, 0, 0)])]
def k_X11_drift : List (Nat × Nat × List Ins) := [(0, 15, [(3, 1, 0, 0), (39, 10, 178, 107), (12, 0, 24, 0), (3, 2, 0, 0), (0, 1, 0, 11), (39, 20, 177, 127), (12, 0, 24, 0), (3, 3, 0, 0), (0, 0, 0, 3), (39, 20, 177, 127), (12, 1, 26, 0), (16, 0, 24, 0)]),
  (24, 0, [(0, 0, 0, (-1)), (55, 0, 0, 0)]),
  (26, 15, [(3, 0, 2, 0), (21, 11, 8, 59), (3, 1, 0, 0), (3, 2, 0, 0), (39, 19032, 101, 247), (4, 4, 0, 0), (3, 3, 0, 0), (0, 0, 0, 2), (13, 1, 45, 0), (3, 4, 0, 0), (55, 0, 0, 0)]),
  (45, 24, [(3, 4, 0, 0), (12, 1, 52, 0), (0, 0, 0, (-1)), (55, 0, 0, 0)]),
  (52, 24, [(3, 3, 0, 0), (12, 1, 64, 0), (3, 4, 0, 0), (39, 10, 182, 250), (15, 0, 69, 0), (55, 0, 0, 0)]),
  (64, 16, [(3, 4, 0, 0), (39, 10, 183, 253), (55, 0, 0, 0)])]
def k_X11_undoing : List (Nat × Nat × List Ins) := [(0, 3, [(3, 1, 0, 0), (0, 0, 0, (-1)), (13, 3, 7, 0), (0, 0, 0, (-1)), (55, 0, 0, 0)]),
  (7, 3, [(3, 0, 2, 0), (21, 11, 8, 59), (3, 1, 0, 0), (39, 19022, 102, 256), (55, 0, 0, 0)])]
def k_X11_copy : List (Nat × Nat × List Ins) := [(0, 1, [(3, 0, 2, 0), (21, 11, 0, 30), (18, 7, 11, 259), (0, 1, 0, 6), (13, 2, 19, 0), (3, 0, 2, 0), (0, 1, 0, (-5)), (39, 21022, 172, 114), (55, 0, 0, 0)]),
  (19, 1, [(3, 0, 2, 0), (21, 11, 0, 30), (39, 17012, 72, 262), (3, 0, 2, 0), (3, 0, 2, 0), (21, 11, 0, 30), (18, 7, 11, 259), (0, 0, 0, 1), (6, 1, 0, 0), (39, 21022, 171, 124), (55, 0, 0, 0)])]
def k_X11_touch : List (Nat × Nat × List Ins) := [(0, 15, [(3, 2, 0, 0), (39, 10, 178, 107), (12, 0, 14, 0), (3, 3, 0, 0), (39, 10, 179, 111), (12, 1, 20, 0), (16, 0, 14, 0)]),
  (14, 1, [(3, 0, 2, 0), (0, 0, 0, (-1)), (39, 21022, 172, 114), (55, 0, 0, 0)]),
  (20, 15, [(3, 1, 0, 0), (3, 0, 2, 0), (21, 11, 0, 30), (18, 7, 11, 259), (39, 20, 177, 127), (12, 1, 41, 0), (3, 0, 2, 0), (0, 1, 0, (-2)), (39, 21022, 172, 114), (55, 0, 0, 0)]),
  (41, 15, [(3, 0, 2, 0), (21, 11, 0, 30), (21, 7, 12, 265), (3, 1, 0, 0), (0, 1, 0, 12), (6, 2, 0, 0), (3, 2, 0, 0), (6, 0, 0, 0), (26, 0, 0, 0), (4, 4, 0, 0), (3, 0, 2, 0), (21, 11, 0, 30), (21, 7, 12, 265), (3, 1, 0, 0), (0, 1, 0, 12), (6, 2, 0, 0), (3, 2, 0, 0), (6, 0, 0, 0), (3, 3, 0, 0), (27, 0, 0, 0), (3, 0, 2, 0), (3, 4, 0, 0), (39, 21022, 171, 124), (55, 0, 0, 0)])]
def k_X11_burn : List (Nat × Nat × List Ins) := [(0, 1, [(3, 0, 2, 0), (21, 11, 0, 30), (18, 7, 11, 259), (4, 1, 0, 0), (3, 0, 2, 0), (21, 11, 0, 30), (0, 0, 0, 0), (22, 7, 11, 259), (3, 1, 0, 0), (55, 0, 0, 0)])]
def k_X11_near : List (Nat × Nat × List Ins) := [(0, 3, [(3, 1, 0, 0), (0, 0, 0, (-1)), (13, 1, 10, 0), (3, 0, 2, 0), (39, 21012, 174, 268), (55, 0, 0, 0)]),
  (10, 3, [(3, 1, 0, 0), (3, 0, 2, 0), (21, 11, 0, 30), (18, 7, 11, 259), (39, 20, 177, 127), (12, 0, 35, 0), (3, 0, 2, 0), (21, 11, 0, 30), (3, 1, 0, 0), (39, 17022, 73, 272), (15, 0, 36, 0), (55, 0, 0, 0)]),
  (35, 0, [(0, 0, 0, (-1)), (55, 0, 0, 0)])]
def k_X11_like : List (Nat × Nat × List Ins) := [(0, 7, [(3, 0, 2, 0), (3, 1, 0, 0), (39, 21022, 175, 275), (12, 0, 16, 0), (3, 0, 2, 0), (3, 2, 0, 0), (39, 21022, 175, 275), (12, 1, 18, 0), (16, 0, 16, 0)]),
  (16, 0, [(0, 0, 0, (-1)), (55, 0, 0, 0)]),
  (18, 7, [(3, 0, 2, 0), (21, 11, 10, 70), (3, 1, 0, 0), (0, 0, 0, 1), (6, 0, 0, 0), (3, 2, 0, 0), (0, 0, 0, 1), (6, 0, 0, 0), (39, 18032, 78, 278), (55, 0, 0, 0)])]
def k_X11_tree : List (Nat × Nat × List Ins) := [(0, 3, [(3, 1, 0, 0), (12, 2, 15, 0), (3, 1, 0, 0), (3, 0, 2, 0), (21, 11, 0, 30), (18, 7, 11, 259), (13, 5, 17, 0), (16, 0, 15, 0)]),
  (15, 0, [(0, 0, 0, (-1)), (55, 0, 0, 0)]),
  (17, 3, [(3, 0, 2, 0), (21, 11, 10, 70), (39, 18012, 79, 281), (3, 1, 0, 0), (12, 1, 36, 0), (3, 0, 2, 0), (21, 11, 10, 70), (39, 18012, 80, 284), (55, 0, 0, 0)]),
  (36, 3, [(3, 0, 2, 0), (21, 11, 10, 70), (3, 1, 0, 0), (39, 18022, 82, 287), (4, 2, 0, 0), (3, 2, 0, 0), (12, 1, 54, 0), (0, 1, 0, 100), (15, 0, 57, 0), (55, 0, 0, 0)]),
  (54, 4, [(3, 2, 0, 0), (0, 0, 0, 1), (6, 1, 0, 0), (55, 0, 0, 0)])]
def k_X11_trees : List (Nat × Nat × List Ins) := [(0, 1, [(3, 0, 2, 0), (21, 11, 10, 70), (39, 18012, 79, 281), (3, 0, 2, 0), (21, 11, 10, 70), (39, 18012, 81, 290), (55, 0, 0, 0)])]
def k_X11_dated : List (Nat × Nat × List Ins) := [(0, 7, [(3, 1, 0, 0), (3, 0, 2, 0), (21, 11, 0, 30), (18, 7, 11, 259), (39, 20, 177, 127), (12, 0, 22, 0), (3, 2, 0, 0), (0, 0, 0, 4), (39, 20, 177, 127), (12, 1, 24, 0), (16, 0, 22, 0)]),
  (22, 0, [(0, 0, 0, (-1)), (55, 0, 0, 0)]),
  (24, 7, [(3, 0, 2, 0), (21, 11, 10, 70), (3, 1, 0, 0), (3, 2, 0, 0), (39, 18032, 83, 293), (55, 0, 0, 0)])]
def k_X11_know : List (Nat × Nat × List Ins) := [(0, 3, [(3, 1, 0, 0), (0, 0, 0, 2), (39, 20, 177, 127), (12, 0, 18, 0), (3, 0, 2, 0), (21, 11, 0, 30), (18, 7, 11, 259), (12, 1, 20, 0), (16, 0, 18, 0)]),
  (18, 0, [(0, 0, 0, (-1)), (55, 0, 0, 0)]),
  (20, 3, [(3, 0, 2, 0), (21, 11, 10, 70), (39, 18012, 84, 296), (3, 1, 0, 0), (12, 1, 41, 0), (3, 0, 2, 0), (21, 11, 10, 70), (18, 8, 7, 299), (15, 0, 48, 0), (55, 0, 0, 0)]),
  (41, 1, [(3, 0, 2, 0), (21, 11, 10, 70), (18, 8, 8, 302), (55, 0, 0, 0)])]
def k_X11_who : List (Nat × Nat × List Ins) := [(0, 3, [(3, 1, 0, 0), (12, 5, 26, 0), (3, 0, 2, 0), (21, 11, 0, 30), (3, 1, 0, 0), (39, 17022, 67, 222), (12, 0, 26, 0), (3, 0, 2, 0), (21, 11, 8, 59), (3, 1, 0, 0), (39, 19022, 99, 305), (15, 0, 27, 0), (55, 0, 0, 0)]),
  (26, 0, [(0, 0, 0, (-1)), (55, 0, 0, 0)])]
def k_X11_forge : List (Nat × Nat × List Ins) := [(0, 15, [(3, 2, 0, 0), (39, 10, 178, 107), (12, 0, 14, 0), (3, 3, 0, 0), (39, 10, 179, 111), (12, 1, 20, 0), (16, 0, 14, 0)]),
  (14, 1, [(3, 0, 2, 0), (0, 0, 0, (-1)), (39, 21022, 172, 114), (55, 0, 0, 0)]),
  (20, 15, [(3, 1, 0, 0), (0, 0, 0, 1), (13, 2, 36, 0), (3, 0, 2, 0), (21, 11, 0, 30), (3, 1, 0, 0), (39, 17022, 67, 222), (12, 1, 43, 0), (16, 0, 36, 0)]),
  (36, 1, [(3, 0, 2, 0), (0, 1, 0, (-2)), (39, 21022, 172, 114), (55, 0, 0, 0)]),
  (43, 15, [(3, 0, 2, 0), (21, 11, 0, 30), (21, 7, 10, 118), (3, 1, 0, 0), (0, 1, 0, 12), (6, 2, 0, 0), (3, 2, 0, 0), (6, 0, 0, 0), (26, 0, 0, 0), (4, 4, 0, 0), (3, 0, 2, 0), (21, 11, 0, 30), (21, 7, 10, 118), (3, 1, 0, 0), (0, 1, 0, 12), (6, 2, 0, 0), (3, 2, 0, 0), (6, 0, 0, 0), (3, 3, 0, 0), (27, 0, 0, 0), (3, 0, 2, 0), (3, 4, 0, 0), (39, 21022, 171, 124), (55, 0, 0, 0)])]
def k_X11_skipped : List (Nat × Nat × List Ins) := [(0, 1, [(0, 0, 0, 1), (4, 1, 0, 0), (16, 0, 2, 0)]),
  (2, 3, [(3, 1, 0, 0), (3, 0, 2, 0), (21, 11, 0, 30), (18, 7, 8, 121), (13, 4, 32, 0), (3, 0, 2, 0), (21, 11, 8, 59), (3, 1, 0, 0), (39, 19022, 99, 305), (12, 1, 26, 0), (3, 1, 0, 0), (55, 0, 0, 0)]),
  (26, 3, [(5, 1, 0, 1), (15, 0, 2, 0), (16, 0, 2, 0)]),
  (32, 0, [(0, 0, 0, (-1)), (55, 0, 0, 0)])]
def k_X11_missing : List (Nat × Nat × List Ins) := [(0, 7, [(3, 1, 0, 0), (0, 0, 0, 1), (13, 2, 26, 0), (3, 0, 2, 0), (21, 11, 0, 30), (3, 1, 0, 0), (39, 17022, 67, 222), (12, 0, 26, 0), (3, 2, 0, 0), (0, 0, 0, 1), (13, 2, 26, 0), (3, 2, 0, 0), (0, 0, 0, 2), (13, 5, 28, 0), (16, 0, 26, 0)]),
  (26, 0, [(0, 0, 0, (-1)), (55, 0, 0, 0)]),
  (28, 7, [(3, 0, 2, 0), (21, 11, 8, 59), (3, 1, 0, 0), (3, 2, 0, 0), (0, 0, 0, 1), (6, 0, 0, 0), (39, 19032, 100, 308), (55, 0, 0, 0)])]
def k_X11_was : List (Nat × Nat × List Ins) := [(0, 3, [(3, 1, 0, 0), (39, 10, 178, 107), (12, 0, 18, 0), (3, 0, 2, 0), (21, 11, 8, 59), (3, 1, 0, 0), (39, 19022, 103, 311), (15, 0, 19, 0), (55, 0, 0, 0)]),
  (18, 0, [(0, 0, 0, (-1)), (55, 0, 0, 0)])]
def k_X11_ways : List (Nat × Nat × List Ins) := [(0, 1, [(1, 0, 0, 1), (4, 1, 1, 0), (0, 0, 0, 0), (4, 3, 0, 0), (16, 0, 4, 0)]),
  (4, 11, [(3, 3, 0, 0), (0, 1, 0, 12), (13, 3, 31, 0), (3, 1, 1, 0), (3, 0, 2, 0), (21, 11, 8, 59), (3, 3, 0, 0), (39, 19022, 103, 311), (39, 10, 341, 314), (10, 0, 0, 0), (8, 2, 0, 0), (4, 1, 1, 0), (5, 3, 0, 1), (15, 0, 4, 0), (16, 0, 4, 0)]),
  (31, 2, [(3, 1, 1, 0), (56, 0, 0, 0)])]
def k_X11_claimant : List (Nat × Nat × List Ins) := [(0, 31, [(3, 1, 0, 0), (0, 0, 0, (-1)), (13, 2, 22, 0), (3, 2, 0, 0), (0, 1, 0, 100), (39, 20, 177, 127), (12, 0, 22, 0), (3, 4, 0, 0), (39, 10, 180, 319), (12, 1, 28, 0), (16, 0, 22, 0)]),
  (22, 1, [(3, 0, 2, 0), (0, 0, 0, (-1)), (39, 21022, 172, 114), (55, 0, 0, 0)]),
  (28, 31, [(3, 3, 0, 0), (3, 2, 0, 0), (13, 5, 40, 0), (3, 3, 0, 0), (0, 2, 0, 150), (13, 5, 46, 0), (16, 0, 40, 0)]),
  (40, 1, [(3, 0, 2, 0), (0, 0, 0, (-1)), (39, 21022, 172, 114), (55, 0, 0, 0)]),
  (46, 31, [(3, 1, 0, 0), (3, 0, 2, 0), (21, 11, 0, 30), (18, 7, 13, 322), (13, 2, 64, 0), (3, 0, 2, 0), (0, 1, 0, (-2)), (39, 21022, 172, 114), (55, 0, 0, 0)]),
  (64, 31, [(3, 0, 2, 0), (21, 11, 0, 30), (18, 7, 13, 322), (0, 1, 0, 8), (13, 2, 83, 0), (3, 0, 2, 0), (0, 1, 0, (-5)), (39, 21022, 172, 114), (55, 0, 0, 0)]),
  (83, 31, [(3, 0, 2, 0), (21, 11, 0, 30), (18, 7, 13, 322), (0, 0, 0, 4), (6, 2, 0, 0), (4, 5, 0, 0), (3, 0, 2, 0), (21, 11, 0, 30), (21, 7, 14, 325), (3, 5, 0, 0), (3, 1, 0, 0), (27, 0, 0, 0), (3, 0, 2, 0), (21, 11, 0, 30), (21, 7, 14, 325), (3, 5, 0, 0), (0, 0, 0, 1), (6, 0, 0, 0), (3, 2, 0, 0), (27, 0, 0, 0), (3, 0, 2, 0), (21, 11, 0, 30), (21, 7, 14, 325), (3, 5, 0, 0), (0, 0, 0, 2), (6, 0, 0, 0), (3, 3, 0, 0), (27, 0, 0, 0), (3, 0, 2, 0), (21, 11, 0, 30), (21, 7, 14, 325), (3, 5, 0, 0), (0, 0, 0, 3), (6, 0, 0, 0), (3, 4, 0, 0), (27, 0, 0, 0), (3, 0, 2, 0), (21, 11, 0, 30), (11, 0, 0, 0), (18, 7, 13, 322), (0, 0, 0, 1), (6, 0, 0, 0), (22, 7, 13, 322), (3, 0, 2, 0), (3, 0, 2, 0), (21, 11, 0, 30), (18, 7, 13, 322), (0, 0, 0, 1), (6, 1, 0, 0), (39, 21022, 171, 124), (55, 0, 0, 0)])]
def k_X11_claim : List (Nat × Nat × List Ins) := [(0, 15, [(3, 2, 0, 0), (0, 0, 0, 2), (39, 20, 177, 127), (12, 1, 14, 0), (3, 0, 2, 0), (0, 0, 0, (-1)), (39, 21022, 172, 114), (55, 0, 0, 0)]),
  (14, 15, [(3, 2, 0, 0), (12, 1, 31, 0), (3, 3, 0, 0), (0, 2, 0, 151), (39, 20, 177, 127), (12, 1, 44, 0), (15, 0, 38, 0), (3, 0, 2, 0), (0, 0, 0, (-1)), (39, 21022, 172, 114), (55, 0, 0, 0)]),
  (31, 15, [(3, 3, 0, 0), (39, 10, 180, 319), (12, 1, 44, 0), (3, 0, 2, 0), (0, 0, 0, (-1)), (39, 21022, 172, 114), (55, 0, 0, 0)]),
  (44, 15, [(3, 0, 2, 0), (21, 11, 0, 30), (3, 1, 0, 0), (39, 17022, 68, 328), (12, 1, 62, 0), (3, 0, 2, 0), (0, 1, 0, (-2)), (39, 21022, 172, 114), (55, 0, 0, 0)]),
  (62, 15, [(3, 1, 0, 0), (0, 0, 0, 4), (6, 2, 0, 0), (4, 4, 0, 0), (3, 2, 0, 0), (12, 1, 93, 0), (3, 3, 0, 0), (3, 0, 2, 0), (21, 11, 0, 30), (21, 7, 14, 325), (3, 4, 0, 0), (0, 0, 0, 1), (6, 0, 0, 0), (26, 0, 0, 0), (13, 4, 93, 0), (3, 0, 2, 0), (0, 0, 0, (-1)), (39, 21022, 172, 114), (55, 0, 0, 0)]),
  (93, 29, [(3, 0, 2, 0), (21, 11, 0, 30), (21, 7, 14, 325), (3, 4, 0, 0), (0, 0, 0, 2), (6, 0, 0, 0), (3, 2, 0, 0), (6, 0, 0, 0), (26, 0, 0, 0), (4, 5, 0, 0), (3, 0, 2, 0), (21, 11, 0, 30), (21, 7, 14, 325), (3, 4, 0, 0), (0, 0, 0, 2), (6, 0, 0, 0), (3, 2, 0, 0), (6, 0, 0, 0), (3, 3, 0, 0), (27, 0, 0, 0), (3, 0, 2, 0), (3, 5, 0, 0), (39, 21022, 171, 124), (55, 0, 0, 0)])]
def k_X11_born : List (Nat × Nat × List Ins) := [(0, 7, [(3, 0, 2, 0), (21, 11, 0, 30), (3, 1, 0, 0), (39, 17022, 68, 328), (12, 0, 19, 0), (3, 2, 0, 0), (0, 0, 0, 4), (39, 20, 177, 127), (12, 1, 21, 0), (16, 0, 19, 0)]),
  (19, 0, [(0, 0, 0, (-1)), (55, 0, 0, 0)]),
  (21, 7, [(3, 0, 2, 0), (21, 11, 0, 30), (21, 7, 14, 325), (3, 1, 0, 0), (0, 0, 0, 4), (6, 2, 0, 0), (3, 2, 0, 0), (6, 0, 0, 0), (26, 0, 0, 0), (55, 0, 0, 0)])]
def k_X11_stands : List (Nat × Nat × List Ins) := [(0, 15, [(3, 0, 2, 0), (21, 11, 0, 30), (3, 1, 0, 0), (39, 17022, 68, 328), (12, 0, 20, 0), (3, 2, 0, 0), (0, 1, 0, 100), (39, 20, 177, 127), (12, 1, 22, 0), (16, 0, 20, 0)]),
  (20, 0, [(0, 0, 0, (-1)), (55, 0, 0, 0)]),
  (22, 15, [(3, 3, 0, 0), (17, 3, 0, 29)]),
  (52, 7, [(3, 0, 2, 0), (21, 11, 0, 30), (3, 1, 0, 0), (3, 2, 0, 0), (39, 17032, 74, 331), (39, 10, 181, 206), (55, 0, 0, 0)]),
  (65, 7, [(3, 0, 2, 0), (21, 11, 7, 55), (3, 1, 0, 0), (3, 2, 0, 0), (39, 14032, 27, 334), (55, 0, 0, 0)]),
  (75, 7, [(3, 0, 2, 0), (21, 11, 7, 55), (3, 1, 0, 0), (3, 2, 0, 0), (39, 14032, 28, 337), (39, 10, 181, 206), (55, 0, 0, 0)]),
  (88, 7, [(3, 0, 2, 0), (21, 11, 0, 30), (3, 1, 0, 0), (3, 2, 0, 0), (39, 17032, 75, 340), (55, 0, 0, 0)]),
  (98, 0, [(0, 0, 0, (-1)), (55, 0, 0, 0)])]
def k_X11_ruler : List (Nat × Nat × List Ins) := [(0, 3, [(3, 1, 0, 0), (0, 1, 0, 100), (39, 20, 177, 127), (12, 1, 11, 0), (0, 0, 0, (-1)), (55, 0, 0, 0)]),
  (11, 3, [(3, 0, 2, 0), (21, 11, 11, 77), (3, 1, 0, 0), (39, 12022, 13, 343), (3, 0, 2, 0), (21, 11, 11, 77), (21, 2, 3, 346), (3, 1, 0, 0), (26, 0, 0, 0), (55, 0, 0, 0)])]
def k_X11_reign : List (Nat × Nat × List Ins) := [(0, 7, [(3, 1, 0, 0), (0, 0, 0, (-1)), (13, 2, 18, 0), (3, 1, 0, 0), (0, 0, 0, (-1)), (13, 0, 20, 0), (3, 2, 0, 0), (0, 0, 0, 3), (39, 20, 177, 127), (12, 1, 20, 0), (16, 0, 18, 0)]),
  (18, 0, [(0, 0, 0, (-1)), (55, 0, 0, 0)]),
  (20, 7, [(3, 0, 2, 0), (21, 11, 11, 77), (0, 1, 0, 99), (39, 12022, 13, 343), (3, 1, 0, 0), (0, 0, 0, (-1)), (13, 1, 44, 0), (3, 0, 2, 0), (21, 11, 11, 77), (39, 12012, 14, 349), (15, 0, 53, 0), (55, 0, 0, 0)]),
  (44, 7, [(3, 0, 2, 0), (21, 11, 11, 77), (3, 1, 0, 0), (3, 2, 0, 0), (39, 12032, 15, 352), (55, 0, 0, 0)])]
def k_X11_vacant : List (Nat × Nat × List Ins) := [(0, 1, [(3, 0, 2, 0), (21, 11, 11, 77), (0, 1, 0, 99), (39, 12022, 13, 343), (0, 0, 0, 0), (4, 1, 0, 0), (0, 0, 0, 0), (4, 2, 0, 0), (16, 0, 13, 0)]),
  (13, 7, [(3, 2, 0, 0), (0, 1, 0, 100), (13, 3, 41, 0), (3, 0, 2, 0), (21, 11, 11, 77), (21, 2, 3, 346), (3, 2, 0, 0), (26, 0, 0, 0), (0, 0, 0, (-1)), (13, 1, 35, 0), (5, 1, 0, 1), (16, 0, 35, 0)]),
  (35, 7, [(5, 2, 0, 1), (15, 0, 13, 0), (16, 0, 13, 0)]),
  (41, 2, [(3, 1, 0, 0), (55, 0, 0, 0)])]
def k_X11_line : List (Nat × Nat × List Ins) := [(0, 7, [(3, 1, 0, 0), (0, 1, 0, 100), (39, 20, 177, 127), (12, 0, 14, 0), (3, 2, 0, 0), (0, 0, 0, (-1)), (13, 3, 16, 0), (16, 0, 14, 0)]),
  (14, 0, [(0, 0, 0, (-1)), (55, 0, 0, 0)]),
  (16, 7, [(3, 0, 2, 0), (21, 11, 11, 77), (3, 1, 0, 0), (39, 12022, 16, 355), (3, 2, 0, 0), (0, 0, 0, (-1)), (13, 1, 37, 0), (3, 0, 2, 0), (21, 11, 11, 77), (18, 2, 5, 358), (55, 0, 0, 0)]),
  (37, 5, [(3, 2, 0, 0), (3, 0, 2, 0), (21, 11, 11, 77), (18, 2, 5, 358), (13, 3, 60, 0), (3, 0, 2, 0), (21, 11, 11, 77), (21, 2, 4, 361), (3, 2, 0, 0), (26, 0, 0, 0), (15, 0, 61, 0), (55, 0, 0, 0)]),
  (60, 0, [(0, 0, 0, (-1)), (55, 0, 0, 0)])]
def k_X11_century : List (Nat × Nat × List Ins) := [(0, 7, [(3, 1, 0, 0), (12, 2, 34, 0), (3, 1, 0, 0), (0, 4, 364, 1000000), (13, 4, 34, 0), (3, 2, 0, 0), (0, 1, 0, 41), (39, 20, 177, 127), (12, 0, 34, 0), (3, 0, 2, 0), (21, 11, 0, 30), (18, 7, 8, 121), (3, 2, 0, 0), (6, 0, 0, 0), (0, 1, 0, 100), (13, 2, 40, 0), (16, 0, 34, 0)]),
  (34, 1, [(3, 0, 2, 0), (0, 0, 0, (-1)), (39, 21022, 172, 114), (55, 0, 0, 0)]),
  (40, 7, [(3, 0, 2, 0), (21, 11, 13, 93), (3, 1, 0, 0), (3, 2, 0, 0), (39, 10032, 1, 365), (3, 0, 2, 0), (3, 0, 2, 0), (21, 11, 13, 93), (18, 0, 6, 368), (39, 21022, 171, 124), (55, 0, 0, 0)])]
def k_X11_drawn : List (Nat × Nat × List Ins) := [(0, 3, [(3, 0, 2, 0), (21, 11, 13, 93), (20, 0, 7, 371), (12, 1, 12, 0), (0, 0, 0, (-1)), (55, 0, 0, 0)]),
  (12, 3, [(3, 1, 0, 0), (39, 10, 178, 107), (12, 0, 29, 0), (3, 0, 2, 0), (21, 11, 13, 93), (21, 0, 5, 375), (3, 1, 0, 0), (26, 0, 0, 0), (55, 0, 0, 0)]),
  (29, 3, [(3, 1, 0, 0), (0, 1, 0, 100), (13, 2, 49, 0), (3, 0, 2, 0), (21, 11, 13, 93), (3, 1, 0, 0), (0, 1, 0, 100), (6, 1, 0, 0), (39, 10022, 2, 378), (15, 0, 50, 0), (55, 0, 0, 0)]),
  (49, 0, [(0, 0, 0, (-1)), (55, 0, 0, 0)])]
def k_X11_image : List (Nat × Nat × List Ins) := [(0, 3, [(3, 1, 0, 0), (0, 0, 0, 2), (39, 20, 177, 127), (12, 1, 14, 0), (3, 0, 2, 0), (0, 0, 0, (-1)), (39, 21022, 172, 114), (55, 0, 0, 0)]),
  (14, 3, [(3, 0, 2, 0), (21, 11, 1, 34), (3, 1, 0, 0), (26, 3, 0, 0), (3, 0, 2, 0), (21, 11, 0, 30), (39, 17022, 65, 381), (3, 0, 2, 0), (11, 0, 0, 0), (18, 11, 2, 384), (0, 0, 0, 1), (3, 1, 0, 0), (6, 6, 0, 0), (6, 4, 0, 0), (22, 11, 2, 384), (3, 0, 2, 0), (0, 0, 0, 0), (39, 21022, 171, 124), (55, 0, 0, 0)])]
def k_X11_back : List (Nat × Nat × List Ins) := [(0, 3, [(3, 1, 0, 0), (0, 0, 0, 2), (39, 20, 177, 127), (12, 1, 14, 0), (3, 0, 2, 0), (0, 0, 0, (-1)), (39, 21022, 172, 114), (55, 0, 0, 0)]),
  (14, 3, [(3, 0, 2, 0), (18, 11, 2, 384), (3, 1, 0, 0), (6, 7, 0, 0), (0, 0, 0, 1), (6, 3, 0, 0), (12, 1, 32, 0), (3, 0, 2, 0), (0, 1, 0, (-2)), (39, 21022, 172, 114), (55, 0, 0, 0)]),
  (32, 3, [(3, 0, 2, 0), (21, 11, 0, 30), (3, 0, 2, 0), (21, 11, 1, 34), (3, 1, 0, 0), (26, 3, 0, 0), (39, 17022, 65, 381), (3, 0, 2, 0), (0, 0, 0, 0), (39, 21022, 171, 124), (55, 0, 0, 0)])]
def k_X11_count : List (Nat × Nat × List Ins) := [(0, 3, [(3, 1, 0, 0), (0, 1, 0, 7), (13, 2, 22, 0), (3, 1, 0, 0), (0, 1, 0, 11), (13, 4, 22, 0), (3, 0, 2, 0), (21, 11, 18, 97), (3, 1, 0, 0), (0, 1, 0, 7), (6, 1, 0, 0), (26, 0, 0, 0), (55, 0, 0, 0)]),
  (22, 3, [(3, 1, 0, 0), (0, 1, 0, 13), (13, 2, 47, 0), (3, 1, 0, 0), (0, 1, 0, 17), (13, 4, 47, 0), (3, 0, 2, 0), (21, 11, 0, 30), (21, 7, 4, 143), (3, 1, 0, 0), (0, 1, 0, 13), (6, 1, 0, 0), (26, 0, 0, 0), (55, 0, 0, 0)]),
  (47, 3, [(3, 1, 0, 0), (17, 4, 0, 68)]),
  (116, 1, [(3, 0, 2, 0), (21, 11, 0, 30), (18, 7, 0, 131), (55, 0, 0, 0)]),
  (124, 1, [(3, 0, 2, 0), (21, 11, 0, 30), (18, 7, 5, 162), (55, 0, 0, 0)]),
  (132, 1, [(3, 0, 2, 0), (21, 11, 0, 30), (18, 7, 2, 146), (55, 0, 0, 0)]),
  (140, 1, [(3, 0, 2, 0), (21, 11, 0, 30), (18, 7, 8, 121), (55, 0, 0, 0)]),
  (148, 1, [(3, 0, 2, 0), (21, 11, 0, 30), (18, 7, 11, 259), (55, 0, 0, 0)]),
  (156, 1, [(3, 0, 2, 0), (21, 11, 0, 30), (18, 7, 13, 322), (55, 0, 0, 0)]),
  (164, 1, [(3, 0, 2, 0), (18, 11, 4, 152), (55, 0, 0, 0)]),
  (169, 1, [(3, 0, 2, 0), (21, 11, 0, 30), (18, 7, 7, 187), (55, 0, 0, 0)]),
  (177, 0, [(0, 0, 0, (-1)), (55, 0, 0, 0)])]
def k_X11_status : List (Nat × Nat × List Ins) := [(0, 1, [(3, 0, 2, 0), (18, 11, 17, 387), (55, 0, 0, 0)])]
def k_X11_answer : List (Nat × Nat × List Ins) := [(0, 3, [(3, 0, 2, 0), (0, 0, 0, 0), (22, 11, 17, 387), (3, 1, 0, 0), (55, 0, 0, 0)])]
def k_X11_refuse : List (Nat × Nat × List Ins) := [(0, 3, [(3, 0, 2, 0), (3, 1, 0, 0), (22, 11, 17, 387), (3, 1, 0, 0), (0, 1, 0, (-3)), (13, 2, 18, 0), (3, 1, 0, 0), (7, 0, 0, 0), (0, 0, 0, 1), (6, 1, 0, 0), (15, 0, 22, 0), (16, 0, 22, 0)]),
  (18, 3, [(3, 1, 0, 0), (7, 0, 0, 0), (0, 0, 0, 2), (6, 1, 0, 0), (16, 0, 22, 0)]),
  (22, 3, [(4, 2, 0, 0), (3, 2, 0, 0), (3, 0, 2, 0), (21, 11, 18, 97), (28, 0, 0, 0), (39, 20, 177, 127), (12, 0, 45, 0), (3, 0, 2, 0), (21, 11, 18, 97), (3, 2, 0, 0), (50, 0, 0, 0), (26, 0, 0, 0), (0, 0, 0, 1), (6, 0, 0, 0), (27, 0, 0, 0), (16, 0, 45, 0)]),
  (45, 2, [(3, 1, 0, 0), (55, 0, 0, 0)])]
def k_X11_putBytes : List (Nat × Nat × List Ins) := [(0, 3, [(0, 1, 0, 24), (4, 2, 0, 0), (16, 0, 3, 0)]),
  (3, 7, [(3, 2, 0, 0), (12, 2, 49, 0), (3, 0, 2, 0), (18, 11, 4, 152), (0, 2, 0, 400), (13, 3, 49, 0), (3, 0, 2, 0), (21, 11, 3, 38), (3, 0, 2, 0), (18, 11, 4, 152), (3, 1, 0, 0), (3, 2, 0, 0), (6, 7, 0, 0), (0, 2, 0, 255), (6, 3, 0, 0), (27, 0, 0, 0), (3, 0, 2, 0), (11, 0, 0, 0), (18, 11, 4, 152), (0, 0, 0, 1), (6, 0, 0, 0), (22, 11, 4, 152), (5, 2, 0, (-8)), (15, 0, 3, 0), (16, 0, 3, 0)]),
  (49, 0, [(42, 0, 0, 0)])]
def k_X11_heirs : List (Nat × Nat × List Ins) := [(0, 1, [(0, 1, 0, 13), (4, 1, 0, 0), (0, 0, 0, 0), (4, 2, 0, 0), (0, 0, 0, 0), (4, 3, 0, 0), (16, 0, 7, 0)]),
  (7, 15, [(3, 3, 0, 0), (3, 0, 2, 0), (21, 11, 0, 30), (18, 7, 11, 259), (13, 3, 57, 0), (3, 0, 2, 0), (21, 11, 0, 30), (3, 3, 0, 0), (39, 17022, 73, 272), (4, 4, 0, 0), (3, 4, 0, 0), (3, 1, 0, 0), (13, 3, 39, 0), (3, 4, 0, 0), (4, 1, 0, 0), (0, 0, 0, 0), (4, 2, 0, 0), (16, 0, 39, 0)]),
  (39, 31, [(3, 4, 0, 0), (3, 1, 0, 0), (13, 1, 51, 0), (3, 2, 0, 0), (0, 0, 0, 1), (3, 3, 0, 0), (6, 6, 0, 0), (6, 4, 0, 0), (4, 2, 0, 0), (16, 0, 51, 0)]),
  (51, 15, [(5, 3, 0, 1), (15, 0, 7, 0), (16, 0, 7, 0)]),
  (57, 4, [(3, 2, 0, 0), (55, 0, 0, 0)])]
def k_X11_isRootOrCopy : List (Nat × Nat × List Ins) := [(0, 3, [(3, 1, 0, 0), (0, 0, 0, (-1)), (13, 0, 19, 0), (3, 1, 0, 0), (3, 0, 2, 0), (21, 11, 0, 30), (18, 7, 11, 259), (39, 20, 177, 127), (12, 0, 23, 0), (16, 0, 19, 0)]),
  (19, 0, [(0, 0, 0, 1), (15, 0, 24, 0), (58, 0, 0, 0)]),
  (23, 0, [(0, 0, 0, 0), (58, 0, 0, 0)])]
def k_X11_highestTerm : List (Nat × Nat × List Ins) := [(0, 1, [(3, 0, 0, 0), (17, 5, 0, 31)]),
  (32, 0, [(0, 1, 0, 99), (55, 0, 0, 0)]),
  (35, 0, [(0, 0, 0, 5), (55, 0, 0, 0)]),
  (37, 0, [(0, 1, 0, 9), (55, 0, 0, 0)]),
  (40, 0, [(0, 2, 0, 999), (55, 0, 0, 0)]),
  (44, 0, [(0, 0, 0, 3), (55, 0, 0, 0)])]
def k_X11_inside : List (Nat × Nat × List Ins) := [(0, 3, [(3, 0, 0, 0), (12, 2, 13, 0), (3, 0, 0, 0), (3, 1, 0, 0), (13, 3, 13, 0), (0, 0, 0, 1), (15, 0, 14, 0), (58, 0, 0, 0)]),
  (13, 0, [(0, 0, 0, 0), (58, 0, 0, 0)])]
def k_X11_isCell : List (Nat × Nat × List Ins) := [(0, 1, [(3, 0, 0, 0), (12, 2, 14, 0), (3, 0, 0, 0), (0, 1, 0, 12), (13, 3, 14, 0), (0, 0, 0, 1), (15, 0, 15, 0), (58, 0, 0, 0)]),
  (14, 0, [(0, 0, 0, 0), (58, 0, 0, 0)])]
def k_X11_isTone : List (Nat × Nat × List Ins) := [(0, 1, [(3, 0, 0, 0), (12, 2, 14, 0), (3, 0, 0, 0), (0, 1, 0, 10), (13, 3, 14, 0), (0, 0, 0, 1), (15, 0, 15, 0), (58, 0, 0, 0)]),
  (14, 0, [(0, 0, 0, 0), (58, 0, 0, 0)])]
def k_X11_canBeCopy : List (Nat × Nat × List Ins) := [(0, 1, [(3, 0, 0, 0), (0, 0, 0, (-1)), (13, 2, 15, 0), (3, 0, 0, 0), (0, 1, 0, 6), (13, 3, 15, 0), (0, 0, 0, 1), (15, 0, 16, 0), (58, 0, 0, 0)]),
  (15, 0, [(0, 0, 0, 0), (58, 0, 0, 0)])]
def k_X11_bit : List (Nat × Nat × List Ins) := [(0, 1, [(3, 0, 0, 0), (12, 0, 8, 0), (0, 0, 0, 1), (15, 0, 9, 0), (55, 0, 0, 0)]),
  (8, 0, [(0, 0, 0, 0), (55, 0, 0, 0)])]
def k_X11_lowestIn : List (Nat × Nat × List Ins) := [(0, 1, [(0, 0, 0, 0), (4, 1, 0, 0), (16, 0, 2, 0)]),
  (2, 3, [(3, 1, 0, 0), (0, 1, 0, 31), (13, 3, 25, 0), (3, 0, 0, 0), (3, 1, 0, 0), (6, 7, 0, 0), (0, 0, 0, 1), (6, 3, 0, 0), (0, 0, 0, 1), (13, 1, 19, 0), (3, 1, 0, 0), (55, 0, 0, 0)]),
  (19, 3, [(5, 1, 0, 1), (15, 0, 2, 0), (16, 0, 2, 0)]),
  (25, 0, [(0, 0, 0, (-1)), (55, 0, 0, 0)])]
def k_X11_highestIn : List (Nat × Nat × List Ins) := [(0, 1, [(0, 1, 0, 30), (4, 1, 0, 0), (16, 0, 3, 0)]),
  (3, 3, [(3, 1, 0, 0), (12, 2, 24, 0), (3, 0, 0, 0), (3, 1, 0, 0), (6, 7, 0, 0), (0, 0, 0, 1), (6, 3, 0, 0), (0, 0, 0, 1), (13, 1, 18, 0), (3, 1, 0, 0), (55, 0, 0, 0)]),
  (18, 3, [(5, 1, 0, (-1)), (15, 0, 3, 0), (16, 0, 3, 0)]),
  (24, 0, [(0, 0, 0, (-1)), (55, 0, 0, 0)])]
def k_X11_nearest : List (Nat × Nat × List Ins) := [(0, 7, [(3, 0, 0, 0), (3, 1, 0, 0), (13, 3, 9, 0), (3, 1, 0, 0), (15, 0, 19, 0), (55, 0, 0, 0)]),
  (9, 5, [(3, 0, 0, 0), (3, 2, 0, 0), (13, 5, 18, 0), (3, 2, 0, 0), (15, 0, 19, 0), (55, 0, 0, 0)]),
  (18, 1, [(3, 0, 0, 0), (55, 0, 0, 0)])]
def k_X12_init : List (Nat × Nat × List Ins) := [(0, 1, [(3, 0, 2, 0), (40, 0, 0, 1), (3, 0, 2, 0), (0, 1, 0, 7), (37, 0, 0, 0), (25, 12, 2, 7), (3, 0, 2, 0), (0, 2, 0, 5780), (37, 0, 0, 0), (25, 12, 3, 13), (3, 0, 2, 0), (0, 2, 0, 11560), (37, 0, 0, 0), (25, 12, 4, 16), (3, 0, 2, 0), (0, 2, 0, 5780), (37, 0, 0, 0), (25, 12, 5, 19), (3, 0, 2, 0), (0, 0, 0, 2), (37, 2, 0, 0), (25, 12, 6, 22), (3, 0, 2, 0), (0, 2, 0, 400), (37, 0, 0, 0), (25, 12, 8, 26), (3, 0, 2, 0), (0, 0, 0, (-1)), (22, 12, 14, 29), (3, 0, 2, 0), (0, 1, 0, 96), (37, 0, 0, 0), (25, 12, 18, 33), (3, 0, 2, 0), (0, 2, 0, 400), (37, 0, 0, 0), (25, 12, 20, 36), (3, 0, 2, 0), (0, 2, 0, 400), (37, 0, 0, 0), (25, 12, 21, 39), (3, 0, 2, 0), (0, 2, 0, 400), (37, 0, 0, 0), (25, 12, 23, 42), (3, 0, 2, 0), (0, 2, 0, 400), (37, 0, 0, 0), (25, 12, 24, 45), (3, 0, 2, 0), (0, 1, 0, 10), (37, 1, 0, 0), (11, 0, 0, 0), (0, 0, 0, 0), (1, 1, 48, 103820), (52, 0, 0, 0), (11, 0, 0, 0), (0, 0, 0, 1), (1, 1, 50, 1253), (52, 0, 0, 0), (11, 0, 0, 0), (0, 0, 0, 2), (1, 1, 52, 824370), (52, 0, 0, 0), (11, 0, 0, 0), (0, 0, 0, 3), (1, 1, 54, 17223340210), (52, 0, 0, 0), (11, 0, 0, 0), (0, 0, 0, 4), (1, 1, 56, 17376357), (52, 0, 0, 0), (11, 0, 0, 0), (0, 0, 0, 5), (1, 1, 58, 441828), (52, 0, 0, 0), (11, 0, 0, 0), (0, 1, 0, 6), (1, 1, 60, 116007536084), (52, 0, 0, 0), (11, 0, 0, 0), (0, 1, 0, 7), (1, 1, 62, 81486), (52, 0, 0, 0), (11, 0, 0, 0), (0, 1, 0, 8), (1, 1, 64, 463922), (52, 0, 0, 0), (11, 0, 0, 0), (0, 1, 0, 9), (1, 1, 66, 111983872174), (52, 0, 0, 0), (25, 12, 27, 68), (3, 0, 2, 0), (0, 1, 0, 7), (37, 1, 0, 0), (11, 0, 0, 0), (0, 0, 0, 0), (1, 1, 72, 26379859), (52, 0, 0, 0), (11, 0, 0, 0), (0, 0, 0, 1), (1, 1, 74, 719725925), (52, 0, 0, 0), (11, 0, 0, 0), (0, 0, 0, 2), (1, 1, 76, 14137529), (52, 0, 0, 0), (11, 0, 0, 0), (0, 0, 0, 3), (1, 1, 78, 116925619), (52, 0, 0, 0), (11, 0, 0, 0), (0, 0, 0, 4), (1, 1, 50, 1253), (52, 0, 0, 0), (11, 0, 0, 0), (0, 0, 0, 5), (1, 1, 80, 146885), (52, 0, 0, 0), (11, 0, 0, 0), (0, 1, 0, 6), (1, 1, 82, 671173), (52, 0, 0, 0), (25, 12, 28, 84), (3, 0, 2, 0), (0, 0, 0, 5), (37, 1, 0, 0), (11, 0, 0, 0), (0, 0, 0, 0), (1, 1, 87, 13090163), (52, 0, 0, 0), (11, 0, 0, 0), (0, 0, 0, 1), (1, 1, 89, 398995), (52, 0, 0, 0), (11, 0, 0, 0), (0, 0, 0, 2), (1, 1, 91, 52595), (52, 0, 0, 0), (11, 0, 0, 0), (0, 0, 0, 3), (1, 1, 93, 18921843), (52, 0, 0, 0), (11, 0, 0, 0), (0, 0, 0, 4), (1, 1, 95, 67155), (52, 0, 0, 0), (25, 12, 29, 97), (3, 0, 2, 0), (0, 1, 0, 13), (37, 1, 0, 0), (25, 12, 31, 100), (3, 0, 2, 0), (0, 1, 0, 13), (37, 1, 0, 0), (25, 12, 32, 103), (3, 0, 2, 0), (0, 2, 0, 400), (37, 1, 0, 0), (25, 12, 33, 106), (3, 0, 2, 0), (0, 2, 0, 1200), (37, 0, 0, 0), (25, 12, 37, 109), (3, 0, 2, 0), (0, 2, 0, 600), (37, 0, 0, 0), (25, 12, 38, 112), (3, 0, 2, 0), (0, 0, 0, 5), (37, 0, 0, 0), (25, 12, 39, 115), (3, 0, 2, 0), (0, 0, 0, 5), (37, 0, 0, 0), (25, 12, 40, 118), (3, 0, 2, 0), (0, 1, 0, 25), (37, 0, 0, 0), (25, 12, 41, 121), (3, 0, 2, 0), (0, 1, 0, 25), (37, 2, 0, 0), (25, 12, 42, 124), (3, 0, 2, 0), (0, 1, 0, 6), (37, 2, 0, 0), (25, 12, 43, 127), (3, 0, 2, 0), (0, 1, 0, 6), (37, 0, 0, 0), (25, 12, 47, 130), (3, 0, 2, 0), (0, 1, 0, 6), (37, 0, 0, 0), (25, 12, 48, 133), (3, 0, 2, 0), (0, 1, 0, 64), (37, 0, 0, 0), (25, 12, 51, 136), (3, 0, 2, 0), (0, 1, 0, 100), (37, 0, 0, 0), (25, 12, 52, 139), (3, 0, 2, 0), (0, 1, 0, 8), (37, 0, 0, 0), (25, 12, 53, 142), (3, 0, 2, 0), (0, 1, 0, 120), (37, 0, 0, 0), (25, 12, 54, 145), (3, 0, 2, 0), (0, 0, 0, (-1)), (22, 12, 56, 148), (3, 0, 2, 0), (0, 1, 0, 17), (37, 0, 0, 0), (25, 12, 58, 151), (3, 0, 2, 0), (21, 12, 3, 13), (0, 0, 0, 2), (0, 0, 0, (-1)), (27, 0, 0, 0), (3, 0, 2, 0), (21, 12, 3, 13), (0, 1, 0, 7), (0, 1, 0, 20), (27, 0, 0, 0), (3, 0, 2, 0), (21, 12, 3, 13), (0, 1, 0, 8), (0, 0, 0, 3), (27, 0, 0, 0), (3, 0, 2, 0), (21, 12, 3, 13), (0, 1, 0, 10), (0, 1, 0, 100), (27, 0, 0, 0), (42, 0, 0, 0)])]
def k_X12_in : List (Nat × Nat × List Ins) := [(0, 21, [(3, 0, 1, 0), (3, 2, 1, 0), (9, 0, 0, 0), (12, 2, 17, 0), (3, 0, 1, 0), (3, 4, 1, 0), (9, 0, 0, 0), (12, 4, 17, 0), (0, 0, 0, 1), (15, 0, 18, 0), (58, 0, 0, 0)]),
  (17, 0, [(0, 0, 0, 0), (58, 0, 0, 0)])]
def k_X12_is : List (Nat × Nat × List Ins) := [(0, 3, [(3, 0, 0, 0), (3, 1, 0, 0), (6, 7, 0, 0), (0, 0, 0, 1), (6, 3, 0, 0), (0, 0, 0, 1), (13, 1, 13, 0), (0, 0, 0, 1), (15, 0, 14, 0), (58, 0, 0, 0)]),
  (13, 0, [(0, 0, 0, 0), (58, 0, 0, 0)])]
def k_X12_size : List (Nat × Nat × List Ins) := [(0, 1, [(3, 0, 0, 0), (12, 3, 9, 0), (3, 0, 0, 0), (7, 0, 0, 0), (15, 0, 10, 0), (55, 0, 0, 0)]),
  (9, 1, [(3, 0, 0, 0), (55, 0, 0, 0)])]
def k_X12_within : List (Nat × Nat × List Ins) := [(0, 13, [(3, 0, 1, 0), (3, 2, 0, 0), (10, 0, 0, 0), (9, 0, 0, 0), (12, 3, 11, 0), (3, 2, 0, 0), (15, 0, 24, 0), (55, 0, 0, 0)]),
  (11, 9, [(3, 0, 1, 0), (3, 3, 0, 0), (10, 0, 0, 0), (9, 0, 0, 0), (12, 5, 22, 0), (3, 3, 0, 0), (15, 0, 24, 0), (55, 0, 0, 0)]),
  (22, 1, [(3, 0, 1, 0), (48, 0, 0, 0), (55, 0, 0, 0)])]
def k_X12_tell : List (Nat × Nat × List Ins) := [(0, 3, [(3, 0, 2, 0), (3, 1, 0, 0), (12, 3, 9, 0), (3, 1, 0, 0), (15, 0, 10, 0), (16, 0, 10, 0)]),
  (9, 3, [(0, 0, 0, 0), (16, 0, 10, 0)]),
  (10, 3, [(22, 12, 1, 157), (3, 1, 0, 0), (12, 3, 28, 0), (3, 0, 2, 0), (21, 12, 2, 7), (3, 1, 0, 0), (7, 0, 0, 0), (50, 0, 0, 0), (26, 0, 0, 0), (0, 0, 0, 1), (6, 0, 0, 0), (27, 0, 0, 0), (16, 0, 28, 0)]),
  (28, 2, [(3, 1, 0, 0), (55, 0, 0, 0)])]
def k_X12_change : List (Nat × Nat × List Ins) := [(0, 7, [(3, 0, 2, 0), (21, 12, 3, 13), (3, 1, 0, 0), (26, 0, 0, 0), (4, 3, 0, 0), (3, 0, 2, 0), (21, 12, 3, 13), (3, 1, 0, 0), (3, 2, 0, 0), (27, 0, 0, 0), (3, 0, 2, 0), (0, 0, 0, 0), (22, 12, 1, 157), (3, 3, 0, 0), (55, 0, 0, 0)])]
def k_X12_image : List (Nat × Nat × List Ins) := [(0, 3, [(3, 0, 2, 0), (0, 0, 0, 0), (22, 12, 0, 154), (3, 1, 0, 0), (10, 0, 0, 0), (1, 0, 0, 0), (1, 0, 0, 1), (39, 30, 186, 160), (12, 1, 21, 0), (3, 0, 2, 0), (0, 0, 0, (-1)), (39, 22022, 190, 164), (55, 0, 0, 0)]),
  (21, 3, [(0, 0, 0, 0), (4, 2, 0, 0), (16, 0, 23, 0)]),
  (23, 7, [(3, 2, 0, 0), (0, 2, 0, 5780), (13, 3, 54, 0), (3, 0, 2, 0), (21, 12, 4, 16), (0, 2, 0, 5780), (3, 1, 0, 0), (6, 2, 0, 0), (3, 2, 0, 0), (6, 0, 0, 0), (3, 0, 2, 0), (21, 12, 3, 13), (3, 2, 0, 0), (26, 0, 0, 0), (27, 0, 0, 0), (5, 2, 0, 1), (15, 0, 23, 0), (16, 0, 23, 0)]),
  (54, 3, [(3, 0, 2, 0), (21, 12, 6, 22), (3, 1, 0, 0), (0, 0, 0, 1), (53, 0, 0, 0), (3, 0, 2, 0), (0, 0, 0, 0), (39, 22022, 190, 164), (55, 0, 0, 0)])]
def k_X12_back : List (Nat × Nat × List Ins) := [(0, 3, [(3, 0, 2, 0), (0, 0, 0, 0), (22, 12, 0, 154), (3, 1, 0, 0), (10, 0, 0, 0), (1, 0, 0, 0), (1, 0, 0, 1), (39, 30, 186, 160), (12, 1, 21, 0), (3, 0, 2, 0), (0, 0, 0, (-1)), (39, 22022, 190, 164), (55, 0, 0, 0)]),
  (21, 3, [(3, 0, 2, 0), (21, 12, 6, 22), (3, 1, 0, 0), (26, 2, 0, 0), (12, 1, 37, 0), (3, 0, 2, 0), (0, 1, 0, (-2)), (39, 22022, 190, 164), (55, 0, 0, 0)]),
  (37, 3, [(0, 0, 0, 0), (4, 2, 0, 0), (16, 0, 39, 0)]),
  (39, 7, [(3, 2, 0, 0), (0, 2, 0, 5780), (13, 3, 70, 0), (3, 0, 2, 0), (21, 12, 3, 13), (3, 2, 0, 0), (3, 0, 2, 0), (21, 12, 4, 16), (0, 2, 0, 5780), (3, 1, 0, 0), (6, 2, 0, 0), (3, 2, 0, 0), (6, 0, 0, 0), (26, 0, 0, 0), (27, 0, 0, 0), (5, 2, 0, 1), (15, 0, 39, 0), (16, 0, 39, 0)]),
  (70, 1, [(3, 0, 2, 0), (0, 0, 0, 0), (39, 22022, 190, 164), (55, 0, 0, 0)])]
def k_X12_isCell : List (Nat × Nat × List Ins) := [(0, 1, [(3, 0, 0, 0), (10, 0, 0, 0), (1, 0, 0, 0), (1, 1, 168, 11), (39, 30, 186, 160), (58, 0, 0, 0)])]
def k_X12_isTone : List (Nat × Nat × List Ins) := [(0, 1, [(3, 0, 0, 0), (10, 0, 0, 0), (1, 0, 0, 0), (1, 1, 170, 9), (39, 30, 186, 160), (58, 0, 0, 0)])]
def k_X12_isYear : List (Nat × Nat × List Ins) := [(0, 1, [(3, 0, 0, 0), (10, 0, 0, 0), (1, 0, 0, 0), (1, 1, 172, 99), (39, 30, 186, 160), (58, 0, 0, 0)])]
def k_X12_years : List (Nat × Nat × List Ins) := [(0, 1, [(3, 0, 2, 0), (21, 12, 3, 13), (0, 0, 0, 4), (26, 0, 0, 0), (55, 0, 0, 0)])]
def k_X12_isLayer : List (Nat × Nat × List Ins) := [(0, 3, [(3, 1, 0, 0), (10, 0, 0, 0), (1, 0, 0, 0), (3, 0, 2, 0), (39, 22012, 197, 174), (10, 0, 0, 0), (39, 30, 186, 160), (58, 0, 0, 0)])]
def k_X12_isPainter : List (Nat × Nat × List Ins) := [(0, 3, [(3, 1, 0, 0), (10, 0, 0, 0), (1, 0, 0, 0), (3, 0, 2, 0), (21, 12, 3, 13), (0, 0, 0, 0), (26, 0, 0, 0), (10, 0, 0, 0), (1, 0, 0, 1), (8, 1, 0, 0), (39, 30, 186, 160), (58, 0, 0, 0)])]
def k_X12_isCopy : List (Nat × Nat × List Ins) := [(0, 3, [(3, 1, 0, 0), (10, 0, 0, 0), (1, 0, 0, 0), (3, 0, 2, 0), (21, 12, 3, 13), (0, 0, 0, 5), (26, 0, 0, 0), (10, 0, 0, 0), (1, 0, 0, 1), (8, 1, 0, 0), (39, 30, 186, 160), (58, 0, 0, 0)])]
def k_X12_isClaimant : List (Nat × Nat × List Ins) := [(0, 3, [(3, 1, 0, 0), (10, 0, 0, 0), (1, 0, 0, 0), (3, 0, 2, 0), (21, 12, 3, 13), (0, 1, 0, 6), (26, 0, 0, 0), (10, 0, 0, 0), (1, 0, 0, 1), (8, 1, 0, 0), (39, 30, 186, 160), (58, 0, 0, 0)])]
def k_X12_toneAt : List (Nat × Nat × List Ins) := [(0, 7, [(3, 0, 2, 0), (21, 12, 3, 13), (0, 1, 0, 12), (0, 1, 0, 12), (3, 1, 0, 0), (6, 2, 0, 0), (6, 0, 0, 0), (3, 2, 0, 0), (6, 0, 0, 0), (26, 0, 0, 0), (55, 0, 0, 0)])]
def k_X12_seen : List (Nat × Nat × List Ins) := [(0, 3, [(3, 0, 2, 0), (3, 0, 2, 0), (39, 22012, 197, 174), (3, 1, 0, 0), (39, 22032, 202, 178), (55, 0, 0, 0)])]
def k_X12_first : List (Nat × Nat × List Ins) := [(0, 7, [(3, 0, 2, 0), (0, 0, 0, 0), (22, 12, 0, 154), (3, 1, 0, 0), (39, 10, 194, 182), (12, 0, 19, 0), (3, 2, 0, 0), (39, 10, 195, 186), (12, 1, 25, 0), (16, 0, 19, 0)]),
  (19, 1, [(3, 0, 2, 0), (0, 0, 0, (-1)), (39, 22022, 190, 164), (55, 0, 0, 0)]),
  (25, 7, [(3, 0, 2, 0), (21, 12, 3, 13), (0, 0, 0, 4), (0, 0, 0, 0), (27, 0, 0, 0), (3, 0, 2, 0), (0, 1, 0, 12), (3, 1, 0, 0), (6, 0, 0, 0), (3, 2, 0, 0), (39, 22032, 191, 189), (55, 0, 0, 0)])]
def k_X12_painter : List (Nat × Nat × List Ins) := [(0, 7, [(3, 0, 2, 0), (0, 0, 0, 0), (22, 12, 0, 154), (3, 1, 0, 0), (10, 0, 0, 0), (1, 0, 0, 1), (1, 1, 170, 9), (39, 30, 186, 160), (12, 0, 29, 0), (3, 2, 0, 0), (10, 0, 0, 0), (1, 0, 0, 0), (1, 1, 172, 99), (39, 30, 186, 160), (12, 1, 35, 0), (16, 0, 29, 0)]),
  (29, 1, [(3, 0, 2, 0), (0, 0, 0, (-1)), (39, 22022, 190, 164), (55, 0, 0, 0)]),
  (35, 7, [(3, 0, 2, 0), (21, 12, 3, 13), (0, 0, 0, 0), (26, 0, 0, 0), (4, 3, 0, 0), (3, 3, 0, 0), (0, 0, 0, 5), (13, 1, 54, 0), (3, 0, 2, 0), (0, 1, 0, (-5)), (39, 22022, 190, 164), (55, 0, 0, 0)]),
  (54, 15, [(0, 2, 0, 233), (0, 0, 0, 5), (3, 3, 0, 0), (6, 2, 0, 0), (6, 0, 0, 0), (4, 4, 0, 0), (3, 0, 2, 0), (21, 12, 3, 13), (3, 4, 0, 0), (3, 1, 0, 0), (27, 0, 0, 0), (3, 0, 2, 0), (21, 12, 3, 13), (3, 4, 0, 0), (0, 0, 0, 1), (6, 0, 0, 0), (3, 2, 0, 0), (27, 0, 0, 0), (0, 0, 0, 2), (4, 5, 0, 0), (16, 0, 84, 0)]),
  (84, 57, [(3, 5, 0, 0), (0, 0, 0, 5), (13, 3, 107, 0), (3, 0, 2, 0), (21, 12, 3, 13), (3, 4, 0, 0), (3, 5, 0, 0), (6, 0, 0, 0), (0, 0, 0, 3), (27, 0, 0, 0), (5, 5, 0, 1), (15, 0, 84, 0), (16, 0, 84, 0)]),
  (107, 9, [(3, 0, 2, 0), (21, 12, 3, 13), (0, 0, 0, 0), (50, 0, 0, 0), (26, 0, 0, 0), (0, 0, 0, 1), (6, 0, 0, 0), (27, 0, 0, 0), (3, 0, 2, 0), (3, 3, 0, 0), (39, 22022, 190, 164), (55, 0, 0, 0)])]
def k_X12_err : List (Nat × Nat × List Ins) := [(0, 15, [(3, 0, 2, 0), (0, 0, 0, 0), (22, 12, 0, 154), (3, 2, 0, 0), (10, 0, 0, 0), (1, 0, 0, 0), (1, 1, 192, 2), (39, 30, 186, 160), (12, 0, 29, 0), (3, 3, 0, 0), (10, 0, 0, 0), (1, 0, 0, 0), (1, 1, 194, 6), (39, 30, 186, 160), (12, 1, 35, 0), (16, 0, 29, 0)]),
  (29, 1, [(3, 0, 2, 0), (0, 0, 0, (-1)), (39, 22022, 190, 164), (55, 0, 0, 0)]),
  (35, 15, [(3, 0, 2, 0), (3, 1, 0, 0), (39, 22022, 199, 196), (12, 0, 62, 0), (3, 0, 2, 0), (0, 2, 0, 233), (0, 0, 0, 5), (3, 1, 0, 0), (6, 2, 0, 0), (6, 0, 0, 0), (0, 0, 0, 2), (6, 0, 0, 0), (3, 2, 0, 0), (6, 0, 0, 0), (3, 3, 0, 0), (39, 22032, 191, 189), (15, 0, 68, 0), (55, 0, 0, 0)]),
  (62, 1, [(3, 0, 2, 0), (0, 1, 0, (-2)), (39, 22022, 190, 164), (55, 0, 0, 0)])]
def k_X12_of : List (Nat × Nat × List Ins) := [(0, 7, [(3, 0, 2, 0), (0, 0, 0, 0), (22, 12, 0, 154), (3, 0, 2, 0), (3, 1, 0, 0), (39, 22022, 199, 196), (12, 0, 42, 0), (3, 2, 0, 0), (10, 0, 0, 0), (1, 0, 0, 0), (1, 1, 199, 4), (39, 30, 186, 160), (12, 0, 42, 0), (3, 0, 2, 0), (21, 12, 3, 13), (0, 2, 0, 233), (0, 0, 0, 5), (3, 1, 0, 0), (6, 2, 0, 0), (6, 0, 0, 0), (3, 2, 0, 0), (6, 0, 0, 0), (26, 0, 0, 0), (15, 0, 43, 0), (55, 0, 0, 0)]),
  (42, 0, [(0, 0, 0, (-1)), (55, 0, 0, 0)])]
def k_X12_isTerm : List (Nat × Nat × List Ins) := [(0, 3, [(3, 0, 0, 0), (17, 6, 0, 35)]),
  (36, 2, [(3, 1, 0, 0), (10, 0, 0, 0), (1, 0, 0, 0), (1, 1, 172, 99), (39, 30, 186, 160), (58, 0, 0, 0)]),
  (46, 2, [(3, 1, 0, 0), (10, 0, 0, 0), (1, 0, 0, 0), (1, 1, 201, 5), (39, 30, 186, 160), (58, 0, 0, 0)]),
  (56, 2, [(3, 1, 0, 0), (10, 0, 0, 0), (1, 0, 0, 0), (1, 1, 170, 9), (39, 30, 186, 160), (58, 0, 0, 0)]),
  (66, 2, [(3, 1, 0, 0), (10, 0, 0, 0), (1, 0, 0, 0), (1, 1, 203, 999), (39, 30, 186, 160), (58, 0, 0, 0)]),
  (76, 2, [(3, 1, 0, 0), (10, 0, 0, 0), (1, 0, 0, 0), (1, 1, 205, 3), (39, 30, 186, 160), (58, 0, 0, 0)]),
  (86, 0, [(0, 0, 0, 0), (58, 0, 0, 0)])]
def k_X12_terms : List (Nat × Nat × List Ins) := [(0, 7, [(3, 0, 2, 0), (0, 0, 0, 0), (22, 12, 0, 154), (3, 1, 0, 0), (3, 2, 0, 0), (39, 20, 208, 207), (12, 0, 25, 0), (3, 0, 2, 0), (0, 1, 0, 7), (3, 1, 0, 0), (6, 0, 0, 0), (3, 2, 0, 0), (39, 22032, 191, 189), (15, 0, 30, 0), (55, 0, 0, 0)]),
  (25, 1, [(3, 0, 2, 0), (0, 0, 0, (-1)), (39, 22022, 190, 164), (55, 0, 0, 0)])]
def k_X12_scar : List (Nat × Nat × List Ins) := [(0, 15, [(3, 0, 2, 0), (0, 0, 0, 0), (22, 12, 0, 154), (3, 1, 0, 0), (39, 10, 194, 182), (12, 0, 26, 0), (3, 2, 0, 0), (39, 10, 196, 211), (12, 0, 26, 0), (3, 3, 0, 0), (39, 10, 195, 186), (12, 1, 32, 0), (16, 0, 26, 0)]),
  (26, 1, [(3, 0, 2, 0), (0, 0, 0, (-1)), (39, 22022, 190, 164), (55, 0, 0, 0)]),
  (32, 15, [(3, 0, 2, 0), (21, 12, 3, 13), (0, 0, 0, 3), (26, 0, 0, 0), (4, 4, 0, 0), (3, 4, 0, 0), (0, 1, 0, 6), (13, 1, 54, 0), (3, 0, 2, 0), (0, 1, 0, (-5)), (39, 22022, 190, 164), (55, 0, 0, 0)]),
  (54, 31, [(3, 0, 2, 0), (21, 12, 3, 13), (0, 2, 0, 258), (0, 0, 0, 3), (3, 4, 0, 0), (6, 2, 0, 0), (6, 0, 0, 0), (3, 1, 0, 0), (27, 0, 0, 0), (3, 0, 2, 0), (21, 12, 3, 13), (0, 2, 0, 258), (0, 0, 0, 3), (3, 4, 0, 0), (6, 2, 0, 0), (6, 0, 0, 0), (0, 0, 0, 1), (6, 0, 0, 0), (3, 2, 0, 0), (27, 0, 0, 0), (3, 0, 2, 0), (21, 12, 3, 13), (0, 2, 0, 258), (0, 0, 0, 3), (3, 4, 0, 0), (6, 2, 0, 0), (6, 0, 0, 0), (0, 0, 0, 2), (6, 0, 0, 0), (3, 3, 0, 0), (27, 0, 0, 0), (3, 0, 2, 0), (21, 12, 3, 13), (0, 0, 0, 3), (50, 0, 0, 0), (26, 0, 0, 0), (0, 0, 0, 1), (6, 0, 0, 0), (27, 0, 0, 0), (3, 0, 2, 0), (3, 4, 0, 0), (39, 22022, 190, 164), (55, 0, 0, 0)])]
def k_X12_heal : List (Nat × Nat × List Ins) := [(0, 3, [(3, 0, 2, 0), (0, 0, 0, 0), (22, 12, 0, 154), (3, 1, 0, 0), (10, 0, 0, 0), (1, 0, 0, 0), (3, 0, 2, 0), (21, 12, 3, 13), (0, 0, 0, 3), (26, 0, 0, 0), (10, 0, 0, 0), (1, 0, 0, 1), (8, 1, 0, 0), (39, 30, 186, 160), (12, 1, 30, 0), (3, 0, 2, 0), (0, 1, 0, (-2)), (39, 22022, 190, 164), (55, 0, 0, 0)]),
  (30, 3, [(0, 2, 0, 258), (0, 0, 0, 3), (3, 1, 0, 0), (6, 2, 0, 0), (6, 0, 0, 0), (4, 2, 0, 0), (16, 0, 38, 0)]),
  (38, 5, [(3, 2, 0, 0), (0, 2, 0, 273), (13, 3, 65, 0), (3, 0, 2, 0), (21, 12, 3, 13), (3, 2, 0, 0), (3, 0, 2, 0), (21, 12, 3, 13), (3, 2, 0, 0), (0, 0, 0, 3), (6, 0, 0, 0), (26, 0, 0, 0), (27, 0, 0, 0), (5, 2, 0, 1), (15, 0, 38, 0), (16, 0, 38, 0)]),
  (65, 1, [(3, 0, 2, 0), (21, 12, 3, 13), (0, 0, 0, 3), (50, 0, 0, 0), (26, 0, 0, 0), (0, 0, 0, 1), (6, 1, 0, 0), (27, 0, 0, 0), (3, 0, 2, 0), (3, 0, 2, 0), (21, 12, 3, 13), (0, 0, 0, 3), (26, 0, 0, 0), (39, 22022, 190, 164), (55, 0, 0, 0)])]
def k_X12_row : List (Nat × Nat × List Ins) := [(0, 1, [(3, 0, 2, 0), (0, 0, 0, 0), (22, 12, 0, 154), (3, 0, 2, 0), (18, 12, 9, 214), (4, 1, 0, 0), (3, 0, 2, 0), (0, 0, 0, 0), (22, 12, 9, 214), (3, 1, 0, 0), (12, 1, 26, 0), (3, 0, 2, 0), (0, 1, 0, (-6)), (39, 22022, 190, 164), (55, 0, 0, 0)]),
  (26, 3, [(3, 0, 2, 0), (0, 0, 0, 0), (22, 12, 7, 217), (3, 0, 2, 0), (21, 12, 3, 13), (0, 0, 0, 4), (0, 0, 0, 0), (27, 0, 0, 0), (0, 0, 0, 0), (4, 2, 0, 0), (0, 0, 0, 0), (4, 3, 0, 0), (16, 0, 42, 0)]),
  (42, 15, [(3, 3, 0, 0), (3, 1, 0, 0), (13, 3, 102, 0), (3, 3, 0, 0), (0, 1, 0, 12), (13, 3, 86, 0), (3, 0, 2, 0), (21, 12, 8, 26), (3, 3, 0, 0), (26, 0, 0, 0), (39, 10, 195, 186), (12, 0, 86, 0), (3, 0, 2, 0), (21, 12, 3, 13), (0, 1, 0, 12), (3, 3, 0, 0), (6, 0, 0, 0), (3, 0, 2, 0), (21, 12, 8, 26), (3, 3, 0, 0), (26, 0, 0, 0), (27, 0, 0, 0), (5, 2, 0, 1), (15, 0, 96, 0), (5, 3, 0, 1), (15, 0, 42, 0), (16, 0, 42, 0)]),
  (86, 15, [(3, 0, 2, 0), (11, 0, 0, 0), (18, 12, 7, 217), (0, 0, 0, 1), (6, 0, 0, 0), (22, 12, 7, 217), (5, 3, 0, 1), (15, 0, 42, 0), (16, 0, 42, 0)]),
  (102, 5, [(3, 0, 2, 0), (3, 2, 0, 0), (39, 22022, 190, 164), (55, 0, 0, 0)])]
def k_X12_flakes : List (Nat × Nat × List Ins) := [(0, 1, [(3, 0, 2, 0), (0, 0, 0, 0), (22, 12, 0, 154), (3, 0, 2, 0), (18, 12, 7, 217), (55, 0, 0, 0)])]
def k_X12_four : List (Nat × Nat × List Ins) := [(0, 3, [(0, 1, 0, 24), (4, 2, 0, 0), (16, 0, 3, 0)]),
  (3, 7, [(3, 2, 0, 0), (12, 2, 39, 0), (3, 0, 2, 0), (21, 12, 8, 26), (3, 0, 2, 0), (18, 12, 9, 214), (3, 1, 0, 0), (3, 2, 0, 0), (6, 7, 0, 0), (0, 2, 0, 255), (6, 3, 0, 0), (27, 0, 0, 0), (3, 0, 2, 0), (11, 0, 0, 0), (18, 12, 9, 214), (0, 0, 0, 1), (6, 0, 0, 0), (22, 12, 9, 214), (5, 2, 0, (-8)), (15, 0, 3, 0), (16, 0, 3, 0)]),
  (39, 0, [(42, 0, 0, 0)])]
def k_X12_feed : List (Nat × Nat × List Ins) := [(0, 63, [(3, 0, 2, 0), (0, 0, 0, 0), (22, 12, 0, 154), (3, 0, 2, 0), (18, 12, 9, 214), (0, 1, 0, 20), (6, 0, 0, 0), (0, 2, 0, 400), (13, 5, 20, 0), (0, 0, 0, (-1)), (55, 0, 0, 0)]),
  (20, 63, [(3, 0, 2, 0), (3, 1, 0, 0), (39, 22022, 214, 220), (3, 0, 2, 0), (3, 2, 0, 0), (39, 22022, 214, 220), (3, 0, 2, 0), (3, 3, 0, 0), (39, 22022, 214, 220), (3, 0, 2, 0), (3, 4, 0, 0), (39, 22022, 214, 220), (3, 0, 2, 0), (3, 5, 0, 0), (39, 22022, 214, 220), (3, 0, 2, 0), (18, 12, 9, 214), (55, 0, 0, 0)])]
def k_X12_end : List (Nat × Nat × List Ins) := [(0, 3, [(3, 0, 2, 0), (0, 0, 0, 0), (22, 12, 0, 154), (3, 1, 0, 0), (12, 2, 17, 0), (3, 1, 0, 0), (3, 0, 2, 0), (18, 12, 9, 214), (13, 5, 19, 0), (16, 0, 17, 0)]),
  (17, 0, [(0, 0, 0, (-1)), (55, 0, 0, 0)]),
  (19, 3, [(3, 0, 2, 0), (3, 1, 0, 0), (22, 12, 9, 214), (3, 1, 0, 0), (55, 0, 0, 0)])]
def k_X12_isSmall : List (Nat × Nat × List Ins) := [(0, 1, [(3, 0, 0, 0), (0, 1, 0, 97), (13, 2, 16, 0), (3, 0, 0, 0), (0, 1, 0, 122), (13, 4, 16, 0), (0, 0, 0, 1), (15, 0, 17, 0), (58, 0, 0, 0)]),
  (16, 0, [(0, 0, 0, 0), (58, 0, 0, 0)])]
def k_X12_isDigit : List (Nat × Nat × List Ins) := [(0, 1, [(3, 0, 0, 0), (0, 1, 0, 48), (13, 2, 16, 0), (3, 0, 0, 0), (0, 1, 0, 57), (13, 4, 16, 0), (0, 0, 0, 1), (15, 0, 17, 0), (58, 0, 0, 0)]),
  (16, 0, [(0, 0, 0, 0), (58, 0, 0, 0)])]
def k_X12_begin : List (Nat × Nat × List Ins) := [(0, 1, [(3, 0, 2, 0), (0, 0, 0, 0), (22, 12, 11, 224), (3, 0, 2, 0), (0, 0, 0, 0), (24, 12, 15, 227), (3, 0, 2, 0), (0, 0, 0, (-1)), (22, 12, 14, 29), (3, 0, 2, 0), (39, 22012, 220, 231), (42, 0, 0, 0)])]
def k_X12_next : List (Nat × Nat × List Ins) := [(0, 1, [(3, 0, 2, 0), (3, 0, 2, 0), (18, 12, 11, 224), (22, 12, 10, 234), (16, 0, 8, 0)]),
  (8, 1, [(3, 0, 2, 0), (18, 12, 10, 234), (3, 0, 2, 0), (18, 12, 9, 214), (13, 3, 46, 0), (3, 0, 2, 0), (21, 12, 8, 26), (3, 0, 2, 0), (18, 12, 10, 234), (26, 0, 0, 0), (0, 1, 0, 32), (13, 1, 46, 0), (3, 0, 2, 0), (11, 0, 0, 0), (18, 12, 10, 234), (0, 0, 0, 1), (6, 0, 0, 0), (22, 12, 10, 234), (15, 0, 8, 0), (16, 0, 8, 0)]),
  (46, 1, [(3, 0, 2, 0), (3, 0, 2, 0), (18, 12, 10, 234), (22, 12, 11, 224), (3, 0, 2, 0), (1, 0, 0, 0), (23, 12, 13, 237), (3, 0, 2, 0), (3, 0, 2, 0), (18, 12, 10, 234), (3, 0, 2, 0), (18, 12, 9, 214), (13, 1, 75, 0), (0, 0, 0, 0), (15, 0, 114, 0), (16, 0, 114, 0)]),
  (75, 1, [(3, 0, 2, 0), (21, 12, 8, 26), (3, 0, 2, 0), (18, 12, 10, 234), (26, 0, 0, 0), (39, 10, 217, 241), (12, 0, 94, 0), (0, 0, 0, 1), (15, 0, 114, 0), (16, 0, 114, 0)]),
  (94, 1, [(3, 0, 2, 0), (21, 12, 8, 26), (3, 0, 2, 0), (18, 12, 10, 234), (26, 0, 0, 0), (39, 10, 218, 244), (12, 0, 113, 0), (0, 0, 0, 2), (15, 0, 114, 0), (16, 0, 114, 0)]),
  (113, 1, [(0, 0, 0, 3), (16, 0, 114, 0)]),
  (114, 1, [(22, 12, 12, 247), (3, 0, 2, 0), (18, 12, 12, 247), (0, 0, 0, 3), (13, 1, 149, 0), (3, 0, 2, 0), (3, 0, 2, 0), (21, 12, 8, 26), (3, 0, 2, 0), (18, 12, 10, 234), (26, 0, 0, 0), (10, 0, 0, 0), (23, 12, 13, 237), (3, 0, 2, 0), (11, 0, 0, 0), (18, 12, 11, 224), (0, 0, 0, 1), (6, 0, 0, 0), (22, 12, 11, 224), (16, 0, 149, 0)]),
  (149, 1, [(3, 0, 2, 0), (18, 12, 12, 247), (0, 0, 0, 1), (13, 1, 243, 0), (3, 0, 2, 0), (18, 12, 11, 224), (3, 0, 2, 0), (18, 12, 9, 214), (13, 3, 243, 0), (3, 0, 2, 0), (21, 12, 8, 26), (3, 0, 2, 0), (18, 12, 11, 224), (26, 0, 0, 0), (39, 10, 217, 241), (12, 0, 243, 0), (3, 0, 2, 0), (3, 0, 2, 0), (18, 12, 11, 224), (3, 0, 2, 0), (18, 12, 10, 234), (6, 1, 0, 0), (0, 1, 0, 10), (13, 3, 224, 0), (3, 0, 2, 0), (19, 12, 13, 237), (1, 1, 250, 32), (8, 2, 0, 0), (3, 0, 2, 0), (21, 12, 8, 26), (3, 0, 2, 0), (18, 12, 11, 224), (26, 0, 0, 0), (10, 0, 0, 0), (8, 0, 0, 0), (1, 1, 252, 96), (8, 1, 0, 0), (15, 0, 227, 0), (16, 0, 227, 0)]),
  (224, 1, [(1, 1, 254, (-1)), (16, 0, 227, 0)]),
  (227, 1, [(23, 12, 13, 237), (3, 0, 2, 0), (11, 0, 0, 0), (18, 12, 11, 224), (0, 0, 0, 1), (6, 0, 0, 0), (22, 12, 11, 224), (15, 0, 149, 0), (16, 0, 149, 0)]),
  (243, 1, [(3, 0, 2, 0), (18, 12, 12, 247), (0, 0, 0, 2), (13, 1, 335, 0), (3, 0, 2, 0), (18, 12, 11, 224), (3, 0, 2, 0), (18, 12, 9, 214), (13, 3, 335, 0), (3, 0, 2, 0), (21, 12, 8, 26), (3, 0, 2, 0), (18, 12, 11, 224), (26, 0, 0, 0), (39, 10, 218, 244), (12, 0, 335, 0), (3, 0, 2, 0), (3, 0, 2, 0), (19, 12, 13, 237), (1, 1, 256, 1000000), (9, 0, 0, 0), (12, 5, 296, 0), (3, 0, 2, 0), (19, 12, 13, 237), (15, 0, 319, 0), (16, 0, 319, 0)]),
  (296, 1, [(3, 0, 2, 0), (19, 12, 13, 237), (1, 1, 258, 10), (8, 2, 0, 0), (3, 0, 2, 0), (21, 12, 8, 26), (3, 0, 2, 0), (18, 12, 11, 224), (26, 0, 0, 0), (10, 0, 0, 0), (8, 0, 0, 0), (1, 1, 260, 48), (8, 1, 0, 0), (16, 0, 319, 0)]),
  (319, 1, [(23, 12, 13, 237), (3, 0, 2, 0), (11, 0, 0, 0), (18, 12, 11, 224), (0, 0, 0, 1), (6, 0, 0, 0), (22, 12, 11, 224), (15, 0, 243, 0), (16, 0, 243, 0)]),
  (335, 0, [(42, 0, 0, 0)])]
def k_X12_isWord : List (Nat × Nat × List Ins) := [(0, 3, [(3, 0, 2, 0), (18, 12, 12, 247), (0, 0, 0, 1), (13, 1, 21, 0), (3, 0, 2, 0), (19, 12, 13, 237), (3, 1, 1, 0), (9, 0, 0, 0), (12, 1, 21, 0), (0, 0, 0, 1), (15, 0, 22, 0), (58, 0, 0, 0)]),
  (21, 0, [(0, 0, 0, 0), (58, 0, 0, 0)])]
def k_X12_isSign : List (Nat × Nat × List Ins) := [(0, 3, [(3, 0, 2, 0), (18, 12, 12, 247), (0, 0, 0, 3), (13, 1, 22, 0), (3, 0, 2, 0), (19, 12, 13, 237), (3, 1, 0, 0), (10, 0, 0, 0), (9, 0, 0, 0), (12, 1, 22, 0), (0, 0, 0, 1), (15, 0, 23, 0), (58, 0, 0, 0)]),
  (22, 0, [(0, 0, 0, 0), (58, 0, 0, 0)])]
def k_X12_must : List (Nat × Nat × List Ins) := [(0, 3, [(3, 0, 2, 0), (20, 12, 15, 227), (12, 1, 24, 0), (3, 1, 0, 0), (12, 1, 24, 0), (3, 0, 2, 0), (0, 0, 0, 1), (24, 12, 15, 227), (3, 0, 2, 0), (3, 0, 2, 0), (18, 12, 10, 234), (22, 12, 14, 29), (16, 0, 24, 0)]),
  (24, 1, [(3, 0, 2, 0), (20, 12, 15, 227), (12, 1, 35, 0), (3, 0, 2, 0), (39, 22012, 220, 231), (16, 0, 35, 0)]),
  (35, 0, [(42, 0, 0, 0)])]
def k_X12_number : List (Nat × Nat × List Ins) := [(0, 11, [(3, 0, 2, 0), (19, 12, 13, 237), (48, 0, 0, 0), (4, 5, 0, 0), (3, 0, 2, 0), (3, 0, 2, 0), (18, 12, 12, 247), (0, 0, 0, 2), (13, 1, 32, 0), (3, 0, 2, 0), (19, 12, 13, 237), (3, 1, 1, 0), (3, 3, 1, 0), (39, 30, 186, 160), (12, 0, 32, 0), (0, 0, 0, 1), (15, 0, 33, 0), (39, 22022, 223, 262), (3, 5, 0, 0), (55, 0, 0, 0)]),
  (32, 32, [(0, 0, 0, 0), (39, 22022, 223, 262), (3, 5, 0, 0), (55, 0, 0, 0)])]
def k_X12_fault : List (Nat × Nat × List Ins) := [(0, 1, [(3, 0, 2, 0), (0, 0, 0, 0), (22, 12, 0, 154), (3, 0, 2, 0), (18, 12, 14, 29), (55, 0, 0, 0)])]
def k_X12_emit : List (Nat × Nat × List Ins) := [(0, 7, [(3, 0, 2, 0), (21, 12, 20, 36), (3, 0, 2, 0), (18, 12, 19, 266), (3, 1, 0, 0), (27, 0, 0, 0), (3, 0, 2, 0), (21, 12, 21, 39), (3, 0, 2, 0), (18, 12, 19, 266), (3, 2, 0, 0), (27, 0, 0, 0), (3, 0, 2, 0), (11, 0, 0, 0), (18, 12, 19, 266), (0, 0, 0, 1), (6, 0, 0, 0), (22, 12, 19, 266), (42, 0, 0, 0)])]
def k_X12_push : List (Nat × Nat × List Ins) := [(0, 7, [(3, 0, 2, 0), (21, 12, 23, 42), (3, 0, 2, 0), (18, 12, 25, 269), (3, 1, 0, 0), (27, 0, 0, 0), (3, 0, 2, 0), (21, 12, 24, 45), (3, 0, 2, 0), (18, 12, 25, 269), (3, 2, 0, 0), (27, 0, 0, 0), (3, 0, 2, 0), (11, 0, 0, 0), (18, 12, 25, 269), (0, 0, 0, 1), (6, 0, 0, 0), (22, 12, 25, 269), (42, 0, 0, 0)])]
def k_X12_binds : List (Nat × Nat × List Ins) := [(0, 1, [(3, 0, 0, 0), (0, 1, 0, 30), (13, 2, 10, 0), (0, 0, 0, 0), (15, 0, 62, 0), (55, 0, 0, 0)]),
  (10, 1, [(3, 0, 0, 0), (0, 1, 0, 29), (13, 1, 20, 0), (0, 0, 0, 1), (15, 0, 62, 0), (55, 0, 0, 0)]),
  (20, 1, [(3, 0, 0, 0), (0, 1, 0, 28), (13, 1, 30, 0), (0, 0, 0, 2), (15, 0, 62, 0), (55, 0, 0, 0)]),
  (30, 1, [(3, 0, 0, 0), (0, 1, 0, 27), (13, 1, 40, 0), (0, 0, 0, 3), (15, 0, 62, 0), (55, 0, 0, 0)]),
  (40, 1, [(3, 0, 0, 0), (0, 1, 0, 24), (13, 2, 50, 0), (0, 0, 0, 4), (15, 0, 62, 0), (55, 0, 0, 0)]),
  (50, 1, [(3, 0, 0, 0), (0, 1, 0, 22), (13, 2, 61, 0), (0, 1, 0, 6), (15, 0, 62, 0), (55, 0, 0, 0)]),
  (61, 0, [(0, 0, 0, 5), (55, 0, 0, 0)])]
def k_X12_settle : List (Nat × Nat × List Ins) := [(0, 3, [(3, 0, 2, 0), (18, 12, 25, 269), (12, 5, 101, 0), (3, 0, 2, 0), (21, 12, 23, 42), (3, 0, 2, 0), (18, 12, 25, 269), (0, 0, 0, 1), (6, 1, 0, 0), (26, 0, 0, 0), (39, 10, 228, 272), (3, 1, 0, 0), (13, 2, 101, 0), (3, 0, 2, 0), (11, 0, 0, 0), (18, 12, 25, 269), (0, 0, 0, 1), (6, 1, 0, 0), (22, 12, 25, 269), (3, 0, 2, 0), (21, 12, 23, 42), (3, 0, 2, 0), (18, 12, 25, 269), (26, 0, 0, 0), (0, 1, 0, 28), (13, 0, 63, 0), (3, 0, 2, 0), (21, 12, 23, 42), (3, 0, 2, 0), (18, 12, 25, 269), (26, 0, 0, 0), (0, 1, 0, 29), (13, 1, 84, 0), (16, 0, 63, 0)]),
  (63, 3, [(3, 0, 2, 0), (21, 12, 21, 39), (3, 0, 2, 0), (21, 12, 24, 45), (3, 0, 2, 0), (18, 12, 25, 269), (26, 0, 0, 0), (3, 0, 2, 0), (18, 12, 19, 266), (27, 0, 0, 0), (15, 0, 0, 0), (16, 0, 0, 0)]),
  (84, 3, [(3, 0, 2, 0), (3, 0, 2, 0), (21, 12, 23, 42), (3, 0, 2, 0), (18, 12, 25, 269), (26, 0, 0, 0), (0, 0, 0, 0), (39, 22032, 226, 275), (15, 0, 0, 0), (16, 0, 0, 0)]),
  (101, 0, [(42, 0, 0, 0)])]
def k_X12_inner : List (Nat × Nat × List Ins) := [(0, 1, [(0, 0, 0, (-1)), (4, 1, 0, 0), (0, 0, 0, 0), (4, 2, 0, 0), (16, 0, 4, 0)]),
  (4, 7, [(3, 2, 0, 0), (3, 0, 2, 0), (18, 12, 25, 269), (13, 3, 40, 0), (3, 0, 2, 0), (21, 12, 23, 42), (3, 2, 0, 0), (26, 0, 0, 0), (0, 1, 0, 30), (13, 2, 32, 0), (3, 0, 2, 0), (21, 12, 23, 42), (3, 2, 0, 0), (26, 0, 0, 0), (15, 0, 33, 0), (4, 1, 0, 0), (5, 2, 0, 1), (15, 0, 4, 0), (16, 0, 4, 0)]),
  (32, 7, [(3, 1, 0, 0), (4, 1, 0, 0), (5, 2, 0, 1), (15, 0, 4, 0), (16, 0, 4, 0)]),
  (40, 2, [(3, 1, 0, 0), (55, 0, 0, 0)])]
def k_X12_isCompared : List (Nat × Nat × List Ins) := [(0, 1, [(3, 0, 2, 0), (18, 12, 25, 269), (0, 0, 0, 1), (6, 1, 0, 0), (4, 1, 0, 0), (16, 0, 7, 0)]),
  (7, 3, [(3, 1, 0, 0), (12, 2, 36, 0), (3, 0, 2, 0), (21, 12, 23, 42), (3, 1, 0, 0), (26, 0, 0, 0), (10, 0, 0, 0), (1, 1, 279, 20), (1, 1, 281, 23), (39, 30, 186, 160), (12, 0, 36, 0), (5, 1, 0, (-1)), (15, 0, 7, 0), (16, 0, 7, 0)]),
  (36, 3, [(3, 1, 0, 0), (12, 2, 63, 0), (3, 0, 2, 0), (21, 12, 23, 42), (3, 1, 0, 0), (26, 0, 0, 0), (10, 0, 0, 0), (1, 1, 283, 24), (1, 1, 285, 26), (39, 30, 186, 160), (12, 0, 63, 0), (0, 0, 0, 1), (15, 0, 64, 0), (58, 0, 0, 0)]),
  (63, 0, [(0, 0, 0, 0), (58, 0, 0, 0)])]
def k_X12_partAt : List (Nat × Nat × List Ins) := [(0, 1, [(0, 0, 0, (-1)), (4, 1, 0, 0), (0, 0, 0, 0), (4, 2, 0, 0), (16, 0, 4, 0)]),
  (4, 7, [(3, 2, 0, 0), (0, 1, 0, 10), (13, 3, 37, 0), (3, 0, 2, 0), (3, 0, 2, 0), (21, 12, 27, 68), (3, 2, 0, 0), (26, 1, 0, 0), (39, 22022, 221, 287), (12, 0, 29, 0), (3, 2, 0, 0), (0, 0, 0, 1), (6, 0, 0, 0), (15, 0, 30, 0), (4, 1, 0, 0), (5, 2, 0, 1), (15, 0, 4, 0), (16, 0, 4, 0)]),
  (29, 7, [(3, 1, 0, 0), (4, 1, 0, 0), (5, 2, 0, 1), (15, 0, 4, 0), (16, 0, 4, 0)]),
  (37, 2, [(3, 1, 0, 0), (55, 0, 0, 0)])]
def k_X12_orderPartAt : List (Nat × Nat × List Ins) := [(0, 1, [(0, 0, 0, (-1)), (4, 1, 0, 0), (0, 0, 0, 0), (4, 2, 0, 0), (16, 0, 4, 0)]),
  (4, 7, [(3, 2, 0, 0), (0, 1, 0, 7), (13, 3, 37, 0), (3, 0, 2, 0), (3, 0, 2, 0), (21, 12, 28, 84), (3, 2, 0, 0), (26, 1, 0, 0), (39, 22022, 221, 287), (12, 0, 29, 0), (3, 2, 0, 0), (0, 0, 0, 1), (6, 0, 0, 0), (15, 0, 30, 0), (4, 1, 0, 0), (5, 2, 0, 1), (15, 0, 4, 0), (16, 0, 4, 0)]),
  (29, 7, [(3, 1, 0, 0), (4, 1, 0, 0), (5, 2, 0, 1), (15, 0, 4, 0), (16, 0, 4, 0)]),
  (37, 2, [(3, 1, 0, 0), (55, 0, 0, 0)])]
def k_X12_openBracket : List (Nat × Nat × List Ins) := [(0, 3, [(3, 0, 2, 0), (3, 0, 2, 0), (18, 12, 26, 291), (0, 1, 0, 8), (13, 3, 14, 0), (0, 0, 0, 1), (15, 0, 15, 0), (16, 0, 15, 0)]),
  (14, 3, [(0, 0, 0, 0), (16, 0, 15, 0)]),
  (15, 3, [(39, 22022, 223, 262), (3, 0, 2, 0), (20, 12, 15, 227), (12, 1, 41, 0), (3, 0, 2, 0), (11, 0, 0, 0), (18, 12, 26, 291), (0, 0, 0, 1), (6, 0, 0, 0), (22, 12, 26, 291), (3, 0, 2, 0), (3, 1, 0, 0), (0, 0, 0, 0), (39, 22032, 227, 294), (16, 0, 41, 0)]),
  (41, 0, [(42, 0, 0, 0)])]
def k_X12_leaf : List (Nat × Nat × List Ins) := [(0, 15, [(3, 0, 2, 0), (3, 1, 0, 0), (12, 0, 18, 0), (3, 0, 2, 0), (18, 12, 22, 297), (0, 1, 0, 50), (13, 3, 18, 0), (0, 0, 0, 1), (15, 0, 19, 0), (16, 0, 19, 0)]),
  (18, 13, [(0, 0, 0, 0), (16, 0, 19, 0)]),
  (19, 13, [(39, 22022, 223, 262), (3, 0, 2, 0), (20, 12, 15, 227), (12, 1, 45, 0), (3, 0, 2, 0), (3, 2, 0, 0), (3, 3, 0, 0), (39, 22032, 226, 275), (3, 0, 2, 0), (11, 0, 0, 0), (18, 12, 22, 297), (0, 0, 0, 1), (6, 0, 0, 0), (22, 12, 22, 297), (16, 0, 45, 0)]),
  (45, 0, [(42, 0, 0, 0)])]
def k_X12_readPart : List (Nat × Nat × List Ins) := [(0, 1, [(3, 0, 2, 0), (0, 1, 0, 91), (39, 22022, 222, 300), (12, 0, 17, 0), (3, 0, 2, 0), (0, 1, 0, 31), (39, 22022, 234, 303), (0, 0, 0, 1), (55, 0, 0, 0)]),
  (17, 1, [(3, 0, 2, 0), (20, 12, 16, 306), (12, 0, 31, 0), (3, 0, 2, 0), (39, 22012, 233, 309), (15, 0, 35, 0), (16, 0, 35, 0)]),
  (31, 1, [(3, 0, 2, 0), (39, 22012, 232, 312), (16, 0, 35, 0)]),
  (35, 1, [(4, 1, 0, 0), (3, 0, 2, 0), (18, 12, 12, 247), (0, 0, 0, 2), (13, 1, 59, 0), (3, 0, 2, 0), (19, 12, 13, 237), (1, 1, 315, 1000), (9, 0, 0, 0), (12, 4, 59, 0), (0, 0, 0, 1), (15, 0, 60, 0), (16, 0, 60, 0)]),
  (59, 3, [(0, 0, 0, 0), (16, 0, 60, 0)]),
  (60, 3, [(4, 2, 0, 0), (3, 0, 2, 0), (3, 1, 0, 0), (0, 0, 0, (-1)), (13, 1, 71, 0), (3, 2, 0, 0), (12, 0, 75, 0), (16, 0, 71, 0)]),
  (71, 7, [(0, 0, 0, 1), (15, 0, 76, 0), (16, 0, 76, 0)]),
  (75, 7, [(0, 0, 0, 0), (16, 0, 76, 0)]),
  (76, 7, [(3, 1, 0, 0), (0, 0, 0, (-1)), (13, 1, 85, 0), (0, 0, 0, 0), (15, 0, 86, 0), (16, 0, 86, 0)]),
  (85, 7, [(3, 1, 0, 0), (16, 0, 86, 0)]),
  (86, 7, [(3, 2, 0, 0), (12, 0, 98, 0), (3, 0, 2, 0), (19, 12, 13, 237), (48, 0, 0, 0), (15, 0, 99, 0), (16, 0, 99, 0)]),
  (98, 3, [(0, 0, 0, 0), (16, 0, 99, 0)]),
  (99, 3, [(39, 22042, 235, 317), (3, 0, 2, 0), (20, 12, 16, 306), (12, 0, 143, 0), (3, 1, 0, 0), (0, 1, 0, 7), (13, 1, 143, 0), (3, 0, 2, 0), (20, 12, 15, 227), (12, 1, 143, 0), (3, 0, 2, 0), (18, 12, 19, 266), (0, 0, 0, 1), (6, 1, 0, 0), (4, 3, 0, 0), (3, 0, 2, 0), (21, 12, 21, 39), (3, 3, 0, 0), (3, 0, 2, 0), (1, 0, 0, 0), (1, 1, 168, 11), (39, 22032, 224, 321), (27, 0, 0, 0), (16, 0, 143, 0)]),
  (143, 0, [(0, 0, 0, 3), (55, 0, 0, 0)])]
def k_X12_readPlain : List (Nat × Nat × List Ins) := [(0, 1, [(3, 0, 2, 0), (1, 1, 325, 14836), (39, 22022, 221, 287), (12, 0, 23, 0), (3, 0, 2, 0), (0, 1, 0, 27), (0, 0, 0, 0), (39, 22032, 227, 294), (3, 0, 2, 0), (39, 22012, 220, 231), (0, 0, 0, 0), (55, 0, 0, 0)]),
  (23, 1, [(3, 0, 2, 0), (0, 1, 0, 40), (39, 22022, 222, 300), (12, 0, 40, 0), (3, 0, 2, 0), (0, 1, 0, 30), (39, 22022, 234, 303), (0, 0, 0, 0), (55, 0, 0, 0)]),
  (40, 1, [(3, 0, 2, 0), (39, 22012, 236, 327), (55, 0, 0, 0)])]
def k_X12_behindSum : List (Nat × Nat × List Ins) := [(0, 3, [(3, 0, 2, 0), (0, 1, 0, 43), (39, 22022, 222, 300), (12, 0, 14, 0), (0, 1, 0, 20), (15, 0, 57, 0), (16, 0, 57, 0)]),
  (14, 3, [(3, 0, 2, 0), (0, 1, 0, 45), (39, 22022, 222, 300), (12, 0, 28, 0), (0, 1, 0, 21), (15, 0, 57, 0), (16, 0, 57, 0)]),
  (28, 3, [(3, 0, 2, 0), (0, 1, 0, 42), (39, 22022, 222, 300), (12, 0, 42, 0), (0, 1, 0, 22), (15, 0, 57, 0), (16, 0, 57, 0)]),
  (42, 3, [(3, 0, 2, 0), (0, 1, 0, 47), (39, 22022, 222, 300), (12, 0, 56, 0), (0, 1, 0, 23), (15, 0, 57, 0), (16, 0, 57, 0)]),
  (56, 3, [(0, 0, 0, (-1)), (16, 0, 57, 0)]),
  (57, 3, [(4, 2, 0, 0), (3, 2, 0, 0), (0, 0, 0, (-1)), (13, 0, 83, 0), (3, 0, 2, 0), (3, 2, 0, 0), (39, 10, 228, 272), (39, 22022, 229, 330), (3, 0, 2, 0), (3, 2, 0, 0), (0, 0, 0, 0), (39, 22032, 227, 294), (3, 0, 2, 0), (39, 22012, 220, 231), (0, 0, 0, 1), (55, 0, 0, 0)]),
  (83, 3, [(3, 0, 2, 0), (39, 22012, 230, 333), (4, 3, 0, 0), (3, 3, 0, 0), (0, 1, 0, 31), (13, 1, 138, 0), (3, 0, 2, 0), (3, 0, 2, 0), (0, 1, 0, 93), (39, 22022, 222, 300), (39, 22022, 223, 262), (3, 0, 2, 0), (20, 12, 15, 227), (12, 1, 136, 0), (3, 0, 2, 0), (0, 0, 0, 5), (39, 22022, 229, 330), (3, 0, 2, 0), (11, 0, 0, 0), (18, 12, 25, 269), (0, 0, 0, 1), (6, 1, 0, 0), (22, 12, 25, 269), (3, 0, 2, 0), (11, 0, 0, 0), (18, 12, 26, 291), (0, 0, 0, 1), (6, 1, 0, 0), (22, 12, 26, 291), (16, 0, 136, 0)]),
  (136, 0, [(0, 0, 0, 3), (55, 0, 0, 0)]),
  (138, 11, [(3, 3, 0, 0), (0, 0, 0, (-1)), (13, 1, 149, 0), (3, 1, 0, 0), (12, 1, 149, 0), (0, 0, 0, 4), (55, 0, 0, 0)]),
  (149, 1, [(3, 0, 2, 0), (39, 22012, 231, 336), (12, 0, 158, 0), (0, 0, 0, 2), (55, 0, 0, 0)]),
  (158, 1, [(3, 0, 2, 0), (0, 1, 0, 60), (39, 22022, 222, 300), (12, 0, 172, 0), (0, 1, 0, 24), (15, 0, 188, 0), (16, 0, 188, 0)]),
  (172, 1, [(3, 0, 2, 0), (0, 1, 0, 62), (39, 22022, 222, 300), (12, 0, 186, 0), (0, 1, 0, 25), (15, 0, 188, 0), (16, 0, 188, 0)]),
  (186, 1, [(0, 1, 0, 26), (16, 0, 188, 0)]),
  (188, 1, [(4, 2, 0, 0), (3, 0, 2, 0), (3, 2, 0, 0), (0, 1, 0, 26), (13, 1, 205, 0), (3, 0, 2, 0), (0, 1, 0, 61), (39, 22022, 222, 300), (12, 0, 209, 0), (16, 0, 205, 0)]),
  (205, 5, [(0, 0, 0, 1), (15, 0, 210, 0), (16, 0, 210, 0)]),
  (209, 5, [(0, 0, 0, 0), (16, 0, 210, 0)]),
  (210, 5, [(39, 22022, 223, 262), (3, 0, 2, 0), (20, 12, 15, 227), (12, 1, 231, 0), (3, 0, 2, 0), (0, 0, 0, 5), (39, 22022, 229, 330), (3, 0, 2, 0), (3, 2, 0, 0), (0, 0, 0, 0), (39, 22032, 227, 294), (16, 0, 231, 0)]),
  (231, 0, [(0, 0, 0, 1), (55, 0, 0, 0)])]
def k_X12_behindTest : List (Nat × Nat × List Ins) := [(0, 1, [(3, 0, 2, 0), (1, 1, 340, 1476), (39, 22022, 221, 287), (4, 1, 0, 0), (3, 1, 0, 0), (12, 1, 22, 0), (3, 0, 2, 0), (1, 1, 342, 498), (39, 22022, 221, 287), (12, 0, 76, 0), (16, 0, 22, 0)]),
  (22, 3, [(3, 0, 2, 0), (3, 1, 0, 0), (12, 0, 31, 0), (0, 0, 0, 2), (15, 0, 32, 0), (16, 0, 32, 0)]),
  (31, 3, [(0, 0, 0, 1), (16, 0, 32, 0)]),
  (32, 3, [(39, 22022, 229, 330), (3, 0, 2, 0), (3, 1, 0, 0), (12, 0, 45, 0), (0, 1, 0, 28), (15, 0, 47, 0), (16, 0, 47, 0)]),
  (45, 3, [(0, 1, 0, 29), (16, 0, 47, 0)]),
  (47, 3, [(3, 0, 2, 0), (18, 12, 19, 266), (39, 22032, 227, 294), (3, 0, 2, 0), (3, 1, 0, 0), (12, 0, 64, 0), (0, 1, 0, 28), (15, 0, 66, 0), (0, 0, 0, 0), (39, 22032, 226, 275), (3, 0, 2, 0), (39, 22012, 220, 231), (0, 0, 0, 0), (55, 0, 0, 0)]),
  (64, 1, [(0, 1, 0, 29), (0, 0, 0, 0), (39, 22032, 226, 275), (3, 0, 2, 0), (39, 22012, 220, 231), (0, 0, 0, 0), (55, 0, 0, 0)]),
  (76, 1, [(3, 0, 2, 0), (39, 22012, 230, 333), (0, 0, 0, (-1)), (13, 1, 86, 0), (0, 0, 0, 4), (55, 0, 0, 0)]),
  (86, 1, [(3, 0, 2, 0), (3, 0, 2, 0), (0, 1, 0, 41), (39, 22022, 222, 300), (39, 22022, 223, 262), (3, 0, 2, 0), (20, 12, 15, 227), (12, 1, 128, 0), (3, 0, 2, 0), (0, 0, 0, 1), (39, 22022, 229, 330), (3, 0, 2, 0), (11, 0, 0, 0), (18, 12, 25, 269), (0, 0, 0, 1), (6, 1, 0, 0), (22, 12, 25, 269), (3, 0, 2, 0), (11, 0, 0, 0), (18, 12, 26, 291), (0, 0, 0, 1), (6, 1, 0, 0), (22, 12, 26, 291), (16, 0, 128, 0)]),
  (128, 0, [(0, 0, 0, 2), (55, 0, 0, 0)])]
def k_X12_readExpression : List (Nat × Nat × List Ins) := [(0, 3, [(3, 0, 2, 0), (0, 0, 0, 0), (22, 12, 25, 269), (3, 0, 2, 0), (0, 0, 0, 0), (22, 12, 26, 291), (3, 1, 0, 0), (12, 0, 18, 0), (0, 0, 0, 0), (15, 0, 19, 0), (4, 2, 0, 0), (16, 0, 20, 0)]),
  (18, 3, [(0, 0, 0, 1), (4, 2, 0, 0), (16, 0, 20, 0)]),
  (20, 7, [(3, 0, 2, 0), (20, 12, 15, 227), (12, 1, 76, 0), (3, 2, 0, 0), (0, 0, 0, 4), (13, 0, 76, 0), (3, 2, 0, 0), (12, 1, 43, 0), (3, 0, 2, 0), (39, 22012, 237, 344), (15, 0, 72, 0), (4, 2, 0, 0), (15, 0, 20, 0), (16, 0, 20, 0)]),
  (43, 7, [(3, 2, 0, 0), (0, 0, 0, 1), (13, 1, 55, 0), (3, 0, 2, 0), (39, 22012, 236, 327), (15, 0, 72, 0), (4, 2, 0, 0), (15, 0, 20, 0), (16, 0, 20, 0)]),
  (55, 7, [(3, 2, 0, 0), (0, 0, 0, 3), (13, 1, 68, 0), (3, 0, 2, 0), (3, 1, 0, 0), (39, 22022, 238, 347), (15, 0, 72, 0), (4, 2, 0, 0), (15, 0, 20, 0), (16, 0, 20, 0)]),
  (68, 3, [(3, 0, 2, 0), (39, 22012, 239, 351), (4, 2, 0, 0), (15, 0, 20, 0), (16, 0, 20, 0)]),
  (76, 1, [(3, 0, 2, 0), (0, 0, 0, 1), (39, 22022, 229, 330), (42, 0, 0, 0)])]
def k_X12_readClause : List (Nat × Nat × List Ins) := [(0, 1, [(0, 0, 0, (-1)), (4, 1, 0, 0), (0, 0, 0, 0), (4, 2, 0, 0), (16, 0, 4, 0)]),
  (4, 7, [(3, 2, 0, 0), (0, 0, 0, 5), (13, 3, 34, 0), (3, 0, 2, 0), (3, 0, 2, 0), (21, 12, 29, 97), (3, 2, 0, 0), (26, 1, 0, 0), (39, 22022, 221, 287), (12, 0, 26, 0), (3, 2, 0, 0), (15, 0, 27, 0), (4, 1, 0, 0), (5, 2, 0, 1), (15, 0, 4, 0), (16, 0, 4, 0)]),
  (26, 7, [(3, 1, 0, 0), (4, 1, 0, 0), (5, 2, 0, 1), (15, 0, 4, 0), (16, 0, 4, 0)]),
  (34, 3, [(3, 0, 2, 0), (3, 1, 0, 0), (0, 0, 0, (-1)), (13, 0, 53, 0), (3, 0, 2, 0), (18, 12, 17, 354), (0, 1, 0, 12), (13, 3, 53, 0), (0, 0, 0, 1), (15, 0, 54, 0), (16, 0, 54, 0)]),
  (53, 3, [(0, 0, 0, 0), (16, 0, 54, 0)]),
  (54, 3, [(39, 22022, 223, 262), (3, 0, 2, 0), (20, 12, 15, 227), (12, 0, 65, 0), (42, 0, 0, 0)]),
  (65, 3, [(0, 1, 0, 8), (3, 0, 2, 0), (18, 12, 17, 354), (6, 2, 0, 0), (4, 2, 0, 0), (0, 0, 0, 0), (4, 3, 0, 0), (16, 0, 75, 0)]),
  (75, 15, [(3, 3, 0, 0), (0, 1, 0, 8), (13, 3, 96, 0), (3, 0, 2, 0), (21, 12, 18, 33), (3, 2, 0, 0), (3, 3, 0, 0), (6, 0, 0, 0), (0, 0, 0, 0), (27, 0, 0, 0), (5, 3, 0, 1), (15, 0, 75, 0), (16, 0, 75, 0)]),
  (96, 7, [(3, 0, 2, 0), (21, 12, 18, 33), (3, 2, 0, 0), (3, 1, 0, 0), (27, 0, 0, 0), (3, 0, 2, 0), (11, 0, 0, 0), (18, 12, 17, 354), (0, 0, 0, 1), (6, 0, 0, 0), (22, 12, 17, 354), (3, 0, 2, 0), (21, 12, 18, 33), (3, 2, 0, 0), (0, 0, 0, 3), (6, 0, 0, 0), (3, 0, 2, 0), (18, 12, 19, 266), (27, 0, 0, 0), (3, 1, 0, 0), (0, 0, 0, 4), (13, 0, 135, 0), (3, 0, 2, 0), (0, 0, 0, 0), (39, 22022, 240, 357), (16, 0, 135, 0)]),
  (135, 5, [(3, 0, 2, 0), (21, 12, 18, 33), (3, 2, 0, 0), (0, 0, 0, 4), (6, 0, 0, 0), (3, 0, 2, 0), (18, 12, 19, 266), (27, 0, 0, 0), (3, 0, 2, 0), (21, 12, 18, 33), (3, 2, 0, 0), (0, 0, 0, 5), (6, 0, 0, 0), (3, 0, 2, 0), (18, 12, 19, 266), (27, 0, 0, 0), (3, 0, 2, 0), (20, 12, 15, 227), (12, 1, 185, 0), (3, 0, 2, 0), (1, 1, 360, 294), (39, 22022, 221, 287), (12, 0, 185, 0), (3, 0, 2, 0), (39, 22012, 220, 231), (3, 0, 2, 0), (0, 0, 0, 1), (39, 22022, 240, 357), (16, 0, 185, 0)]),
  (185, 5, [(3, 0, 2, 0), (21, 12, 18, 33), (3, 2, 0, 0), (0, 1, 0, 6), (6, 0, 0, 0), (3, 0, 2, 0), (18, 12, 19, 266), (27, 0, 0, 0), (42, 0, 0, 0)])]
def k_X12_beginText : List (Nat × Nat × List Ins) := [(0, 3, [(3, 0, 2, 0), (3, 1, 0, 0), (24, 12, 16, 306), (3, 0, 2, 0), (39, 22012, 219, 362), (3, 0, 2, 0), (0, 0, 0, 0), (22, 12, 17, 354), (3, 0, 2, 0), (0, 0, 0, 0), (22, 12, 19, 266), (3, 0, 2, 0), (0, 0, 0, 0), (22, 12, 22, 297), (42, 0, 0, 0)])]
def k_X12_endText : List (Nat × Nat × List Ins) := [(0, 1, [(3, 0, 2, 0), (20, 12, 15, 227), (12, 1, 19, 0), (3, 0, 2, 0), (18, 12, 12, 247), (12, 0, 19, 0), (3, 0, 2, 0), (0, 0, 0, 0), (39, 22022, 223, 262), (16, 0, 19, 0)]),
  (19, 1, [(3, 0, 2, 0), (0, 0, 0, 0), (24, 12, 16, 306), (3, 0, 2, 0), (0, 0, 0, 0), (22, 12, 9, 214), (42, 0, 0, 0)])]
def k_X12_law : List (Nat × Nat × List Ins) := [(0, 1, [(3, 0, 2, 0), (0, 0, 0, 0), (22, 12, 0, 154), (3, 0, 2, 0), (21, 12, 3, 13), (0, 0, 0, 1), (26, 0, 0, 0), (0, 1, 0, 6), (13, 1, 28, 0), (3, 0, 2, 0), (0, 0, 0, 0), (22, 12, 9, 214), (3, 0, 2, 0), (0, 1, 0, (-5)), (39, 22022, 190, 164), (55, 0, 0, 0)]),
  (28, 1, [(3, 0, 2, 0), (0, 0, 0, 0), (39, 22022, 242, 365), (3, 0, 2, 0), (39, 22012, 241, 368), (16, 0, 37, 0)]),
  (37, 1, [(3, 0, 2, 0), (20, 12, 15, 227), (12, 1, 64, 0), (3, 0, 2, 0), (0, 1, 0, 59), (39, 22022, 222, 300), (12, 0, 64, 0), (3, 0, 2, 0), (39, 22012, 220, 231), (3, 0, 2, 0), (39, 22012, 241, 368), (15, 0, 37, 0), (16, 0, 37, 0)]),
  (64, 1, [(3, 0, 2, 0), (39, 22012, 243, 371), (3, 0, 2, 0), (20, 12, 15, 227), (12, 0, 82, 0), (3, 0, 2, 0), (0, 1, 0, (-6)), (39, 22022, 190, 164), (55, 0, 0, 0)]),
  (82, 1, [(0, 2, 0, 380), (0, 2, 0, 900), (3, 0, 2, 0), (21, 12, 3, 13), (0, 0, 0, 1), (26, 0, 0, 0), (6, 2, 0, 0), (6, 0, 0, 0), (4, 1, 0, 0), (3, 0, 2, 0), (21, 12, 3, 13), (3, 1, 0, 0), (0, 0, 0, 1), (6, 0, 0, 0), (3, 0, 2, 0), (18, 12, 17, 354), (27, 0, 0, 0), (0, 0, 0, 0), (4, 2, 0, 0), (16, 0, 111, 0)]),
  (111, 7, [(3, 2, 0, 0), (0, 1, 0, 8), (3, 0, 2, 0), (18, 12, 17, 354), (6, 2, 0, 0), (13, 3, 144, 0), (3, 0, 2, 0), (21, 12, 3, 13), (3, 1, 0, 0), (0, 0, 0, 2), (6, 0, 0, 0), (3, 2, 0, 0), (6, 0, 0, 0), (3, 0, 2, 0), (21, 12, 18, 33), (3, 2, 0, 0), (26, 0, 0, 0), (27, 0, 0, 0), (5, 2, 0, 1), (15, 0, 111, 0), (16, 0, 111, 0)]),
  (144, 3, [(0, 0, 0, 0), (4, 2, 0, 0), (16, 0, 146, 0)]),
  (146, 7, [(3, 2, 0, 0), (3, 0, 2, 0), (18, 12, 19, 266), (13, 3, 200, 0), (3, 0, 2, 0), (21, 12, 3, 13), (3, 1, 0, 0), (0, 1, 0, 98), (6, 0, 0, 0), (0, 0, 0, 2), (3, 2, 0, 0), (6, 2, 0, 0), (6, 0, 0, 0), (3, 0, 2, 0), (21, 12, 20, 36), (3, 2, 0, 0), (26, 0, 0, 0), (27, 0, 0, 0), (3, 0, 2, 0), (21, 12, 3, 13), (3, 1, 0, 0), (0, 1, 0, 98), (6, 0, 0, 0), (0, 0, 0, 2), (3, 2, 0, 0), (6, 2, 0, 0), (6, 0, 0, 0), (0, 0, 0, 1), (6, 0, 0, 0), (3, 0, 2, 0), (21, 12, 21, 39), (3, 2, 0, 0), (26, 0, 0, 0), (27, 0, 0, 0), (5, 2, 0, 1), (15, 0, 146, 0), (16, 0, 146, 0)]),
  (200, 1, [(3, 0, 2, 0), (21, 12, 3, 13), (0, 0, 0, 1), (50, 0, 0, 0), (26, 0, 0, 0), (0, 0, 0, 1), (6, 0, 0, 0), (27, 0, 0, 0), (3, 0, 2, 0), (3, 0, 2, 0), (21, 12, 3, 13), (0, 0, 0, 1), (26, 0, 0, 0), (0, 0, 0, 1), (6, 1, 0, 0), (39, 22022, 190, 164), (55, 0, 0, 0)])]
def k_X12_force : List (Nat × Nat × List Ins) := [(0, 3, [(3, 0, 2, 0), (0, 0, 0, 0), (22, 12, 0, 154), (3, 1, 0, 0), (0, 0, 0, (-1)), (13, 0, 28, 0), (3, 1, 0, 0), (10, 0, 0, 0), (1, 0, 0, 0), (3, 0, 2, 0), (21, 12, 3, 13), (0, 0, 0, 1), (26, 0, 0, 0), (10, 0, 0, 0), (1, 0, 0, 1), (8, 1, 0, 0), (39, 30, 186, 160), (12, 0, 37, 0), (16, 0, 28, 0)]),
  (28, 3, [(3, 0, 2, 0), (0, 0, 0, 2), (3, 1, 0, 0), (39, 22032, 191, 189), (15, 0, 43, 0), (55, 0, 0, 0)]),
  (37, 1, [(3, 0, 2, 0), (0, 1, 0, (-2)), (39, 22022, 190, 164), (55, 0, 0, 0)])]
def k_X12_reckon : List (Nat × Nat × List Ins) := [(0, 23, [(3, 1, 0, 0), (17, 7, 0, 39)]),
  (40, 20, [(3, 2, 1, 0), (3, 4, 1, 0), (8, 0, 0, 0), (56, 0, 0, 0)]),
  (45, 20, [(3, 2, 1, 0), (3, 4, 1, 0), (8, 1, 0, 0), (56, 0, 0, 0)]),
  (50, 20, [(3, 2, 1, 0), (3, 4, 1, 0), (8, 2, 0, 0), (56, 0, 0, 0)]),
  (55, 21, [(3, 0, 2, 0), (3, 4, 1, 0), (1, 0, 0, 0), (9, 0, 0, 0), (12, 1, 67, 0), (0, 0, 0, 1), (15, 0, 68, 0), (16, 0, 68, 0)]),
  (67, 21, [(0, 0, 0, 0), (16, 0, 68, 0)]),
  (68, 21, [(24, 12, 34, 374), (3, 0, 2, 0), (20, 12, 34, 374), (12, 0, 82, 0), (1, 0, 0, 0), (15, 0, 86, 0), (56, 0, 0, 0)]),
  (82, 20, [(3, 2, 1, 0), (3, 4, 1, 0), (45, 0, 0, 0), (56, 0, 0, 0)]),
  (87, 20, [(3, 2, 1, 0), (3, 4, 1, 0), (9, 0, 0, 0), (12, 3, 98, 0), (1, 0, 0, 1), (15, 0, 99, 0), (56, 0, 0, 0)]),
  (98, 0, [(1, 0, 0, 0), (56, 0, 0, 0)]),
  (100, 20, [(3, 2, 1, 0), (3, 4, 1, 0), (9, 0, 0, 0), (12, 5, 111, 0), (1, 0, 0, 1), (15, 0, 112, 0), (56, 0, 0, 0)]),
  (111, 0, [(1, 0, 0, 0), (56, 0, 0, 0)]),
  (113, 20, [(3, 2, 1, 0), (3, 4, 1, 0), (9, 0, 0, 0), (12, 1, 124, 0), (1, 0, 0, 1), (15, 0, 125, 0), (56, 0, 0, 0)]),
  (124, 0, [(1, 0, 0, 0), (56, 0, 0, 0)])]
def k_X12_reckonAll : List (Nat × Nat × List Ins) := [(0, 7, [(3, 0, 2, 0), (0, 0, 0, 0), (24, 12, 34, 374), (0, 0, 0, 0), (4, 3, 0, 0), (3, 1, 0, 0), (4, 4, 0, 0), (16, 0, 10, 0)]),
  (10, 29, [(3, 4, 0, 0), (3, 2, 0, 0), (13, 3, 313, 0), (3, 0, 2, 0), (20, 12, 34, 374), (12, 1, 313, 0), (3, 0, 2, 0), (20, 12, 16, 306), (12, 0, 40, 0), (3, 0, 2, 0), (21, 12, 20, 36), (3, 4, 0, 0), (26, 0, 0, 0), (15, 0, 57, 0), (16, 0, 57, 0)]),
  (40, 29, [(3, 0, 2, 0), (21, 12, 3, 13), (3, 0, 2, 0), (18, 12, 30, 377), (0, 1, 0, 98), (6, 0, 0, 0), (0, 0, 0, 2), (3, 4, 0, 0), (6, 2, 0, 0), (6, 0, 0, 0), (26, 0, 0, 0), (16, 0, 57, 0)]),
  (57, 29, [(4, 5, 0, 0), (3, 0, 2, 0), (20, 12, 16, 306), (12, 0, 76, 0), (3, 0, 2, 0), (21, 12, 21, 39), (3, 4, 0, 0), (26, 0, 0, 0), (15, 0, 95, 0), (16, 0, 95, 0)]),
  (76, 61, [(3, 0, 2, 0), (21, 12, 3, 13), (3, 0, 2, 0), (18, 12, 30, 377), (0, 1, 0, 98), (6, 0, 0, 0), (0, 0, 0, 2), (3, 4, 0, 0), (6, 2, 0, 0), (6, 0, 0, 0), (0, 0, 0, 1), (6, 0, 0, 0), (26, 0, 0, 0), (16, 0, 95, 0)]),
  (95, 61, [(4, 6, 0, 0), (5, 4, 0, 1), (3, 5, 0, 0), (0, 1, 0, 20), (13, 3, 171, 0), (3, 0, 2, 0), (21, 12, 33, 106), (3, 3, 0, 0), (3, 5, 0, 0), (12, 1, 123, 0), (3, 6, 0, 0), (10, 0, 0, 0), (15, 0, 164, 0), (52, 0, 0, 0), (5, 3, 0, 1), (15, 0, 310, 0), (15, 0, 10, 0), (16, 0, 10, 0)]),
  (123, 125, [(3, 0, 2, 0), (20, 12, 16, 306), (12, 1, 140, 0), (3, 0, 2, 0), (21, 12, 31, 100), (3, 5, 0, 0), (26, 1, 0, 0), (15, 0, 164, 0), (52, 0, 0, 0), (5, 3, 0, 1), (15, 0, 310, 0), (15, 0, 10, 0), (16, 0, 10, 0)]),
  (140, 125, [(3, 5, 0, 0), (0, 1, 0, 7), (13, 1, 157, 0), (3, 0, 2, 0), (3, 6, 0, 0), (39, 22022, 203, 380), (10, 0, 0, 0), (15, 0, 164, 0), (52, 0, 0, 0), (5, 3, 0, 1), (15, 0, 310, 0), (15, 0, 10, 0), (16, 0, 10, 0)]),
  (157, 61, [(3, 0, 2, 0), (21, 12, 32, 103), (3, 5, 0, 0), (26, 1, 0, 0), (52, 0, 0, 0), (5, 3, 0, 1), (15, 0, 310, 0), (15, 0, 10, 0), (16, 0, 10, 0)]),
  (171, 125, [(3, 5, 0, 0), (0, 1, 0, 27), (13, 3, 248, 0), (5, 3, 0, (-1)), (3, 0, 2, 0), (21, 12, 33, 106), (3, 3, 0, 0), (0, 0, 0, 1), (6, 1, 0, 0), (3, 0, 2, 0), (3, 5, 0, 0), (3, 0, 2, 0), (21, 12, 33, 106), (3, 3, 0, 0), (0, 0, 0, 1), (6, 1, 0, 0), (26, 1, 0, 0), (3, 0, 2, 0), (21, 12, 33, 106), (3, 3, 0, 0), (26, 1, 0, 0), (39, 22042, 246, 383), (52, 0, 0, 0), (3, 0, 2, 0), (3, 0, 2, 0), (20, 12, 34, 374), (12, 1, 237, 0), (3, 0, 2, 0), (21, 12, 33, 106), (3, 3, 0, 0), (0, 0, 0, 1), (6, 1, 0, 0), (26, 1, 0, 0), (1, 1, 387, (-1000000000)), (1, 1, 389, 1000000000), (39, 30, 186, 160), (12, 1, 241, 0), (16, 0, 237, 0)]),
  (237, 29, [(0, 0, 0, 1), (15, 0, 242, 0), (24, 12, 34, 374), (15, 0, 310, 0), (15, 0, 10, 0), (16, 0, 10, 0)]),
  (241, 29, [(0, 0, 0, 0), (24, 12, 34, 374), (15, 0, 310, 0), (15, 0, 10, 0), (16, 0, 10, 0)]),
  (248, 125, [(3, 5, 0, 0), (0, 1, 0, 27), (13, 1, 276, 0), (3, 0, 2, 0), (21, 12, 33, 106), (3, 3, 0, 0), (0, 0, 0, 1), (6, 1, 0, 0), (1, 0, 0, 1), (3, 0, 2, 0), (21, 12, 33, 106), (3, 3, 0, 0), (0, 0, 0, 1), (6, 1, 0, 0), (26, 1, 0, 0), (8, 1, 0, 0), (52, 0, 0, 0), (15, 0, 310, 0), (15, 0, 10, 0), (16, 0, 10, 0)]),
  (276, 125, [(3, 0, 2, 0), (21, 12, 33, 106), (3, 3, 0, 0), (0, 0, 0, 1), (6, 1, 0, 0), (26, 1, 0, 0), (3, 5, 0, 0), (0, 1, 0, 28), (13, 1, 295, 0), (1, 0, 0, 0), (15, 0, 296, 0), (16, 0, 296, 0)]),
  (295, 93, [(1, 0, 0, 1), (16, 0, 296, 0)]),
  (296, 93, [(9, 0, 0, 0), (12, 1, 307, 0), (3, 6, 0, 0), (4, 4, 0, 0), (15, 0, 310, 0), (15, 0, 10, 0), (16, 0, 10, 0)]),
  (307, 29, [(5, 3, 0, (-1)), (15, 0, 10, 0), (16, 0, 10, 0)]),
  (313, 9, [(3, 0, 2, 0), (3, 3, 0, 0), (12, 5, 327, 0), (3, 0, 2, 0), (21, 12, 33, 106), (0, 0, 0, 0), (26, 1, 0, 0), (15, 0, 328, 0), (23, 12, 35, 391), (42, 0, 0, 0)]),
  (327, 0, [(1, 0, 0, 0), (23, 12, 35, 391), (42, 0, 0, 0)])]
def k_X12_isSo : List (Nat × Nat × List Ins) := [(0, 3, [(3, 0, 2, 0), (21, 12, 3, 13), (3, 1, 0, 0), (0, 0, 0, 5), (6, 0, 0, 0), (26, 0, 0, 0), (3, 0, 2, 0), (21, 12, 3, 13), (3, 1, 0, 0), (0, 1, 0, 6), (6, 0, 0, 0), (26, 0, 0, 0), (13, 3, 59, 0), (3, 0, 2, 0), (3, 0, 2, 0), (21, 12, 3, 13), (3, 1, 0, 0), (0, 0, 0, 5), (6, 0, 0, 0), (26, 0, 0, 0), (3, 0, 2, 0), (21, 12, 3, 13), (3, 1, 0, 0), (0, 1, 0, 6), (6, 0, 0, 0), (26, 0, 0, 0), (39, 22032, 247, 394), (3, 0, 2, 0), (20, 12, 34, 374), (12, 1, 57, 0), (3, 0, 2, 0), (19, 12, 35, 391), (1, 0, 0, 0), (9, 0, 0, 0), (12, 1, 59, 0), (16, 0, 57, 0)]),
  (57, 0, [(0, 0, 0, 0), (58, 0, 0, 0)]),
  (59, 3, [(3, 0, 2, 0), (21, 12, 3, 13), (3, 1, 0, 0), (26, 0, 0, 0), (0, 0, 0, 4), (13, 0, 110, 0), (3, 0, 2, 0), (3, 0, 2, 0), (21, 12, 3, 13), (3, 1, 0, 0), (0, 0, 0, 3), (6, 0, 0, 0), (26, 0, 0, 0), (3, 0, 2, 0), (21, 12, 3, 13), (3, 1, 0, 0), (0, 0, 0, 4), (6, 0, 0, 0), (26, 0, 0, 0), (39, 22032, 247, 394), (3, 0, 2, 0), (3, 0, 2, 0), (19, 12, 35, 391), (23, 12, 36, 397), (3, 0, 2, 0), (20, 12, 34, 374), (12, 1, 108, 0), (0, 0, 0, 1), (15, 0, 109, 0), (58, 0, 0, 0)]),
  (108, 0, [(0, 0, 0, 0), (58, 0, 0, 0)]),
  (110, 0, [(0, 0, 0, 1), (58, 0, 0, 0)])]
def k_X12_tells : List (Nat × Nat × List Ins) := [(0, 7, [(3, 0, 2, 0), (21, 12, 3, 13), (0, 0, 0, 2), (26, 0, 0, 0), (0, 0, 0, (-1)), (13, 1, 12, 0), (3, 2, 1, 0), (56, 0, 0, 0)]),
  (12, 7, [(3, 0, 2, 0), (0, 2, 0, 380), (0, 2, 0, 900), (3, 0, 2, 0), (21, 12, 3, 13), (0, 0, 0, 2), (26, 0, 0, 0), (6, 2, 0, 0), (6, 0, 0, 0), (22, 12, 30, 377), (3, 2, 1, 0), (4, 4, 1, 0), (0, 0, 0, 0), (4, 6, 0, 0), (16, 0, 36, 0)]),
  (36, 83, [(3, 6, 0, 0), (3, 0, 2, 0), (21, 12, 3, 13), (3, 0, 2, 0), (18, 12, 30, 377), (0, 0, 0, 1), (6, 0, 0, 0), (26, 0, 0, 0), (13, 3, 107, 0), (3, 0, 2, 0), (18, 12, 30, 377), (0, 0, 0, 2), (6, 0, 0, 0), (0, 1, 0, 8), (3, 6, 0, 0), (6, 2, 0, 0), (6, 0, 0, 0), (4, 7, 0, 0), (3, 0, 2, 0), (21, 12, 3, 13), (3, 7, 0, 0), (26, 0, 0, 0), (3, 1, 0, 0), (13, 1, 101, 0), (3, 0, 2, 0), (3, 7, 0, 0), (39, 22022, 248, 400), (12, 0, 101, 0), (3, 1, 0, 0), (0, 0, 0, 4), (13, 1, 95, 0), (1, 0, 0, 1), (15, 0, 99, 0), (4, 4, 1, 0), (16, 0, 101, 0)]),
  (95, 67, [(3, 0, 2, 0), (19, 12, 36, 397), (4, 4, 1, 0), (16, 0, 101, 0)]),
  (101, 83, [(5, 6, 0, 1), (15, 0, 36, 0), (16, 0, 36, 0)]),
  (107, 16, [(3, 4, 1, 0), (56, 0, 0, 0)])]
def k_X12_setNone : List (Nat × Nat × List Ins) := [(0, 3, [(0, 0, 0, 0), (4, 2, 0, 0), (16, 0, 2, 0)]),
  (2, 7, [(3, 2, 0, 0), (0, 1, 0, 13), (13, 3, 23, 0), (3, 0, 2, 0), (21, 12, 31, 100), (3, 2, 0, 0), (1, 1, 254, (-1)), (52, 0, 0, 0), (5, 2, 0, 1), (15, 0, 2, 0), (16, 0, 2, 0)]),
  (23, 3, [(3, 0, 2, 0), (21, 12, 31, 100), (0, 0, 0, 3), (3, 1, 0, 0), (10, 0, 0, 0), (52, 0, 0, 0), (3, 0, 2, 0), (21, 12, 31, 100), (0, 1, 0, 6), (3, 0, 2, 0), (21, 12, 3, 13), (0, 1, 0, 9), (26, 0, 0, 0), (10, 0, 0, 0), (52, 0, 0, 0), (42, 0, 0, 0)])]
def k_X12_ageIn : List (Nat × Nat × List Ins) := [(0, 3, [(3, 0, 2, 0), (21, 12, 3, 13), (0, 1, 0, 7), (26, 0, 0, 0), (3, 0, 2, 0), (21, 12, 3, 13), (0, 1, 0, 8), (26, 0, 0, 0), (0, 0, 0, 2), (6, 1, 0, 0), (3, 1, 0, 0), (6, 2, 0, 0), (6, 0, 0, 0), (10, 0, 0, 0), (0, 0, 0, 0), (0, 2, 0, 199), (39, 30, 189, 403), (55, 0, 0, 0)])]
def k_X12_looksOf : List (Nat × Nat × List Ins) := [(0, 7, [(0, 0, 0, (-1)), (4, 3, 0, 0), (0, 0, 0, (-1)), (4, 4, 0, 0), (0, 0, 0, 0), (4, 5, 0, 0), (16, 0, 8, 0)]),
  (8, 63, [(3, 5, 0, 0), (3, 0, 2, 0), (21, 12, 3, 13), (0, 0, 0, 3), (26, 0, 0, 0), (13, 3, 94, 0), (0, 2, 0, 258), (0, 0, 0, 3), (3, 5, 0, 0), (6, 2, 0, 0), (6, 0, 0, 0), (4, 6, 0, 0), (3, 0, 2, 0), (21, 12, 3, 13), (3, 6, 0, 0), (26, 0, 0, 0), (3, 1, 0, 0), (13, 1, 88, 0), (3, 0, 2, 0), (21, 12, 3, 13), (3, 6, 0, 0), (0, 0, 0, 1), (6, 0, 0, 0), (26, 0, 0, 0), (3, 2, 0, 0), (13, 4, 88, 0), (3, 0, 2, 0), (21, 12, 3, 13), (3, 6, 0, 0), (0, 0, 0, 1), (6, 0, 0, 0), (26, 0, 0, 0), (3, 4, 0, 0), (13, 2, 88, 0), (3, 0, 2, 0), (21, 12, 3, 13), (3, 6, 0, 0), (0, 0, 0, 1), (6, 0, 0, 0), (26, 0, 0, 0), (4, 4, 0, 0), (3, 0, 2, 0), (21, 12, 3, 13), (3, 6, 0, 0), (0, 0, 0, 2), (6, 0, 0, 0), (26, 0, 0, 0), (4, 3, 0, 0), (16, 0, 88, 0)]),
  (88, 63, [(5, 5, 0, 1), (15, 0, 8, 0), (16, 0, 8, 0)]),
  (94, 15, [(3, 3, 0, 0), (0, 0, 0, (-1)), (13, 0, 101, 0), (3, 3, 0, 0), (55, 0, 0, 0)]),
  (101, 7, [(3, 0, 2, 0), (3, 2, 0, 0), (39, 22022, 250, 407), (3, 0, 2, 0), (21, 12, 31, 100), (0, 0, 0, 1), (3, 1, 0, 0), (10, 0, 0, 0), (52, 0, 0, 0), (3, 0, 2, 0), (21, 12, 31, 100), (0, 0, 0, 2), (3, 0, 2, 0), (3, 2, 0, 0), (39, 22022, 251, 410), (10, 0, 0, 0), (52, 0, 0, 0), (3, 0, 2, 0), (0, 0, 0, 0), (3, 0, 2, 0), (3, 2, 0, 0), (39, 22022, 251, 410), (0, 1, 0, 10), (43, 0, 0, 0), (10, 0, 0, 0), (0, 0, 0, 0), (0, 1, 0, 9), (39, 30, 189, 403), (10, 0, 0, 0), (39, 22032, 249, 413), (0, 0, 0, 0), (0, 1, 0, 9), (39, 30, 189, 403), (55, 0, 0, 0)])]
def k_X12_letsOf : List (Nat × Nat × List Ins) := [(0, 7, [(3, 0, 2, 0), (3, 2, 0, 0), (39, 22022, 250, 407), (3, 0, 2, 0), (21, 12, 31, 100), (0, 0, 0, 1), (3, 1, 0, 0), (10, 0, 0, 0), (52, 0, 0, 0), (3, 0, 2, 0), (21, 12, 31, 100), (0, 0, 0, 2), (3, 0, 2, 0), (3, 2, 0, 0), (39, 22022, 251, 410), (10, 0, 0, 0), (52, 0, 0, 0), (3, 0, 2, 0), (0, 0, 0, 1), (1, 1, 170, 9), (39, 22032, 249, 413), (0, 0, 0, 0), (0, 1, 0, 9), (39, 30, 189, 403), (55, 0, 0, 0)])]
def k_X12_setPainter : List (Nat × Nat × List Ins) := [(0, 7, [(3, 0, 2, 0), (3, 2, 0, 0), (39, 22022, 250, 407), (3, 0, 2, 0), (21, 12, 31, 100), (0, 0, 0, 2), (3, 0, 2, 0), (3, 2, 0, 0), (39, 22022, 251, 410), (10, 0, 0, 0), (52, 0, 0, 0), (3, 0, 2, 0), (21, 12, 31, 100), (0, 0, 0, 4), (3, 1, 0, 0), (10, 0, 0, 0), (52, 0, 0, 0), (3, 0, 2, 0), (21, 12, 31, 100), (0, 0, 0, 5), (3, 0, 2, 0), (21, 12, 3, 13), (0, 2, 0, 233), (0, 0, 0, 5), (3, 1, 0, 0), (6, 2, 0, 0), (6, 0, 0, 0), (0, 0, 0, 1), (6, 0, 0, 0), (26, 0, 0, 0), (10, 0, 0, 0), (52, 0, 0, 0), (42, 0, 0, 0)])]
def k_X12_asksOf : List (Nat × Nat × List Ins) := [(0, 7, [(3, 0, 2, 0), (3, 1, 0, 0), (3, 2, 0, 0), (39, 22032, 254, 417), (3, 0, 2, 0), (0, 0, 0, 2), (3, 0, 2, 0), (21, 12, 3, 13), (0, 2, 0, 233), (0, 0, 0, 5), (3, 1, 0, 0), (6, 2, 0, 0), (6, 0, 0, 0), (0, 0, 0, 1), (6, 0, 0, 0), (26, 0, 0, 0), (10, 0, 0, 0), (39, 22032, 249, 413), (0, 0, 0, 0), (0, 2, 0, 999), (39, 30, 189, 403), (55, 0, 0, 0)])]
def k_X12_isBarred : List (Nat × Nat × List Ins) := [(0, 7, [(3, 0, 2, 0), (3, 1, 0, 0), (3, 2, 0, 0), (39, 22032, 254, 417), (3, 0, 2, 0), (0, 0, 0, 4), (1, 0, 0, 0), (39, 22032, 249, 413), (1, 0, 0, 1), (9, 0, 0, 0), (12, 1, 21, 0), (0, 0, 0, 1), (15, 0, 22, 0), (58, 0, 0, 0)]),
  (21, 0, [(0, 0, 0, 0), (58, 0, 0, 0)])]
def k_X12_looks : List (Nat × Nat × List Ins) := [(0, 15, [(3, 0, 2, 0), (0, 0, 0, 0), (22, 12, 0, 154), (3, 2, 0, 0), (39, 10, 196, 211), (12, 0, 34, 0), (3, 1, 0, 0), (0, 0, 0, (-1)), (13, 0, 36, 0), (3, 1, 0, 0), (39, 10, 194, 182), (12, 0, 34, 0), (3, 3, 0, 0), (10, 0, 0, 0), (1, 0, 0, 0), (1, 0, 0, 1), (39, 30, 186, 160), (12, 1, 36, 0), (16, 0, 34, 0)]),
  (34, 0, [(0, 0, 0, (-1)), (55, 0, 0, 0)]),
  (36, 15, [(3, 1, 0, 0), (0, 0, 0, (-1)), (13, 1, 49, 0), (3, 0, 2, 0), (3, 2, 0, 0), (39, 22022, 251, 410), (15, 0, 68, 0), (55, 0, 0, 0)]),
  (49, 15, [(3, 3, 0, 0), (12, 1, 62, 0), (3, 0, 2, 0), (3, 1, 0, 0), (3, 2, 0, 0), (39, 22032, 252, 420), (15, 0, 68, 0), (55, 0, 0, 0)]),
  (62, 7, [(3, 0, 2, 0), (3, 1, 0, 0), (3, 2, 0, 0), (39, 22032, 253, 423), (55, 0, 0, 0)])]
def k_X12_asks : List (Nat × Nat × List Ins) := [(0, 15, [(3, 0, 2, 0), (0, 0, 0, 0), (22, 12, 0, 154), (3, 0, 2, 0), (3, 1, 0, 0), (39, 22022, 199, 196), (12, 0, 30, 0), (3, 2, 0, 0), (39, 10, 196, 211), (12, 0, 30, 0), (3, 3, 0, 0), (10, 0, 0, 0), (1, 0, 0, 0), (1, 0, 0, 1), (39, 30, 186, 160), (12, 1, 32, 0), (16, 0, 30, 0)]),
  (30, 0, [(0, 0, 0, (-1)), (55, 0, 0, 0)]),
  (32, 15, [(3, 3, 0, 0), (12, 1, 45, 0), (3, 0, 2, 0), (3, 1, 0, 0), (3, 2, 0, 0), (39, 22032, 255, 426), (15, 0, 59, 0), (55, 0, 0, 0)]),
  (45, 7, [(3, 0, 2, 0), (3, 1, 0, 0), (3, 2, 0, 0), (39, 22032, 256, 429), (12, 0, 58, 0), (0, 0, 0, 1), (15, 0, 59, 0), (55, 0, 0, 0)]),
  (58, 0, [(0, 0, 0, 0), (55, 0, 0, 0)])]
def k_X12_layLooks : List (Nat × Nat × List Ins) := [(0, 3, [(0, 0, 0, 0), (4, 2, 0, 0), (16, 0, 2, 0)]),
  (2, 7, [(3, 2, 0, 0), (0, 1, 0, 12), (13, 3, 31, 0), (3, 0, 2, 0), (21, 12, 37, 109), (0, 1, 0, 12), (3, 1, 0, 0), (6, 2, 0, 0), (3, 2, 0, 0), (6, 0, 0, 0), (3, 0, 2, 0), (3, 2, 0, 0), (3, 1, 0, 0), (39, 22032, 252, 420), (27, 0, 0, 0), (5, 2, 0, 1), (15, 0, 2, 0), (16, 0, 2, 0)]),
  (31, 0, [(42, 0, 0, 0)])]
def k_X12_painted : List (Nat × Nat × List Ins) := [(0, 31, [(0, 2, 0, 233), (0, 0, 0, 5), (3, 1, 0, 0), (6, 2, 0, 0), (6, 0, 0, 0), (4, 5, 0, 0), (3, 0, 2, 0), (21, 12, 37, 109), (0, 1, 0, 12), (3, 3, 0, 0), (6, 2, 0, 0), (3, 2, 0, 0), (6, 0, 0, 0), (26, 0, 0, 0), (3, 4, 0, 0), (6, 1, 0, 0), (10, 0, 0, 0), (3, 0, 2, 0), (21, 12, 3, 13), (3, 5, 0, 0), (26, 0, 0, 0), (7, 0, 0, 0), (3, 0, 2, 0), (21, 12, 3, 13), (3, 5, 0, 0), (26, 0, 0, 0), (39, 30, 189, 403), (4, 6, 0, 0), (3, 4, 0, 0), (3, 6, 0, 0), (6, 0, 0, 0), (3, 0, 2, 0), (21, 12, 3, 13), (3, 5, 0, 0), (0, 0, 0, 2), (6, 0, 0, 0), (3, 2, 0, 0), (0, 0, 0, 3), (44, 0, 0, 0), (6, 0, 0, 0), (26, 0, 0, 0), (6, 0, 0, 0), (0, 0, 0, 3), (6, 1, 0, 0), (10, 0, 0, 0), (0, 0, 0, 0), (0, 1, 0, 9), (39, 30, 189, 403), (55, 0, 0, 0)])]
def k_X12_paintPaper : List (Nat × Nat × List Ins) := [(0, 31, [(0, 0, 0, 0), (4, 5, 0, 0), (16, 0, 3, 0)]),
  (3, 63, [(3, 5, 0, 0), (0, 1, 0, 12), (13, 3, 49, 0), (3, 0, 2, 0), (21, 12, 38, 112), (0, 1, 0, 12), (3, 2, 0, 0), (6, 2, 0, 0), (3, 5, 0, 0), (6, 0, 0, 0), (3, 0, 2, 0), (3, 3, 0, 0), (3, 5, 0, 0), (3, 4, 0, 0), (3, 0, 2, 0), (21, 12, 38, 112), (0, 1, 0, 12), (3, 1, 0, 0), (6, 2, 0, 0), (3, 5, 0, 0), (6, 0, 0, 0), (26, 0, 0, 0), (39, 22052, 260, 432), (27, 0, 0, 0), (5, 5, 0, 1), (15, 0, 3, 0), (16, 0, 3, 0)]),
  (49, 0, [(42, 0, 0, 0)])]
def k_X12_loadPaper : List (Nat × Nat × List Ins) := [(0, 7, [(0, 0, 0, 0), (4, 3, 0, 0), (16, 0, 2, 0)]),
  (2, 15, [(3, 3, 0, 0), (0, 1, 0, 12), (13, 3, 31, 0), (3, 0, 2, 0), (21, 12, 38, 112), (0, 1, 0, 12), (3, 1, 0, 0), (6, 2, 0, 0), (3, 3, 0, 0), (6, 0, 0, 0), (3, 0, 2, 0), (3, 2, 0, 0), (3, 3, 0, 0), (39, 22032, 202, 178), (27, 0, 0, 0), (5, 3, 0, 1), (15, 0, 2, 0), (16, 0, 2, 0)]),
  (31, 0, [(42, 0, 0, 0)])]
def k_X12_unlikePaper : List (Nat × Nat × List Ins) := [(0, 7, [(0, 0, 0, 0), (4, 3, 0, 0), (0, 0, 0, 0), (4, 4, 0, 0), (16, 0, 5, 0)]),
  (5, 31, [(3, 4, 0, 0), (0, 1, 0, 12), (13, 3, 49, 0), (3, 3, 0, 0), (3, 0, 2, 0), (21, 12, 38, 112), (0, 1, 0, 12), (3, 1, 0, 0), (6, 2, 0, 0), (3, 4, 0, 0), (6, 0, 0, 0), (26, 0, 0, 0), (3, 0, 2, 0), (21, 12, 37, 109), (0, 1, 0, 12), (3, 2, 0, 0), (6, 2, 0, 0), (3, 4, 0, 0), (6, 0, 0, 0), (26, 0, 0, 0), (6, 1, 0, 0), (39, 10, 188, 436), (6, 0, 0, 0), (4, 3, 0, 0), (5, 4, 0, 1), (15, 0, 5, 0), (16, 0, 5, 0)]),
  (49, 8, [(3, 3, 0, 0), (55, 0, 0, 0)])]
def k_X12_unlikeOf : List (Nat × Nat × List Ins) := [(0, 3, [(3, 0, 2, 0), (3, 1, 0, 0), (39, 22022, 259, 439), (3, 0, 2, 0), (0, 0, 0, 0), (3, 1, 0, 0), (39, 22032, 262, 442), (3, 0, 2, 0), (0, 0, 0, 0), (3, 1, 0, 0), (39, 22032, 263, 445), (55, 0, 0, 0)])]
def k_X12_rests : List (Nat × Nat × List Ins) := [(0, 7, [(0, 0, 0, 0), (4, 3, 0, 0), (0, 0, 0, 1), (4, 4, 0, 0), (16, 0, 5, 0)]),
  (5, 31, [(3, 4, 0, 0), (3, 0, 2, 0), (21, 12, 3, 13), (0, 1, 0, 11), (26, 0, 0, 0), (13, 4, 67, 0), (3, 3, 0, 0), (12, 1, 55, 0), (3, 2, 0, 0), (3, 4, 0, 0), (6, 1, 0, 0), (10, 0, 0, 0), (1, 0, 0, 1), (3, 0, 2, 0), (39, 22012, 197, 174), (10, 0, 0, 0), (39, 30, 186, 160), (12, 0, 59, 0), (3, 0, 2, 0), (21, 12, 3, 13), (0, 2, 0, 216), (3, 2, 0, 0), (6, 0, 0, 0), (3, 4, 0, 0), (6, 1, 0, 0), (26, 0, 0, 0), (3, 1, 0, 0), (13, 1, 59, 0), (16, 0, 55, 0)]),
  (55, 23, [(0, 0, 0, 1), (15, 0, 60, 0), (4, 3, 0, 0), (5, 4, 0, 1), (15, 0, 5, 0), (16, 0, 5, 0)]),
  (59, 23, [(0, 0, 0, 0), (4, 3, 0, 0), (5, 4, 0, 1), (15, 0, 5, 0), (16, 0, 5, 0)]),
  (67, 8, [(3, 3, 0, 0), (58, 0, 0, 0)])]
def k_X12_paintNow : List (Nat × Nat × List Ins) := [(0, 3, [(3, 0, 2, 0), (39, 22012, 197, 174), (0, 0, 0, 1), (6, 0, 0, 0), (4, 2, 0, 0), (3, 0, 2, 0), (3, 1, 0, 0), (3, 2, 0, 0), (39, 22032, 256, 429), (12, 1, 25, 0), (3, 0, 2, 0), (3, 1, 0, 0), (3, 2, 0, 0), (39, 22032, 265, 448), (12, 0, 28, 0), (16, 0, 25, 0)]),
  (25, 0, [(0, 1, 0, (-3)), (55, 0, 0, 0)]),
  (28, 7, [(3, 2, 0, 0), (0, 1, 0, 16), (13, 5, 37, 0), (0, 1, 0, (-5)), (55, 0, 0, 0)]),
  (37, 7, [(3, 0, 2, 0), (3, 2, 0, 0), (39, 22022, 259, 439), (3, 0, 2, 0), (0, 0, 0, 0), (3, 2, 0, 0), (0, 0, 0, 1), (6, 1, 0, 0), (39, 22032, 262, 442), (3, 0, 2, 0), (0, 0, 0, 0), (0, 0, 0, 1), (3, 1, 0, 0), (3, 2, 0, 0), (39, 22052, 261, 451), (0, 0, 0, 0), (4, 3, 0, 0), (16, 0, 60, 0)]),
  (60, 15, [(3, 3, 0, 0), (0, 1, 0, 12), (13, 3, 95, 0), (3, 0, 2, 0), (21, 12, 3, 13), (0, 1, 0, 12), (0, 1, 0, 12), (3, 2, 0, 0), (6, 2, 0, 0), (6, 0, 0, 0), (3, 3, 0, 0), (6, 0, 0, 0), (3, 0, 2, 0), (21, 12, 38, 112), (0, 1, 0, 12), (3, 3, 0, 0), (6, 0, 0, 0), (26, 0, 0, 0), (27, 0, 0, 0), (5, 3, 0, 1), (15, 0, 60, 0), (16, 0, 60, 0)]),
  (95, 7, [(3, 0, 2, 0), (21, 12, 3, 13), (0, 2, 0, 216), (3, 2, 0, 0), (6, 0, 0, 0), (3, 1, 0, 0), (27, 0, 0, 0), (3, 0, 2, 0), (21, 12, 3, 13), (0, 0, 0, 4), (3, 2, 0, 0), (27, 0, 0, 0), (3, 0, 2, 0), (0, 0, 0, 1), (3, 2, 0, 0), (39, 22032, 263, 445), (55, 0, 0, 0)])]
def k_X12_paint : List (Nat × Nat × List Ins) := [(0, 3, [(3, 0, 2, 0), (0, 0, 0, 0), (22, 12, 0, 154), (3, 0, 2, 0), (3, 0, 2, 0), (3, 1, 0, 0), (39, 22022, 199, 196), (12, 0, 22, 0), (3, 0, 2, 0), (3, 1, 0, 0), (39, 22022, 266, 455), (15, 0, 24, 0), (39, 22022, 190, 164), (55, 0, 0, 0)]),
  (22, 0, [(0, 1, 0, (-2)), (39, 22022, 190, 164), (55, 0, 0, 0)])]
def k_X12_scrape : List (Nat × Nat × List Ins) := [(0, 1, [(3, 0, 2, 0), (0, 0, 0, 0), (22, 12, 0, 154), (3, 0, 2, 0), (39, 22012, 197, 174), (12, 1, 19, 0), (3, 0, 2, 0), (0, 1, 0, (-3)), (39, 22022, 190, 164), (55, 0, 0, 0)]),
  (19, 1, [(3, 0, 2, 0), (21, 12, 3, 13), (0, 0, 0, 4), (50, 0, 0, 0), (26, 0, 0, 0), (0, 0, 0, 1), (6, 1, 0, 0), (27, 0, 0, 0), (3, 0, 2, 0), (3, 0, 2, 0), (21, 12, 3, 13), (0, 2, 0, 216), (3, 0, 2, 0), (39, 22012, 197, 174), (6, 0, 0, 0), (0, 0, 0, 1), (6, 0, 0, 0), (26, 0, 0, 0), (39, 22022, 190, 164), (55, 0, 0, 0)])]
def k_X12_tone : List (Nat × Nat × List Ins) := [(0, 7, [(3, 0, 2, 0), (0, 0, 0, 0), (22, 12, 0, 154), (3, 0, 2, 0), (3, 1, 0, 0), (39, 22022, 198, 458), (12, 0, 29, 0), (3, 2, 0, 0), (39, 10, 194, 182), (12, 0, 29, 0), (3, 0, 2, 0), (3, 1, 0, 0), (3, 2, 0, 0), (39, 22032, 202, 178), (15, 0, 30, 0), (55, 0, 0, 0)]),
  (29, 0, [(0, 0, 0, (-1)), (55, 0, 0, 0)])]
def k_X12_tooFar : List (Nat × Nat × List Ins) := [(0, 7, [(0, 0, 0, 0), (4, 3, 0, 0), (16, 0, 2, 0)]),
  (2, 15, [(3, 3, 0, 0), (0, 1, 0, 12), (13, 3, 51, 0), (3, 0, 2, 0), (21, 12, 38, 112), (0, 1, 0, 12), (3, 1, 0, 0), (6, 2, 0, 0), (3, 3, 0, 0), (6, 0, 0, 0), (26, 0, 0, 0), (3, 0, 2, 0), (21, 12, 37, 109), (0, 1, 0, 12), (3, 2, 0, 0), (6, 2, 0, 0), (3, 3, 0, 0), (6, 0, 0, 0), (26, 0, 0, 0), (6, 1, 0, 0), (39, 10, 188, 436), (3, 0, 2, 0), (3, 3, 0, 0), (3, 2, 0, 0), (39, 22032, 253, 423), (13, 5, 45, 0), (3, 3, 0, 0), (55, 0, 0, 0)]),
  (45, 15, [(5, 3, 0, 1), (15, 0, 2, 0), (16, 0, 2, 0)]),
  (51, 0, [(0, 0, 0, (-1)), (55, 0, 0, 0)])]
def k_X12_tooFarIn : List (Nat × Nat × List Ins) := [(0, 3, [(3, 0, 2, 0), (3, 1, 0, 0), (39, 22022, 259, 439), (3, 0, 2, 0), (0, 0, 0, 0), (3, 1, 0, 0), (39, 22032, 262, 442), (3, 0, 2, 0), (0, 0, 0, 0), (3, 1, 0, 0), (39, 22032, 270, 461), (55, 0, 0, 0)])]
def k_X12_layer : List (Nat × Nat × List Ins) := [(0, 7, [(3, 0, 2, 0), (0, 0, 0, 0), (22, 12, 0, 154), (3, 0, 2, 0), (3, 1, 0, 0), (39, 22022, 198, 458), (12, 0, 25, 0), (3, 2, 0, 0), (10, 0, 0, 0), (1, 0, 0, 0), (1, 1, 205, 3), (39, 30, 186, 160), (12, 1, 27, 0), (16, 0, 25, 0)]),
  (25, 0, [(0, 0, 0, (-1)), (55, 0, 0, 0)]),
  (27, 7, [(3, 2, 0, 0), (17, 8, 0, 28)]),
  (56, 3, [(3, 0, 2, 0), (3, 1, 0, 0), (39, 22022, 264, 464), (55, 0, 0, 0)]),
  (62, 3, [(3, 1, 0, 0), (12, 1, 70, 0), (0, 0, 0, (-1)), (15, 0, 80, 0), (55, 0, 0, 0)]),
  (70, 3, [(3, 0, 2, 0), (21, 12, 3, 13), (0, 2, 0, 216), (3, 1, 0, 0), (6, 0, 0, 0), (26, 0, 0, 0), (55, 0, 0, 0)]),
  (81, 3, [(3, 1, 0, 0), (12, 1, 89, 0), (0, 0, 0, 0), (15, 0, 104, 0), (55, 0, 0, 0)]),
  (89, 3, [(3, 0, 2, 0), (3, 0, 2, 0), (21, 12, 3, 13), (0, 2, 0, 216), (3, 1, 0, 0), (6, 0, 0, 0), (26, 0, 0, 0), (3, 1, 0, 0), (39, 22032, 255, 426), (55, 0, 0, 0)]),
  (105, 3, [(3, 0, 2, 0), (3, 1, 0, 0), (39, 22022, 271, 467), (55, 0, 0, 0)])]
def k_X12_unlawful : List (Nat × Nat × List Ins) := [(0, 1, [(3, 0, 2, 0), (0, 0, 0, 0), (22, 12, 0, 154), (0, 0, 0, 0), (4, 1, 0, 0), (16, 0, 7, 0)]),
  (7, 3, [(3, 1, 0, 0), (3, 0, 2, 0), (39, 22012, 197, 174), (13, 4, 32, 0), (3, 0, 2, 0), (3, 1, 0, 0), (39, 22022, 271, 467), (0, 0, 0, (-1)), (13, 0, 26, 0), (3, 1, 0, 0), (55, 0, 0, 0)]),
  (26, 3, [(5, 1, 0, 1), (15, 0, 7, 0), (16, 0, 7, 0)]),
  (32, 0, [(0, 0, 0, (-1)), (55, 0, 0, 0)])]
def k_X12_moneyBehind : List (Nat × Nat × List Ins) := [(0, 3, [(3, 0, 2, 0), (21, 12, 3, 13), (0, 1, 0, 10), (26, 0, 0, 0), (3, 1, 0, 0), (6, 2, 0, 0), (4, 2, 0, 0), (0, 0, 0, 1), (4, 3, 0, 0), (16, 0, 12, 0)]),
  (12, 15, [(3, 3, 0, 0), (3, 1, 0, 0), (13, 4, 41, 0), (3, 2, 0, 0), (3, 0, 2, 0), (3, 0, 2, 0), (21, 12, 3, 13), (0, 2, 0, 216), (3, 3, 0, 0), (6, 0, 0, 0), (26, 0, 0, 0), (3, 3, 0, 0), (39, 22032, 255, 426), (6, 1, 0, 0), (4, 2, 0, 0), (5, 3, 0, 1), (15, 0, 12, 0), (16, 0, 12, 0)]),
  (41, 4, [(3, 2, 0, 0), (55, 0, 0, 0)])]
def k_X12_money : List (Nat × Nat × List Ins) := [(0, 3, [(3, 0, 2, 0), (0, 0, 0, 0), (22, 12, 0, 154), (3, 0, 2, 0), (3, 1, 0, 0), (39, 22022, 198, 458), (12, 0, 21, 0), (3, 0, 2, 0), (3, 1, 0, 0), (39, 22022, 274, 470), (15, 0, 24, 0), (55, 0, 0, 0)]),
  (21, 0, [(0, 4, 473, (-1000000)), (55, 0, 0, 0)])]
def k_X12_broke : List (Nat × Nat × List Ins) := [(0, 1, [(3, 0, 2, 0), (0, 0, 0, 0), (22, 12, 0, 154), (0, 0, 0, 0), (4, 1, 0, 0), (16, 0, 7, 0)]),
  (7, 3, [(3, 1, 0, 0), (3, 0, 2, 0), (39, 22012, 197, 174), (13, 4, 31, 0), (3, 0, 2, 0), (3, 1, 0, 0), (39, 22022, 274, 470), (12, 3, 25, 0), (3, 1, 0, 0), (55, 0, 0, 0)]),
  (25, 3, [(5, 1, 0, 1), (15, 0, 7, 0), (16, 0, 7, 0)]),
  (31, 0, [(0, 0, 0, (-1)), (55, 0, 0, 0)])]
def k_X12_restsInRow : List (Nat × Nat × List Ins) := [(0, 7, [(3, 0, 2, 0), (39, 22012, 197, 174), (0, 0, 0, 1), (6, 0, 0, 0), (3, 2, 0, 0), (6, 0, 0, 0), (4, 3, 0, 0), (0, 0, 0, 0), (4, 4, 0, 0), (0, 0, 0, 1), (4, 5, 0, 0), (16, 0, 15, 0)]),
  (15, 63, [(3, 5, 0, 0), (3, 0, 2, 0), (21, 12, 3, 13), (0, 1, 0, 11), (26, 0, 0, 0), (13, 4, 102, 0), (3, 4, 0, 0), (12, 1, 89, 0), (3, 2, 0, 0), (3, 5, 0, 0), (6, 1, 0, 0), (12, 2, 55, 0), (3, 0, 2, 0), (21, 12, 39, 115), (3, 2, 0, 0), (3, 5, 0, 0), (6, 1, 0, 0), (26, 0, 0, 0), (3, 1, 0, 0), (13, 1, 93, 0), (15, 0, 89, 0), (16, 0, 89, 0)]),
  (55, 47, [(3, 3, 0, 0), (3, 5, 0, 0), (6, 1, 0, 0), (10, 0, 0, 0), (1, 0, 0, 1), (3, 0, 2, 0), (39, 22012, 197, 174), (10, 0, 0, 0), (39, 30, 186, 160), (12, 0, 93, 0), (3, 0, 2, 0), (21, 12, 3, 13), (0, 2, 0, 216), (3, 3, 0, 0), (6, 0, 0, 0), (3, 5, 0, 0), (6, 1, 0, 0), (26, 0, 0, 0), (3, 1, 0, 0), (13, 1, 93, 0), (16, 0, 89, 0)]),
  (89, 47, [(0, 0, 0, 1), (15, 0, 94, 0), (4, 4, 0, 0), (5, 5, 0, 1), (15, 0, 15, 0), (16, 0, 15, 0)]),
  (93, 47, [(0, 0, 0, 0), (4, 4, 0, 0), (5, 5, 0, 1), (15, 0, 15, 0), (16, 0, 15, 0)]),
  (102, 16, [(3, 4, 0, 0), (58, 0, 0, 0)])]
def k_X12_goThrough : List (Nat × Nat × List Ins) := [(0, 7, [(3, 0, 2, 0), (0, 0, 0, 0), (22, 12, 46, 474), (3, 0, 2, 0), (39, 22012, 197, 174), (4, 3, 0, 0), (0, 0, 0, 0), (4, 4, 0, 0), (16, 0, 13, 0)]),
  (13, 31, [(3, 4, 0, 0), (3, 2, 0, 0), (13, 4, 107, 0), (3, 0, 2, 0), (3, 3, 0, 0), (3, 4, 0, 0), (6, 0, 0, 0), (39, 22022, 259, 439), (0, 0, 0, 0), (4, 5, 0, 0), (16, 0, 30, 0)]),
  (30, 63, [(3, 5, 0, 0), (3, 0, 2, 0), (21, 12, 3, 13), (0, 0, 0, 0), (26, 0, 0, 0), (13, 3, 101, 0), (3, 4, 0, 0), (3, 2, 0, 0), (13, 3, 101, 0), (3, 0, 2, 0), (21, 12, 41, 121), (0, 0, 0, 5), (3, 4, 0, 0), (6, 2, 0, 0), (3, 5, 0, 0), (6, 0, 0, 0), (3, 0, 2, 0), (3, 5, 0, 0), (3, 3, 0, 0), (3, 4, 0, 0), (6, 0, 0, 0), (0, 0, 0, 1), (6, 0, 0, 0), (39, 22032, 255, 426), (27, 0, 0, 0), (3, 0, 2, 0), (21, 12, 42, 124), (0, 0, 0, 5), (3, 4, 0, 0), (6, 2, 0, 0), (3, 5, 0, 0), (6, 0, 0, 0), (3, 0, 2, 0), (3, 5, 0, 0), (3, 3, 0, 0), (3, 4, 0, 0), (6, 0, 0, 0), (0, 0, 0, 1), (6, 0, 0, 0), (39, 22032, 256, 429), (53, 0, 0, 0), (5, 5, 0, 1), (15, 0, 30, 0), (16, 0, 30, 0)]),
  (101, 31, [(5, 4, 0, 1), (15, 0, 13, 0), (16, 0, 13, 0)]),
  (107, 15, [(3, 0, 2, 0), (0, 0, 0, 0), (3, 3, 0, 0), (39, 22032, 262, 442), (3, 2, 0, 0), (12, 1, 124, 0), (3, 0, 2, 0), (3, 1, 0, 0), (0, 0, 0, 0), (39, 22032, 279, 477), (42, 0, 0, 0)]),
  (124, 15, [(0, 0, 0, 0), (4, 4, 0, 0), (3, 0, 2, 0), (21, 12, 39, 115), (0, 0, 0, 0), (0, 0, 0, (-1)), (27, 0, 0, 0), (16, 0, 134, 0)]),
  (134, 31, [(3, 4, 0, 0), (12, 2, 251, 0), (3, 0, 2, 0), (21, 12, 39, 115), (3, 4, 0, 0), (50, 0, 0, 0), (26, 0, 0, 0), (0, 0, 0, 1), (6, 0, 0, 0), (27, 0, 0, 0), (3, 0, 2, 0), (21, 12, 39, 115), (3, 4, 0, 0), (26, 0, 0, 0), (4, 5, 0, 0), (3, 5, 0, 0), (3, 0, 2, 0), (21, 12, 3, 13), (0, 0, 0, 0), (26, 0, 0, 0), (13, 1, 176, 0), (5, 4, 0, (-1)), (15, 0, 248, 0), (16, 0, 248, 0)]),
  (176, 63, [(3, 0, 2, 0), (21, 12, 42, 124), (0, 0, 0, 5), (3, 4, 0, 0), (6, 2, 0, 0), (3, 5, 0, 0), (6, 0, 0, 0), (26, 2, 0, 0), (12, 1, 248, 0), (3, 0, 2, 0), (3, 5, 0, 0), (3, 4, 0, 0), (39, 22032, 277, 480), (12, 1, 248, 0), (3, 0, 2, 0), (3, 4, 0, 0), (3, 4, 0, 0), (0, 0, 0, 1), (6, 0, 0, 0), (3, 5, 0, 0), (3, 3, 0, 0), (3, 4, 0, 0), (6, 0, 0, 0), (0, 0, 0, 1), (6, 0, 0, 0), (39, 22052, 261, 451), (3, 4, 0, 0), (3, 2, 0, 0), (0, 0, 0, 1), (6, 1, 0, 0), (13, 1, 237, 0), (3, 0, 2, 0), (3, 1, 0, 0), (3, 2, 0, 0), (39, 22032, 279, 477), (15, 0, 248, 0), (16, 0, 248, 0)]),
  (237, 31, [(5, 4, 0, 1), (3, 0, 2, 0), (21, 12, 39, 115), (3, 4, 0, 0), (0, 0, 0, (-1)), (27, 0, 0, 0), (16, 0, 248, 0)]),
  (248, 31, [(15, 0, 134, 0), (16, 0, 134, 0)]),
  (251, 0, [(42, 0, 0, 0)])]
def k_X12_weigh : List (Nat × Nat × List Ins) := [(0, 7, [(3, 0, 2, 0), (3, 2, 0, 0), (3, 0, 2, 0), (39, 22012, 197, 174), (3, 2, 0, 0), (6, 0, 0, 0), (39, 22032, 263, 445), (4, 3, 0, 0), (0, 0, 0, 0), (4, 4, 0, 0), (3, 0, 2, 0), (3, 0, 2, 0), (39, 22012, 197, 174), (39, 22022, 274, 470), (4, 5, 0, 0), (0, 0, 0, 1), (4, 6, 0, 0), (0, 0, 0, 0), (4, 7, 0, 0), (16, 0, 31, 0)]),
  (31, 255, [(3, 7, 0, 0), (3, 2, 0, 0), (13, 3, 143, 0), (3, 4, 0, 0), (3, 0, 2, 0), (21, 12, 41, 121), (0, 0, 0, 5), (3, 7, 0, 0), (6, 2, 0, 0), (3, 0, 2, 0), (21, 12, 39, 115), (3, 7, 0, 0), (26, 0, 0, 0), (6, 0, 0, 0), (26, 0, 0, 0), (6, 0, 0, 0), (4, 4, 0, 0), (3, 5, 0, 0), (3, 0, 2, 0), (21, 12, 3, 13), (0, 1, 0, 10), (26, 0, 0, 0), (3, 0, 2, 0), (21, 12, 41, 121), (0, 0, 0, 5), (3, 7, 0, 0), (6, 2, 0, 0), (3, 0, 2, 0), (21, 12, 39, 115), (3, 7, 0, 0), (26, 0, 0, 0), (6, 0, 0, 0), (26, 0, 0, 0), (6, 1, 0, 0), (6, 0, 0, 0), (4, 5, 0, 0), (3, 6, 0, 0), (12, 0, 134, 0), (3, 1, 0, 0), (0, 0, 0, 2), (13, 1, 104, 0), (3, 5, 0, 0), (12, 2, 134, 0), (16, 0, 104, 0)]),
  (104, 191, [(3, 1, 0, 0), (0, 0, 0, 1), (13, 1, 130, 0), (3, 0, 2, 0), (3, 7, 0, 0), (0, 0, 0, 1), (6, 0, 0, 0), (3, 0, 2, 0), (39, 22012, 197, 174), (3, 7, 0, 0), (6, 0, 0, 0), (0, 0, 0, 1), (6, 0, 0, 0), (39, 22032, 270, 461), (0, 0, 0, (-1)), (13, 1, 134, 0), (16, 0, 130, 0)]),
  (130, 191, [(0, 0, 0, 1), (15, 0, 135, 0), (4, 6, 0, 0), (5, 7, 0, 1), (15, 0, 31, 0), (16, 0, 31, 0)]),
  (134, 191, [(0, 0, 0, 0), (4, 6, 0, 0), (5, 7, 0, 1), (15, 0, 31, 0), (16, 0, 31, 0)]),
  (143, 95, [(3, 6, 0, 0), (12, 1, 149, 0), (42, 0, 0, 0)]),
  (149, 31, [(3, 1, 0, 0), (0, 0, 0, 1), (13, 1, 164, 0), (3, 4, 0, 0), (3, 0, 2, 0), (18, 12, 45, 483), (6, 1, 0, 0), (15, 0, 170, 0), (16, 0, 170, 0)]),
  (164, 31, [(3, 3, 0, 0), (3, 0, 2, 0), (18, 12, 44, 486), (6, 1, 0, 0), (16, 0, 170, 0)]),
  (170, 31, [(4, 7, 0, 0), (3, 1, 0, 0), (0, 0, 0, 1), (13, 1, 186, 0), (3, 3, 0, 0), (3, 0, 2, 0), (18, 12, 44, 486), (6, 1, 0, 0), (15, 0, 193, 0), (16, 0, 193, 0)]),
  (186, 157, [(3, 4, 0, 0), (3, 0, 2, 0), (18, 12, 45, 483), (6, 1, 0, 0), (16, 0, 193, 0)]),
  (193, 157, [(4, 8, 0, 0), (3, 0, 2, 0), (18, 12, 46, 474), (12, 0, 217, 0), (3, 7, 0, 0), (12, 2, 217, 0), (3, 7, 0, 0), (12, 1, 221, 0), (3, 8, 0, 0), (12, 3, 221, 0), (16, 0, 217, 0)]),
  (217, 29, [(0, 0, 0, 1), (15, 0, 222, 0), (16, 0, 222, 0)]),
  (221, 29, [(0, 0, 0, 0), (16, 0, 222, 0)]),
  (222, 29, [(4, 9, 0, 0), (3, 9, 0, 0), (12, 0, 274, 0), (3, 0, 2, 0), (3, 3, 0, 0), (22, 12, 44, 486), (3, 0, 2, 0), (3, 4, 0, 0), (22, 12, 45, 483), (3, 0, 2, 0), (0, 0, 0, 0), (22, 12, 46, 474), (0, 0, 0, 0), (4, 10, 0, 0), (16, 0, 248, 0)]),
  (248, 1053, [(3, 10, 0, 0), (3, 2, 0, 0), (13, 3, 274, 0), (3, 0, 2, 0), (21, 12, 40, 118), (3, 10, 0, 0), (3, 0, 2, 0), (21, 12, 39, 115), (3, 10, 0, 0), (26, 0, 0, 0), (27, 0, 0, 0), (5, 10, 0, 1), (15, 0, 248, 0), (16, 0, 248, 0)]),
  (274, 25, [(3, 0, 2, 0), (11, 0, 0, 0), (18, 12, 46, 474), (3, 3, 0, 0), (3, 0, 2, 0), (18, 12, 44, 486), (13, 1, 300, 0), (3, 4, 0, 0), (3, 0, 2, 0), (18, 12, 45, 483), (13, 1, 300, 0), (0, 0, 0, 1), (15, 0, 301, 0), (6, 0, 0, 0), (22, 12, 46, 474), (42, 0, 0, 0)]),
  (300, 0, [(0, 0, 0, 0), (6, 0, 0, 0), (22, 12, 46, 474), (42, 0, 0, 0)])]
def k_X12_plan : List (Nat × Nat × List Ins) := [(0, 15, [(3, 0, 2, 0), (0, 0, 0, 0), (22, 12, 0, 154), (3, 1, 0, 0), (10, 0, 0, 0), (1, 0, 0, 0), (1, 1, 192, 2), (39, 30, 186, 160), (12, 0, 44, 0), (3, 2, 0, 0), (10, 0, 0, 0), (1, 0, 0, 0), (1, 1, 201, 5), (39, 30, 186, 160), (12, 0, 44, 0), (3, 3, 0, 0), (10, 0, 0, 0), (1, 0, 0, 0), (1, 1, 192, 2), (3, 2, 0, 0), (10, 0, 0, 0), (8, 0, 0, 0), (39, 30, 186, 160), (12, 1, 46, 0), (16, 0, 44, 0)]),
  (44, 0, [(0, 0, 0, (-1)), (55, 0, 0, 0)]),
  (46, 15, [(3, 0, 2, 0), (3, 1, 0, 0), (3, 2, 0, 0), (39, 22032, 278, 489), (3, 3, 0, 0), (0, 0, 0, 2), (13, 1, 62, 0), (3, 0, 2, 0), (18, 12, 46, 474), (55, 0, 0, 0)]),
  (62, 9, [(3, 0, 2, 0), (18, 12, 46, 474), (12, 1, 73, 0), (0, 0, 0, (-1)), (15, 0, 104, 0), (55, 0, 0, 0)]),
  (73, 9, [(3, 3, 0, 0), (12, 1, 84, 0), (3, 0, 2, 0), (18, 12, 44, 486), (15, 0, 104, 0), (55, 0, 0, 0)]),
  (84, 9, [(3, 3, 0, 0), (0, 0, 0, 1), (13, 1, 96, 0), (3, 0, 2, 0), (18, 12, 45, 483), (15, 0, 104, 0), (55, 0, 0, 0)]),
  (96, 9, [(3, 0, 2, 0), (21, 12, 40, 118), (3, 3, 0, 0), (0, 0, 0, 3), (6, 1, 0, 0), (26, 0, 0, 0), (55, 0, 0, 0)])]
def k_X12_driftOf : List (Nat × Nat × List Ins) := [(0, 7, [(0, 0, 0, 1), (3, 0, 2, 0), (3, 1, 0, 0), (39, 22022, 203, 380), (6, 6, 0, 0), (4, 3, 0, 0), (3, 0, 2, 0), (39, 22012, 197, 174), (0, 0, 0, 1), (6, 0, 0, 0), (4, 4, 0, 0), (16, 0, 16, 0)]),
  (16, 31, [(3, 4, 0, 0), (3, 0, 2, 0), (39, 22012, 197, 174), (3, 2, 0, 0), (6, 0, 0, 0), (13, 4, 123, 0), (3, 0, 2, 0), (3, 4, 0, 0), (39, 22022, 259, 439), (0, 0, 0, 0), (4, 5, 0, 0), (0, 0, 0, 0), (4, 6, 0, 0), (16, 0, 39, 0)]),
  (39, 127, [(3, 6, 0, 0), (3, 0, 2, 0), (21, 12, 3, 13), (0, 0, 0, 0), (26, 0, 0, 0), (13, 3, 114, 0), (3, 0, 2, 0), (3, 6, 0, 0), (3, 4, 0, 0), (39, 22032, 256, 429), (12, 1, 108, 0), (0, 0, 0, 0), (4, 7, 0, 0), (16, 0, 64, 0)]),
  (64, 255, [(3, 7, 0, 0), (0, 1, 0, 10), (13, 3, 108, 0), (3, 5, 0, 0), (3, 3, 0, 0), (3, 7, 0, 0), (39, 20, 187, 492), (12, 0, 98, 0), (0, 0, 0, 1), (3, 0, 2, 0), (3, 6, 0, 0), (3, 1, 0, 0), (3, 4, 0, 0), (3, 7, 0, 0), (39, 22052, 260, 432), (6, 6, 0, 0), (15, 0, 99, 0), (6, 4, 0, 0), (4, 5, 0, 0), (5, 7, 0, 1), (15, 0, 64, 0), (16, 0, 64, 0)]),
  (98, 223, [(0, 0, 0, 0), (6, 4, 0, 0), (4, 5, 0, 0), (5, 7, 0, 1), (15, 0, 64, 0), (16, 0, 64, 0)]),
  (108, 127, [(5, 6, 0, 1), (15, 0, 39, 0), (16, 0, 39, 0)]),
  (114, 55, [(3, 5, 0, 0), (4, 3, 0, 0), (5, 4, 0, 1), (15, 0, 16, 0), (16, 0, 16, 0)]),
  (123, 8, [(3, 3, 0, 0), (55, 0, 0, 0)])]
def k_X12_drift : List (Nat × Nat × List Ins) := [(0, 15, [(3, 0, 2, 0), (0, 0, 0, 0), (22, 12, 0, 154), (3, 1, 0, 0), (39, 10, 194, 182), (12, 0, 36, 0), (3, 2, 0, 0), (10, 0, 0, 0), (1, 0, 0, 0), (1, 1, 258, 10), (39, 30, 186, 160), (12, 0, 36, 0), (3, 3, 0, 0), (10, 0, 0, 0), (1, 0, 0, 0), (1, 1, 192, 2), (39, 30, 186, 160), (12, 1, 38, 0), (16, 0, 36, 0)]),
  (36, 0, [(0, 0, 0, (-1)), (55, 0, 0, 0)]),
  (38, 15, [(3, 0, 2, 0), (3, 1, 0, 0), (3, 2, 0, 0), (39, 22032, 281, 495), (4, 4, 0, 0), (3, 3, 0, 0), (0, 0, 0, 2), (13, 1, 54, 0), (3, 4, 0, 0), (55, 0, 0, 0)]),
  (54, 24, [(0, 0, 0, (-1)), (4, 5, 0, 0), (0, 0, 0, 0), (4, 6, 0, 0), (16, 0, 60, 0)]),
  (60, 120, [(3, 6, 0, 0), (0, 1, 0, 10), (13, 3, 103, 0), (3, 4, 0, 0), (3, 6, 0, 0), (39, 20, 187, 492), (12, 0, 93, 0), (3, 5, 0, 0), (0, 0, 0, (-1)), (13, 0, 88, 0), (3, 3, 0, 0), (0, 0, 0, 1), (13, 1, 93, 0), (16, 0, 88, 0)]),
  (88, 88, [(3, 6, 0, 0), (15, 0, 95, 0), (4, 5, 0, 0), (5, 6, 0, 1), (15, 0, 60, 0), (16, 0, 60, 0)]),
  (93, 120, [(3, 5, 0, 0), (4, 5, 0, 0), (5, 6, 0, 1), (15, 0, 60, 0), (16, 0, 60, 0)]),
  (103, 32, [(3, 5, 0, 0), (55, 0, 0, 0)])]
def k_X12_undoing : List (Nat × Nat × List Ins) := [(0, 3, [(3, 0, 2, 0), (0, 0, 0, 0), (22, 12, 0, 154), (3, 0, 2, 0), (39, 22012, 197, 174), (0, 0, 0, 1), (6, 0, 0, 0), (4, 2, 0, 0), (3, 0, 2, 0), (3, 2, 0, 0), (39, 22022, 259, 439), (3, 0, 2, 0), (3, 2, 0, 0), (0, 0, 0, 1), (6, 0, 0, 0), (39, 22022, 259, 439), (3, 0, 2, 0), (0, 0, 0, 0), (3, 0, 2, 0), (39, 22012, 197, 174), (39, 22032, 262, 442), (0, 0, 0, 0), (4, 3, 0, 0), (0, 0, 0, 0), (4, 4, 0, 0), (16, 0, 38, 0)]),
  (38, 31, [(3, 4, 0, 0), (0, 1, 0, 25), (13, 3, 121, 0), (3, 4, 0, 0), (0, 0, 0, 5), (43, 0, 0, 0), (4, 5, 0, 0), (3, 4, 0, 0), (0, 0, 0, 5), (44, 0, 0, 0), (4, 6, 0, 0), (3, 0, 2, 0), (3, 5, 0, 0), (39, 22022, 199, 196), (12, 0, 115, 0), (3, 0, 2, 0), (3, 6, 0, 0), (39, 22022, 199, 196), (12, 0, 115, 0), (3, 0, 2, 0), (0, 0, 0, 0), (0, 0, 0, 1), (3, 5, 0, 0), (3, 2, 0, 0), (39, 22052, 261, 451), (3, 0, 2, 0), (0, 0, 0, 1), (0, 0, 0, 2), (3, 6, 0, 0), (3, 2, 0, 0), (0, 0, 0, 1), (6, 0, 0, 0), (39, 22052, 261, 451), (3, 0, 2, 0), (0, 0, 0, 0), (0, 0, 0, 2), (39, 22032, 284, 498), (12, 0, 115, 0), (3, 3, 0, 0), (3, 1, 0, 0), (13, 1, 112, 0), (3, 4, 0, 0), (55, 0, 0, 0)]),
  (112, 31, [(5, 3, 0, 1), (16, 0, 115, 0)]),
  (115, 31, [(5, 4, 0, 1), (15, 0, 38, 0), (16, 0, 38, 0)]),
  (121, 10, [(3, 1, 0, 0), (0, 0, 0, (-1)), (13, 1, 130, 0), (3, 3, 0, 0), (15, 0, 131, 0), (55, 0, 0, 0)]),
  (130, 0, [(0, 0, 0, (-1)), (55, 0, 0, 0)])]
def k_X12_isSame : List (Nat × Nat × List Ins) := [(0, 7, [(0, 0, 0, 1), (4, 3, 0, 0), (0, 0, 0, 0), (4, 4, 0, 0), (16, 0, 5, 0)]),
  (5, 31, [(3, 4, 0, 0), (0, 1, 0, 12), (13, 3, 55, 0), (3, 3, 0, 0), (12, 0, 47, 0), (3, 0, 2, 0), (21, 12, 38, 112), (0, 1, 0, 12), (3, 1, 0, 0), (6, 2, 0, 0), (3, 4, 0, 0), (6, 0, 0, 0), (26, 0, 0, 0), (3, 0, 2, 0), (21, 12, 38, 112), (0, 1, 0, 12), (3, 2, 0, 0), (6, 2, 0, 0), (3, 4, 0, 0), (6, 0, 0, 0), (26, 0, 0, 0), (13, 1, 47, 0), (0, 0, 0, 1), (15, 0, 48, 0), (4, 3, 0, 0), (5, 4, 0, 1), (15, 0, 5, 0), (16, 0, 5, 0)]),
  (47, 23, [(0, 0, 0, 0), (4, 3, 0, 0), (5, 4, 0, 1), (15, 0, 5, 0), (16, 0, 5, 0)]),
  (55, 8, [(3, 3, 0, 0), (58, 0, 0, 0)])]
def k_X12_copyNow : List (Nat × Nat × List Ins) := [(0, 1, [(3, 0, 2, 0), (21, 12, 3, 13), (0, 0, 0, 5), (26, 0, 0, 0), (4, 1, 0, 0), (3, 1, 0, 0), (0, 1, 0, 6), (13, 1, 16, 0), (0, 1, 0, (-5)), (55, 0, 0, 0)]),
  (16, 3, [(0, 0, 0, 0), (4, 2, 0, 0), (16, 0, 18, 0)]),
  (18, 7, [(3, 2, 0, 0), (0, 1, 0, 12), (13, 3, 50, 0), (3, 0, 2, 0), (21, 12, 3, 13), (0, 2, 0, 276), (0, 1, 0, 12), (3, 1, 0, 0), (6, 2, 0, 0), (6, 0, 0, 0), (3, 2, 0, 0), (6, 0, 0, 0), (3, 0, 2, 0), (3, 2, 0, 0), (39, 22022, 203, 380), (27, 0, 0, 0), (5, 2, 0, 1), (15, 0, 18, 0), (16, 0, 18, 0)]),
  (50, 3, [(3, 0, 2, 0), (21, 12, 3, 13), (0, 0, 0, 5), (50, 0, 0, 0), (26, 0, 0, 0), (0, 0, 0, 1), (6, 0, 0, 0), (27, 0, 0, 0), (3, 1, 0, 0), (55, 0, 0, 0)])]
def k_X12_copy : List (Nat × Nat × List Ins) := [(0, 1, [(3, 0, 2, 0), (0, 0, 0, 0), (22, 12, 0, 154), (3, 0, 2, 0), (3, 0, 2, 0), (39, 22012, 285, 501), (39, 22022, 190, 164), (55, 0, 0, 0)])]
def k_X12_touch : List (Nat × Nat × List Ins) := [(0, 15, [(3, 0, 2, 0), (0, 0, 0, 0), (22, 12, 0, 154), (3, 2, 0, 0), (39, 10, 194, 182), (12, 0, 19, 0), (3, 3, 0, 0), (39, 10, 195, 186), (12, 1, 25, 0), (16, 0, 19, 0)]),
  (19, 1, [(3, 0, 2, 0), (0, 0, 0, (-1)), (39, 22022, 190, 164), (55, 0, 0, 0)]),
  (25, 15, [(3, 0, 2, 0), (3, 1, 0, 0), (39, 22022, 200, 504), (12, 0, 51, 0), (3, 0, 2, 0), (0, 2, 0, 276), (0, 1, 0, 12), (3, 1, 0, 0), (6, 2, 0, 0), (6, 0, 0, 0), (3, 2, 0, 0), (6, 0, 0, 0), (3, 3, 0, 0), (39, 22032, 191, 189), (15, 0, 57, 0), (55, 0, 0, 0)]),
  (51, 1, [(3, 0, 2, 0), (0, 1, 0, (-2)), (39, 22022, 190, 164), (55, 0, 0, 0)])]
def k_X12_burn : List (Nat × Nat × List Ins) := [(0, 1, [(3, 0, 2, 0), (0, 0, 0, 0), (22, 12, 0, 154), (3, 0, 2, 0), (21, 12, 3, 13), (0, 0, 0, 5), (26, 0, 0, 0), (4, 1, 0, 0), (3, 0, 2, 0), (21, 12, 3, 13), (0, 0, 0, 5), (0, 0, 0, 0), (27, 0, 0, 0), (3, 1, 0, 0), (55, 0, 0, 0)])]
def k_X12_apart : List (Nat × Nat × List Ins) := [(0, 7, [(0, 0, 0, 0), (4, 3, 0, 0), (0, 0, 0, 0), (4, 4, 0, 0), (16, 0, 5, 0)]),
  (5, 31, [(3, 4, 0, 0), (0, 1, 0, 12), (13, 3, 47, 0), (3, 3, 0, 0), (3, 0, 2, 0), (21, 12, 3, 13), (3, 1, 0, 0), (3, 4, 0, 0), (6, 0, 0, 0), (26, 0, 0, 0), (3, 0, 2, 0), (21, 12, 3, 13), (3, 2, 0, 0), (3, 4, 0, 0), (6, 0, 0, 0), (26, 0, 0, 0), (13, 1, 38, 0), (0, 0, 0, 0), (15, 0, 39, 0), (6, 0, 0, 0), (4, 3, 0, 0), (5, 4, 0, 1), (15, 0, 5, 0), (16, 0, 5, 0)]),
  (38, 23, [(0, 0, 0, 1), (6, 0, 0, 0), (4, 3, 0, 0), (5, 4, 0, 1), (15, 0, 5, 0), (16, 0, 5, 0)]),
  (47, 8, [(3, 3, 0, 0), (55, 0, 0, 0)])]
def k_X12_nearOf : List (Nat × Nat × List Ins) := [(0, 3, [(3, 0, 2, 0), (0, 2, 0, 276), (0, 1, 0, 12), (3, 1, 0, 0), (6, 2, 0, 0), (6, 0, 0, 0), (0, 1, 0, 12), (0, 1, 0, 12), (3, 0, 2, 0), (39, 22012, 197, 174), (6, 2, 0, 0), (6, 0, 0, 0), (39, 22032, 289, 507), (55, 0, 0, 0)])]
def k_X12_near : List (Nat × Nat × List Ins) := [(0, 3, [(3, 0, 2, 0), (0, 0, 0, 0), (22, 12, 0, 154), (3, 1, 0, 0), (0, 0, 0, (-1)), (13, 0, 28, 0), (3, 0, 2, 0), (3, 1, 0, 0), (39, 22022, 200, 504), (12, 0, 26, 0), (3, 0, 2, 0), (3, 1, 0, 0), (39, 22022, 290, 510), (15, 0, 27, 0), (55, 0, 0, 0)]),
  (26, 0, [(0, 0, 0, (-1)), (55, 0, 0, 0)]),
  (28, 1, [(0, 0, 0, 0), (4, 2, 0, 0), (0, 4, 513, 100000000), (4, 3, 0, 0), (0, 0, 0, 0), (4, 4, 0, 0), (16, 0, 37, 0)]),
  (37, 29, [(3, 4, 0, 0), (3, 0, 2, 0), (21, 12, 3, 13), (0, 0, 0, 5), (26, 0, 0, 0), (13, 3, 105, 0), (3, 0, 2, 0), (3, 4, 0, 0), (39, 22022, 290, 510), (4, 5, 0, 0), (3, 5, 0, 0), (3, 3, 0, 0), (13, 3, 69, 0), (0, 0, 0, 1), (3, 4, 0, 0), (6, 6, 0, 0), (15, 0, 85, 0), (16, 0, 85, 0)]),
  (69, 61, [(3, 5, 0, 0), (3, 3, 0, 0), (13, 1, 84, 0), (3, 2, 0, 0), (0, 0, 0, 1), (3, 4, 0, 0), (6, 6, 0, 0), (6, 4, 0, 0), (15, 0, 85, 0), (16, 0, 85, 0)]),
  (84, 61, [(3, 2, 0, 0), (16, 0, 85, 0)]),
  (85, 57, [(4, 2, 0, 0), (3, 5, 0, 0), (3, 3, 0, 0), (13, 3, 97, 0), (3, 5, 0, 0), (15, 0, 98, 0), (4, 3, 0, 0), (5, 4, 0, 1), (15, 0, 37, 0), (16, 0, 37, 0)]),
  (97, 29, [(3, 3, 0, 0), (4, 3, 0, 0), (5, 4, 0, 1), (15, 0, 37, 0), (16, 0, 37, 0)]),
  (105, 4, [(3, 2, 0, 0), (55, 0, 0, 0)])]
def k_X12_pictureAt : List (Nat × Nat × List Ins) := [(0, 2, [(3, 1, 0, 0), (0, 0, 0, (-1)), (13, 1, 10, 0), (0, 1, 0, 12), (15, 0, 18, 0), (55, 0, 0, 0)]),
  (10, 2, [(0, 2, 0, 276), (0, 1, 0, 12), (3, 1, 0, 0), (6, 2, 0, 0), (6, 0, 0, 0), (55, 0, 0, 0)])]
def k_X12_like : List (Nat × Nat × List Ins) := [(0, 7, [(3, 0, 2, 0), (0, 0, 0, 0), (22, 12, 0, 154), (3, 1, 0, 0), (0, 0, 0, (-1)), (13, 0, 18, 0), (3, 0, 2, 0), (3, 1, 0, 0), (39, 22022, 200, 504), (12, 0, 35, 0), (16, 0, 18, 0)]),
  (18, 7, [(3, 2, 0, 0), (0, 0, 0, (-1)), (13, 0, 31, 0), (3, 0, 2, 0), (3, 2, 0, 0), (39, 22022, 200, 504), (12, 0, 35, 0), (16, 0, 31, 0)]),
  (31, 7, [(0, 0, 0, 1), (15, 0, 36, 0), (16, 0, 36, 0)]),
  (35, 7, [(0, 0, 0, 0), (16, 0, 36, 0)]),
  (36, 7, [(4, 3, 0, 0), (3, 3, 0, 0), (12, 0, 58, 0), (3, 0, 2, 0), (3, 0, 2, 0), (3, 1, 0, 0), (39, 22022, 292, 514), (3, 0, 2, 0), (3, 2, 0, 0), (39, 22022, 292, 514), (39, 22032, 289, 507), (15, 0, 59, 0), (55, 0, 0, 0)]),
  (58, 0, [(0, 0, 0, (-1)), (55, 0, 0, 0)])]
def k_X12_isTree : List (Nat × Nat × List Ins) := [(0, 3, [(0, 0, 0, 0), (4, 2, 0, 0), (16, 0, 2, 0)]),
  (2, 7, [(3, 2, 0, 0), (3, 1, 0, 0), (13, 3, 52, 0), (3, 2, 0, 0), (0, 0, 0, 1), (6, 0, 0, 0), (4, 3, 0, 0), (0, 0, 0, 0), (4, 4, 0, 0), (16, 0, 14, 0)]),
  (14, 31, [(3, 3, 0, 0), (12, 5, 40, 0), (3, 4, 0, 0), (0, 1, 0, 8), (13, 3, 40, 0), (3, 0, 2, 0), (21, 12, 47, 130), (3, 3, 0, 0), (0, 0, 0, 1), (6, 1, 0, 0), (26, 0, 0, 0), (4, 3, 0, 0), (5, 4, 0, 1), (15, 0, 14, 0), (16, 0, 14, 0)]),
  (40, 15, [(3, 3, 0, 0), (12, 5, 46, 0), (0, 0, 0, 0), (58, 0, 0, 0)]),
  (46, 7, [(5, 2, 0, 1), (15, 0, 2, 0), (16, 0, 2, 0)]),
  (52, 0, [(0, 0, 0, 1), (58, 0, 0, 0)])]
def k_X12_findTree : List (Nat × Nat × List Ins) := [(0, 1, [(3, 0, 2, 0), (21, 12, 3, 13), (0, 0, 0, 5), (26, 0, 0, 0), (4, 1, 0, 0), (0, 0, 0, 1), (4, 2, 0, 0), (0, 0, 0, 0), (4, 3, 0, 0), (16, 0, 11, 0)]),
  (11, 15, [(3, 3, 0, 0), (3, 1, 0, 0), (13, 3, 28, 0), (3, 2, 0, 0), (3, 1, 0, 0), (0, 0, 0, 1), (6, 0, 0, 0), (6, 2, 0, 0), (4, 2, 0, 0), (5, 3, 0, 1), (15, 0, 11, 0), (16, 0, 11, 0)]),
  (28, 7, [(3, 0, 2, 0), (0, 4, 513, 100000000), (22, 12, 49, 517), (3, 0, 2, 0), (0, 0, 0, 0), (22, 12, 50, 520), (0, 0, 0, 0), (4, 3, 0, 0), (16, 0, 42, 0)]),
  (42, 15, [(3, 3, 0, 0), (3, 2, 0, 0), (13, 3, 216, 0), (3, 3, 0, 0), (4, 4, 0, 0), (0, 0, 0, 0), (4, 5, 0, 0), (3, 1, 0, 0), (0, 0, 0, 1), (6, 1, 0, 0), (4, 6, 0, 0), (16, 0, 58, 0)]),
  (58, 127, [(3, 6, 0, 0), (12, 2, 118, 0), (3, 0, 2, 0), (21, 12, 47, 130), (3, 6, 0, 0), (3, 4, 0, 0), (3, 1, 0, 0), (0, 0, 0, 1), (6, 0, 0, 0), (44, 0, 0, 0), (27, 0, 0, 0), (3, 4, 0, 0), (3, 1, 0, 0), (0, 0, 0, 1), (6, 0, 0, 0), (43, 0, 0, 0), (4, 4, 0, 0), (3, 5, 0, 0), (3, 0, 2, 0), (3, 0, 2, 0), (3, 0, 2, 0), (21, 12, 47, 130), (3, 6, 0, 0), (26, 0, 0, 0), (0, 0, 0, 1), (6, 1, 0, 0), (39, 22022, 292, 514), (3, 0, 2, 0), (3, 6, 0, 0), (39, 22022, 292, 514), (39, 22032, 289, 507), (6, 0, 0, 0), (4, 5, 0, 0), (5, 6, 0, (-1)), (15, 0, 58, 0), (16, 0, 58, 0)]),
  (118, 47, [(3, 5, 0, 0), (3, 0, 2, 0), (18, 12, 49, 517), (13, 4, 210, 0), (3, 0, 2, 0), (3, 1, 0, 0), (39, 22022, 294, 523), (12, 0, 210, 0), (3, 0, 2, 0), (3, 5, 0, 0), (3, 0, 2, 0), (18, 12, 49, 517), (13, 3, 149, 0), (0, 0, 0, 0), (15, 0, 153, 0), (22, 12, 50, 520), (0, 0, 0, 0), (4, 6, 0, 0), (16, 0, 159, 0)]),
  (149, 47, [(3, 0, 2, 0), (18, 12, 50, 520), (22, 12, 50, 520), (0, 0, 0, 0), (4, 6, 0, 0), (16, 0, 159, 0)]),
  (159, 111, [(3, 6, 0, 0), (3, 1, 0, 0), (13, 3, 194, 0), (3, 5, 0, 0), (3, 0, 2, 0), (18, 12, 49, 517), (13, 3, 194, 0), (3, 0, 2, 0), (21, 12, 48, 133), (3, 6, 0, 0), (3, 0, 2, 0), (21, 12, 47, 130), (3, 6, 0, 0), (26, 0, 0, 0), (27, 0, 0, 0), (5, 6, 0, 1), (15, 0, 159, 0), (16, 0, 159, 0)]),
  (194, 47, [(3, 0, 2, 0), (3, 5, 0, 0), (22, 12, 49, 517), (3, 0, 2, 0), (11, 0, 0, 0), (18, 12, 50, 520), (0, 0, 0, 1), (6, 0, 0, 0), (22, 12, 50, 520), (16, 0, 210, 0)]),
  (210, 15, [(5, 3, 0, 1), (15, 0, 42, 0), (16, 0, 42, 0)]),
  (216, 0, [(42, 0, 0, 0)])]
def k_X12_tree : List (Nat × Nat × List Ins) := [(0, 3, [(3, 0, 2, 0), (0, 0, 0, 0), (22, 12, 0, 154), (3, 1, 0, 0), (10, 0, 0, 0), (1, 0, 0, 0), (3, 0, 2, 0), (21, 12, 3, 13), (0, 0, 0, 5), (26, 0, 0, 0), (10, 0, 0, 0), (39, 30, 186, 160), (12, 1, 23, 0), (0, 0, 0, (-1)), (55, 0, 0, 0)]),
  (23, 3, [(3, 0, 2, 0), (39, 22012, 295, 526), (3, 1, 0, 0), (12, 1, 38, 0), (3, 0, 2, 0), (18, 12, 49, 517), (15, 0, 64, 0), (55, 0, 0, 0)]),
  (38, 3, [(3, 0, 2, 0), (21, 12, 48, 133), (3, 1, 0, 0), (0, 0, 0, 1), (6, 1, 0, 0), (26, 0, 0, 0), (12, 1, 54, 0), (0, 1, 0, 100), (15, 0, 64, 0), (55, 0, 0, 0)]),
  (54, 3, [(3, 0, 2, 0), (21, 12, 48, 133), (3, 1, 0, 0), (0, 0, 0, 1), (6, 1, 0, 0), (26, 0, 0, 0), (0, 0, 0, 1), (6, 1, 0, 0), (55, 0, 0, 0)])]
def k_X12_trees : List (Nat × Nat × List Ins) := [(0, 1, [(3, 0, 2, 0), (0, 0, 0, 0), (22, 12, 0, 154), (3, 0, 2, 0), (39, 22012, 295, 526), (3, 0, 2, 0), (18, 12, 50, 520), (55, 0, 0, 0)])]
def k_X12_dated : List (Nat × Nat × List Ins) := [(0, 7, [(3, 0, 2, 0), (0, 0, 0, 0), (22, 12, 0, 154), (3, 0, 2, 0), (3, 1, 0, 0), (39, 22022, 200, 504), (12, 0, 25, 0), (3, 2, 0, 0), (10, 0, 0, 0), (1, 0, 0, 0), (1, 1, 205, 3), (39, 30, 186, 160), (12, 1, 27, 0), (16, 0, 25, 0)]),
  (25, 0, [(0, 0, 0, (-1)), (55, 0, 0, 0)]),
  (27, 7, [(0, 4, 513, 100000000), (4, 3, 0, 0), (0, 0, 0, 0), (4, 4, 0, 0), (0, 0, 0, 0), (4, 5, 0, 0), (0, 0, 0, 0), (4, 6, 0, 0), (0, 0, 0, 0), (4, 7, 0, 0), (16, 0, 43, 0)]),
  (43, 255, [(3, 7, 0, 0), (3, 0, 2, 0), (39, 22012, 197, 174), (13, 4, 150, 0), (3, 0, 2, 0), (0, 2, 0, 276), (0, 1, 0, 12), (3, 1, 0, 0), (6, 2, 0, 0), (6, 0, 0, 0), (0, 1, 0, 12), (0, 1, 0, 12), (3, 7, 0, 0), (6, 2, 0, 0), (6, 0, 0, 0), (39, 22032, 289, 507), (4, 8, 0, 0), (3, 8, 0, 0), (3, 3, 0, 0), (13, 3, 85, 0), (3, 7, 0, 0), (15, 0, 87, 0), (16, 0, 87, 0)]),
  (85, 511, [(3, 4, 0, 0), (16, 0, 87, 0)]),
  (87, 495, [(4, 4, 0, 0), (3, 8, 0, 0), (3, 3, 0, 0), (13, 3, 99, 0), (0, 0, 0, 1), (15, 0, 114, 0), (16, 0, 114, 0)]),
  (99, 511, [(3, 8, 0, 0), (3, 3, 0, 0), (13, 1, 112, 0), (3, 6, 0, 0), (0, 0, 0, 1), (6, 0, 0, 0), (15, 0, 114, 0), (16, 0, 114, 0)]),
  (112, 511, [(3, 6, 0, 0), (16, 0, 114, 0)]),
  (114, 447, [(4, 6, 0, 0), (3, 8, 0, 0), (3, 3, 0, 0), (13, 4, 127, 0), (3, 7, 0, 0), (15, 0, 129, 0), (16, 0, 129, 0)]),
  (127, 511, [(3, 5, 0, 0), (16, 0, 129, 0)]),
  (129, 479, [(4, 5, 0, 0), (3, 8, 0, 0), (3, 3, 0, 0), (13, 3, 142, 0), (3, 8, 0, 0), (15, 0, 143, 0), (4, 3, 0, 0), (5, 7, 0, 1), (15, 0, 43, 0), (16, 0, 43, 0)]),
  (142, 255, [(3, 3, 0, 0), (4, 3, 0, 0), (5, 7, 0, 1), (15, 0, 43, 0), (16, 0, 43, 0)]),
  (150, 124, [(3, 2, 0, 0), (12, 1, 158, 0), (3, 3, 0, 0), (15, 0, 180, 0), (55, 0, 0, 0)]),
  (158, 116, [(3, 2, 0, 0), (0, 0, 0, 1), (13, 1, 168, 0), (3, 4, 0, 0), (15, 0, 180, 0), (55, 0, 0, 0)]),
  (168, 100, [(3, 2, 0, 0), (0, 0, 0, 2), (13, 1, 178, 0), (3, 5, 0, 0), (15, 0, 180, 0), (55, 0, 0, 0)]),
  (178, 64, [(3, 6, 0, 0), (55, 0, 0, 0)])]
def k_X12_worst : List (Nat × Nat × List Ins) := [(0, 7, [(0, 0, 0, 0), (4, 3, 0, 0), (0, 0, 0, 0), (4, 4, 0, 0), (16, 0, 5, 0)]),
  (5, 31, [(3, 4, 0, 0), (0, 1, 0, 10), (13, 3, 122, 0), (0, 0, 0, 0), (4, 5, 0, 0), (0, 0, 0, 0), (4, 6, 0, 0), (16, 0, 18, 0)]),
  (18, 127, [(3, 6, 0, 0), (3, 0, 2, 0), (21, 12, 3, 13), (0, 0, 0, 5), (26, 0, 0, 0), (13, 3, 78, 0), (3, 5, 0, 0), (3, 1, 0, 0), (3, 6, 0, 0), (39, 20, 187, 492), (12, 0, 68, 0), (3, 0, 2, 0), (21, 12, 3, 13), (0, 2, 0, 276), (0, 1, 0, 12), (3, 6, 0, 0), (6, 2, 0, 0), (6, 0, 0, 0), (3, 2, 0, 0), (6, 0, 0, 0), (26, 0, 0, 0), (3, 4, 0, 0), (13, 1, 68, 0), (0, 0, 0, 1), (3, 6, 0, 0), (6, 6, 0, 0), (15, 0, 69, 0), (6, 4, 0, 0), (4, 5, 0, 0), (5, 6, 0, 1), (15, 0, 18, 0), (16, 0, 18, 0)]),
  (68, 95, [(0, 0, 0, 0), (6, 4, 0, 0), (4, 5, 0, 0), (5, 6, 0, 1), (15, 0, 18, 0), (16, 0, 18, 0)]),
  (78, 63, [(3, 5, 0, 0), (3, 1, 0, 0), (13, 1, 88, 0), (0, 4, 513, 100000000), (55, 0, 0, 0)]),
  (88, 63, [(3, 5, 0, 0), (12, 0, 114, 0), (3, 0, 2, 0), (21, 12, 51, 136), (3, 5, 0, 0), (26, 0, 0, 0), (3, 3, 0, 0), (13, 5, 114, 0), (3, 0, 2, 0), (21, 12, 51, 136), (3, 5, 0, 0), (26, 0, 0, 0), (15, 0, 115, 0), (4, 3, 0, 0), (5, 4, 0, 1), (15, 0, 5, 0), (16, 0, 5, 0)]),
  (114, 31, [(3, 3, 0, 0), (4, 3, 0, 0), (5, 4, 0, 1), (15, 0, 5, 0), (16, 0, 5, 0)]),
  (122, 8, [(3, 3, 0, 0), (55, 0, 0, 0)])]
def k_X12_findDepths : List (Nat × Nat × List Ins) := [(0, 1, [(0, 0, 0, 1), (4, 1, 0, 0), (16, 0, 2, 0)]),
  (2, 3, [(3, 1, 0, 0), (0, 0, 0, 1), (3, 0, 2, 0), (21, 12, 3, 13), (0, 0, 0, 5), (26, 0, 0, 0), (6, 6, 0, 0), (13, 3, 79, 0), (0, 4, 513, 100000000), (4, 2, 0, 0), (0, 0, 0, 0), (4, 3, 0, 0), (16, 0, 20, 0)]),
  (20, 15, [(3, 3, 0, 0), (0, 1, 0, 12), (13, 3, 53, 0), (3, 0, 2, 0), (3, 1, 0, 0), (3, 3, 0, 0), (39, 22032, 299, 529), (4, 4, 0, 0), (3, 4, 0, 0), (3, 2, 0, 0), (13, 3, 45, 0), (3, 4, 0, 0), (15, 0, 46, 0), (4, 2, 0, 0), (5, 3, 0, 1), (15, 0, 20, 0), (16, 0, 20, 0)]),
  (45, 15, [(3, 2, 0, 0), (4, 2, 0, 0), (5, 3, 0, 1), (15, 0, 20, 0), (16, 0, 20, 0)]),
  (53, 7, [(3, 0, 2, 0), (21, 12, 51, 136), (3, 1, 0, 0), (3, 2, 0, 0), (0, 4, 513, 100000000), (13, 1, 69, 0), (0, 0, 0, 0), (15, 0, 72, 0), (27, 0, 0, 0), (5, 1, 0, 1), (15, 0, 2, 0), (16, 0, 2, 0)]),
  (69, 7, [(3, 2, 0, 0), (0, 0, 0, 1), (6, 0, 0, 0), (27, 0, 0, 0), (5, 1, 0, 1), (15, 0, 2, 0), (16, 0, 2, 0)]),
  (79, 0, [(42, 0, 0, 0)])]
def k_X12_know : List (Nat × Nat × List Ins) := [(0, 3, [(3, 0, 2, 0), (0, 0, 0, 0), (22, 12, 0, 154), (0, 0, 0, 1), (3, 0, 2, 0), (21, 12, 3, 13), (0, 0, 0, 5), (26, 0, 0, 0), (6, 6, 0, 0), (0, 0, 0, 1), (6, 1, 0, 0), (4, 2, 0, 0), (3, 1, 0, 0), (10, 0, 0, 0), (1, 0, 0, 0), (1, 0, 0, 1), (39, 30, 186, 160), (12, 0, 30, 0), (3, 2, 0, 0), (12, 1, 32, 0), (16, 0, 30, 0)]),
  (30, 0, [(0, 0, 0, (-1)), (55, 0, 0, 0)]),
  (32, 7, [(3, 0, 2, 0), (39, 22012, 300, 532), (3, 1, 0, 0), (12, 0, 49, 0), (3, 0, 2, 0), (21, 12, 51, 136), (3, 2, 0, 0), (26, 0, 0, 0), (12, 1, 64, 0), (16, 0, 49, 0)]),
  (49, 7, [(3, 1, 0, 0), (12, 1, 62, 0), (3, 0, 2, 0), (21, 12, 51, 136), (3, 2, 0, 0), (26, 0, 0, 0), (15, 0, 63, 0), (55, 0, 0, 0)]),
  (62, 0, [(0, 0, 0, (-1)), (55, 0, 0, 0)]),
  (64, 5, [(0, 0, 0, 0), (4, 3, 0, 0), (16, 0, 66, 0)]),
  (66, 13, [(3, 0, 2, 0), (3, 2, 0, 0), (3, 3, 0, 0), (39, 22032, 299, 529), (0, 0, 0, 1), (6, 0, 0, 0), (3, 0, 2, 0), (21, 12, 51, 136), (3, 2, 0, 0), (26, 0, 0, 0), (13, 0, 89, 0), (5, 3, 0, 1), (15, 0, 66, 0), (16, 0, 66, 0)]),
  (89, 8, [(3, 3, 0, 0), (55, 0, 0, 0)])]
def k_X12_whoOf : List (Nat × Nat × List Ins) := [(0, 3, [(3, 0, 2, 0), (3, 1, 0, 0), (39, 22022, 259, 439), (3, 0, 2, 0), (0, 0, 0, 0), (3, 1, 0, 0), (0, 0, 0, 1), (6, 1, 0, 0), (39, 22032, 262, 442), (3, 0, 2, 0), (0, 0, 0, 2), (3, 1, 0, 0), (39, 22032, 262, 442), (0, 0, 0, 0), (4, 2, 0, 0), (0, 0, 0, 0), (4, 3, 0, 0), (16, 0, 23, 0)]),
  (23, 15, [(3, 3, 0, 0), (3, 0, 2, 0), (21, 12, 3, 13), (0, 0, 0, 0), (26, 0, 0, 0), (13, 3, 66, 0), (3, 0, 2, 0), (0, 0, 0, 0), (0, 0, 0, 1), (3, 3, 0, 0), (3, 1, 0, 0), (39, 22052, 261, 451), (3, 2, 0, 0), (3, 0, 2, 0), (0, 0, 0, 1), (0, 0, 0, 2), (39, 22032, 284, 498), (12, 0, 57, 0), (0, 0, 0, 1), (3, 3, 0, 0), (6, 6, 0, 0), (15, 0, 58, 0), (6, 4, 0, 0), (4, 2, 0, 0), (5, 3, 0, 1), (15, 0, 23, 0), (16, 0, 23, 0)]),
  (57, 11, [(0, 0, 0, 0), (6, 4, 0, 0), (4, 2, 0, 0), (5, 3, 0, 1), (15, 0, 23, 0), (16, 0, 23, 0)]),
  (66, 4, [(3, 2, 0, 0), (55, 0, 0, 0)])]
def k_X12_who : List (Nat × Nat × List Ins) := [(0, 3, [(3, 0, 2, 0), (0, 0, 0, 0), (22, 12, 0, 154), (3, 1, 0, 0), (10, 0, 0, 0), (1, 0, 0, 1), (3, 0, 2, 0), (39, 22012, 197, 174), (10, 0, 0, 0), (39, 30, 186, 160), (12, 0, 27, 0), (3, 0, 2, 0), (3, 1, 0, 0), (39, 22022, 302, 535), (15, 0, 28, 0), (55, 0, 0, 0)]),
  (27, 0, [(0, 0, 0, (-1)), (55, 0, 0, 0)])]
def k_X12_forge : List (Nat × Nat × List Ins) := [(0, 15, [(3, 0, 2, 0), (0, 0, 0, 0), (22, 12, 0, 154), (3, 2, 0, 0), (39, 10, 194, 182), (12, 0, 19, 0), (3, 3, 0, 0), (39, 10, 195, 186), (12, 1, 25, 0), (16, 0, 19, 0)]),
  (19, 1, [(3, 0, 2, 0), (0, 0, 0, (-1)), (39, 22022, 190, 164), (55, 0, 0, 0)]),
  (25, 15, [(3, 1, 0, 0), (10, 0, 0, 0), (1, 0, 0, 1), (3, 0, 2, 0), (39, 22012, 197, 174), (10, 0, 0, 0), (39, 30, 186, 160), (12, 0, 56, 0), (3, 0, 2, 0), (0, 1, 0, 12), (0, 1, 0, 12), (3, 1, 0, 0), (6, 2, 0, 0), (6, 0, 0, 0), (3, 2, 0, 0), (6, 0, 0, 0), (3, 3, 0, 0), (39, 22032, 191, 189), (15, 0, 62, 0), (55, 0, 0, 0)]),
  (56, 1, [(3, 0, 2, 0), (0, 1, 0, (-2)), (39, 22022, 190, 164), (55, 0, 0, 0)])]
def k_X12_skipped : List (Nat × Nat × List Ins) := [(0, 1, [(3, 0, 2, 0), (0, 0, 0, 0), (22, 12, 0, 154), (0, 0, 0, 1), (4, 1, 0, 0), (16, 0, 7, 0)]),
  (7, 3, [(3, 1, 0, 0), (3, 0, 2, 0), (39, 22012, 197, 174), (13, 4, 31, 0), (3, 0, 2, 0), (3, 1, 0, 0), (39, 22022, 302, 535), (12, 1, 25, 0), (3, 1, 0, 0), (55, 0, 0, 0)]),
  (25, 3, [(5, 1, 0, 1), (15, 0, 7, 0), (16, 0, 7, 0)]),
  (31, 0, [(0, 0, 0, (-1)), (55, 0, 0, 0)])]
def k_X12_missing : List (Nat × Nat × List Ins) := [(0, 7, [(3, 0, 2, 0), (0, 0, 0, 0), (22, 12, 0, 154), (3, 1, 0, 0), (10, 0, 0, 0), (1, 0, 0, 1), (3, 0, 2, 0), (39, 22012, 197, 174), (10, 0, 0, 0), (39, 30, 186, 160), (12, 0, 31, 0), (3, 2, 0, 0), (10, 0, 0, 0), (1, 0, 0, 1), (1, 1, 192, 2), (39, 30, 186, 160), (12, 1, 33, 0), (16, 0, 31, 0)]),
  (31, 0, [(0, 0, 0, (-1)), (55, 0, 0, 0)]),
  (33, 7, [(3, 0, 2, 0), (3, 1, 0, 0), (39, 22022, 259, 439), (3, 0, 2, 0), (0, 0, 0, 0), (3, 1, 0, 0), (0, 0, 0, 1), (6, 1, 0, 0), (39, 22032, 262, 442), (3, 0, 2, 0), (0, 0, 0, 4), (3, 1, 0, 0), (39, 22032, 262, 442), (3, 0, 2, 0), (21, 12, 3, 13), (0, 0, 0, 0), (26, 0, 0, 0), (4, 3, 0, 0), (0, 0, 0, 0), (4, 4, 0, 0), (0, 0, 0, 0), (4, 5, 0, 0), (16, 0, 65, 0)]),
  (65, 63, [(3, 5, 0, 0), (3, 3, 0, 0), (13, 3, 182, 0), (3, 0, 2, 0), (0, 0, 0, 0), (0, 0, 0, 1), (3, 5, 0, 0), (3, 1, 0, 0), (39, 22052, 261, 451), (0, 0, 0, 0), (4, 6, 0, 0), (16, 0, 83, 0)]),
  (83, 127, [(3, 6, 0, 0), (3, 3, 0, 0), (13, 3, 176, 0), (3, 0, 2, 0), (0, 0, 0, 1), (0, 0, 0, 2), (3, 6, 0, 0), (3, 1, 0, 0), (39, 22052, 261, 451), (3, 4, 0, 0), (3, 2, 0, 0), (0, 0, 0, 1), (13, 1, 118, 0), (3, 0, 2, 0), (0, 0, 0, 2), (0, 0, 0, 4), (39, 22032, 284, 498), (12, 0, 118, 0), (0, 0, 0, 1), (15, 0, 119, 0), (6, 0, 0, 0), (4, 4, 0, 0), (0, 0, 0, 0), (4, 7, 0, 0), (16, 0, 125, 0)]),
  (118, 111, [(0, 0, 0, 0), (6, 0, 0, 0), (4, 4, 0, 0), (0, 0, 0, 0), (4, 7, 0, 0), (16, 0, 125, 0)]),
  (125, 255, [(3, 7, 0, 0), (3, 3, 0, 0), (13, 3, 170, 0), (3, 2, 0, 0), (0, 0, 0, 2), (13, 1, 170, 0), (3, 0, 2, 0), (0, 0, 0, 2), (0, 0, 0, 3), (3, 7, 0, 0), (3, 1, 0, 0), (39, 22052, 261, 451), (3, 4, 0, 0), (3, 0, 2, 0), (0, 0, 0, 3), (0, 0, 0, 4), (39, 22032, 284, 498), (12, 0, 160, 0), (0, 0, 0, 1), (15, 0, 161, 0), (6, 0, 0, 0), (4, 4, 0, 0), (5, 7, 0, 1), (15, 0, 125, 0), (16, 0, 125, 0)]),
  (160, 239, [(0, 0, 0, 0), (6, 0, 0, 0), (4, 4, 0, 0), (5, 7, 0, 1), (15, 0, 125, 0), (16, 0, 125, 0)]),
  (170, 127, [(5, 6, 0, 1), (15, 0, 83, 0), (16, 0, 83, 0)]),
  (176, 63, [(5, 5, 0, 1), (15, 0, 65, 0), (16, 0, 65, 0)]),
  (182, 16, [(3, 4, 0, 0), (55, 0, 0, 0)])]
def k_X12_wasOf : List (Nat × Nat × List Ins) := [(0, 3, [(0, 0, 0, 0), (4, 2, 0, 0), (0, 0, 0, 0), (4, 3, 0, 0), (16, 0, 4, 0)]),
  (4, 15, [(3, 3, 0, 0), (0, 1, 0, 10), (13, 3, 79, 0), (3, 3, 0, 0), (4, 4, 0, 0), (0, 0, 0, 1), (4, 5, 0, 0), (16, 0, 16, 0)]),
  (16, 63, [(3, 5, 0, 0), (3, 0, 2, 0), (39, 22012, 197, 174), (13, 4, 53, 0), (3, 0, 2, 0), (3, 0, 2, 0), (21, 12, 3, 13), (0, 2, 0, 216), (3, 5, 0, 0), (6, 0, 0, 0), (26, 0, 0, 0), (3, 1, 0, 0), (3, 5, 0, 0), (3, 4, 0, 0), (39, 22052, 260, 432), (4, 4, 0, 0), (5, 5, 0, 1), (15, 0, 16, 0), (16, 0, 16, 0)]),
  (53, 31, [(3, 2, 0, 0), (3, 4, 0, 0), (3, 0, 2, 0), (3, 1, 0, 0), (39, 22022, 203, 380), (13, 1, 70, 0), (0, 0, 0, 1), (3, 3, 0, 0), (6, 6, 0, 0), (15, 0, 71, 0), (6, 4, 0, 0), (4, 2, 0, 0), (5, 3, 0, 1), (15, 0, 4, 0), (16, 0, 4, 0)]),
  (70, 11, [(0, 0, 0, 0), (6, 4, 0, 0), (4, 2, 0, 0), (5, 3, 0, 1), (15, 0, 4, 0), (16, 0, 4, 0)]),
  (79, 4, [(3, 2, 0, 0), (55, 0, 0, 0)])]
def k_X12_layAll : List (Nat × Nat × List Ins) := [(0, 1, [(0, 0, 0, 1), (4, 1, 0, 0), (16, 0, 2, 0)]),
  (2, 3, [(3, 1, 0, 0), (3, 0, 2, 0), (39, 22012, 197, 174), (13, 4, 21, 0), (3, 0, 2, 0), (3, 1, 0, 0), (39, 22022, 259, 439), (5, 1, 0, 1), (15, 0, 2, 0), (16, 0, 2, 0)]),
  (21, 0, [(42, 0, 0, 0)])]
def k_X12_was : List (Nat × Nat × List Ins) := [(0, 3, [(3, 0, 2, 0), (0, 0, 0, 0), (22, 12, 0, 154), (3, 1, 0, 0), (39, 10, 194, 182), (12, 1, 14, 0), (0, 0, 0, (-1)), (55, 0, 0, 0)]),
  (14, 3, [(3, 0, 2, 0), (39, 22012, 308, 538), (3, 0, 2, 0), (3, 1, 0, 0), (39, 22022, 307, 541), (55, 0, 0, 0)])]
def k_X12_ways : List (Nat × Nat × List Ins) := [(0, 1, [(3, 0, 2, 0), (0, 0, 0, 0), (22, 12, 0, 154), (3, 0, 2, 0), (39, 22012, 308, 538), (1, 0, 0, 1), (4, 1, 1, 0), (0, 0, 0, 0), (4, 3, 0, 0), (16, 0, 13, 0)]),
  (13, 11, [(3, 3, 0, 0), (0, 1, 0, 12), (13, 3, 69, 0), (3, 0, 2, 0), (3, 3, 0, 0), (39, 22022, 307, 541), (4, 4, 0, 0), (0, 0, 0, 0), (4, 5, 0, 0), (0, 0, 0, 0), (4, 6, 0, 0), (16, 0, 32, 0)]),
  (32, 123, [(3, 6, 0, 0), (0, 1, 0, 10), (13, 3, 57, 0), (3, 5, 0, 0), (3, 4, 0, 0), (3, 6, 0, 0), (6, 7, 0, 0), (0, 0, 0, 1), (6, 3, 0, 0), (6, 0, 0, 0), (4, 5, 0, 0), (5, 6, 0, 1), (15, 0, 32, 0), (16, 0, 32, 0)]),
  (57, 43, [(3, 1, 1, 0), (3, 5, 0, 0), (10, 0, 0, 0), (8, 2, 0, 0), (4, 1, 1, 0), (5, 3, 0, 1), (15, 0, 13, 0), (16, 0, 13, 0)]),
  (69, 2, [(3, 1, 1, 0), (56, 0, 0, 0)])]
def k_X12_claimant : List (Nat × Nat × List Ins) := [(0, 31, [(3, 0, 2, 0), (0, 0, 0, 0), (22, 12, 0, 154), (3, 1, 0, 0), (0, 0, 0, (-1)), (13, 2, 44, 0), (3, 2, 0, 0), (39, 10, 196, 211), (12, 0, 44, 0), (3, 3, 0, 0), (3, 2, 0, 0), (13, 5, 44, 0), (3, 3, 0, 0), (0, 2, 0, 150), (13, 4, 44, 0), (3, 4, 0, 0), (10, 0, 0, 0), (1, 1, 254, (-1)), (1, 1, 201, 5), (39, 30, 186, 160), (12, 1, 50, 0), (16, 0, 44, 0)]),
  (44, 1, [(3, 0, 2, 0), (0, 0, 0, (-1)), (39, 22022, 190, 164), (55, 0, 0, 0)]),
  (50, 31, [(3, 1, 0, 0), (0, 0, 0, (-1)), (13, 0, 70, 0), (3, 0, 2, 0), (3, 1, 0, 0), (39, 22022, 201, 544), (12, 1, 70, 0), (3, 0, 2, 0), (0, 1, 0, (-2)), (39, 22022, 190, 164), (55, 0, 0, 0)]),
  (70, 31, [(3, 0, 2, 0), (21, 12, 3, 13), (0, 1, 0, 6), (26, 0, 0, 0), (4, 5, 0, 0), (3, 5, 0, 0), (0, 1, 0, 8), (13, 1, 93, 0), (3, 0, 2, 0), (0, 1, 0, (-5)), (39, 22022, 190, 164), (55, 0, 0, 0)]),
  (93, 63, [(0, 2, 0, 348), (0, 0, 0, 4), (3, 5, 0, 0), (6, 2, 0, 0), (6, 0, 0, 0), (4, 6, 0, 0), (3, 0, 2, 0), (21, 12, 3, 13), (3, 6, 0, 0), (3, 1, 0, 0), (27, 0, 0, 0), (3, 0, 2, 0), (21, 12, 3, 13), (3, 6, 0, 0), (0, 0, 0, 1), (6, 0, 0, 0), (3, 2, 0, 0), (27, 0, 0, 0), (3, 0, 2, 0), (21, 12, 3, 13), (3, 6, 0, 0), (0, 0, 0, 2), (6, 0, 0, 0), (3, 3, 0, 0), (27, 0, 0, 0), (3, 0, 2, 0), (21, 12, 3, 13), (3, 6, 0, 0), (0, 0, 0, 3), (6, 0, 0, 0), (3, 4, 0, 0), (27, 0, 0, 0), (3, 0, 2, 0), (21, 12, 3, 13), (0, 1, 0, 6), (50, 0, 0, 0), (26, 0, 0, 0), (0, 0, 0, 1), (6, 0, 0, 0), (27, 0, 0, 0), (3, 0, 2, 0), (3, 5, 0, 0), (39, 22022, 190, 164), (55, 0, 0, 0)])]
def k_X12_ofClaimant : List (Nat × Nat × List Ins) := [(0, 7, [(3, 0, 2, 0), (21, 12, 3, 13), (0, 2, 0, 348), (0, 0, 0, 4), (3, 1, 0, 0), (6, 2, 0, 0), (6, 0, 0, 0), (3, 2, 0, 0), (6, 0, 0, 0), (26, 0, 0, 0), (55, 0, 0, 0)])]
def k_X12_claim : List (Nat × Nat × List Ins) := [(0, 15, [(3, 0, 2, 0), (0, 0, 0, 0), (22, 12, 0, 154), (3, 2, 0, 0), (12, 1, 21, 0), (3, 3, 0, 0), (10, 0, 0, 0), (1, 0, 0, 0), (1, 1, 547, 150), (39, 30, 186, 160), (15, 0, 45, 0), (16, 0, 45, 0)]),
  (21, 15, [(3, 2, 0, 0), (0, 0, 0, 1), (13, 1, 44, 0), (3, 3, 0, 0), (10, 0, 0, 0), (1, 1, 254, (-1)), (1, 1, 201, 5), (39, 30, 186, 160), (12, 0, 44, 0), (0, 0, 0, 1), (15, 0, 45, 0), (16, 0, 45, 0)]),
  (44, 15, [(0, 0, 0, 0), (16, 0, 45, 0)]),
  (45, 15, [(4, 4, 0, 0), (3, 4, 0, 0), (12, 1, 58, 0), (3, 0, 2, 0), (0, 0, 0, (-1)), (39, 22022, 190, 164), (55, 0, 0, 0)]),
  (58, 15, [(3, 0, 2, 0), (3, 1, 0, 0), (39, 22022, 201, 544), (12, 1, 73, 0), (3, 0, 2, 0), (0, 1, 0, (-2)), (39, 22022, 190, 164), (55, 0, 0, 0)]),
  (73, 15, [(3, 2, 0, 0), (12, 1, 95, 0), (3, 3, 0, 0), (3, 0, 2, 0), (3, 1, 0, 0), (0, 0, 0, 1), (39, 22032, 312, 549), (13, 4, 95, 0), (3, 0, 2, 0), (0, 0, 0, (-1)), (39, 22022, 190, 164), (15, 0, 111, 0), (55, 0, 0, 0)]),
  (95, 15, [(3, 0, 2, 0), (0, 2, 0, 348), (0, 0, 0, 4), (3, 1, 0, 0), (6, 2, 0, 0), (6, 0, 0, 0), (0, 0, 0, 2), (6, 0, 0, 0), (3, 2, 0, 0), (6, 0, 0, 0), (3, 3, 0, 0), (39, 22032, 191, 189), (55, 0, 0, 0)])]
def k_X12_born : List (Nat × Nat × List Ins) := [(0, 7, [(3, 0, 2, 0), (0, 0, 0, 0), (22, 12, 0, 154), (3, 0, 2, 0), (3, 1, 0, 0), (39, 22022, 201, 544), (12, 0, 34, 0), (3, 2, 0, 0), (10, 0, 0, 0), (1, 0, 0, 0), (1, 1, 205, 3), (39, 30, 186, 160), (12, 0, 34, 0), (3, 0, 2, 0), (3, 1, 0, 0), (3, 2, 0, 0), (39, 22032, 312, 549), (15, 0, 35, 0), (55, 0, 0, 0)]),
  (34, 0, [(0, 0, 0, (-1)), (55, 0, 0, 0)])]
def k_X12_isAlive : List (Nat × Nat × List Ins) := [(0, 7, [(3, 2, 0, 0), (3, 0, 2, 0), (3, 1, 0, 0), (0, 0, 0, 1), (39, 22032, 312, 549), (13, 2, 24, 0), (3, 2, 0, 0), (3, 0, 2, 0), (3, 1, 0, 0), (0, 0, 0, 2), (39, 22032, 312, 549), (13, 3, 24, 0), (0, 0, 0, 1), (15, 0, 25, 0), (58, 0, 0, 0)]),
  (24, 0, [(0, 0, 0, 0), (58, 0, 0, 0)])]
def k_X12_childrenOf : List (Nat × Nat × List Ins) := [(0, 7, [(0, 0, 0, 0), (4, 3, 0, 0), (0, 0, 0, 0), (4, 4, 0, 0), (16, 0, 5, 0)]),
  (5, 31, [(3, 4, 0, 0), (3, 0, 2, 0), (21, 12, 3, 13), (0, 1, 0, 6), (26, 0, 0, 0), (13, 3, 52, 0), (3, 3, 0, 0), (3, 0, 2, 0), (3, 4, 0, 0), (0, 0, 0, 0), (39, 22032, 312, 549), (3, 1, 0, 0), (13, 1, 43, 0), (3, 0, 2, 0), (3, 4, 0, 0), (3, 2, 0, 0), (39, 22032, 315, 552), (12, 0, 43, 0), (0, 0, 0, 1), (15, 0, 44, 0), (6, 0, 0, 0), (4, 3, 0, 0), (5, 4, 0, 1), (15, 0, 5, 0), (16, 0, 5, 0)]),
  (43, 23, [(0, 0, 0, 0), (6, 0, 0, 0), (4, 3, 0, 0), (5, 4, 0, 1), (15, 0, 5, 0), (16, 0, 5, 0)]),
  (52, 8, [(3, 3, 0, 0), (55, 0, 0, 0)])]
def k_X12_setClaimant : List (Nat × Nat × List Ins) := [(0, 7, [(3, 0, 2, 0), (3, 1, 0, 0), (0, 0, 0, 3), (39, 22032, 312, 549), (4, 3, 0, 0), (3, 0, 2, 0), (3, 2, 0, 0), (39, 22022, 250, 407), (3, 0, 2, 0), (21, 12, 31, 100), (0, 0, 0, 2), (3, 2, 0, 0), (3, 0, 2, 0), (3, 1, 0, 0), (0, 0, 0, 1), (39, 22032, 312, 549), (6, 1, 0, 0), (10, 0, 0, 0), (52, 0, 0, 0), (3, 0, 2, 0), (21, 12, 31, 100), (0, 1, 0, 7), (3, 1, 0, 0), (10, 0, 0, 0), (52, 0, 0, 0), (3, 0, 2, 0), (21, 12, 31, 100), (0, 1, 0, 8), (3, 0, 2, 0), (3, 1, 0, 0), (0, 0, 0, 1), (39, 22032, 312, 549), (10, 0, 0, 0), (52, 0, 0, 0), (3, 0, 2, 0), (21, 12, 31, 100), (0, 1, 0, 9), (3, 0, 2, 0), (3, 3, 0, 0), (39, 22022, 200, 504), (12, 0, 73, 0), (3, 0, 2, 0), (3, 3, 0, 0), (39, 22022, 290, 510), (10, 0, 0, 0), (15, 0, 76, 0), (16, 0, 76, 0)]),
  (73, 7, [(1, 1, 254, (-1)), (16, 0, 76, 0)]),
  (76, 7, [(52, 0, 0, 0), (3, 0, 2, 0), (21, 12, 31, 100), (0, 1, 0, 10), (3, 0, 2, 0), (3, 1, 0, 0), (3, 2, 0, 0), (39, 22032, 316, 555), (10, 0, 0, 0), (52, 0, 0, 0), (42, 0, 0, 0)])]
def k_X12_ranks : List (Nat × Nat × List Ins) := [(0, 7, [(3, 0, 2, 0), (3, 1, 0, 0), (3, 2, 0, 0), (39, 22032, 317, 558), (3, 0, 2, 0), (0, 0, 0, 3), (3, 1, 0, 0), (10, 0, 0, 0), (39, 22032, 249, 413), (0, 0, 0, 0), (0, 2, 0, 999), (39, 30, 189, 403), (55, 0, 0, 0)])]
def k_X12_isOut : List (Nat × Nat × List Ins) := [(0, 7, [(3, 0, 2, 0), (3, 1, 0, 0), (3, 2, 0, 0), (39, 22032, 317, 558), (3, 0, 2, 0), (0, 0, 0, 4), (1, 0, 0, 0), (39, 22032, 249, 413), (1, 0, 0, 1), (9, 0, 0, 0), (12, 1, 21, 0), (0, 0, 0, 1), (15, 0, 22, 0), (58, 0, 0, 0)]),
  (21, 0, [(0, 0, 0, 0), (58, 0, 0, 0)])]
def k_X12_stands : List (Nat × Nat × List Ins) := [(0, 15, [(3, 0, 2, 0), (0, 0, 0, 0), (22, 12, 0, 154), (3, 0, 2, 0), (3, 1, 0, 0), (39, 22022, 201, 544), (12, 0, 32, 0), (3, 2, 0, 0), (39, 10, 196, 211), (12, 0, 32, 0), (3, 3, 0, 0), (10, 0, 0, 0), (1, 0, 0, 0), (1, 1, 205, 3), (39, 30, 186, 160), (12, 1, 34, 0), (16, 0, 32, 0)]),
  (32, 0, [(0, 0, 0, (-1)), (55, 0, 0, 0)]),
  (34, 15, [(3, 3, 0, 0), (17, 9, 0, 25)]),
  (60, 7, [(3, 0, 2, 0), (3, 1, 0, 0), (3, 2, 0, 0), (39, 22032, 315, 552), (12, 0, 73, 0), (0, 0, 0, 1), (15, 0, 74, 0), (55, 0, 0, 0)]),
  (73, 0, [(0, 0, 0, 0), (55, 0, 0, 0)]),
  (75, 7, [(3, 0, 2, 0), (3, 1, 0, 0), (3, 2, 0, 0), (39, 22032, 318, 561), (55, 0, 0, 0)]),
  (82, 7, [(3, 0, 2, 0), (3, 1, 0, 0), (3, 2, 0, 0), (39, 22032, 319, 564), (12, 0, 95, 0), (0, 0, 0, 1), (15, 0, 96, 0), (55, 0, 0, 0)]),
  (95, 0, [(0, 0, 0, 0), (55, 0, 0, 0)]),
  (97, 7, [(3, 0, 2, 0), (3, 1, 0, 0), (3, 2, 0, 0), (39, 22032, 316, 555), (55, 0, 0, 0)])]
def k_X12_findRulers : List (Nat × Nat × List Ins) := [(0, 1, [(0, 0, 0, 0), (4, 1, 0, 0), (16, 0, 2, 0)]),
  (2, 3, [(3, 1, 0, 0), (0, 1, 0, 100), (13, 3, 161, 0), (3, 1, 0, 0), (12, 1, 16, 0), (0, 0, 0, (-1)), (15, 0, 24, 0), (16, 0, 24, 0)]),
  (16, 3, [(3, 0, 2, 0), (21, 12, 52, 139), (3, 1, 0, 0), (0, 0, 0, 1), (6, 1, 0, 0), (26, 0, 0, 0), (16, 0, 24, 0)]),
  (24, 3, [(4, 2, 0, 0), (3, 2, 0, 0), (0, 0, 0, (-1)), (13, 0, 43, 0), (3, 0, 2, 0), (3, 2, 0, 0), (3, 1, 0, 0), (39, 22032, 315, 552), (12, 0, 43, 0), (3, 2, 0, 0), (15, 0, 44, 0), (16, 0, 44, 0)]),
  (43, 3, [(0, 0, 0, (-1)), (16, 0, 44, 0)]),
  (44, 3, [(4, 2, 0, 0), (0, 4, 513, 100000000), (4, 3, 0, 0), (3, 2, 0, 0), (0, 0, 0, (-1)), (13, 0, 58, 0), (0, 0, 0, 1), (15, 0, 59, 0), (4, 4, 0, 0), (0, 0, 0, 0), (4, 5, 0, 0), (16, 0, 64, 0)]),
  (58, 15, [(0, 0, 0, 0), (4, 4, 0, 0), (0, 0, 0, 0), (4, 5, 0, 0), (16, 0, 64, 0)]),
  (64, 63, [(3, 5, 0, 0), (3, 0, 2, 0), (21, 12, 3, 13), (0, 1, 0, 6), (26, 0, 0, 0), (13, 3, 148, 0), (3, 4, 0, 0), (12, 1, 148, 0), (3, 0, 2, 0), (3, 5, 0, 0), (3, 1, 0, 0), (39, 22032, 315, 552), (12, 0, 111, 0), (3, 0, 2, 0), (3, 5, 0, 0), (3, 1, 0, 0), (39, 22032, 319, 564), (12, 1, 111, 0), (3, 0, 2, 0), (3, 5, 0, 0), (3, 1, 0, 0), (39, 22032, 318, 561), (15, 0, 114, 0), (16, 0, 114, 0)]),
  (111, 63, [(0, 4, 513, 100000000), (16, 0, 114, 0)]),
  (114, 63, [(4, 6, 0, 0), (3, 6, 0, 0), (3, 3, 0, 0), (13, 3, 127, 0), (3, 5, 0, 0), (15, 0, 128, 0), (16, 0, 128, 0)]),
  (127, 127, [(3, 2, 0, 0), (16, 0, 128, 0)]),
  (128, 123, [(4, 2, 0, 0), (3, 6, 0, 0), (3, 3, 0, 0), (13, 3, 140, 0), (3, 6, 0, 0), (15, 0, 141, 0), (4, 3, 0, 0), (5, 5, 0, 1), (15, 0, 64, 0), (16, 0, 64, 0)]),
  (140, 63, [(3, 3, 0, 0), (4, 3, 0, 0), (5, 5, 0, 1), (15, 0, 64, 0), (16, 0, 64, 0)]),
  (148, 7, [(3, 0, 2, 0), (21, 12, 52, 139), (3, 1, 0, 0), (3, 2, 0, 0), (27, 0, 0, 0), (5, 1, 0, 1), (15, 0, 2, 0), (16, 0, 2, 0)]),
  (161, 0, [(42, 0, 0, 0)])]
def k_X12_ruler : List (Nat × Nat × List Ins) := [(0, 3, [(3, 0, 2, 0), (0, 0, 0, 0), (22, 12, 0, 154), (3, 1, 0, 0), (39, 10, 196, 211), (12, 1, 14, 0), (0, 0, 0, (-1)), (55, 0, 0, 0)]),
  (14, 3, [(3, 0, 2, 0), (39, 22012, 321, 567), (3, 0, 2, 0), (21, 12, 52, 139), (3, 1, 0, 0), (26, 0, 0, 0), (55, 0, 0, 0)])]
def k_X12_reign : List (Nat × Nat × List Ins) := [(0, 7, [(3, 0, 2, 0), (0, 0, 0, 0), (22, 12, 0, 154), (3, 1, 0, 0), (0, 0, 0, (-1)), (13, 0, 24, 0), (3, 2, 0, 0), (10, 0, 0, 0), (1, 0, 0, 0), (1, 1, 192, 2), (39, 30, 186, 160), (12, 1, 24, 0), (0, 0, 0, (-1)), (55, 0, 0, 0)]),
  (24, 7, [(3, 0, 2, 0), (39, 22012, 321, 567), (0, 0, 0, 0), (4, 3, 0, 0), (0, 0, 0, 0), (4, 4, 0, 0), (16, 0, 33, 0)]),
  (33, 31, [(3, 4, 0, 0), (0, 1, 0, 100), (13, 3, 130, 0), (3, 4, 0, 0), (4, 5, 0, 0), (16, 0, 44, 0)]),
  (44, 63, [(3, 5, 0, 0), (0, 1, 0, 100), (13, 3, 74, 0), (3, 0, 2, 0), (21, 12, 52, 139), (3, 5, 0, 0), (26, 0, 0, 0), (3, 0, 2, 0), (21, 12, 52, 139), (3, 4, 0, 0), (26, 0, 0, 0), (13, 1, 74, 0), (5, 5, 0, 1), (15, 0, 44, 0), (16, 0, 44, 0)]),
  (74, 63, [(3, 0, 2, 0), (21, 12, 52, 139), (3, 4, 0, 0), (26, 0, 0, 0), (0, 0, 0, (-1)), (13, 0, 123, 0), (3, 3, 0, 0), (3, 1, 0, 0), (13, 1, 120, 0), (3, 2, 0, 0), (12, 1, 104, 0), (3, 0, 2, 0), (21, 12, 52, 139), (3, 4, 0, 0), (26, 0, 0, 0), (15, 0, 119, 0), (55, 0, 0, 0)]),
  (104, 52, [(3, 2, 0, 0), (0, 0, 0, 1), (13, 1, 114, 0), (3, 4, 0, 0), (15, 0, 119, 0), (55, 0, 0, 0)]),
  (114, 48, [(3, 5, 0, 0), (3, 4, 0, 0), (6, 1, 0, 0), (55, 0, 0, 0)]),
  (120, 47, [(5, 3, 0, 1), (16, 0, 123, 0)]),
  (123, 47, [(3, 5, 0, 0), (4, 4, 0, 0), (15, 0, 33, 0), (16, 0, 33, 0)]),
  (130, 10, [(3, 1, 0, 0), (0, 0, 0, (-1)), (13, 1, 139, 0), (3, 3, 0, 0), (15, 0, 140, 0), (55, 0, 0, 0)]),
  (139, 0, [(0, 0, 0, (-1)), (55, 0, 0, 0)])]
def k_X12_vacant : List (Nat × Nat × List Ins) := [(0, 1, [(3, 0, 2, 0), (0, 0, 0, 0), (22, 12, 0, 154), (3, 0, 2, 0), (39, 22012, 321, 567), (0, 0, 0, 0), (4, 1, 0, 0), (0, 0, 0, 0), (4, 2, 0, 0), (16, 0, 13, 0)]),
  (13, 7, [(3, 2, 0, 0), (0, 1, 0, 100), (13, 3, 43, 0), (3, 1, 0, 0), (3, 0, 2, 0), (21, 12, 52, 139), (3, 2, 0, 0), (26, 0, 0, 0), (0, 0, 0, (-1)), (13, 1, 34, 0), (0, 0, 0, 1), (15, 0, 35, 0), (6, 0, 0, 0), (4, 1, 0, 0), (5, 2, 0, 1), (15, 0, 13, 0), (16, 0, 13, 0)]),
  (34, 5, [(0, 0, 0, 0), (6, 0, 0, 0), (4, 1, 0, 0), (5, 2, 0, 1), (15, 0, 13, 0), (16, 0, 13, 0)]),
  (43, 2, [(3, 1, 0, 0), (55, 0, 0, 0)])]
def k_X12_line : List (Nat × Nat × List Ins) := [(0, 7, [(3, 0, 2, 0), (0, 0, 0, 0), (22, 12, 0, 154), (3, 1, 0, 0), (39, 10, 196, 211), (12, 1, 14, 0), (0, 0, 0, (-1)), (55, 0, 0, 0)]),
  (14, 7, [(0, 0, 0, 0), (4, 3, 0, 0), (0, 0, 0, 0), (4, 4, 0, 0), (16, 0, 19, 0)]),
  (19, 31, [(3, 4, 0, 0), (3, 0, 2, 0), (21, 12, 3, 13), (0, 1, 0, 6), (26, 0, 0, 0), (13, 3, 98, 0), (3, 0, 2, 0), (21, 12, 53, 142), (3, 4, 0, 0), (3, 0, 2, 0), (3, 4, 0, 0), (3, 1, 0, 0), (39, 22032, 315, 552), (12, 0, 67, 0), (3, 0, 2, 0), (3, 4, 0, 0), (3, 1, 0, 0), (39, 22032, 319, 564), (12, 1, 67, 0), (3, 0, 2, 0), (3, 4, 0, 0), (3, 1, 0, 0), (39, 22032, 318, 561), (15, 0, 70, 0), (16, 0, 70, 0)]),
  (67, 31, [(0, 4, 513, 100000000), (16, 0, 70, 0)]),
  (70, 31, [(27, 0, 0, 0), (3, 3, 0, 0), (3, 0, 2, 0), (21, 12, 53, 142), (3, 4, 0, 0), (26, 0, 0, 0), (0, 4, 513, 100000000), (13, 3, 89, 0), (0, 0, 0, 1), (15, 0, 90, 0), (6, 0, 0, 0), (4, 3, 0, 0), (5, 4, 0, 1), (15, 0, 19, 0), (16, 0, 19, 0)]),
  (89, 23, [(0, 0, 0, 0), (6, 0, 0, 0), (4, 3, 0, 0), (5, 4, 0, 1), (15, 0, 19, 0), (16, 0, 19, 0)]),
  (98, 13, [(0, 0, 0, 0), (4, 4, 0, 0), (16, 0, 101, 0)]),
  (101, 29, [(3, 4, 0, 0), (3, 0, 2, 0), (21, 12, 3, 13), (0, 1, 0, 6), (26, 0, 0, 0), (13, 3, 221, 0), (3, 2, 0, 0), (0, 0, 0, (-1)), (13, 0, 221, 0), (0, 0, 0, 0), (4, 5, 0, 0), (0, 0, 0, 0), (4, 6, 0, 0), (16, 0, 124, 0)]),
  (124, 125, [(3, 6, 0, 0), (3, 0, 2, 0), (21, 12, 3, 13), (0, 1, 0, 6), (26, 0, 0, 0), (13, 3, 193, 0), (3, 5, 0, 0), (3, 0, 2, 0), (21, 12, 53, 142), (3, 6, 0, 0), (26, 0, 0, 0), (3, 0, 2, 0), (21, 12, 53, 142), (3, 4, 0, 0), (26, 0, 0, 0), (13, 2, 179, 0), (3, 0, 2, 0), (21, 12, 53, 142), (3, 6, 0, 0), (26, 0, 0, 0), (3, 0, 2, 0), (21, 12, 53, 142), (3, 4, 0, 0), (26, 0, 0, 0), (13, 1, 183, 0), (3, 6, 0, 0), (3, 4, 0, 0), (13, 3, 183, 0), (16, 0, 179, 0)]),
  (179, 93, [(0, 0, 0, 1), (15, 0, 184, 0), (6, 0, 0, 0), (4, 5, 0, 0), (5, 6, 0, 1), (15, 0, 124, 0), (16, 0, 124, 0)]),
  (183, 93, [(0, 0, 0, 0), (6, 0, 0, 0), (4, 5, 0, 0), (5, 6, 0, 1), (15, 0, 124, 0), (16, 0, 124, 0)]),
  (193, 61, [(3, 0, 2, 0), (21, 12, 53, 142), (3, 4, 0, 0), (26, 0, 0, 0), (0, 4, 513, 100000000), (13, 3, 215, 0), (3, 5, 0, 0), (3, 2, 0, 0), (13, 1, 215, 0), (3, 4, 0, 0), (55, 0, 0, 0)]),
  (215, 29, [(5, 4, 0, 1), (15, 0, 101, 0), (16, 0, 101, 0)]),
  (221, 12, [(3, 2, 0, 0), (0, 0, 0, (-1)), (13, 1, 230, 0), (3, 3, 0, 0), (15, 0, 231, 0), (55, 0, 0, 0)]),
  (230, 0, [(0, 0, 0, (-1)), (55, 0, 0, 0)])]
def k_X12_readSum : List (Nat × Nat × List Ins) := [(0, 3, [(3, 0, 2, 0), (21, 12, 54, 145), (3, 1, 0, 0), (3, 0, 2, 0), (18, 12, 19, 266), (27, 0, 0, 0), (3, 0, 2, 0), (20, 12, 15, 227), (12, 1, 22, 0), (3, 0, 2, 0), (0, 0, 0, 0), (39, 22022, 240, 357), (16, 0, 22, 0)]),
  (22, 3, [(3, 0, 2, 0), (21, 12, 54, 145), (3, 1, 0, 0), (0, 0, 0, 1), (6, 0, 0, 0), (3, 0, 2, 0), (18, 12, 19, 266), (27, 0, 0, 0), (42, 0, 0, 0)])]
def k_X12_readHead : List (Nat × Nat × List Ins) := [(0, 1, [(3, 0, 2, 0), (1, 1, 570, 16819668), (39, 22022, 221, 287), (4, 1, 0, 0), (3, 0, 2, 0), (1, 1, 572, 641271301), (39, 22022, 221, 287), (12, 0, 22, 0), (0, 0, 0, 3), (15, 0, 51, 0), (16, 0, 51, 0)]),
  (22, 3, [(3, 0, 2, 0), (1, 1, 574, 114201), (39, 22022, 221, 287), (12, 0, 36, 0), (0, 0, 0, 4), (15, 0, 51, 0), (16, 0, 51, 0)]),
  (36, 3, [(3, 0, 2, 0), (1, 1, 576, 21484648), (39, 22022, 221, 287), (12, 0, 50, 0), (0, 0, 0, 5), (15, 0, 51, 0), (16, 0, 51, 0)]),
  (50, 3, [(0, 0, 0, (-1)), (16, 0, 51, 0)]),
  (51, 3, [(4, 2, 0, 0), (3, 0, 2, 0), (3, 1, 0, 0), (12, 1, 62, 0), (3, 2, 0, 0), (0, 0, 0, (-1)), (13, 0, 75, 0), (16, 0, 62, 0)]),
  (62, 7, [(3, 0, 2, 0), (18, 12, 17, 354), (0, 1, 0, 12), (13, 3, 75, 0), (0, 0, 0, 1), (15, 0, 76, 0), (16, 0, 76, 0)]),
  (75, 7, [(0, 0, 0, 0), (16, 0, 76, 0)]),
  (76, 7, [(39, 22022, 223, 262), (3, 0, 2, 0), (20, 12, 15, 227), (12, 1, 90, 0), (3, 1, 0, 0), (12, 1, 92, 0), (16, 0, 90, 0)]),
  (90, 4, [(3, 2, 0, 0), (55, 0, 0, 0)]),
  (92, 1, [(3, 0, 2, 0), (1, 1, 578, 412456564), (39, 22022, 221, 287), (12, 0, 106, 0), (0, 0, 0, 0), (15, 0, 135, 0), (16, 0, 135, 0)]),
  (106, 1, [(3, 0, 2, 0), (1, 1, 580, 111838500468), (39, 22022, 221, 287), (12, 0, 120, 0), (0, 0, 0, 1), (15, 0, 135, 0), (16, 0, 135, 0)]),
  (120, 1, [(3, 0, 2, 0), (1, 1, 582, 89), (39, 22022, 221, 287), (12, 0, 134, 0), (0, 0, 0, 2), (15, 0, 135, 0), (16, 0, 135, 0)]),
  (134, 1, [(0, 0, 0, (-1)), (16, 0, 135, 0)]),
  (135, 1, [(4, 2, 0, 0), (3, 0, 2, 0), (3, 2, 0, 0), (0, 0, 0, (-1)), (13, 0, 146, 0), (0, 0, 0, 1), (15, 0, 147, 0), (39, 22022, 223, 262), (3, 2, 0, 0), (55, 0, 0, 0)]),
  (146, 4, [(0, 0, 0, 0), (39, 22022, 223, 262), (3, 2, 0, 0), (55, 0, 0, 0)])]
def k_X12_readOrder : List (Nat × Nat × List Ins) := [(0, 1, [(3, 0, 2, 0), (39, 22012, 327, 584), (4, 1, 0, 0), (3, 0, 2, 0), (20, 12, 15, 227), (12, 0, 13, 0), (42, 0, 0, 0)]),
  (13, 3, [(0, 1, 0, 10), (3, 0, 2, 0), (18, 12, 17, 354), (6, 2, 0, 0), (4, 2, 0, 0), (3, 0, 2, 0), (11, 0, 0, 0), (18, 12, 17, 354), (0, 0, 0, 1), (6, 0, 0, 0), (22, 12, 17, 354), (3, 0, 2, 0), (21, 12, 54, 145), (3, 2, 0, 0), (3, 1, 0, 0), (27, 0, 0, 0), (3, 1, 0, 0), (0, 0, 0, 2), (13, 0, 48, 0), (3, 1, 0, 0), (0, 0, 0, 5), (13, 1, 55, 0), (16, 0, 48, 0)]),
  (48, 7, [(3, 0, 2, 0), (3, 2, 0, 0), (0, 0, 0, 1), (6, 0, 0, 0), (39, 22022, 326, 587), (16, 0, 55, 0)]),
  (55, 7, [(3, 1, 0, 0), (0, 0, 0, 5), (13, 1, 85, 0), (3, 0, 2, 0), (20, 12, 15, 227), (12, 1, 85, 0), (3, 0, 2, 0), (3, 0, 2, 0), (1, 1, 590, 52), (39, 22022, 221, 287), (39, 22022, 223, 262), (3, 0, 2, 0), (3, 2, 0, 0), (0, 0, 0, 3), (6, 0, 0, 0), (39, 22022, 326, 587), (16, 0, 85, 0)]),
  (85, 7, [(3, 1, 0, 0), (0, 0, 0, 5), (13, 1, 115, 0), (3, 0, 2, 0), (20, 12, 15, 227), (12, 1, 115, 0), (3, 0, 2, 0), (3, 0, 2, 0), (1, 1, 592, 763528), (39, 22022, 221, 287), (39, 22022, 223, 262), (3, 0, 2, 0), (3, 2, 0, 0), (0, 0, 0, 5), (6, 0, 0, 0), (39, 22022, 326, 587), (16, 0, 115, 0)]),
  (115, 5, [(3, 0, 2, 0), (21, 12, 54, 145), (3, 2, 0, 0), (0, 1, 0, 9), (6, 0, 0, 0), (0, 0, 0, 1), (27, 0, 0, 0), (3, 0, 2, 0), (20, 12, 15, 227), (12, 1, 163, 0), (3, 0, 2, 0), (1, 1, 594, 21279923), (39, 22022, 221, 287), (12, 0, 163, 0), (3, 0, 2, 0), (39, 22012, 220, 231), (3, 0, 2, 0), (21, 12, 54, 145), (3, 2, 0, 0), (0, 1, 0, 9), (6, 0, 0, 0), (3, 0, 2, 0), (1, 0, 0, 1), (1, 1, 279, 20), (39, 22032, 224, 321), (27, 0, 0, 0), (16, 0, 163, 0)]),
  (163, 5, [(3, 0, 2, 0), (21, 12, 54, 145), (3, 2, 0, 0), (0, 1, 0, 7), (6, 0, 0, 0), (3, 0, 2, 0), (18, 12, 19, 266), (27, 0, 0, 0), (3, 0, 2, 0), (20, 12, 15, 227), (12, 1, 202, 0), (3, 0, 2, 0), (1, 1, 360, 294), (39, 22022, 221, 287), (12, 0, 202, 0), (3, 0, 2, 0), (39, 22012, 220, 231), (3, 0, 2, 0), (0, 0, 0, 1), (39, 22022, 240, 357), (16, 0, 202, 0)]),
  (202, 5, [(3, 0, 2, 0), (21, 12, 54, 145), (3, 2, 0, 0), (0, 1, 0, 8), (6, 0, 0, 0), (3, 0, 2, 0), (18, 12, 19, 266), (27, 0, 0, 0), (42, 0, 0, 0)])]
def k_X12_setNow : List (Nat × Nat × List Ins) := [(0, 1, [(3, 0, 2, 0), (21, 12, 32, 103), (0, 0, 0, 1), (3, 0, 2, 0), (39, 22012, 197, 174), (10, 0, 0, 0), (52, 0, 0, 0), (3, 0, 2, 0), (21, 12, 32, 103), (0, 0, 0, 2), (3, 0, 2, 0), (3, 0, 2, 0), (39, 22012, 197, 174), (39, 22022, 264, 464), (10, 0, 0, 0), (52, 0, 0, 0), (3, 0, 2, 0), (21, 12, 32, 103), (0, 0, 0, 3), (3, 0, 2, 0), (3, 0, 2, 0), (39, 22012, 197, 174), (39, 22022, 274, 470), (10, 0, 0, 0), (52, 0, 0, 0), (3, 0, 2, 0), (21, 12, 32, 103), (0, 0, 0, 4), (3, 0, 2, 0), (21, 12, 3, 13), (0, 0, 0, 5), (26, 0, 0, 0), (10, 0, 0, 0), (52, 0, 0, 0), (3, 0, 2, 0), (21, 12, 32, 103), (0, 0, 0, 5), (3, 0, 2, 0), (3, 0, 2, 0), (39, 22012, 197, 174), (39, 22022, 251, 410), (10, 0, 0, 0), (52, 0, 0, 0), (3, 0, 2, 0), (21, 12, 32, 103), (0, 1, 0, 6), (3, 0, 2, 0), (18, 12, 55, 596), (10, 0, 0, 0), (52, 0, 0, 0), (42, 0, 0, 0)])]
def k_X12_sumOf : List (Nat × Nat × List Ins) := [(0, 3, [(3, 0, 2, 0), (0, 0, 0, 1), (24, 12, 16, 306), (3, 0, 2, 0), (3, 0, 2, 0), (21, 12, 54, 145), (3, 1, 0, 0), (26, 0, 0, 0), (3, 0, 2, 0), (21, 12, 54, 145), (3, 1, 0, 0), (0, 0, 0, 1), (6, 0, 0, 0), (26, 0, 0, 0), (39, 22032, 247, 394), (3, 0, 2, 0), (0, 0, 0, 0), (24, 12, 16, 306), (3, 0, 2, 0), (19, 12, 35, 391), (56, 0, 0, 0)])]
def k_X12_run : List (Nat × Nat × List Ins) := [(0, 3, [(3, 0, 2, 0), (39, 22012, 329, 599), (3, 0, 2, 0), (21, 12, 54, 145), (3, 1, 0, 0), (0, 1, 0, 7), (6, 0, 0, 0), (26, 0, 0, 0), (3, 0, 2, 0), (21, 12, 54, 145), (3, 1, 0, 0), (0, 1, 0, 8), (6, 0, 0, 0), (26, 0, 0, 0), (13, 3, 49, 0), (3, 0, 2, 0), (3, 1, 0, 0), (0, 1, 0, 7), (6, 0, 0, 0), (39, 22022, 330, 602), (4, 2, 1, 0), (3, 0, 2, 0), (20, 12, 34, 374), (12, 1, 47, 0), (3, 2, 1, 0), (1, 0, 0, 0), (9, 0, 0, 0), (12, 1, 49, 0), (16, 0, 47, 0)]),
  (47, 0, [(0, 0, 0, 0), (55, 0, 0, 0)]),
  (49, 3, [(3, 0, 2, 0), (3, 1, 0, 0), (3, 0, 2, 0), (21, 12, 54, 145), (3, 1, 0, 0), (26, 0, 0, 0), (39, 22032, 332, 606), (4, 2, 0, 0), (3, 0, 2, 0), (11, 0, 0, 0), (18, 12, 55, 596), (3, 2, 0, 0), (12, 3, 74, 0), (0, 0, 0, 0), (15, 0, 75, 0), (16, 0, 75, 0)]),
  (74, 4, [(0, 0, 0, 1), (16, 0, 75, 0)]),
  (75, 4, [(6, 0, 0, 0), (22, 12, 55, 596), (3, 2, 0, 0), (12, 3, 87, 0), (3, 2, 0, 0), (15, 0, 88, 0), (55, 0, 0, 0)]),
  (87, 0, [(0, 0, 0, 0), (55, 0, 0, 0)])]
def k_X12_act : List (Nat × Nat × List Ins) := [(0, 7, [(3, 2, 0, 0), (17, 10, 0, 31)]),
  (32, 1, [(3, 0, 2, 0), (39, 22012, 197, 174), (12, 1, 42, 0), (0, 1, 0, (-3)), (55, 0, 0, 0)]),
  (42, 1, [(3, 0, 2, 0), (21, 12, 3, 13), (0, 0, 0, 4), (50, 0, 0, 0), (26, 0, 0, 0), (0, 0, 0, 1), (6, 1, 0, 0), (27, 0, 0, 0), (0, 0, 0, 0), (55, 0, 0, 0)]),
  (54, 1, [(3, 0, 2, 0), (39, 22012, 285, 501), (55, 0, 0, 0)]),
  (59, 3, [(3, 0, 2, 0), (3, 1, 0, 0), (39, 22022, 333, 609), (55, 0, 0, 0)]),
  (65, 3, [(3, 0, 2, 0), (3, 1, 0, 0), (0, 0, 0, 1), (6, 0, 0, 0), (39, 22022, 330, 602), (4, 3, 1, 0), (3, 0, 2, 0), (20, 12, 34, 374), (12, 1, 97, 0), (3, 3, 1, 0), (1, 0, 0, 0), (3, 0, 2, 0), (21, 12, 3, 13), (0, 0, 0, 0), (26, 0, 0, 0), (10, 0, 0, 0), (1, 0, 0, 1), (8, 1, 0, 0), (39, 30, 186, 160), (12, 1, 102, 0), (16, 0, 97, 0)]),
  (97, 0, [(0, 1, 0, (-3)), (15, 0, 108, 0), (55, 0, 0, 0)]),
  (102, 9, [(3, 0, 2, 0), (3, 3, 1, 0), (48, 0, 0, 0), (39, 22022, 266, 455), (55, 0, 0, 0)]),
  (109, 5, [(3, 0, 2, 0), (3, 2, 0, 0), (0, 0, 0, 1), (39, 22032, 278, 489), (3, 0, 2, 0), (18, 12, 46, 474), (12, 1, 127, 0), (0, 1, 0, (-3)), (15, 0, 137, 0), (55, 0, 0, 0)]),
  (127, 1, [(3, 0, 2, 0), (3, 0, 2, 0), (21, 12, 40, 118), (0, 0, 0, 0), (26, 0, 0, 0), (39, 22022, 266, 455), (55, 0, 0, 0)])]
def k_X12_touchNow : List (Nat × Nat × List Ins) := [(0, 3, [(3, 0, 2, 0), (3, 1, 0, 0), (0, 0, 0, 1), (6, 0, 0, 0), (39, 22022, 330, 602), (4, 2, 1, 0), (3, 0, 2, 0), (20, 12, 34, 374), (12, 1, 19, 0), (0, 0, 0, 1), (15, 0, 20, 0), (16, 0, 20, 0)]),
  (19, 7, [(0, 0, 0, 0), (16, 0, 20, 0)]),
  (20, 7, [(4, 4, 0, 0), (3, 4, 0, 0), (12, 0, 37, 0), (3, 0, 2, 0), (3, 1, 0, 0), (0, 0, 0, 3), (6, 0, 0, 0), (39, 22022, 330, 602), (15, 0, 38, 0), (16, 0, 38, 0)]),
  (37, 23, [(1, 0, 0, 0), (16, 0, 38, 0)]),
  (38, 23, [(4, 5, 1, 0), (3, 4, 0, 0), (12, 0, 56, 0), (3, 0, 2, 0), (20, 12, 34, 374), (12, 1, 56, 0), (0, 0, 0, 1), (15, 0, 57, 0), (16, 0, 57, 0)]),
  (56, 39, [(0, 0, 0, 0), (16, 0, 57, 0)]),
  (57, 39, [(4, 4, 0, 0), (3, 4, 0, 0), (12, 0, 74, 0), (3, 0, 2, 0), (3, 1, 0, 0), (0, 0, 0, 5), (6, 0, 0, 0), (39, 22022, 330, 602), (15, 0, 75, 0), (16, 0, 75, 0)]),
  (74, 53, [(1, 0, 0, 0), (16, 0, 75, 0)]),
  (75, 53, [(4, 7, 1, 0), (3, 4, 0, 0), (12, 0, 93, 0), (3, 0, 2, 0), (20, 12, 34, 374), (12, 1, 93, 0), (0, 0, 0, 1), (15, 0, 94, 0), (16, 0, 94, 0)]),
  (93, 165, [(0, 0, 0, 0), (16, 0, 94, 0)]),
  (94, 165, [(4, 4, 0, 0), (3, 4, 0, 0), (12, 0, 142, 0), (3, 2, 1, 0), (1, 0, 0, 0), (3, 0, 2, 0), (21, 12, 3, 13), (0, 0, 0, 5), (26, 0, 0, 0), (10, 0, 0, 0), (1, 0, 0, 1), (8, 1, 0, 0), (39, 30, 186, 160), (12, 0, 142, 0), (3, 5, 1, 0), (1, 0, 0, 0), (1, 1, 168, 11), (39, 30, 186, 160), (12, 0, 142, 0), (3, 7, 1, 0), (1, 0, 0, 0), (1, 1, 170, 9), (39, 30, 186, 160), (12, 1, 145, 0), (16, 0, 142, 0)]),
  (142, 0, [(0, 1, 0, (-3)), (55, 0, 0, 0)]),
  (145, 165, [(3, 0, 2, 0), (21, 12, 3, 13), (0, 2, 0, 276), (0, 1, 0, 12), (3, 2, 1, 0), (48, 0, 0, 0), (6, 2, 0, 0), (6, 0, 0, 0), (3, 5, 1, 0), (48, 0, 0, 0), (6, 0, 0, 0), (3, 7, 1, 0), (48, 0, 0, 0), (27, 0, 0, 0), (0, 0, 0, 0), (55, 0, 0, 0)])]
def k_X12_orders : List (Nat × Nat × List Ins) := [(0, 1, [(3, 0, 2, 0), (0, 0, 0, 0), (22, 12, 0, 154), (3, 0, 2, 0), (0, 0, 0, (-1)), (22, 12, 56, 148), (3, 0, 2, 0), (0, 0, 0, 1), (39, 22022, 242, 365), (3, 0, 2, 0), (39, 22012, 328, 612), (16, 0, 19, 0)]),
  (19, 1, [(3, 0, 2, 0), (20, 12, 15, 227), (12, 1, 46, 0), (3, 0, 2, 0), (0, 1, 0, 59), (39, 22022, 222, 300), (12, 0, 46, 0), (3, 0, 2, 0), (39, 22012, 220, 231), (3, 0, 2, 0), (39, 22012, 328, 612), (15, 0, 19, 0), (16, 0, 19, 0)]),
  (46, 1, [(3, 0, 2, 0), (39, 22012, 243, 371), (3, 0, 2, 0), (20, 12, 15, 227), (12, 0, 64, 0), (3, 0, 2, 0), (0, 1, 0, (-6)), (39, 22022, 190, 164), (55, 0, 0, 0)]),
  (64, 1, [(0, 0, 0, 0), (4, 1, 0, 0), (16, 0, 66, 0)]),
  (66, 3, [(3, 1, 0, 0), (0, 2, 0, 5780), (13, 3, 91, 0), (3, 0, 2, 0), (21, 12, 5, 19), (3, 1, 0, 0), (3, 0, 2, 0), (21, 12, 3, 13), (3, 1, 0, 0), (26, 0, 0, 0), (27, 0, 0, 0), (5, 1, 0, 1), (15, 0, 66, 0), (16, 0, 66, 0)]),
  (91, 1, [(3, 0, 2, 0), (0, 0, 0, 0), (22, 12, 55, 596), (0, 0, 0, 0), (4, 1, 0, 0), (16, 0, 98, 0)]),
  (98, 3, [(3, 1, 0, 0), (3, 0, 2, 0), (18, 12, 17, 354), (13, 3, 191, 0), (0, 0, 0, 0), (4, 2, 0, 0), (16, 0, 108, 0)]),
  (108, 7, [(3, 2, 0, 0), (3, 0, 2, 0), (21, 12, 54, 145), (0, 1, 0, 10), (3, 1, 0, 0), (6, 2, 0, 0), (0, 1, 0, 9), (6, 0, 0, 0), (26, 0, 0, 0), (13, 3, 185, 0), (3, 0, 2, 0), (0, 1, 0, 10), (3, 1, 0, 0), (6, 2, 0, 0), (39, 22022, 331, 615), (4, 3, 0, 0), (3, 3, 0, 0), (12, 3, 179, 0), (0, 0, 0, 0), (4, 4, 0, 0), (16, 0, 140, 0)]),
  (140, 27, [(3, 4, 0, 0), (0, 2, 0, 5780), (13, 3, 168, 0), (3, 0, 2, 0), (21, 12, 3, 13), (3, 4, 0, 0), (3, 0, 2, 0), (21, 12, 5, 19), (3, 4, 0, 0), (26, 0, 0, 0), (27, 0, 0, 0), (5, 4, 0, 1), (15, 0, 140, 0), (16, 0, 140, 0)]),
  (168, 11, [(3, 0, 2, 0), (3, 1, 0, 0), (22, 12, 56, 148), (3, 0, 2, 0), (3, 3, 0, 0), (39, 22022, 190, 164), (55, 0, 0, 0)]),
  (179, 7, [(5, 2, 0, 1), (15, 0, 108, 0), (16, 0, 108, 0)]),
  (185, 3, [(5, 1, 0, 1), (15, 0, 98, 0), (16, 0, 98, 0)]),
  (191, 1, [(3, 0, 2, 0), (3, 0, 2, 0), (18, 12, 55, 596), (39, 22022, 190, 164), (55, 0, 0, 0)])]
def k_X12_stopped : List (Nat × Nat × List Ins) := [(0, 1, [(3, 0, 2, 0), (0, 0, 0, 0), (22, 12, 0, 154), (3, 0, 2, 0), (18, 12, 56, 148), (55, 0, 0, 0)])]
def k_X12_draw : List (Nat × Nat × List Ins) := [(0, 3, [(3, 0, 2, 0), (3, 0, 2, 0), (19, 12, 57, 618), (1, 1, 621, 1103), (8, 2, 0, 0), (1, 1, 623, 12345), (8, 0, 0, 0), (1, 1, 625, 1000003), (46, 0, 0, 0), (23, 12, 57, 618), (3, 0, 2, 0), (19, 12, 57, 618), (3, 1, 0, 0), (10, 0, 0, 0), (46, 0, 0, 0), (48, 0, 0, 0), (55, 0, 0, 0)])]
def k_X12_century : List (Nat × Nat × List Ins) := [(0, 7, [(3, 0, 2, 0), (0, 0, 0, 0), (22, 12, 0, 154), (3, 1, 0, 0), (10, 0, 0, 0), (1, 0, 0, 0), (1, 1, 256, 1000000), (39, 30, 186, 160), (12, 0, 41, 0), (3, 2, 0, 0), (10, 0, 0, 0), (1, 0, 0, 0), (1, 1, 627, 40), (39, 30, 186, 160), (12, 0, 41, 0), (3, 0, 2, 0), (39, 22012, 197, 174), (3, 2, 0, 0), (6, 0, 0, 0), (39, 10, 196, 211), (12, 1, 47, 0), (16, 0, 41, 0)]),
  (41, 1, [(3, 0, 2, 0), (0, 0, 0, (-1)), (39, 22022, 190, 164), (55, 0, 0, 0)]),
  (47, 7, [(3, 0, 2, 0), (3, 1, 0, 0), (10, 0, 0, 0), (23, 12, 57, 618), (3, 0, 2, 0), (0, 0, 0, 1), (24, 12, 59, 629), (3, 0, 2, 0), (3, 0, 2, 0), (21, 12, 3, 13), (0, 0, 0, 0), (26, 0, 0, 0), (22, 12, 60, 632), (0, 0, 0, 0), (4, 3, 0, 0), (16, 0, 70, 0)]),
  (70, 13, [(3, 3, 0, 0), (0, 1, 0, 17), (13, 3, 103, 0), (3, 0, 2, 0), (21, 12, 58, 151), (3, 3, 0, 0), (3, 3, 0, 0), (0, 1, 0, 12), (13, 3, 95, 0), (3, 0, 2, 0), (3, 3, 0, 0), (39, 22022, 203, 380), (15, 0, 96, 0), (27, 0, 0, 0), (5, 3, 0, 1), (15, 0, 70, 0), (16, 0, 70, 0)]),
  (95, 13, [(0, 0, 0, 0), (27, 0, 0, 0), (5, 3, 0, 1), (15, 0, 70, 0), (16, 0, 70, 0)]),
  (103, 5, [(3, 0, 2, 0), (39, 22012, 197, 174), (0, 0, 0, 1), (6, 0, 0, 0), (4, 3, 0, 0), (16, 0, 110, 0)]),
  (110, 13, [(3, 3, 0, 0), (3, 0, 2, 0), (39, 22012, 197, 174), (3, 2, 0, 0), (6, 0, 0, 0), (13, 4, 251, 0), (3, 0, 2, 0), (21, 12, 3, 13), (0, 0, 0, 0), (26, 0, 0, 0), (12, 5, 251, 0), (3, 0, 2, 0), (3, 3, 0, 0), (39, 22022, 259, 439), (3, 0, 2, 0), (3, 0, 2, 0), (21, 12, 3, 13), (0, 0, 0, 0), (26, 0, 0, 0), (39, 22022, 336, 635), (4, 4, 0, 0), (3, 0, 2, 0), (21, 12, 58, 151), (0, 1, 0, 12), (3, 4, 0, 0), (6, 0, 0, 0), (50, 0, 0, 0), (26, 0, 0, 0), (0, 0, 0, 1), (6, 0, 0, 0), (27, 0, 0, 0), (0, 0, 0, 0), (4, 5, 0, 0), (16, 0, 163, 0)]),
  (163, 61, [(3, 5, 0, 0), (0, 1, 0, 12), (13, 3, 245, 0), (3, 0, 2, 0), (3, 4, 0, 0), (3, 5, 0, 0), (3, 3, 0, 0), (3, 0, 2, 0), (21, 12, 58, 151), (3, 5, 0, 0), (26, 0, 0, 0), (39, 22052, 260, 432), (4, 6, 0, 0), (3, 0, 2, 0), (0, 1, 0, 8), (39, 22022, 336, 635), (4, 7, 0, 0), (3, 0, 2, 0), (21, 12, 58, 151), (3, 5, 0, 0), (3, 7, 0, 0), (12, 1, 215, 0), (3, 6, 0, 0), (0, 0, 0, 1), (6, 1, 0, 0), (10, 0, 0, 0), (15, 0, 232, 0), (0, 0, 0, 0), (0, 1, 0, 9), (39, 30, 189, 403), (27, 0, 0, 0), (5, 5, 0, 1), (15, 0, 163, 0), (16, 0, 163, 0)]),
  (215, 253, [(3, 7, 0, 0), (0, 0, 0, 1), (13, 1, 229, 0), (3, 6, 0, 0), (0, 0, 0, 1), (6, 0, 0, 0), (10, 0, 0, 0), (15, 0, 232, 0), (0, 0, 0, 0), (0, 1, 0, 9), (39, 30, 189, 403), (27, 0, 0, 0), (5, 5, 0, 1), (15, 0, 163, 0), (16, 0, 163, 0)]),
  (229, 125, [(3, 6, 0, 0), (10, 0, 0, 0), (0, 0, 0, 0), (0, 1, 0, 9), (39, 30, 189, 403), (27, 0, 0, 0), (5, 5, 0, 1), (15, 0, 163, 0), (16, 0, 163, 0)]),
  (245, 13, [(5, 3, 0, 1), (15, 0, 110, 0), (16, 0, 110, 0)]),
  (251, 5, [(3, 0, 2, 0), (3, 0, 2, 0), (39, 22012, 197, 174), (3, 2, 0, 0), (6, 0, 0, 0), (39, 22022, 259, 439), (0, 0, 0, 0), (4, 3, 0, 0), (0, 0, 0, 0), (4, 4, 0, 0), (16, 0, 266, 0)]),
  (266, 29, [(3, 4, 0, 0), (0, 1, 0, 12), (13, 3, 310, 0), (3, 3, 0, 0), (3, 0, 2, 0), (21, 12, 58, 151), (3, 4, 0, 0), (26, 0, 0, 0), (3, 0, 2, 0), (21, 12, 37, 109), (0, 1, 0, 12), (3, 0, 2, 0), (39, 22012, 197, 174), (3, 2, 0, 0), (6, 0, 0, 0), (6, 2, 0, 0), (3, 4, 0, 0), (6, 0, 0, 0), (26, 0, 0, 0), (6, 1, 0, 0), (39, 10, 188, 436), (6, 0, 0, 0), (4, 3, 0, 0), (5, 4, 0, 1), (15, 0, 266, 0), (16, 0, 266, 0)]),
  (310, 9, [(3, 0, 2, 0), (3, 3, 0, 0), (39, 22022, 190, 164), (55, 0, 0, 0)])]
def k_X12_drawn : List (Nat × Nat × List Ins) := [(0, 3, [(3, 0, 2, 0), (0, 0, 0, 0), (22, 12, 0, 154), (3, 0, 2, 0), (20, 12, 59, 629), (12, 1, 14, 0), (0, 0, 0, (-1)), (55, 0, 0, 0)]),
  (14, 3, [(3, 1, 0, 0), (39, 10, 194, 182), (12, 0, 30, 0), (3, 0, 2, 0), (21, 12, 58, 151), (3, 1, 0, 0), (26, 0, 0, 0), (15, 0, 66, 0), (55, 0, 0, 0)]),
  (30, 3, [(3, 1, 0, 0), (10, 0, 0, 0), (1, 1, 638, 100), (1, 1, 172, 99), (3, 0, 2, 0), (18, 12, 60, 632), (10, 0, 0, 0), (8, 0, 0, 0), (39, 30, 186, 160), (12, 0, 65, 0), (3, 0, 2, 0), (21, 12, 58, 151), (0, 1, 0, 12), (3, 1, 0, 0), (6, 0, 0, 0), (0, 1, 0, 100), (6, 1, 0, 0), (26, 0, 0, 0), (15, 0, 66, 0), (55, 0, 0, 0)]),
  (65, 0, [(0, 0, 0, (-1)), (55, 0, 0, 0)])]
def k_X12_count : List (Nat × Nat × List Ins) := [(0, 3, [(3, 0, 2, 0), (0, 0, 0, 0), (22, 12, 0, 154), (3, 1, 0, 0), (17, 11, 0, 66)]),
  (72, 1, [(3, 0, 2, 0), (21, 12, 3, 13), (0, 0, 0, 0), (26, 0, 0, 0), (55, 0, 0, 0)]),
  (79, 1, [(3, 0, 2, 0), (21, 12, 3, 13), (0, 0, 0, 1), (26, 0, 0, 0), (55, 0, 0, 0)]),
  (86, 1, [(3, 0, 2, 0), (21, 12, 3, 13), (0, 0, 0, 3), (26, 0, 0, 0), (55, 0, 0, 0)]),
  (93, 1, [(3, 0, 2, 0), (39, 22012, 197, 174), (55, 0, 0, 0)]),
  (98, 1, [(3, 0, 2, 0), (21, 12, 3, 13), (0, 0, 0, 5), (26, 0, 0, 0), (55, 0, 0, 0)]),
  (105, 1, [(3, 0, 2, 0), (21, 12, 3, 13), (0, 1, 0, 6), (26, 0, 0, 0), (55, 0, 0, 0)]),
  (113, 1, [(3, 0, 2, 0), (18, 12, 9, 214), (55, 0, 0, 0)]),
  (118, 1, [(3, 0, 2, 0), (21, 12, 2, 7), (0, 0, 0, 1), (26, 0, 0, 0), (55, 0, 0, 0)]),
  (125, 1, [(3, 0, 2, 0), (21, 12, 2, 7), (0, 0, 0, 2), (26, 0, 0, 0), (55, 0, 0, 0)]),
  (132, 1, [(3, 0, 2, 0), (21, 12, 2, 7), (0, 0, 0, 3), (26, 0, 0, 0), (55, 0, 0, 0)]),
  (139, 1, [(3, 0, 2, 0), (21, 12, 2, 7), (0, 0, 0, 5), (26, 0, 0, 0), (55, 0, 0, 0)]),
  (146, 1, [(3, 0, 2, 0), (21, 12, 2, 7), (0, 1, 0, 6), (26, 0, 0, 0), (55, 0, 0, 0)]),
  (154, 1, [(3, 0, 2, 0), (21, 12, 3, 13), (0, 0, 0, 2), (26, 0, 0, 0), (55, 0, 0, 0)]),
  (161, 3, [(3, 1, 0, 0), (10, 0, 0, 0), (1, 1, 640, 13), (1, 1, 642, 17), (39, 30, 186, 160), (12, 0, 190, 0), (3, 0, 2, 0), (21, 12, 3, 13), (0, 1, 0, 7), (3, 1, 0, 0), (6, 0, 0, 0), (0, 1, 0, 13), (6, 1, 0, 0), (26, 0, 0, 0), (15, 0, 191, 0), (55, 0, 0, 0)]),
  (190, 0, [(0, 0, 0, (-1)), (55, 0, 0, 0)])]
def k_X12_status : List (Nat × Nat × List Ins) := [(0, 1, [(3, 0, 2, 0), (0, 0, 0, 0), (22, 12, 0, 154), (3, 0, 2, 0), (18, 12, 1, 157), (55, 0, 0, 0)])]
def k_J6_bitCount_0f7a4 : List (Nat × Nat × List Ins) := [(0, 1, [(3, 0, 0, 0), (3, 0, 0, 0), (0, 0, 0, 1), (6, 8, 0, 0), (0, 4, 265, 1431655765), (6, 3, 0, 0), (6, 1, 0, 0), (4, 0, 0, 0), (3, 0, 0, 0), (0, 4, 266, 858993459), (6, 3, 0, 0), (3, 0, 0, 0), (0, 0, 0, 2), (6, 8, 0, 0), (0, 4, 266, 858993459), (6, 3, 0, 0), (6, 0, 0, 0), (4, 0, 0, 0), (3, 0, 0, 0), (3, 0, 0, 0), (0, 0, 0, 4), (6, 8, 0, 0), (6, 0, 0, 0), (0, 4, 267, 252645135), (6, 3, 0, 0), (4, 0, 0, 0), (3, 0, 0, 0), (3, 0, 0, 0), (0, 1, 0, 8), (6, 8, 0, 0), (6, 0, 0, 0), (4, 0, 0, 0), (3, 0, 0, 0), (3, 0, 0, 0), (0, 1, 0, 16), (6, 8, 0, 0), (6, 0, 0, 0), (4, 0, 0, 0), (3, 0, 0, 0), (0, 1, 0, 63), (6, 3, 0, 0), (55, 0, 0, 0)])]
def k_J9_abs_0f7a4 : List (Nat × Nat × List Ins) := [(0, 1, [(3, 0, 0, 0), (12, 3, 9, 0), (3, 0, 0, 0), (7, 0, 0, 0), (15, 0, 10, 0), (55, 0, 0, 0)]),
  (9, 1, [(3, 0, 0, 0), (55, 0, 0, 0)])]
def k_J9_max_7cf53 : List (Nat × Nat × List Ins) := [(0, 3, [(3, 0, 0, 0), (3, 1, 0, 0), (13, 2, 9, 0), (3, 0, 0, 0), (15, 0, 10, 0), (55, 0, 0, 0)]),
  (9, 2, [(3, 1, 0, 0), (55, 0, 0, 0)])]
def k_J9_min_7cf53 : List (Nat × Nat × List Ins) := [(0, 3, [(3, 0, 0, 0), (3, 1, 0, 0), (13, 4, 9, 0), (3, 0, 0, 0), (15, 0, 10, 0), (55, 0, 0, 0)]),
  (9, 2, [(3, 1, 0, 0), (55, 0, 0, 0)])]
def k_J0_length_8abf5 : List (Nat × Nat × List Ins) := [(0, 1, [(3, 0, 2, 0), (31, 0, 0, 9), (34, 0, 0, 0), (3, 0, 2, 0), (39, 16, 347, 335), (6, 7, 0, 0), (55, 0, 0, 0)])]
def k_J0_charAt_5068e : List (Nat × Nat × List Ins) := [(0, 3, [(3, 0, 2, 0), (39, 16, 348, 492), (12, 0, 16, 0), (3, 0, 2, 0), (31, 0, 0, 9), (3, 1, 0, 0), (39, 20, 350, 495), (59, 0, 0, 0)]),
  (16, 3, [(3, 0, 2, 0), (31, 0, 0, 9), (3, 1, 0, 0)])]
def k_J0_coder_7d493 : List (Nat × Nat × List Ins) := [(0, 1, [(35, 0, 0, 38), (12, 0, 13, 0), (3, 0, 2, 0), (32, 0, 0, 15), (15, 0, 14, 0), (60, 0, 0, 0)]),
  (13, 0, [(0, 0, 0, 1), (60, 0, 0, 0)])]
def k_J0_isLatin1_aae02 : List (Nat × Nat × List Ins) := [(0, 1, [(35, 0, 0, 38), (12, 0, 17, 0), (3, 0, 2, 0), (32, 0, 0, 15), (12, 1, 17, 0), (0, 0, 0, 1), (15, 0, 18, 0), (58, 0, 0, 0)]),
  (17, 0, [(0, 0, 0, 0), (58, 0, 0, 0)])]
def k_J0_checkIndex_df160 : List (Nat × Nat × List Ins) := [(0, 3, [(3, 0, 0, 0), (3, 1, 0, 0), (61, 0, 0, 1053), (39, 30, 355, 1059), (51, 0, 0, 0), (42, 0, 0, 0)])]
def k_J1_charAt_3b067 : List (Nat × Nat × List Ins) := [(0, 3, [(3, 1, 0, 0), (3, 0, 2, 0), (34, 0, 0, 0), (39, 20, 349, 9), (3, 0, 2, 0), (3, 1, 0, 0), (33, 0, 0, 0), (0, 2, 0, 255), (6, 3, 0, 0), (49, 0, 0, 0), (59, 0, 0, 0)])]
def k_J2_getChar_3b067 : List (Nat × Nat × List Ins) := []
def k_J2_length_9d52b : List (Nat × Nat × List Ins) := []
def k_J2_charAt_3b067 : List (Nat × Nat × List Ins) := []
def k_J2_checkIndex_2214a : List (Nat × Nat × List Ins) := []
def k_J3_checkIndex_8e157 : List (Nat × Nat × List Ins) := [(0, 7, [(3, 0, 0, 0), (12, 2, 9, 0), (3, 0, 0, 0), (3, 1, 0, 0), (13, 2, 16, 0), (16, 0, 9, 0)]),
  (9, 7, [(3, 2, 2, 0), (3, 0, 0, 0), (3, 1, 0, 0)]),
  (16, 1, [(3, 0, 0, 0), (55, 0, 0, 0)])]
def k_L_law : List (Nat × Nat × List Ins) := [(0, 1, [(36, 11, 19, 7), (11, 0, 0, 0), (39, 14, 113, 9), (4, 1, 2, 0), (36, 12, 61, 10), (11, 0, 0, 0), (39, 14, 185, 12), (4, 2, 2, 0), (0, 0, 0, 0), (4, 3, 0, 0), (16, 0, 18, 0)]),
  (18, 15, [(3, 3, 0, 0), (3, 0, 2, 0), (30, 0, 0, 0), (0, 1, 0, 6), (6, 1, 0, 0), (13, 4, 1834, 0), (3, 0, 2, 0), (3, 3, 0, 0), (29, 0, 0, 0), (0, 1, 0, 63), (6, 3, 0, 0), (17, 12, 0, 243)]),
  (276, 15, [(3, 1, 2, 0), (3, 0, 2, 0), (3, 3, 0, 0), (0, 0, 0, 1), (6, 0, 0, 0), (29, 0, 0, 0), (3, 0, 2, 0), (3, 3, 0, 0), (0, 0, 0, 2), (6, 0, 0, 0), (29, 0, 0, 0), (39, 21032, 114, 13), (3, 2, 2, 0), (3, 0, 2, 0), (3, 3, 0, 0), (0, 0, 0, 1), (6, 0, 0, 0), (29, 0, 0, 0), (3, 0, 2, 0), (3, 3, 0, 0), (0, 0, 0, 2), (6, 0, 0, 0), (29, 0, 0, 0), (39, 22032, 204, 17), (13, 0, 1828, 0), (0, 0, 0, 0), (58, 0, 0, 0)]),
  (309, 15, [(3, 1, 2, 0), (3, 0, 2, 0), (3, 3, 0, 0), (0, 0, 0, 1), (6, 0, 0, 0), (29, 0, 0, 0), (3, 0, 2, 0), (3, 3, 0, 0), (0, 0, 0, 2), (6, 0, 0, 0), (29, 0, 0, 0), (39, 21032, 115, 18), (3, 2, 2, 0), (3, 0, 2, 0), (3, 3, 0, 0), (0, 0, 0, 1), (6, 0, 0, 0), (29, 0, 0, 0), (3, 0, 2, 0), (3, 3, 0, 0), (0, 0, 0, 2), (6, 0, 0, 0), (29, 0, 0, 0), (39, 22032, 205, 21), (13, 0, 1828, 0), (0, 0, 0, 0), (58, 0, 0, 0)]),
  (342, 15, [(3, 1, 2, 0), (3, 0, 2, 0), (3, 3, 0, 0), (0, 0, 0, 1), (6, 0, 0, 0), (29, 0, 0, 0), (3, 0, 2, 0), (3, 3, 0, 0), (0, 0, 0, 2), (6, 0, 0, 0), (29, 0, 0, 0), (3, 0, 2, 0), (3, 3, 0, 0), (0, 0, 0, 3), (6, 0, 0, 0), (29, 0, 0, 0), (39, 21042, 116, 22), (3, 2, 2, 0), (3, 0, 2, 0), (3, 3, 0, 0), (0, 0, 0, 1), (6, 0, 0, 0), (29, 0, 0, 0), (3, 0, 2, 0), (3, 3, 0, 0), (0, 0, 0, 2), (6, 0, 0, 0), (29, 0, 0, 0), (3, 0, 2, 0), (3, 3, 0, 0), (0, 0, 0, 3), (6, 0, 0, 0), (29, 0, 0, 0), (39, 22042, 206, 26), (13, 0, 1828, 0), (0, 0, 0, 0), (58, 0, 0, 0)]),
  (385, 15, [(3, 1, 2, 0), (3, 0, 2, 0), (3, 3, 0, 0), (0, 0, 0, 1), (6, 0, 0, 0), (29, 0, 0, 0), (3, 0, 2, 0), (3, 3, 0, 0), (0, 0, 0, 2), (6, 0, 0, 0), (29, 0, 0, 0), (39, 21032, 117, 27), (3, 2, 2, 0), (3, 0, 2, 0), (3, 3, 0, 0), (0, 0, 0, 1), (6, 0, 0, 0), (29, 0, 0, 0), (3, 0, 2, 0), (3, 3, 0, 0), (0, 0, 0, 2), (6, 0, 0, 0), (29, 0, 0, 0), (39, 22032, 207, 30), (13, 0, 1828, 0), (0, 0, 0, 0), (58, 0, 0, 0)]),
  (418, 15, [(3, 1, 2, 0), (3, 0, 2, 0), (3, 3, 0, 0), (0, 0, 0, 1), (6, 0, 0, 0), (29, 0, 0, 0), (3, 0, 2, 0), (3, 3, 0, 0), (0, 0, 0, 2), (6, 0, 0, 0), (29, 0, 0, 0), (39, 21032, 118, 31), (3, 2, 2, 0), (3, 0, 2, 0), (3, 3, 0, 0), (0, 0, 0, 1), (6, 0, 0, 0), (29, 0, 0, 0), (3, 0, 2, 0), (3, 3, 0, 0), (0, 0, 0, 2), (6, 0, 0, 0), (29, 0, 0, 0), (39, 22032, 209, 34), (13, 0, 1828, 0), (0, 0, 0, 0), (58, 0, 0, 0)]),
  (451, 15, [(3, 1, 2, 0), (3, 0, 2, 0), (3, 3, 0, 0), (0, 0, 0, 1), (6, 0, 0, 0), (29, 0, 0, 0), (3, 0, 2, 0), (3, 3, 0, 0), (0, 0, 0, 2), (6, 0, 0, 0), (29, 0, 0, 0), (3, 0, 2, 0), (3, 3, 0, 0), (0, 0, 0, 3), (6, 0, 0, 0), (29, 0, 0, 0), (39, 21042, 119, 35), (3, 2, 2, 0), (3, 0, 2, 0), (3, 3, 0, 0), (0, 0, 0, 1), (6, 0, 0, 0), (29, 0, 0, 0), (3, 0, 2, 0), (3, 3, 0, 0), (0, 0, 0, 2), (6, 0, 0, 0), (29, 0, 0, 0), (3, 0, 2, 0), (3, 3, 0, 0), (0, 0, 0, 3), (6, 0, 0, 0), (29, 0, 0, 0), (39, 22042, 210, 38), (13, 0, 1828, 0), (0, 0, 0, 0), (58, 0, 0, 0)]),
  (494, 15, [(3, 1, 2, 0), (3, 0, 2, 0), (3, 3, 0, 0), (0, 0, 0, 1), (6, 0, 0, 0), (29, 0, 0, 0), (39, 21022, 120, 39), (3, 2, 2, 0), (3, 0, 2, 0), (3, 3, 0, 0), (0, 0, 0, 1), (6, 0, 0, 0), (29, 0, 0, 0), (39, 22022, 211, 43), (13, 0, 1828, 0), (0, 0, 0, 0), (58, 0, 0, 0)]),
  (517, 15, [(3, 1, 2, 0), (3, 0, 2, 0), (3, 3, 0, 0), (0, 0, 0, 1), (6, 0, 0, 0), (29, 0, 0, 0), (3, 0, 2, 0), (3, 3, 0, 0), (0, 0, 0, 2), (6, 0, 0, 0), (29, 0, 0, 0), (3, 0, 2, 0), (3, 3, 0, 0), (0, 0, 0, 3), (6, 0, 0, 0), (29, 0, 0, 0), (3, 0, 2, 0), (3, 3, 0, 0), (0, 0, 0, 4), (6, 0, 0, 0), (29, 0, 0, 0), (3, 0, 2, 0), (3, 3, 0, 0), (0, 0, 0, 5), (6, 0, 0, 0), (29, 0, 0, 0), (39, 21062, 121, 44), (3, 2, 2, 0), (3, 0, 2, 0), (3, 3, 0, 0), (0, 0, 0, 1), (6, 0, 0, 0), (29, 0, 0, 0), (3, 0, 2, 0), (3, 3, 0, 0), (0, 0, 0, 2), (6, 0, 0, 0), (29, 0, 0, 0), (3, 0, 2, 0), (3, 3, 0, 0), (0, 0, 0, 3), (6, 0, 0, 0), (29, 0, 0, 0), (3, 0, 2, 0), (3, 3, 0, 0), (0, 0, 0, 4), (6, 0, 0, 0), (29, 0, 0, 0), (3, 0, 2, 0), (3, 3, 0, 0), (0, 0, 0, 5), (6, 0, 0, 0), (29, 0, 0, 0), (39, 22062, 215, 48), (13, 0, 1828, 0), (0, 0, 0, 0), (58, 0, 0, 0)]),
  (580, 15, [(3, 1, 2, 0), (3, 0, 2, 0), (3, 3, 0, 0), (0, 0, 0, 1), (6, 0, 0, 0), (29, 0, 0, 0), (39, 21022, 122, 49), (3, 2, 2, 0), (3, 0, 2, 0), (3, 3, 0, 0), (0, 0, 0, 1), (6, 0, 0, 0), (29, 0, 0, 0), (39, 22022, 216, 52), (13, 0, 1828, 0), (0, 0, 0, 0), (58, 0, 0, 0)]),
  (603, 15, [(3, 1, 2, 0), (39, 21012, 123, 53), (3, 2, 2, 0), (39, 22012, 212, 57), (13, 0, 1828, 0), (0, 0, 0, 0), (58, 0, 0, 0)]),
  (616, 15, [(3, 1, 2, 0), (39, 21012, 124, 58), (3, 2, 2, 0), (39, 22012, 213, 61), (13, 0, 1828, 0), (0, 0, 0, 0), (58, 0, 0, 0)]),
  (629, 15, [(3, 1, 2, 0), (39, 21012, 125, 62), (3, 2, 2, 0), (39, 22012, 244, 65), (13, 0, 1828, 0), (0, 0, 0, 0), (58, 0, 0, 0)]),
  (642, 15, [(3, 1, 2, 0), (39, 21012, 126, 66), (3, 2, 2, 0), (39, 22012, 334, 69), (13, 0, 1828, 0), (0, 0, 0, 0), (58, 0, 0, 0)]),
  (655, 15, [(3, 1, 2, 0), (39, 21012, 127, 70), (3, 2, 2, 0), (39, 22012, 225, 73), (13, 0, 1828, 0), (0, 0, 0, 0), (58, 0, 0, 0)]),
  (668, 15, [(3, 1, 2, 0), (39, 21012, 128, 74), (3, 2, 2, 0), (39, 22012, 335, 77), (13, 0, 1828, 0), (0, 0, 0, 0), (58, 0, 0, 0)]),
  (681, 15, [(3, 1, 2, 0), (3, 0, 2, 0), (3, 3, 0, 0), (0, 0, 0, 1), (6, 0, 0, 0), (29, 0, 0, 0), (39, 21022, 129, 78), (3, 2, 2, 0), (3, 0, 2, 0), (3, 3, 0, 0), (0, 0, 0, 1), (6, 0, 0, 0), (29, 0, 0, 0), (39, 22022, 245, 81), (13, 0, 1828, 0), (0, 0, 0, 0), (58, 0, 0, 0)]),
  (704, 15, [(3, 1, 2, 0), (3, 0, 2, 0), (3, 3, 0, 0), (0, 0, 0, 1), (6, 0, 0, 0), (29, 0, 0, 0), (3, 0, 2, 0), (3, 3, 0, 0), (0, 0, 0, 2), (6, 0, 0, 0), (29, 0, 0, 0), (3, 0, 2, 0), (3, 3, 0, 0), (0, 0, 0, 3), (6, 0, 0, 0), (29, 0, 0, 0), (39, 21042, 130, 82), (3, 2, 2, 0), (3, 0, 2, 0), (3, 3, 0, 0), (0, 0, 0, 1), (6, 0, 0, 0), (29, 0, 0, 0), (3, 0, 2, 0), (3, 3, 0, 0), (0, 0, 0, 2), (6, 0, 0, 0), (29, 0, 0, 0), (3, 0, 2, 0), (3, 3, 0, 0), (0, 0, 0, 3), (6, 0, 0, 0), (29, 0, 0, 0), (39, 22042, 257, 85), (13, 0, 1828, 0), (0, 0, 0, 0), (58, 0, 0, 0)]),
  (747, 15, [(3, 1, 2, 0), (3, 0, 2, 0), (3, 3, 0, 0), (0, 0, 0, 1), (6, 0, 0, 0), (29, 0, 0, 0), (3, 0, 2, 0), (3, 3, 0, 0), (0, 0, 0, 2), (6, 0, 0, 0), (29, 0, 0, 0), (3, 0, 2, 0), (3, 3, 0, 0), (0, 0, 0, 3), (6, 0, 0, 0), (29, 0, 0, 0), (39, 21042, 131, 86), (3, 2, 2, 0), (3, 0, 2, 0), (3, 3, 0, 0), (0, 0, 0, 1), (6, 0, 0, 0), (29, 0, 0, 0), (3, 0, 2, 0), (3, 3, 0, 0), (0, 0, 0, 2), (6, 0, 0, 0), (29, 0, 0, 0), (3, 0, 2, 0), (3, 3, 0, 0), (0, 0, 0, 3), (6, 0, 0, 0), (29, 0, 0, 0), (39, 22042, 258, 89), (13, 0, 1828, 0), (0, 0, 0, 0), (58, 0, 0, 0)]),
  (790, 15, [(3, 1, 2, 0), (3, 0, 2, 0), (3, 3, 0, 0), (0, 0, 0, 1), (6, 0, 0, 0), (29, 0, 0, 0), (39, 21022, 132, 90), (3, 2, 2, 0), (3, 0, 2, 0), (3, 3, 0, 0), (0, 0, 0, 1), (6, 0, 0, 0), (29, 0, 0, 0), (39, 22022, 267, 93), (13, 0, 1828, 0), (0, 0, 0, 0), (58, 0, 0, 0)]),
  (813, 15, [(3, 1, 2, 0), (39, 21012, 133, 94), (3, 2, 2, 0), (39, 22012, 268, 97), (13, 0, 1828, 0), (0, 0, 0, 0), (58, 0, 0, 0)]),
  (826, 15, [(3, 1, 2, 0), (3, 0, 2, 0), (3, 3, 0, 0), (0, 0, 0, 1), (6, 0, 0, 0), (29, 0, 0, 0), (3, 0, 2, 0), (3, 3, 0, 0), (0, 0, 0, 2), (6, 0, 0, 0), (29, 0, 0, 0), (39, 21032, 134, 98), (3, 2, 2, 0), (3, 0, 2, 0), (3, 3, 0, 0), (0, 0, 0, 1), (6, 0, 0, 0), (29, 0, 0, 0), (3, 0, 2, 0), (3, 3, 0, 0), (0, 0, 0, 2), (6, 0, 0, 0), (29, 0, 0, 0), (39, 22032, 269, 101), (13, 0, 1828, 0), (0, 0, 0, 0), (58, 0, 0, 0)]),
  (859, 15, [(3, 1, 2, 0), (3, 0, 2, 0), (3, 3, 0, 0), (0, 0, 0, 1), (6, 0, 0, 0), (29, 0, 0, 0), (3, 0, 2, 0), (3, 3, 0, 0), (0, 0, 0, 2), (6, 0, 0, 0), (29, 0, 0, 0), (39, 21032, 135, 102), (3, 2, 2, 0), (3, 0, 2, 0), (3, 3, 0, 0), (0, 0, 0, 1), (6, 0, 0, 0), (29, 0, 0, 0), (3, 0, 2, 0), (3, 3, 0, 0), (0, 0, 0, 2), (6, 0, 0, 0), (29, 0, 0, 0), (39, 22032, 272, 105), (13, 0, 1828, 0), (0, 0, 0, 0), (58, 0, 0, 0)]),
  (892, 15, [(3, 1, 2, 0), (39, 21012, 136, 106), (3, 2, 2, 0), (39, 22012, 273, 109), (13, 0, 1828, 0), (0, 0, 0, 0), (58, 0, 0, 0)]),
  (905, 15, [(3, 1, 2, 0), (3, 0, 2, 0), (3, 3, 0, 0), (0, 0, 0, 1), (6, 0, 0, 0), (29, 0, 0, 0), (39, 21022, 137, 110), (3, 2, 2, 0), (3, 0, 2, 0), (3, 3, 0, 0), (0, 0, 0, 1), (6, 0, 0, 0), (29, 0, 0, 0), (39, 22022, 275, 113), (13, 0, 1828, 0), (0, 0, 0, 0), (58, 0, 0, 0)]),
  (928, 15, [(3, 1, 2, 0), (39, 21012, 138, 114), (3, 2, 2, 0), (39, 22012, 276, 117), (13, 0, 1828, 0), (0, 0, 0, 0), (58, 0, 0, 0)]),
  (941, 15, [(3, 1, 2, 0), (3, 0, 2, 0), (3, 3, 0, 0), (0, 0, 0, 1), (6, 0, 0, 0), (29, 0, 0, 0), (3, 0, 2, 0), (3, 3, 0, 0), (0, 0, 0, 2), (6, 0, 0, 0), (29, 0, 0, 0), (3, 0, 2, 0), (3, 3, 0, 0), (0, 0, 0, 3), (6, 0, 0, 0), (29, 0, 0, 0), (39, 21042, 139, 118), (3, 2, 2, 0), (3, 0, 2, 0), (3, 3, 0, 0), (0, 0, 0, 1), (6, 0, 0, 0), (29, 0, 0, 0), (3, 0, 2, 0), (3, 3, 0, 0), (0, 0, 0, 2), (6, 0, 0, 0), (29, 0, 0, 0), (3, 0, 2, 0), (3, 3, 0, 0), (0, 0, 0, 3), (6, 0, 0, 0), (29, 0, 0, 0), (39, 22042, 280, 121), (13, 0, 1828, 0), (0, 0, 0, 0), (58, 0, 0, 0)]),
  (984, 15, [(3, 1, 2, 0), (3, 0, 2, 0), (3, 3, 0, 0), (0, 0, 0, 1), (6, 0, 0, 0), (29, 0, 0, 0), (3, 0, 2, 0), (3, 3, 0, 0), (0, 0, 0, 2), (6, 0, 0, 0), (29, 0, 0, 0), (3, 0, 2, 0), (3, 3, 0, 0), (0, 0, 0, 3), (6, 0, 0, 0), (29, 0, 0, 0), (39, 21042, 140, 122), (3, 2, 2, 0), (3, 0, 2, 0), (3, 3, 0, 0), (0, 0, 0, 1), (6, 0, 0, 0), (29, 0, 0, 0), (3, 0, 2, 0), (3, 3, 0, 0), (0, 0, 0, 2), (6, 0, 0, 0), (29, 0, 0, 0), (3, 0, 2, 0), (3, 3, 0, 0), (0, 0, 0, 3), (6, 0, 0, 0), (29, 0, 0, 0), (39, 22042, 282, 125), (13, 0, 1828, 0), (0, 0, 0, 0), (58, 0, 0, 0)]),
  (1027, 15, [(3, 1, 2, 0), (3, 0, 2, 0), (3, 3, 0, 0), (0, 0, 0, 1), (6, 0, 0, 0), (29, 0, 0, 0), (39, 21022, 141, 126), (3, 2, 2, 0), (3, 0, 2, 0), (3, 3, 0, 0), (0, 0, 0, 1), (6, 0, 0, 0), (29, 0, 0, 0), (39, 22022, 283, 129), (13, 0, 1828, 0), (0, 0, 0, 0), (58, 0, 0, 0)]),
  (1050, 15, [(3, 1, 2, 0), (39, 21012, 142, 130), (3, 2, 2, 0), (39, 22012, 286, 133), (13, 0, 1828, 0), (0, 0, 0, 0), (58, 0, 0, 0)]),
  (1063, 15, [(3, 1, 2, 0), (3, 0, 2, 0), (3, 3, 0, 0), (0, 0, 0, 1), (6, 0, 0, 0), (29, 0, 0, 0), (3, 0, 2, 0), (3, 3, 0, 0), (0, 0, 0, 2), (6, 0, 0, 0), (29, 0, 0, 0), (3, 0, 2, 0), (3, 3, 0, 0), (0, 0, 0, 3), (6, 0, 0, 0), (29, 0, 0, 0), (39, 21042, 143, 134), (3, 2, 2, 0), (3, 0, 2, 0), (3, 3, 0, 0), (0, 0, 0, 1), (6, 0, 0, 0), (29, 0, 0, 0), (3, 0, 2, 0), (3, 3, 0, 0), (0, 0, 0, 2), (6, 0, 0, 0), (29, 0, 0, 0), (3, 0, 2, 0), (3, 3, 0, 0), (0, 0, 0, 3), (6, 0, 0, 0), (29, 0, 0, 0), (39, 22042, 287, 137), (13, 0, 1828, 0), (0, 0, 0, 0), (58, 0, 0, 0)]),
  (1106, 15, [(3, 1, 2, 0), (39, 21012, 144, 138), (3, 2, 2, 0), (39, 22012, 288, 141), (13, 0, 1828, 0), (0, 0, 0, 0), (58, 0, 0, 0)]),
  (1119, 15, [(3, 1, 2, 0), (3, 0, 2, 0), (3, 3, 0, 0), (0, 0, 0, 1), (6, 0, 0, 0), (29, 0, 0, 0), (39, 21022, 145, 142), (3, 2, 2, 0), (3, 0, 2, 0), (3, 3, 0, 0), (0, 0, 0, 1), (6, 0, 0, 0), (29, 0, 0, 0), (39, 22022, 291, 145), (13, 0, 1828, 0), (0, 0, 0, 0), (58, 0, 0, 0)]),
  (1142, 15, [(3, 1, 2, 0), (3, 0, 2, 0), (3, 3, 0, 0), (0, 0, 0, 1), (6, 0, 0, 0), (29, 0, 0, 0), (3, 0, 2, 0), (3, 3, 0, 0), (0, 0, 0, 2), (6, 0, 0, 0), (29, 0, 0, 0), (39, 21032, 146, 146), (3, 2, 2, 0), (3, 0, 2, 0), (3, 3, 0, 0), (0, 0, 0, 1), (6, 0, 0, 0), (29, 0, 0, 0), (3, 0, 2, 0), (3, 3, 0, 0), (0, 0, 0, 2), (6, 0, 0, 0), (29, 0, 0, 0), (39, 22032, 293, 149), (13, 0, 1828, 0), (0, 0, 0, 0), (58, 0, 0, 0)]),
  (1175, 15, [(3, 1, 2, 0), (3, 0, 2, 0), (3, 3, 0, 0), (0, 0, 0, 1), (6, 0, 0, 0), (29, 0, 0, 0), (39, 21022, 147, 150), (3, 2, 2, 0), (3, 0, 2, 0), (3, 3, 0, 0), (0, 0, 0, 1), (6, 0, 0, 0), (29, 0, 0, 0), (39, 22022, 296, 153), (13, 0, 1828, 0), (0, 0, 0, 0), (58, 0, 0, 0)]),
  (1198, 15, [(3, 1, 2, 0), (39, 21012, 148, 154), (3, 2, 2, 0), (39, 22012, 297, 157), (13, 0, 1828, 0), (0, 0, 0, 0), (58, 0, 0, 0)]),
  (1211, 15, [(3, 1, 2, 0), (3, 0, 2, 0), (3, 3, 0, 0), (0, 0, 0, 1), (6, 0, 0, 0), (29, 0, 0, 0), (3, 0, 2, 0), (3, 3, 0, 0), (0, 0, 0, 2), (6, 0, 0, 0), (29, 0, 0, 0), (39, 21032, 149, 158), (3, 2, 2, 0), (3, 0, 2, 0), (3, 3, 0, 0), (0, 0, 0, 1), (6, 0, 0, 0), (29, 0, 0, 0), (3, 0, 2, 0), (3, 3, 0, 0), (0, 0, 0, 2), (6, 0, 0, 0), (29, 0, 0, 0), (39, 22032, 298, 161), (13, 0, 1828, 0), (0, 0, 0, 0), (58, 0, 0, 0)]),
  (1244, 15, [(3, 1, 2, 0), (3, 0, 2, 0), (3, 3, 0, 0), (0, 0, 0, 1), (6, 0, 0, 0), (29, 0, 0, 0), (39, 21022, 150, 162), (3, 2, 2, 0), (3, 0, 2, 0), (3, 3, 0, 0), (0, 0, 0, 1), (6, 0, 0, 0), (29, 0, 0, 0), (39, 22022, 301, 165), (13, 0, 1828, 0), (0, 0, 0, 0), (58, 0, 0, 0)]),
  (1267, 15, [(3, 1, 2, 0), (3, 0, 2, 0), (3, 3, 0, 0), (0, 0, 0, 1), (6, 0, 0, 0), (29, 0, 0, 0), (39, 21022, 151, 166), (3, 2, 2, 0), (3, 0, 2, 0), (3, 3, 0, 0), (0, 0, 0, 1), (6, 0, 0, 0), (29, 0, 0, 0), (39, 22022, 303, 169), (13, 0, 1828, 0), (0, 0, 0, 0), (58, 0, 0, 0)]),
  (1290, 15, [(3, 1, 2, 0), (3, 0, 2, 0), (3, 3, 0, 0), (0, 0, 0, 1), (6, 0, 0, 0), (29, 0, 0, 0), (3, 0, 2, 0), (3, 3, 0, 0), (0, 0, 0, 2), (6, 0, 0, 0), (29, 0, 0, 0), (3, 0, 2, 0), (3, 3, 0, 0), (0, 0, 0, 3), (6, 0, 0, 0), (29, 0, 0, 0), (39, 21042, 152, 170), (3, 2, 2, 0), (3, 0, 2, 0), (3, 3, 0, 0), (0, 0, 0, 1), (6, 0, 0, 0), (29, 0, 0, 0), (3, 0, 2, 0), (3, 3, 0, 0), (0, 0, 0, 2), (6, 0, 0, 0), (29, 0, 0, 0), (3, 0, 2, 0), (3, 3, 0, 0), (0, 0, 0, 3), (6, 0, 0, 0), (29, 0, 0, 0), (39, 22042, 304, 173), (13, 0, 1828, 0), (0, 0, 0, 0), (58, 0, 0, 0)]),
  (1333, 15, [(3, 1, 2, 0), (39, 21012, 153, 174), (3, 2, 2, 0), (39, 22012, 305, 177), (13, 0, 1828, 0), (0, 0, 0, 0), (58, 0, 0, 0)]),
  (1346, 15, [(3, 1, 2, 0), (3, 0, 2, 0), (3, 3, 0, 0), (0, 0, 0, 1), (6, 0, 0, 0), (29, 0, 0, 0), (3, 0, 2, 0), (3, 3, 0, 0), (0, 0, 0, 2), (6, 0, 0, 0), (29, 0, 0, 0), (39, 21032, 154, 178), (3, 2, 2, 0), (3, 0, 2, 0), (3, 3, 0, 0), (0, 0, 0, 1), (6, 0, 0, 0), (29, 0, 0, 0), (3, 0, 2, 0), (3, 3, 0, 0), (0, 0, 0, 2), (6, 0, 0, 0), (29, 0, 0, 0), (39, 22032, 306, 181), (13, 0, 1828, 0), (0, 0, 0, 0), (58, 0, 0, 0)]),
  (1379, 15, [(3, 1, 2, 0), (3, 0, 2, 0), (3, 3, 0, 0), (0, 0, 0, 1), (6, 0, 0, 0), (29, 0, 0, 0), (39, 21022, 155, 182), (3, 2, 2, 0), (3, 0, 2, 0), (3, 3, 0, 0), (0, 0, 0, 1), (6, 0, 0, 0), (29, 0, 0, 0), (39, 22022, 309, 185), (13, 0, 1828, 0), (0, 0, 0, 0), (58, 0, 0, 0)]),
  (1402, 15, [(3, 1, 2, 0), (39, 21012, 156, 186), (3, 2, 2, 0), (39, 22012, 310, 190), (9, 0, 0, 0), (12, 0, 1828, 0), (0, 0, 0, 0), (58, 0, 0, 0)]),
  (1416, 15, [(3, 1, 2, 0), (3, 0, 2, 0), (3, 3, 0, 0), (0, 0, 0, 1), (6, 0, 0, 0), (29, 0, 0, 0), (3, 0, 2, 0), (3, 3, 0, 0), (0, 0, 0, 2), (6, 0, 0, 0), (29, 0, 0, 0), (3, 0, 2, 0), (3, 3, 0, 0), (0, 0, 0, 3), (6, 0, 0, 0), (29, 0, 0, 0), (3, 0, 2, 0), (3, 3, 0, 0), (0, 0, 0, 4), (6, 0, 0, 0), (29, 0, 0, 0), (39, 21052, 157, 191), (3, 2, 2, 0), (3, 0, 2, 0), (3, 3, 0, 0), (0, 0, 0, 1), (6, 0, 0, 0), (29, 0, 0, 0), (3, 0, 2, 0), (3, 3, 0, 0), (0, 0, 0, 2), (6, 0, 0, 0), (29, 0, 0, 0), (3, 0, 2, 0), (3, 3, 0, 0), (0, 0, 0, 3), (6, 0, 0, 0), (29, 0, 0, 0), (3, 0, 2, 0), (3, 3, 0, 0), (0, 0, 0, 4), (6, 0, 0, 0), (29, 0, 0, 0), (39, 22052, 311, 195), (13, 0, 1828, 0), (0, 0, 0, 0), (58, 0, 0, 0)]),
  (1469, 15, [(3, 1, 2, 0), (3, 0, 2, 0), (3, 3, 0, 0), (0, 0, 0, 1), (6, 0, 0, 0), (29, 0, 0, 0), (3, 0, 2, 0), (3, 3, 0, 0), (0, 0, 0, 2), (6, 0, 0, 0), (29, 0, 0, 0), (3, 0, 2, 0), (3, 3, 0, 0), (0, 0, 0, 3), (6, 0, 0, 0), (29, 0, 0, 0), (39, 21042, 158, 196), (3, 2, 2, 0), (3, 0, 2, 0), (3, 3, 0, 0), (0, 0, 0, 1), (6, 0, 0, 0), (29, 0, 0, 0), (3, 0, 2, 0), (3, 3, 0, 0), (0, 0, 0, 2), (6, 0, 0, 0), (29, 0, 0, 0), (3, 0, 2, 0), (3, 3, 0, 0), (0, 0, 0, 3), (6, 0, 0, 0), (29, 0, 0, 0), (39, 22042, 313, 199), (13, 0, 1828, 0), (0, 0, 0, 0), (58, 0, 0, 0)]),
  (1512, 15, [(3, 1, 2, 0), (3, 0, 2, 0), (3, 3, 0, 0), (0, 0, 0, 1), (6, 0, 0, 0), (29, 0, 0, 0), (3, 0, 2, 0), (3, 3, 0, 0), (0, 0, 0, 2), (6, 0, 0, 0), (29, 0, 0, 0), (39, 21032, 159, 200), (3, 2, 2, 0), (3, 0, 2, 0), (3, 3, 0, 0), (0, 0, 0, 1), (6, 0, 0, 0), (29, 0, 0, 0), (3, 0, 2, 0), (3, 3, 0, 0), (0, 0, 0, 2), (6, 0, 0, 0), (29, 0, 0, 0), (39, 22032, 314, 203), (13, 0, 1828, 0), (0, 0, 0, 0), (58, 0, 0, 0)]),
  (1545, 15, [(3, 1, 2, 0), (3, 0, 2, 0), (3, 3, 0, 0), (0, 0, 0, 1), (6, 0, 0, 0), (29, 0, 0, 0), (3, 0, 2, 0), (3, 3, 0, 0), (0, 0, 0, 2), (6, 0, 0, 0), (29, 0, 0, 0), (3, 0, 2, 0), (3, 3, 0, 0), (0, 0, 0, 3), (6, 0, 0, 0), (29, 0, 0, 0), (39, 21042, 160, 204), (3, 2, 2, 0), (3, 0, 2, 0), (3, 3, 0, 0), (0, 0, 0, 1), (6, 0, 0, 0), (29, 0, 0, 0), (3, 0, 2, 0), (3, 3, 0, 0), (0, 0, 0, 2), (6, 0, 0, 0), (29, 0, 0, 0), (3, 0, 2, 0), (3, 3, 0, 0), (0, 0, 0, 3), (6, 0, 0, 0), (29, 0, 0, 0), (39, 22042, 320, 207), (13, 0, 1828, 0), (0, 0, 0, 0), (58, 0, 0, 0)]),
  (1588, 15, [(3, 1, 2, 0), (3, 0, 2, 0), (3, 3, 0, 0), (0, 0, 0, 1), (6, 0, 0, 0), (29, 0, 0, 0), (39, 21022, 161, 208), (3, 2, 2, 0), (3, 0, 2, 0), (3, 3, 0, 0), (0, 0, 0, 1), (6, 0, 0, 0), (29, 0, 0, 0), (39, 22022, 322, 211), (13, 0, 1828, 0), (0, 0, 0, 0), (58, 0, 0, 0)]),
  (1611, 15, [(3, 1, 2, 0), (3, 0, 2, 0), (3, 3, 0, 0), (0, 0, 0, 1), (6, 0, 0, 0), (29, 0, 0, 0), (3, 0, 2, 0), (3, 3, 0, 0), (0, 0, 0, 2), (6, 0, 0, 0), (29, 0, 0, 0), (39, 21032, 162, 212), (3, 2, 2, 0), (3, 0, 2, 0), (3, 3, 0, 0), (0, 0, 0, 1), (6, 0, 0, 0), (29, 0, 0, 0), (3, 0, 2, 0), (3, 3, 0, 0), (0, 0, 0, 2), (6, 0, 0, 0), (29, 0, 0, 0), (39, 22032, 323, 215), (13, 0, 1828, 0), (0, 0, 0, 0), (58, 0, 0, 0)]),
  (1644, 15, [(3, 1, 2, 0), (39, 21012, 163, 216), (3, 2, 2, 0), (39, 22012, 324, 219), (13, 0, 1828, 0), (0, 0, 0, 0), (58, 0, 0, 0)]),
  (1657, 15, [(3, 1, 2, 0), (3, 0, 2, 0), (3, 3, 0, 0), (0, 0, 0, 1), (6, 0, 0, 0), (29, 0, 0, 0), (3, 0, 2, 0), (3, 3, 0, 0), (0, 0, 0, 2), (6, 0, 0, 0), (29, 0, 0, 0), (39, 21032, 164, 220), (3, 2, 2, 0), (3, 0, 2, 0), (3, 3, 0, 0), (0, 0, 0, 1), (6, 0, 0, 0), (29, 0, 0, 0), (3, 0, 2, 0), (3, 3, 0, 0), (0, 0, 0, 2), (6, 0, 0, 0), (29, 0, 0, 0), (39, 22032, 325, 223), (13, 0, 1828, 0), (0, 0, 0, 0), (58, 0, 0, 0)]),
  (1690, 15, [(3, 1, 2, 0), (3, 0, 2, 0), (3, 3, 0, 0), (0, 0, 0, 1), (6, 0, 0, 0), (29, 0, 0, 0), (3, 0, 2, 0), (3, 3, 0, 0), (0, 0, 0, 2), (6, 0, 0, 0), (29, 0, 0, 0), (39, 21032, 165, 224), (3, 2, 2, 0), (3, 0, 2, 0), (3, 3, 0, 0), (0, 0, 0, 1), (6, 0, 0, 0), (29, 0, 0, 0), (3, 0, 2, 0), (3, 3, 0, 0), (0, 0, 0, 2), (6, 0, 0, 0), (29, 0, 0, 0), (39, 22032, 337, 227), (13, 0, 1828, 0), (0, 0, 0, 0), (58, 0, 0, 0)]),
  (1723, 15, [(3, 1, 2, 0), (3, 0, 2, 0), (3, 3, 0, 0), (0, 0, 0, 1), (6, 0, 0, 0), (29, 0, 0, 0), (39, 21022, 166, 228), (3, 2, 2, 0), (3, 0, 2, 0), (3, 3, 0, 0), (0, 0, 0, 1), (6, 0, 0, 0), (29, 0, 0, 0), (39, 22022, 338, 231), (13, 0, 1828, 0), (0, 0, 0, 0), (58, 0, 0, 0)]),
  (1746, 15, [(3, 1, 2, 0), (3, 0, 2, 0), (3, 3, 0, 0), (0, 0, 0, 1), (6, 0, 0, 0), (29, 0, 0, 0), (39, 21022, 167, 232), (3, 2, 2, 0), (3, 0, 2, 0), (3, 3, 0, 0), (0, 0, 0, 1), (6, 0, 0, 0), (29, 0, 0, 0), (39, 22022, 192, 235), (13, 0, 1828, 0), (0, 0, 0, 0), (58, 0, 0, 0)]),
  (1769, 15, [(3, 1, 2, 0), (3, 0, 2, 0), (3, 3, 0, 0), (0, 0, 0, 1), (6, 0, 0, 0), (29, 0, 0, 0), (39, 21022, 168, 236), (3, 2, 2, 0), (3, 0, 2, 0), (3, 3, 0, 0), (0, 0, 0, 1), (6, 0, 0, 0), (29, 0, 0, 0), (39, 22022, 193, 239), (13, 0, 1828, 0), (0, 0, 0, 0), (58, 0, 0, 0)]),
  (1792, 15, [(3, 1, 2, 0), (3, 0, 2, 0), (3, 3, 0, 0), (0, 0, 0, 1), (6, 0, 0, 0), (29, 0, 0, 0), (39, 21022, 169, 240), (3, 2, 2, 0), (3, 0, 2, 0), (3, 3, 0, 0), (0, 0, 0, 1), (6, 0, 0, 0), (29, 0, 0, 0), (39, 22022, 339, 243), (13, 0, 1828, 0), (0, 0, 0, 0), (58, 0, 0, 0)]),
  (1815, 15, [(3, 1, 2, 0), (39, 21012, 170, 244), (3, 2, 2, 0), (39, 22012, 340, 247), (13, 0, 1828, 0), (0, 0, 0, 0), (58, 0, 0, 0)]),
  (1828, 15, [(5, 3, 0, 6), (15, 0, 18, 0), (16, 0, 18, 0)]),
  (1834, 0, [(0, 0, 0, 1), (58, 0, 0, 0)])]
def inf (m : Nat) : Nat × (Nat × Nat × Nat × Int) × List (Nat × Nat × List Ins) := (bif Nat.ble (m + 1) 178 then (bif Nat.ble (m + 1) 89 then (bif Nat.ble (m + 1) 44 then (bif Nat.ble (m + 1) 22 then (bif Nat.ble (m + 1) 11 then (bif Nat.ble (m + 1) 5 then (bif Nat.ble (m + 1) 2 then (bif Nat.ble (m + 1) 1 then (3, (1, 0, 0, 0), k_X0_init) else (5, (6, 0, 0, 0), k_X0_pass)) else (bif Nat.ble (m + 1) 3 then (2, (2, 0, 0, 0), k_X0_yearsOf) else (bif Nat.ble (m + 1) 4 then (8, (5, 0, 0, 0), k_X0_paintOne) else (2, (1, 0, 0, 0), k_X0_draw)))) else (bif Nat.ble (m + 1) 8 then (bif Nat.ble (m + 1) 6 then (5, (2, 0, 0, 0), k_X1_init) else (bif Nat.ble (m + 1) 7 then (6, (19, 0, 0, 0), k_X1_runAll) else (3, (6, 0, 0, 0), k_X1_learnWords))) else (bif Nat.ble (m + 1) 9 then (4, (3, 0, 0, 0), k_X1_isWanted) else (bif Nat.ble (m + 1) 10 then (5, (3, 0, 0, 0), k_X1_sumsWork) else (4, (18, 0, 0, 0), k_X1_paints))))) else (bif Nat.ble (m + 1) 16 then (bif Nat.ble (m + 1) 13 then (bif Nat.ble (m + 1) 12 then (2, (2, 0, 0, 0), k_X1_changes) else (3, (1, 0, 0, 0), k_X2_init)) else (bif Nat.ble (m + 1) 14 then (4, (6, 0, 0, 0), k_X2_crownTill) else (bif Nat.ble (m + 1) 15 then (3, (2, 0, 0, 0), k_X2_reigns) else (5, (2, 0, 0, 0), k_X2_reignOf)))) else (bif Nat.ble (m + 1) 19 then (bif Nat.ble (m + 1) 17 then (5, (5, 0, 0, 0), k_X2_standInLine) else (bif Nat.ble (m + 1) 18 then (2, (1, 0, 0, 0), k_X2_begins) else (3, (1, 0, 0, 0), k_X2_lasts))) else (bif Nat.ble (m + 1) 20 then (1, (1, 0, 0, 0), k_X3_init) else (bif Nat.ble (m + 1) 21 then (8, (2, 0, 0, 0), k_X3_works) else (8, (1, 0, 0, 0), k_X3_joins)))))) else (bif Nat.ble (m + 1) 33 then (bif Nat.ble (m + 1) 27 then (bif Nat.ble (m + 1) 24 then (bif Nat.ble (m + 1) 23 then (2, (2, 0, 0, 0), k_X4_init) else (4, (4, 0, 0, 0), k_X4_looksOf)) else (bif Nat.ble (m + 1) 25 then (3, (4, 0, 0, 0), k_X4_letsOf) else (bif Nat.ble (m + 1) 26 then (3, (4, 0, 0, 0), k_X4_asksOf) else (3, (4, 0, 0, 0), k_X4_barsPainter)))) else (bif Nat.ble (m + 1) 30 then (bif Nat.ble (m + 1) 28 then (3, (4, 0, 0, 0), k_X4_ranksOf) else (bif Nat.ble (m + 1) 29 then (3, (4, 0, 0, 0), k_X4_barsClaimant) else (7, (1, 0, 0, 0), k_X4_scarOn))) else (bif Nat.ble (m + 1) 31 then (3, (2, 0, 0, 0), k_X4_ask) else (bif Nat.ble (m + 1) 32 then (3, (3, 0, 0, 0), k_X4_askPainter) else (5, (3, 0, 0, 0), k_X4_askClaimant))))) else (bif Nat.ble (m + 1) 38 then (bif Nat.ble (m + 1) 35 then (bif Nat.ble (m + 1) 34 then (7, (3, 0, 0, 0), k_X4_tells) else (3, (1, 0, 0, 0), k_X5_init)) else (bif Nat.ble (m + 1) 36 then (6, (17, 0, 0, 0), k_X5_seek) else (bif Nat.ble (m + 1) 37 then (6, (4, 2, 1, 6), k_X5_walk) else (5, (2, 0, 0, 0), k_X5_mayPaint)))) else (bif Nat.ble (m + 1) 41 then (bif Nat.ble (m + 1) 39 then (5, (3, 0, 0, 0), k_X5_paintOver) else (bif Nat.ble (m + 1) 40 then (5, (2, 0, 0, 0), k_X5_isGood) else (5, (2, 0, 0, 0), k_X5_weigh))) else (bif Nat.ble (m + 1) 42 then (3, (1, 0, 0, 0), k_X5_isBetter) else (bif Nat.ble (m + 1) 43 then (3, (1, 0, 0, 0), k_X6_init) else (5, (104, 0, 0, 0), k_X6_faultIn))))))) else (bif Nat.ble (m + 1) 66 then (bif Nat.ble (m + 1) 55 then (bif Nat.ble (m + 1) 49 then (bif Nat.ble (m + 1) 46 then (bif Nat.ble (m + 1) 45 then (3, (1, 0, 0, 0), k_X6_clearRow) else (3, (101, 0, 0, 0), k_X6_readClause)) else (bif Nat.ble (m + 1) 47 then (3, (101, 0, 0, 0), k_X6_readOrder) else (bif Nat.ble (m + 1) 48 then (2, (7, 0, 0, 0), k_X6_readTimes) else (3, (103, 0, 0, 0), k_X6_readIf)))) else (bif Nat.ble (m + 1) 52 then (bif Nat.ble (m + 1) 50 then (4, (100, 0, 0, 0), k_X6_readSumOf) else (bif Nat.ble (m + 1) 51 then (5, (12, 10, 1, 9), k_X6_readTest) else (5, (11, 10, 1, 9), k_X6_readBoth))) else (bif Nat.ble (m + 1) 53 then (5, (10, 10, 1, 9), k_X6_readPlain) else (bif Nat.ble (m + 1) 54 then (5, (9, 10, 1, 9), k_X6_readSum) else (5, (8, 10, 1, 9), k_X6_readTerm))))) else (bif Nat.ble (m + 1) 60 then (bif Nat.ble (m + 1) 57 then (bif Nat.ble (m + 1) 56 then (3, (7, 10, 1, 9), k_X6_readPart) else (2, (3, 0, 0, 0), k_X6_opens)) else (bif Nat.ble (m + 1) 58 then (2, (1, 0, 0, 0), k_X6_isSign) else (bif Nat.ble (m + 1) 59 then (3, (3, 0, 0, 0), k_X6_takes) else (3, (6, 0, 0, 0), k_X6_takesWord)))) else (bif Nat.ble (m + 1) 63 then (bif Nat.ble (m + 1) 61 then (5, (6, 0, 0, 0), k_X6_placeIn) else (bif Nat.ble (m + 1) 62 then (5, (5, 0, 0, 0), k_X6_isSame) else (1, (2, 0, 0, 0), k_X6_next))) else (bif Nat.ble (m + 1) 64 then (1, (1, 0, 0, 0), k_X6_kindOf) else (bif Nat.ble (m + 1) 65 then (1, (1, 0, 0, 0), k_X7_init) else (3, (1, 0, 0, 0), k_X7_takeFrom)))))) else (bif Nat.ble (m + 1) 77 then (bif Nat.ble (m + 1) 71 then (bif Nat.ble (m + 1) 68 then (bif Nat.ble (m + 1) 67 then (2, (2, 0, 0, 0), k_X7_hasPainter) else (2, (2, 0, 0, 0), k_X7_hasLayer)) else (bif Nat.ble (m + 1) 69 then (2, (2, 0, 0, 0), k_X7_hasClaimant) else (bif Nat.ble (m + 1) 70 then (3, (1, 0, 0, 0), k_X7_ageIn) else (5, (1, 0, 0, 0), k_X7_rests)))) else (bif Nat.ble (m + 1) 74 then (bif Nat.ble (m + 1) 72 then (2, (1, 0, 0, 0), k_X7_seenAt) else (bif Nat.ble (m + 1) 73 then (1, (1, 0, 0, 0), k_X7_addCopy) else (4, (1, 0, 0, 0), k_X7_nearOf))) else (bif Nat.ble (m + 1) 75 then (4, (1, 0, 0, 0), k_X7_isAlive) else (bif Nat.ble (m + 1) 76 then (5, (2, 0, 0, 0), k_X7_childrenOf) else (8, (2, 0, 0, 0), k_X7_brushed))))) else (bif Nat.ble (m + 1) 83 then (bif Nat.ble (m + 1) 80 then (bif Nat.ble (m + 1) 78 then (2, (1, 0, 0, 0), k_X8_init) else (bif Nat.ble (m + 1) 79 then (5, (2, 0, 0, 0), k_X8_between) else (3, (4, 0, 0, 0), k_X8_weigh))) else (bif Nat.ble (m + 1) 81 then (1, (1, 0, 0, 0), k_X8_changed) else (bif Nat.ble (m + 1) 82 then (1, (1, 0, 0, 0), k_X8_waysInAll) else (3, (20, 0, 0, 0), k_X8_parentOf)))) else (bif Nat.ble (m + 1) 86 then (bif Nat.ble (m + 1) 84 then (9, (2, 0, 0, 0), k_X8_datedBy) else (bif Nat.ble (m + 1) 85 then (7, (3, 0, 0, 0), k_X8_learn) else (7, (2, 0, 0, 0), k_X8_needBehind))) else (bif Nat.ble (m + 1) 87 then (6, (1, 0, 0, 0), k_X8_sameIn) else (bif Nat.ble (m + 1) 88 then (3, (1, 0, 0, 0), k_X8_toneIn) else (5, (1, 0, 0, 0), k_X8_fromLayer)))))))) else (bif Nat.ble (m + 1) 133 then (bif Nat.ble (m + 1) 111 then (bif Nat.ble (m + 1) 100 then (bif Nat.ble (m + 1) 94 then (bif Nat.ble (m + 1) 91 then (bif Nat.ble (m + 1) 90 then (6, (3, 0, 0, 0), k_X8_weighSet) else (8, (2, 0, 0, 0), k_X8_joinBranch)) else (bif Nat.ble (m + 1) 92 then (4, (3, 2, 1, 8), k_X8_fits) else (bif Nat.ble (m + 1) 93 then (6, (2, 0, 0, 0), k_X8_leastFrom) else (5, (1, 0, 0, 0), k_X8_comesFrom)))) else (bif Nat.ble (m + 1) 97 then (bif Nat.ble (m + 1) 95 then (3, (1, 0, 0, 0), k_X9_init) else (bif Nat.ble (m + 1) 96 then (5, (5, 0, 0, 0), k_X9_paintNext) else (4, (5, 0, 0, 0), k_X9_unlikeOf))) else (bif Nat.ble (m + 1) 98 then (4, (5, 0, 0, 0), k_X9_farCell) else (bif Nat.ble (m + 1) 99 then (4, (5, 0, 0, 0), k_X9_moneyBehind) else (4, (6, 0, 0, 0), k_X9_whoCan))))) else (bif Nat.ble (m + 1) 105 then (bif Nat.ble (m + 1) 102 then (bif Nat.ble (m + 1) 101 then (6, (6, 0, 0, 0), k_X9_rowsInto) else (8, (5, 0, 0, 0), k_X9_driftOf)) else (bif Nat.ble (m + 1) 103 then (5, (6, 0, 0, 0), k_X9_undoingPair) else (bif Nat.ble (m + 1) 104 then (8, (5, 0, 0, 0), k_X9_firstTones) else (4, (5, 0, 0, 0), k_X9_aimAt)))) else (bif Nat.ble (m + 1) 108 then (bif Nat.ble (m + 1) 106 then (8, (3, 0, 0, 0), k_X9_comesOut) else (bif Nat.ble (m + 1) 107 then (7, (3, 0, 0, 0), k_X9_carried) else (6, (3, 0, 0, 0), k_X9_undo))) else (bif Nat.ble (m + 1) 109 then (3, (1, 0, 0, 0), k_X10_init) else (bif Nat.ble (m + 1) 110 then (1, (1, 0, 0, 0), k_X10_clear) else (3, (1, 0, 0, 0), k_X10_add)))))) else (bif Nat.ble (m + 1) 122 then (bif Nat.ble (m + 1) 116 then (bif Nat.ble (m + 1) 113 then (bif Nat.ble (m + 1) 112 then (2, (1, 0, 0, 0), k_X10_jumpHere) else (2, (2, 0, 0, 0), k_X10_trimmed)) else (bif Nat.ble (m + 1) 114 then (7, (3, 0, 0, 0), k_X11_init) else (bif Nat.ble (m + 1) 115 then (4, (3, 0, 0, 0), k_X11_first) else (5, (3, 0, 0, 0), k_X11_painter)))) else (bif Nat.ble (m + 1) 119 then (bif Nat.ble (m + 1) 117 then (6, (3, 0, 0, 0), k_X11_err) else (bif Nat.ble (m + 1) 118 then (3, (3, 0, 0, 0), k_X11_of) else (4, (3, 0, 0, 0), k_X11_terms))) else (bif Nat.ble (m + 1) 120 then (5, (3, 0, 0, 0), k_X11_scar) else (bif Nat.ble (m + 1) 121 then (3, (3, 0, 0, 0), k_X11_heal) else (6, (2, 0, 0, 0), k_X11_feed))))) else (bif Nat.ble (m + 1) 127 then (bif Nat.ble (m + 1) 124 then (bif Nat.ble (m + 1) 123 then (2, (1, 0, 0, 0), k_X11_end) else (3, (3, 0, 0, 0), k_X11_row)) else (bif Nat.ble (m + 1) 125 then (1, (1, 0, 0, 0), k_X11_flakes) else (bif Nat.ble (m + 1) 126 then (2, (105, 0, 0, 0), k_X11_law) else (3, (105, 0, 0, 0), k_X11_orders)))) else (bif Nat.ble (m + 1) 130 then (bif Nat.ble (m + 1) 128 then (1, (1, 0, 0, 0), k_X11_fault) else (bif Nat.ble (m + 1) 129 then (1, (1, 0, 0, 0), k_X11_stopped) else (3, (3, 0, 0, 0), k_X11_force))) else (bif Nat.ble (m + 1) 131 then (4, (5, 0, 0, 0), k_X11_looks) else (bif Nat.ble (m + 1) 132 then (4, (5, 0, 0, 0), k_X11_asks) else (3, (6, 0, 0, 0), k_X11_paint))))))) else (bif Nat.ble (m + 1) 155 then (bif Nat.ble (m + 1) 144 then (bif Nat.ble (m + 1) 138 then (bif Nat.ble (m + 1) 135 then (bif Nat.ble (m + 1) 134 then (1, (3, 0, 0, 0), k_X11_scrape) else (3, (3, 0, 0, 0), k_X11_tone)) else (bif Nat.ble (m + 1) 136 then (3, (6, 0, 0, 0), k_X11_layer) else (bif Nat.ble (m + 1) 137 then (2, (6, 0, 0, 0), k_X11_unlawful) else (2, (6, 0, 0, 0), k_X11_money)))) else (bif Nat.ble (m + 1) 141 then (bif Nat.ble (m + 1) 139 then (2, (6, 0, 0, 0), k_X11_broke) else (bif Nat.ble (m + 1) 140 then (4, (18, 0, 0, 0), k_X11_plan) else (5, (6, 0, 0, 0), k_X11_drift))) else (bif Nat.ble (m + 1) 142 then (2, (7, 0, 0, 0), k_X11_undoing) else (bif Nat.ble (m + 1) 143 then (1, (3, 0, 0, 0), k_X11_copy) else (5, (3, 0, 0, 0), k_X11_touch))))) else (bif Nat.ble (m + 1) 149 then (bif Nat.ble (m + 1) 146 then (bif Nat.ble (m + 1) 145 then (2, (1, 0, 0, 0), k_X11_burn) else (2, (3, 0, 0, 0), k_X11_near)) else (bif Nat.ble (m + 1) 147 then (3, (3, 0, 0, 0), k_X11_like) else (bif Nat.ble (m + 1) 148 then (3, (21, 0, 0, 0), k_X11_tree) else (1, (5, 0, 0, 0), k_X11_trees)))) else (bif Nat.ble (m + 1) 152 then (bif Nat.ble (m + 1) 150 then (3, (3, 0, 0, 0), k_X11_dated) else (bif Nat.ble (m + 1) 151 then (2, (4, 0, 0, 0), k_X11_know) else (2, (7, 0, 0, 0), k_X11_who))) else (bif Nat.ble (m + 1) 153 then (5, (3, 0, 0, 0), k_X11_forge) else (bif Nat.ble (m + 1) 154 then (2, (7, 0, 0, 0), k_X11_skipped) else (3, (7, 0, 0, 0), k_X11_missing)))))) else (bif Nat.ble (m + 1) 166 then (bif Nat.ble (m + 1) 160 then (bif Nat.ble (m + 1) 157 then (bif Nat.ble (m + 1) 156 then (2, (6, 0, 0, 0), k_X11_was) else (4, (6, 0, 0, 0), k_X11_ways)) else (bif Nat.ble (m + 1) 158 then (6, (3, 0, 0, 0), k_X11_claimant) else (bif Nat.ble (m + 1) 159 then (6, (3, 0, 0, 0), k_X11_claim) else (3, (3, 0, 0, 0), k_X11_born)))) else (bif Nat.ble (m + 1) 163 then (bif Nat.ble (m + 1) 161 then (4, (5, 0, 0, 0), k_X11_stands) else (bif Nat.ble (m + 1) 162 then (2, (7, 0, 0, 0), k_X11_ruler) else (3, (7, 0, 0, 0), k_X11_reign))) else (bif Nat.ble (m + 1) 164 then (3, (7, 0, 0, 0), k_X11_vacant) else (bif Nat.ble (m + 1) 165 then (3, (6, 0, 0, 0), k_X11_line) else (3, (7, 0, 0, 0), k_X11_century))))) else (bif Nat.ble (m + 1) 172 then (bif Nat.ble (m + 1) 169 then (bif Nat.ble (m + 1) 167 then (2, (3, 0, 0, 0), k_X11_drawn) else (bif Nat.ble (m + 1) 168 then (2, (3, 0, 0, 0), k_X11_image) else (2, (3, 0, 0, 0), k_X11_back))) else (bif Nat.ble (m + 1) 170 then (2, (1, 0, 0, 0), k_X11_count) else (bif Nat.ble (m + 1) 171 then (1, (1, 0, 0, 0), k_X11_status) else (2, (1, 0, 0, 0), k_X11_answer)))) else (bif Nat.ble (m + 1) 175 then (bif Nat.ble (m + 1) 173 then (3, (2, 0, 0, 0), k_X11_refuse) else (bif Nat.ble (m + 1) 174 then (3, (1, 0, 0, 0), k_X11_putBytes) else (5, (2, 0, 0, 0), k_X11_heirs))) else (bif Nat.ble (m + 1) 176 then (2, (2, 0, 0, 0), k_X11_isRootOrCopy) else (bif Nat.ble (m + 1) 177 then (1, (1, 0, 0, 0), k_X11_highestTerm) else (2, (1, 0, 0, 0), k_X11_inside))))))))) else (bif Nat.ble (m + 1) 267 then (bif Nat.ble (m + 1) 222 then (bif Nat.ble (m + 1) 200 then (bif Nat.ble (m + 1) 189 then (bif Nat.ble (m + 1) 183 then (bif Nat.ble (m + 1) 180 then (bif Nat.ble (m + 1) 179 then (1, (1, 0, 0, 0), k_X11_isCell) else (1, (1, 0, 0, 0), k_X11_isTone)) else (bif Nat.ble (m + 1) 181 then (1, (1, 0, 0, 0), k_X11_canBeCopy) else (bif Nat.ble (m + 1) 182 then (1, (1, 0, 0, 0), k_X11_bit) else (2, (1, 0, 0, 0), k_X11_lowestIn)))) else (bif Nat.ble (m + 1) 186 then (bif Nat.ble (m + 1) 184 then (2, (1, 0, 0, 0), k_X11_highestIn) else (bif Nat.ble (m + 1) 185 then (3, (1, 0, 0, 0), k_X11_nearest) else (1, (1, 0, 0, 0), k_X12_init))) else (bif Nat.ble (m + 1) 187 then (6, (1, 0, 0, 0), k_X12_in) else (bif Nat.ble (m + 1) 188 then (2, (1, 0, 0, 0), k_X12_is) else (1, (1, 0, 0, 0), k_X12_size))))) else (bif Nat.ble (m + 1) 194 then (bif Nat.ble (m + 1) 191 then (bif Nat.ble (m + 1) 190 then (4, (1, 0, 0, 0), k_X12_within) else (2, (1, 0, 0, 0), k_X12_tell)) else (bif Nat.ble (m + 1) 192 then (4, (1, 0, 0, 0), k_X12_change) else (bif Nat.ble (m + 1) 193 then (3, (2, 0, 0, 0), k_X12_image) else (3, (2, 0, 0, 0), k_X12_back)))) else (bif Nat.ble (m + 1) 197 then (bif Nat.ble (m + 1) 195 then (1, (2, 0, 0, 0), k_X12_isCell) else (bif Nat.ble (m + 1) 196 then (1, (2, 0, 0, 0), k_X12_isTone) else (1, (2, 0, 0, 0), k_X12_isYear))) else (bif Nat.ble (m + 1) 198 then (1, (1, 0, 0, 0), k_X12_years) else (bif Nat.ble (m + 1) 199 then (2, (2, 0, 0, 0), k_X12_isLayer) else (2, (2, 0, 0, 0), k_X12_isPainter)))))) else (bif Nat.ble (m + 1) 211 then (bif Nat.ble (m + 1) 205 then (bif Nat.ble (m + 1) 202 then (bif Nat.ble (m + 1) 201 then (2, (2, 0, 0, 0), k_X12_isCopy) else (2, (2, 0, 0, 0), k_X12_isClaimant)) else (bif Nat.ble (m + 1) 203 then (3, (1, 0, 0, 0), k_X12_toneAt) else (bif Nat.ble (m + 1) 204 then (2, (2, 0, 0, 0), k_X12_seen) else (3, (3, 0, 0, 0), k_X12_first)))) else (bif Nat.ble (m + 1) 208 then (bif Nat.ble (m + 1) 206 then (6, (2, 0, 0, 0), k_X12_painter) else (bif Nat.ble (m + 1) 207 then (4, (3, 0, 0, 0), k_X12_err) else (3, (3, 0, 0, 0), k_X12_of))) else (bif Nat.ble (m + 1) 209 then (2, (2, 0, 0, 0), k_X12_isTerm) else (bif Nat.ble (m + 1) 210 then (3, (3, 0, 0, 0), k_X12_terms) else (5, (3, 0, 0, 0), k_X12_scar))))) else (bif Nat.ble (m + 1) 216 then (bif Nat.ble (m + 1) 213 then (bif Nat.ble (m + 1) 212 then (3, (2, 0, 0, 0), k_X12_heal) else (4, (3, 0, 0, 0), k_X12_row)) else (bif Nat.ble (m + 1) 214 then (1, (1, 0, 0, 0), k_X12_flakes) else (bif Nat.ble (m + 1) 215 then (3, (1, 0, 0, 0), k_X12_four) else (6, (2, 0, 0, 0), k_X12_feed)))) else (bif Nat.ble (m + 1) 219 then (bif Nat.ble (m + 1) 217 then (2, (1, 0, 0, 0), k_X12_end) else (bif Nat.ble (m + 1) 218 then (1, (1, 0, 0, 0), k_X12_isSmall) else (1, (1, 0, 0, 0), k_X12_isDigit))) else (bif Nat.ble (m + 1) 220 then (1, (3, 0, 0, 0), k_X12_begin) else (bif Nat.ble (m + 1) 221 then (1, (2, 0, 0, 0), k_X12_next) else (3, (1, 0, 0, 0), k_X12_isWord))))))) else (bif Nat.ble (m + 1) 244 then (bif Nat.ble (m + 1) 233 then (bif Nat.ble (m + 1) 227 then (bif Nat.ble (m + 1) 224 then (bif Nat.ble (m + 1) 223 then (2, (1, 0, 0, 0), k_X12_isSign) else (2, (3, 0, 0, 0), k_X12_must)) else (bif Nat.ble (m + 1) 225 then (6, (4, 0, 0, 0), k_X12_number) else (bif Nat.ble (m + 1) 226 then (1, (1, 0, 0, 0), k_X12_fault) else (3, (1, 0, 0, 0), k_X12_emit)))) else (bif Nat.ble (m + 1) 230 then (bif Nat.ble (m + 1) 228 then (3, (1, 0, 0, 0), k_X12_push) else (bif Nat.ble (m + 1) 229 then (1, (1, 0, 0, 0), k_X12_binds) else (2, (2, 0, 0, 0), k_X12_settle))) else (bif Nat.ble (m + 1) 231 then (3, (1, 0, 0, 0), k_X12_inner) else (bif Nat.ble (m + 1) 232 then (2, (2, 0, 0, 0), k_X12_isCompared) else (3, (2, 0, 0, 0), k_X12_partAt))))) else (bif Nat.ble (m + 1) 238 then (bif Nat.ble (m + 1) 235 then (bif Nat.ble (m + 1) 234 then (3, (2, 0, 0, 0), k_X12_orderPartAt) else (2, (4, 0, 0, 0), k_X12_openBracket)) else (bif Nat.ble (m + 1) 236 then (4, (4, 0, 0, 0), k_X12_leaf) else (bif Nat.ble (m + 1) 237 then (4, (5, 0, 0, 0), k_X12_readPart) else (1, (6, 0, 0, 0), k_X12_readPlain)))) else (bif Nat.ble (m + 1) 241 then (bif Nat.ble (m + 1) 239 then (4, (4, 0, 0, 0), k_X12_behindSum) else (bif Nat.ble (m + 1) 240 then (2, (4, 0, 0, 0), k_X12_behindTest) else (3, (7, 0, 0, 0), k_X12_readExpression))) else (bif Nat.ble (m + 1) 242 then (4, (8, 0, 0, 0), k_X12_readClause) else (bif Nat.ble (m + 1) 243 then (2, (4, 0, 0, 0), k_X12_beginText) else (1, (4, 0, 0, 0), k_X12_endText)))))) else (bif Nat.ble (m + 1) 255 then (bif Nat.ble (m + 1) 249 then (bif Nat.ble (m + 1) 246 then (bif Nat.ble (m + 1) 245 then (3, (9, 0, 0, 0), k_X12_law) else (2, (2, 0, 0, 0), k_X12_force)) else (bif Nat.ble (m + 1) 247 then (6, (1, 0, 0, 0), k_X12_reckon) else (bif Nat.ble (m + 1) 248 then (7, (3, 0, 0, 0), k_X12_reckonAll) else (2, (4, 0, 0, 0), k_X12_isSo)))) else (bif Nat.ble (m + 1) 252 then (bif Nat.ble (m + 1) 250 then (8, (5, 0, 0, 0), k_X12_tells) else (bif Nat.ble (m + 1) 251 then (3, (1, 0, 0, 0), k_X12_setNone) else (2, (2, 0, 0, 0), k_X12_ageIn))) else (bif Nat.ble (m + 1) 253 then (7, (6, 0, 0, 0), k_X12_looksOf) else (bif Nat.ble (m + 1) 254 then (3, (6, 0, 0, 0), k_X12_letsOf) else (3, (3, 0, 0, 0), k_X12_setPainter))))) else (bif Nat.ble (m + 1) 261 then (bif Nat.ble (m + 1) 258 then (bif Nat.ble (m + 1) 256 then (3, (6, 0, 0, 0), k_X12_asksOf) else (bif Nat.ble (m + 1) 257 then (3, (6, 0, 0, 0), k_X12_isBarred) else (4, (7, 0, 0, 0), k_X12_looks))) else (bif Nat.ble (m + 1) 259 then (4, (7, 0, 0, 0), k_X12_asks) else (bif Nat.ble (m + 1) 260 then (3, (7, 0, 0, 0), k_X12_layLooks) else (7, (2, 0, 0, 0), k_X12_painted)))) else (bif Nat.ble (m + 1) 264 then (bif Nat.ble (m + 1) 262 then (6, (3, 0, 0, 0), k_X12_paintPaper) else (bif Nat.ble (m + 1) 263 then (4, (2, 0, 0, 0), k_X12_loadPaper) else (5, (2, 0, 0, 0), k_X12_unlikePaper))) else (bif Nat.ble (m + 1) 265 then (2, (8, 0, 0, 0), k_X12_unlikeOf) else (bif Nat.ble (m + 1) 266 then (5, (2, 0, 0, 0), k_X12_rests) else (4, (8, 0, 0, 0), k_X12_paintNow)))))))) else (bif Nat.ble (m + 1) 312 then (bif Nat.ble (m + 1) 289 then (bif Nat.ble (m + 1) 278 then (bif Nat.ble (m + 1) 272 then (bif Nat.ble (m + 1) 269 then (bif Nat.ble (m + 1) 268 then (2, (9, 0, 0, 0), k_X12_paint) else (1, (2, 0, 0, 0), k_X12_scrape)) else (bif Nat.ble (m + 1) 270 then (3, (3, 0, 0, 0), k_X12_tone) else (bif Nat.ble (m + 1) 271 then (4, (7, 0, 0, 0), k_X12_tooFar) else (2, (8, 0, 0, 0), k_X12_tooFarIn)))) else (bif Nat.ble (m + 1) 275 then (bif Nat.ble (m + 1) 273 then (3, (9, 0, 0, 0), k_X12_layer) else (bif Nat.ble (m + 1) 274 then (2, (9, 0, 0, 0), k_X12_unlawful) else (4, (7, 0, 0, 0), k_X12_moneyBehind))) else (bif Nat.ble (m + 1) 276 then (2, (8, 0, 0, 0), k_X12_money) else (bif Nat.ble (m + 1) 277 then (2, (8, 0, 0, 0), k_X12_broke) else (6, (2, 0, 0, 0), k_X12_restsInRow))))) else (bif Nat.ble (m + 1) 283 then (bif Nat.ble (m + 1) 280 then (bif Nat.ble (m + 1) 279 then (6, (9, 0, 0, 0), k_X12_goThrough) else (11, (8, 0, 0, 0), k_X12_weigh)) else (bif Nat.ble (m + 1) 281 then (4, (10, 0, 0, 0), k_X12_plan) else (bif Nat.ble (m + 1) 282 then (8, (8, 0, 0, 0), k_X12_driftOf) else (7, (9, 0, 0, 0), k_X12_drift)))) else (bif Nat.ble (m + 1) 286 then (bif Nat.ble (m + 1) 284 then (7, (8, 0, 0, 0), k_X12_undoing) else (bif Nat.ble (m + 1) 285 then (5, (1, 0, 0, 0), k_X12_isSame) else (3, (3, 0, 0, 0), k_X12_copyNow))) else (bif Nat.ble (m + 1) 287 then (1, (4, 0, 0, 0), k_X12_copy) else (bif Nat.ble (m + 1) 288 then (4, (3, 0, 0, 0), k_X12_touch) else (2, (1, 0, 0, 0), k_X12_burn)))))) else (bif Nat.ble (m + 1) 300 then (bif Nat.ble (m + 1) 294 then (bif Nat.ble (m + 1) 291 then (bif Nat.ble (m + 1) 290 then (5, (1, 0, 0, 0), k_X12_apart) else (2, (2, 0, 0, 0), k_X12_nearOf)) else (bif Nat.ble (m + 1) 292 then (6, (3, 0, 0, 0), k_X12_near) else (bif Nat.ble (m + 1) 293 then (2, (1, 0, 0, 0), k_X12_pictureAt) else (4, (3, 0, 0, 0), k_X12_like)))) else (bif Nat.ble (m + 1) 297 then (bif Nat.ble (m + 1) 295 then (5, (1, 0, 0, 0), k_X12_isTree) else (bif Nat.ble (m + 1) 296 then (7, (2, 0, 0, 0), k_X12_findTree) else (2, (3, 0, 0, 0), k_X12_tree))) else (bif Nat.ble (m + 1) 298 then (1, (3, 0, 0, 0), k_X12_trees) else (bif Nat.ble (m + 1) 299 then (9, (3, 0, 0, 0), k_X12_dated) else (7, (2, 0, 0, 0), k_X12_worst))))) else (bif Nat.ble (m + 1) 306 then (bif Nat.ble (m + 1) 303 then (bif Nat.ble (m + 1) 301 then (5, (3, 0, 0, 0), k_X12_findDepths) else (bif Nat.ble (m + 1) 302 then (4, (4, 0, 0, 0), k_X12_know) else (4, (8, 0, 0, 0), k_X12_whoOf))) else (bif Nat.ble (m + 1) 304 then (2, (9, 0, 0, 0), k_X12_who) else (bif Nat.ble (m + 1) 305 then (4, (3, 0, 0, 0), k_X12_forge) else (2, (9, 0, 0, 0), k_X12_skipped)))) else (bif Nat.ble (m + 1) 309 then (bif Nat.ble (m + 1) 307 then (8, (8, 0, 0, 0), k_X12_missing) else (bif Nat.ble (m + 1) 308 then (6, (3, 0, 0, 0), k_X12_wasOf) else (2, (8, 0, 0, 0), k_X12_layAll))) else (bif Nat.ble (m + 1) 310 then (2, (9, 0, 0, 0), k_X12_was) else (bif Nat.ble (m + 1) 311 then (7, (9, 0, 0, 0), k_X12_ways) else (7, (3, 0, 0, 0), k_X12_claimant))))))) else (bif Nat.ble (m + 1) 334 then (bif Nat.ble (m + 1) 323 then (bif Nat.ble (m + 1) 317 then (bif Nat.ble (m + 1) 314 then (bif Nat.ble (m + 1) 313 then (3, (1, 0, 0, 0), k_X12_ofClaimant) else (5, (3, 0, 0, 0), k_X12_claim)) else (bif Nat.ble (m + 1) 315 then (3, (3, 0, 0, 0), k_X12_born) else (bif Nat.ble (m + 1) 316 then (3, (2, 0, 0, 0), k_X12_isAlive) else (5, (3, 0, 0, 0), k_X12_childrenOf)))) else (bif Nat.ble (m + 1) 320 then (bif Nat.ble (m + 1) 318 then (4, (4, 0, 0, 0), k_X12_setClaimant) else (bif Nat.ble (m + 1) 319 then (3, (6, 0, 0, 0), k_X12_ranks) else (3, (6, 0, 0, 0), k_X12_isOut))) else (bif Nat.ble (m + 1) 321 then (4, (7, 0, 0, 0), k_X12_stands) else (bif Nat.ble (m + 1) 322 then (7, (7, 0, 0, 0), k_X12_findRulers) else (2, (8, 0, 0, 0), k_X12_ruler))))) else (bif Nat.ble (m + 1) 328 then (bif Nat.ble (m + 1) 325 then (bif Nat.ble (m + 1) 324 then (6, (8, 0, 0, 0), k_X12_reign) else (3, (8, 0, 0, 0), k_X12_vacant)) else (bif Nat.ble (m + 1) 326 then (7, (7, 0, 0, 0), k_X12_line) else (bif Nat.ble (m + 1) 327 then (2, (8, 0, 0, 0), k_X12_readSum) else (3, (4, 0, 0, 0), k_X12_readHead)))) else (bif Nat.ble (m + 1) 331 then (bif Nat.ble (m + 1) 329 then (3, (9, 0, 0, 0), k_X12_readOrder) else (bif Nat.ble (m + 1) 330 then (1, (9, 0, 0, 0), k_X12_setNow) else (2, (4, 0, 0, 0), k_X12_sumOf))) else (bif Nat.ble (m + 1) 332 then (4, (11, 0, 0, 0), k_X12_run) else (bif Nat.ble (m + 1) 333 then (5, (10, 0, 0, 0), k_X12_act) else (9, (5, 0, 0, 0), k_X12_touchNow)))))) else (bif Nat.ble (m + 1) 345 then (bif Nat.ble (m + 1) 339 then (bif Nat.ble (m + 1) 336 then (bif Nat.ble (m + 1) 335 then (5, (12, 0, 0, 0), k_X12_orders) else (1, (1, 0, 0, 0), k_X12_stopped)) else (bif Nat.ble (m + 1) 337 then (2, (1, 0, 0, 0), k_X12_draw) else (bif Nat.ble (m + 1) 338 then (8, (8, 0, 0, 0), k_X12_century) else (2, (3, 0, 0, 0), k_X12_drawn)))) else (bif Nat.ble (m + 1) 342 then (bif Nat.ble (m + 1) 340 then (2, (2, 0, 0, 0), k_X12_count) else (bif Nat.ble (m + 1) 341 then (1, (1, 0, 0, 0), k_X12_status) else (1, (1, 0, 0, 0), k_J6_bitCount_0f7a4))) else (bif Nat.ble (m + 1) 343 then (1, (1, 0, 0, 0), k_J9_abs_0f7a4) else (bif Nat.ble (m + 1) 344 then (2, (1, 0, 0, 0), k_J9_max_7cf53) else (2, (1, 0, 0, 0), k_J9_min_7cf53))))) else (bif Nat.ble (m + 1) 351 then (bif Nat.ble (m + 1) 348 then (bif Nat.ble (m + 1) 346 then (1, (2, 0, 0, 0), k_J0_length_8abf5) else (bif Nat.ble (m + 1) 347 then (2, (4, 0, 0, 0), k_J0_charAt_5068e) else (1, (1, 0, 0, 0), k_J0_coder_7d493))) else (bif Nat.ble (m + 1) 349 then (1, (1, 0, 0, 0), k_J0_isLatin1_aae02) else (bif Nat.ble (m + 1) 350 then (2, (2, 0, 0, 0), k_J0_checkIndex_df160) else (2, (3, 0, 0, 0), k_J1_charAt_3b067)))) else (bif Nat.ble (m + 1) 354 then (bif Nat.ble (m + 1) 352 then (2, (1, 0, 0, 0), k_J2_getChar_3b067) else (bif Nat.ble (m + 1) 353 then (1, (1, 0, 0, 0), k_J2_length_9d52b) else (2, (1, 0, 0, 0), k_J2_charAt_3b067))) else (bif Nat.ble (m + 1) 355 then (2, (1, 0, 0, 0), k_J2_checkIndex_2214a) else (bif Nat.ble (m + 1) 356 then (3, (1, 0, 0, 0), k_J3_checkIndex_8e157) else (4, (106, 0, 0, 0), k_L_law))))))))))
def blk (m pc : Nat) : Nat × List Ins := fnd pc (inf m).2.2
/-- how deep a call may go -/
def ndd (t : Nat × Nat × Nat × Int) (args : List V) : Nat := bif Nat.beq t.2.1 0 then t.1 else t.1 + t.2.1 * (match args[t.2.2.1]? with
  | some (.inl x) => (t.2.2.2 - x).toNat
  | _ => 0)
def need (f : Nat) (args : List V) : Nat := ndd (inf f).2.1 args
/-- n: how many blocks; nd: how deep it may still call -/
def run : Nat → Nat → Nat → Nat → List V → List V → Mem → Res
  | 0, _, _, _, _, _, _ => none
  | n + 1, m, nd, pc, ls, st, M => runL (fun pc' ls' st' M' => run n m nd pc' (msk (blk m pc').1 ls') st' M') (fun f args M' => bif Nat.ble (need f args + 1) nd then run n f (need f args) 0 (mkl (inf f).1 args) [] M' else none) (blk m pc).2 ls st M
end
section
/-! THE INTERPRETER'S LIMIT: ev, its equation. -/
section REL
variable {α β : Type} {Rl : α → β → Prop} {Z : α} {Z' : β}
theorem rl_pV {st : List V} {f : V → List V → α} {g : V → List V → β} (hZ : Rl Z Z') (h : ∀ x t, Rl (f x t) (g x t)) : Rl (pV Z st f) (pV Z' st g) := by
  rcases st with _ | ⟨v, t⟩
  · exact hZ
  · exact h v t
theorem rl_pI {st : List V} {f : Int → List V → α} {g : Int → List V → β} (hZ : Rl Z Z') (h : ∀ x t, Rl (f x t) (g x t)) : Rl (pI Z st f) (pI Z' st g) := by
  rcases st with _ | ⟨x | x | x | x, t⟩
  · exact hZ
  · exact h x t
  · exact hZ
  · exact hZ
  · exact hZ
theorem rl_pL {st : List V} {f : Int → List V → α} {g : Int → List V → β} (hZ : Rl Z Z') (h : ∀ x t, Rl (f x t) (g x t)) : Rl (pL Z st f) (pL Z' st g) := by
  rcases st with _ | ⟨x | x | x | x, t⟩
  · exact hZ
  · exact hZ
  · exact h x t
  · exact hZ
  · exact hZ
theorem rl_pR {st : List V} {f : Int → List V → α} {g : Int → List V → β} (hZ : Rl Z Z') (h : ∀ x t, Rl (f x t) (g x t)) : Rl (pR Z st f) (pR Z' st g) := by
  rcases st with _ | ⟨x | x | x | x, t⟩
  · exact hZ
  · exact hZ
  · exact hZ
  · exact h x t
  · exact hZ
theorem rl_pE {st : List V} {y : α} {z : β} (hZ : Rl Z Z') (h : Rl y z) : Rl (pE Z st y) (pE Z' st z) := by
  rcases st with _ | ⟨v, t⟩
  · exact h
  · exact hZ
theorem rl_el {γ : Type} {o : Option γ} {f : γ → α} {g : γ → β} (hZ : Rl Z Z') (h : ∀ x, Rl (f x) (g x)) : Rl (o.elim Z f) (o.elim Z' g) := by
  cases o with
  | none => exact hZ
  | some x => exact h x
theorem rl_pD {L : List Shp} {r : Int} {f : Nat → Shp → α} {g : Nat → Shp → β} (hZ : Rl Z Z') (h : ∀ x t, Rl (f x t) (g x t)) : Rl (pD Z L r f) (pD Z' L r g) := rl_el hZ fun p => h p.1 p.2
theorem rl_if {c : Prop} (d : Decidable c) {x : α} {y : β} (hZ : Rl Z Z') (h : Rl x y) : Rl (@ite α c d x Z) (@ite β c d y Z') := by
  cases d with
  | isTrue q => exact h
  | isFalse q => exact hZ
theorem rl_if2 {c : Prop} (d : Decidable c) {x x' : α} {y y' : β} (h : Rl x y) (h' : Rl x' y') : Rl (@ite α c d x x') (@ite β c d y y') := by
  cases d with
  | isTrue q => exact h
  | isFalse q => exact h'
theorem rl_bif {c : Bool} {x : α} {y : β} (hZ : Rl Z Z') (h : Rl x y) : Rl (bif c then x else Z) (bif c then y else Z') := by
  cases c with
  | true => exact h
  | false => exact hZ
theorem rl_cnd {a : Nat} {x y : Int} {t e : α} {t' e' : β} (ht : Rl t t') (he : Rl e e') : Rl (cnd a x y t e) (cnd a x y t' e') := by
  rcases a with _ | _ | _ | _ | _ | a
  · exact rl_if2 _ ht he
  · exact rl_if2 _ he ht
  · exact rl_if2 _ ht he
  · exact rl_if2 _ he ht
  · exact rl_if2 _ ht he
  · exact rl_if2 _ he ht
theorem rl_swc {x : Int} {J : Nat → α} {J' : Nat → β} {d : Nat} (h : ∀ t, Rl (J t) (J' t)) : ∀ l : List (Int × Nat), Rl (swc x J d l) (swc x J' d l)
  | [] => h d
  | (v, t) :: l => rl_if2 _ (h t) (rl_swc h l)
theorem rl_rcv {kd rk : Nat} {L : List Shp} {args : List V} {y : α} {z : β} (hZ : Rl Z Z') (h : Rl y z) : Rl (rcv Z kd rk L args y) (rcv Z' kd rk L args z) := by
  rcases kd with _ | _ | _ | _ | _ | _ | _ | kd
  · exact h
  · exact h
  · rcases args with _ | ⟨x | x | x | x, t⟩ <;> first | exact hZ | exact rl_el hZ fun p => rl_bif hZ h
  · rcases args with _ | ⟨x | x | x | x, t⟩ <;> first | exact hZ | exact rl_el hZ fun p => rl_bif hZ h
  · rcases args with _ | ⟨x | x | x | x, t⟩ <;> first | exact hZ | exact rl_el hZ fun p => h
  · rcases args with _ | ⟨x | x | x | x, t⟩ <;> first | exact hZ | exact rl_el hZ fun p => h
  · rcases args with _ | ⟨x | x | x | x, t⟩ <;> first | exact hZ | exact rl_el hZ fun p => h
  · exact hZ
set_option maxHeartbeats 4000000 in
theorem stp_rel {J : Nat → List V → List V → Mem → α} {C : Nat → List V → List V → List V → Mem → α} {R : Option V → Mem → α} {k : List V → List V → Mem → α} {J' : Nat → List V → List V → Mem → β} {C' : Nat → List V → List V → List V → Mem → β} {R' : Option V → Mem → β} {k' : List V → List V → Mem → β}
    (hZ : Rl Z Z') (hJ : ∀ p a b M, Rl (J p a b M) (J' p a b M)) (hC : ∀ f a b c M, Rl (C f a b c M) (C' f a b c M)) (hR : ∀ v M, Rl (R v M) (R' v M)) (hk : ∀ a b M, Rl (k a b M) (k' a b M)) (i : Ins) (ls st : List V) (M : Mem) : Rl (stp Z J C R k i ls st M) (stp Z' J' C' R' k' i ls st M) := by
  obtain ⟨op, a, b, x⟩ := i
  unfold stp
  dsimp only
  split
  · exact hk _ _ _
  · exact hk _ _ _
  · exact hk _ _ _
  · exact rl_el hZ fun _ => rl_bif hZ (hk _ _ _)
  · exact rl_pV hZ fun _ _ => rl_bif hZ (hk _ _ _)
  · exact rl_pI hZ fun _ _ => hk _ _ _
  · exact rl_pI hZ fun _ _ => rl_pI hZ fun _ _ => hk _ _ _
  · exact rl_pI hZ fun _ _ => hk _ _ _
  · exact rl_pL hZ fun _ _ => rl_pL hZ fun _ _ => hk _ _ _
  · exact rl_pL hZ fun _ _ => rl_pL hZ fun _ _ => hk _ _ _
  · exact rl_pI hZ fun _ _ => hk _ _ _
  · exact rl_pV hZ fun _ _ => rl_bif hZ (hk _ _ _)
  · exact rl_pI hZ fun _ _ => rl_cnd (hJ _ _ _ _) (hk _ _ _)
  · exact rl_pI hZ fun _ _ => rl_pI hZ fun _ _ => rl_cnd (hJ _ _ _ _) (hk _ _ _)
  · exact rl_pR hZ fun _ _ => rl_if2 _ (hk _ _ _) (rl_pD hZ fun _ _ => hJ _ _ _ _)
  · exact hk _ _ _
  · exact hJ _ _ _ _
  · exact rl_pI hZ fun _ _ => rl_swc (fun _ => hJ _ _ _ _) _
  · exact rl_pR hZ fun _ _ => rl_pD hZ fun _ _ => rl_bif hZ (hk _ _ _)
  · exact rl_pR hZ fun _ _ => rl_pD hZ fun _ _ => rl_bif hZ (hk _ _ _)
  · exact rl_pR hZ fun _ _ => rl_pD hZ fun _ _ => rl_bif hZ (hk _ _ _)
  · exact rl_pR hZ fun _ _ => rl_pD hZ fun _ _ => rl_bif hZ (hk _ _ _)
  · exact rl_pI hZ fun _ _ => rl_pR hZ fun _ _ => rl_pD hZ fun _ _ => rl_bif hZ (hk _ _ _)
  · exact rl_pL hZ fun _ _ => rl_pR hZ fun _ _ => rl_pD hZ fun _ _ => rl_bif hZ (hk _ _ _)
  · exact rl_pI hZ fun _ _ => rl_pR hZ fun _ _ => rl_pD hZ fun _ _ => rl_bif hZ (rl_if _ hZ (hk _ _ _))
  · exact rl_pR hZ fun _ _ => rl_pR hZ fun _ _ => rl_pD hZ fun _ _ => rl_bif hZ (rl_pD hZ fun _ _ => hk _ _ _)
  · exact rl_pI hZ fun _ _ => rl_pR hZ fun _ _ => rl_pD hZ fun _ _ => rl_bif hZ (rl_if _ hZ (hk _ _ _))
  · exact rl_pI hZ fun _ _ => rl_pI hZ fun _ _ => rl_pR hZ fun _ _ => rl_pD hZ fun _ _ => rl_bif hZ (rl_if _ hZ (hk _ _ _))
  · exact rl_pR hZ fun _ _ => rl_pD hZ fun _ _ => rl_bif hZ (hk _ _ _)
  · exact rl_pI hZ fun _ _ => rl_pR hZ fun _ _ => rl_if _ hZ (rl_if _ hZ (hk _ _ _))
  · exact rl_pR hZ fun _ _ => rl_if _ hZ (hk _ _ _)
  · exact rl_pR hZ fun _ _ => rl_el hZ fun _ => hk _ _ _
  · exact rl_pR hZ fun _ _ => rl_el hZ fun _ => hk _ _ _
  · exact rl_pI hZ fun _ _ => rl_pR hZ fun _ _ => rl_el hZ fun _ => rl_if _ hZ (hk _ _ _)
  · exact rl_pR hZ fun _ _ => rl_el hZ fun _ => hk _ _ _
  · exact hk _ _ _
  · exact hk _ _ _
  · exact rl_pI hZ fun _ _ => rl_if _ hZ (hk _ _ _)
  · exact rl_pI hZ fun _ _ => rl_if _ hZ (hk _ _ _)
  · exact rl_bif hZ (rl_rcv hZ (hC _ _ _ _ _))
  · exact rl_pR hZ fun _ _ => rl_pD hZ fun _ _ => hk _ _ _
  · exact rl_pI hZ fun _ _ => rl_pI hZ fun _ _ => rl_pR hZ fun _ _ => rl_pI hZ fun _ _ => rl_pR hZ fun _ _ => rl_pD hZ fun _ _ => rl_pD hZ fun _ _ => rl_bif hZ (rl_if _ hZ (hk _ _ _))
  · exact rl_pE hZ (hR _ _)
  · exact rl_pI hZ fun _ _ => rl_pI hZ fun _ _ => rl_if2 _ hZ (hk _ _ _)
  · exact rl_pI hZ fun _ _ => rl_pI hZ fun _ _ => rl_if2 _ hZ (hk _ _ _)
  · exact rl_pL hZ fun _ _ => rl_pL hZ fun _ _ => rl_if2 _ hZ (hk _ _ _)
  · exact rl_pL hZ fun _ _ => rl_pL hZ fun _ _ => rl_if2 _ hZ (hk _ _ _)
  · exact hk _ _ _
  · exact rl_pL hZ fun _ _ => hk _ _ _
  · exact rl_pI hZ fun _ _ => hk _ _ _
  · exact rl_pV hZ fun _ _ => rl_pV hZ fun _ _ => rl_bif hZ (hk _ _ _)
  · exact rl_pV hZ fun _ _ => rl_bif hZ (hk _ _ _)
  · exact rl_pL hZ fun _ _ => rl_pI hZ fun _ _ => rl_pR hZ fun _ _ => rl_pD hZ fun _ _ => rl_bif hZ (rl_if _ hZ (hk _ _ _))
  · exact rl_pI hZ fun _ _ => rl_pI hZ fun _ _ => rl_pR hZ fun _ _ => rl_pD hZ fun _ _ => rl_bif hZ (rl_if _ hZ (rl_if _ hZ (hk _ _ _)))
  · exact rl_pR hZ fun _ _ => rl_pI hZ fun _ _ => rl_pR hZ fun _ _ => rl_pD hZ fun _ _ => rl_bif hZ (rl_if _ hZ (rl_pD hZ fun _ _ => rl_bif hZ (hk _ _ _)))
  · exact rl_pI hZ fun _ _ => rl_pE hZ (hR _ _)
  · exact rl_pL hZ fun _ _ => rl_pE hZ (hR _ _)
  · exact rl_pR hZ fun _ _ => rl_pE hZ (hR _ _)
  · exact rl_pI hZ fun _ _ => rl_pE hZ (rl_if _ hZ (hR _ _))
  · exact rl_pI hZ fun _ _ => rl_pE hZ (rl_if _ hZ (hR _ _))
  · exact rl_pI hZ fun _ _ => rl_pE hZ (rl_if _ hZ (hR _ _))
  · exact hk _ _ _
  · exact hZ
end REL
/-- what an instruction does, as a value -/
abbrev Act : Type := Option ((List V × List V × Mem) ⊕ (Nat × List V × List V × Mem) ⊕ (Nat × List V × List V × List V × Mem) ⊕ (Option V × Mem))
def act (i : Ins) (ls st : List V) (M : Mem) : Act := stp (α := Act) none (fun p a b M => some (.inr (.inl (p, a, b, M)))) (fun f a b c M => some (.inr (.inr (.inl (f, a, b, c, M))))) (fun v M => some (.inr (.inr (.inr (v, M))))) (fun a b M => some (.inl (a, b, M))) i ls st M
def elA {α : Type} (Z : α) (J : Nat → List V → List V → Mem → α) (C : Nat → List V → List V → List V → Mem → α) (R : Option V → Mem → α) (k : List V → List V → Mem → α) (a : Act) : α := match a with
  | none => Z
  | some (.inl (a, b, M)) => k a b M
  | some (.inr (.inl (p, a, b, M))) => J p a b M
  | some (.inr (.inr (.inl (f, a, b, c, M)))) => C f a b c M
  | some (.inr (.inr (.inr (v, M)))) => R v M
theorem stp_act {α : Type} (Z : α) (J : Nat → List V → List V → Mem → α) (C : Nat → List V → List V → List V → Mem → α) (R : Option V → Mem → α) (k : List V → List V → Mem → α) (i : Ins) (ls st : List V) (M : Mem) : stp Z J C R k i ls st M = elA Z J C R k (act i ls st M) := by
  unfold act
  exact stp_rel (Rl := fun x a => x = elA Z J C R k a) (Z' := none) (J' := fun p a b M => some (.inr (.inl (p, a, b, M)))) (C' := fun f a b c M => some (.inr (.inr (.inl (f, a, b, c, M))))) (R' := fun v M => some (.inr (.inr (.inr (v, M))))) (k' := fun a b M => some (.inl (a, b, M))) rfl (fun _ _ _ _ => rfl) (fun _ _ _ _ _ => rfl) (fun _ _ => rfl) (fun _ _ _ => rfl) i ls st M
/-- one row of the list -/
theorem runL_act (J : Nat → List V → List V → Mem → Res) (C : Nat → List V → Mem → Res) (i : Ins) (l : List Ins) (ls st : List V) (M : Mem) : runL J C (i :: l) ls st M = elA (α := Res) none J (fun f args ls st M => (C f args M).elim none (fun q => runL J C l ls (pu q.1 st) q.2)) (fun v M => some (v, M)) (fun ls st M => runL J C l ls st M) (act i ls st M) := by
  show stp (α := Res) _ _ _ _ _ _ _ _ _ = _
  exact stp_act _ _ _ _ _ _ _ _ _
/-- families that come to a limit -/
def Lim {ι : Type} (g : ι → Res) (G : Nat → ι → Res) : Prop := ∀ i R, g i = some R → ∃ n0, ∀ n, n0 ≤ n → G n i = some R
theorem runL_lim {J : Nat → List V → List V → Mem → Res} {C : Nat → List V → Mem → Res} {Jn : Nat → Nat → List V → List V → Mem → Res} {Cn : Nat → Nat → List V → Mem → Res}
    (hJ : ∀ p a b M R, J p a b M = some R → ∃ n0, ∀ n, n0 ≤ n → Jn n p a b M = some R) (hC : ∀ f a M R, C f a M = some R → ∃ n0, ∀ n, n0 ≤ n → Cn n f a M = some R) :
    ∀ (l : List Ins) (ls st : List V) (M : Mem) (R : Option V × Mem), runL J C l ls st M = some R → ∃ n0, ∀ n, n0 ≤ n → runL (Jn n) (Cn n) l ls st M = some R := by
  intro l
  induction l with
  | nil => intro ls st M R h; exact absurd h (by simp [runL])
  | cons i l ih =>
    intro ls st M R h
    rw [runL_act] at h
    have key : ∀ n, runL (Jn n) (Cn n) (i :: l) ls st M = _ := fun n => runL_act (Jn n) (Cn n) i l ls st M
    generalize act i ls st M = ac at h key
    rcases ac with _ | ⟨⟨a, b, M1⟩ | ⟨p, a, b, M1⟩ | ⟨f, a, b, c, M1⟩ | ⟨v, M1⟩⟩
    · exact absurd h (by simp [elA])
    · obtain ⟨n0, h0⟩ := ih a b M1 R h
      exact ⟨n0, fun n hn => (key n).trans (h0 n hn)⟩
    · obtain ⟨n0, h0⟩ := hJ p a b M1 R h
      exact ⟨n0, fun n hn => (key n).trans (h0 n hn)⟩
    · have h' : (C f a M1).elim none (fun q => runL J C l b (pu q.1 c) q.2) = some R := h
      cases hc : C f a M1 with
      | none => rw [hc] at h'; exact absurd h' (by simp)
      | some q =>
        rw [hc] at h'
        obtain ⟨n0, h0⟩ := hC f a M1 q hc
        obtain ⟨n1, h1⟩ := ih b (pu q.1 c) q.2 R h'
        refine ⟨max n0 n1, fun n hn => (key n).trans ?_⟩
        show (Cn n f a M1).elim none (fun q => runL (Jn n) (Cn n) l b (pu q.1 c) q.2) = some R
        rw [h0 n (Nat.le_trans (Nat.le_max_left _ _) hn)]
        exact h1 n (Nat.le_trans (Nat.le_max_right _ _) hn)
    · exact ⟨0, fun n hn => (key n).trans h⟩
theorem run_mono1 : ∀ (n m nd pc : Nat) (ls st : List V) (M : Mem) (R : Option V × Mem), run n m nd pc ls st M = some R → run (n + 1) m nd pc ls st M = some R := by
  intro n
  induction n with
  | zero => intro m nd pc ls st M R h; exact absurd h (by simp [run])
  | succ n ih =>
    intro m nd pc ls st M R h
    have h' : runL (fun pc' ls' st' M' => run n m nd pc' (msk (blk m pc').1 ls') st' M') (fun f args M' => bif Nat.ble (need f args + 1) nd then run n f (need f args) 0 (mkl (inf f).1 args) [] M' else none) (blk m pc).2 ls st M = some R := h
    obtain ⟨n0, h0⟩ := runL_lim (Jn := fun _ pc' ls' st' M' => run (n + 1) m nd pc' (msk (blk m pc').1 ls') st' M') (Cn := fun _ f args M' => bif Nat.ble (need f args + 1) nd then run (n + 1) f (need f args) 0 (mkl (inf f).1 args) [] M' else none)
      (fun p a b M R h => ⟨0, fun _ _ => ih _ _ _ _ _ _ _ h⟩)
      (fun f a M R h => ⟨0, fun _ _ => by
        cases hb : Nat.ble (need f a + 1) nd with
        | false => rw [hb] at h; exact absurd h (by simp)
        | true => rw [hb] at h; exact ih _ _ _ _ _ _ _ h⟩) _ _ _ _ _ h'
    exact h0 n0 (Nat.le_refl _)
theorem run_mono {n n' : Nat} (hn : n ≤ n') {m nd pc : Nat} {ls st : List V} {M : Mem} {R : Option V × Mem} (h : run n m nd pc ls st M = some R) : run n' m nd pc ls st M = some R := by
  induction hn with
  | refl => exact h
  | step _ ih => exact run_mono1 _ _ _ _ _ _ _ _ ih
noncomputable def ev (m nd pc : Nat) (ls st : List V) (M : Mem) : Res := @dite Res (∃ n, run n m nd pc ls st M ≠ none) (Classical.propDecidable _) (fun h => run (Classical.choose h) m nd pc ls st M) (fun _ => none)
theorem ev_run {m nd pc : Nat} {ls st : List V} {M : Mem} {R : Option V × Mem} : ev m nd pc ls st M = some R ↔ ∃ n, run n m nd pc ls st M = some R := by
  unfold ev
  by_cases h : ∃ n, run n m nd pc ls st M ≠ none
  · rw [dif_pos h]
    constructor
    · intro q; exact ⟨_, q⟩
    · rintro ⟨n, q⟩
      have hs := Classical.choose_spec h
      cases hr : run (Classical.choose h) m nd pc ls st M with
      | none => exact absurd hr hs
      | some R' =>
        have a := run_mono (Nat.le_max_left (Classical.choose h) n) hr
        have b := run_mono (Nat.le_max_right (Classical.choose h) n) q
        rw [a] at b
        exact b
  · rw [dif_neg h]
    constructor
    · intro q; exact absurd q (by simp)
    · rintro ⟨n, q⟩
      exact absurd ⟨n, by rw [q]; simp⟩ h
/-- a call -/
noncomputable def cal (f : Nat) (args : List V) (M : Mem) : Res := ev f (need f args) 0 (mkl (inf f).1 args) [] M
theorem ev_eq (m nd pc : Nat) (ls st : List V) (M : Mem) : ev m nd pc ls st M = runL (fun pc' ls' st' M' => ev m nd pc' (msk (blk m pc').1 ls') st' M') (fun f args M' => bif Nat.ble (need f args + 1) nd then cal f args M' else none) (blk m pc).2 ls st M := by
  have up1 : ∀ R, ev m nd pc ls st M = some R → runL (fun pc' ls' st' M' => ev m nd pc' (msk (blk m pc').1 ls') st' M') (fun f args M' => bif Nat.ble (need f args + 1) nd then cal f args M' else none) (blk m pc).2 ls st M = some R := by
    intro R h
    obtain ⟨n, h⟩ := ev_run.mp h
    cases n with
    | zero => exact absurd h (by simp [run])
    | succ n =>
      obtain ⟨n0, h0⟩ := runL_lim (Jn := fun _ pc' ls' st' M' => ev m nd pc' (msk (blk m pc').1 ls') st' M') (Cn := fun _ f args M' => bif Nat.ble (need f args + 1) nd then cal f args M' else none)
        (fun p a b M R h => ⟨0, fun _ _ => ev_run.mpr ⟨n, h⟩⟩)
        (fun f a M R h => ⟨0, fun _ _ => by
          cases hb : Nat.ble (need f a + 1) nd with
          | false => rw [hb] at h; exact absurd h (by simp)
          | true => rw [hb] at h; exact ev_run.mpr ⟨n, h⟩⟩) _ _ _ _ _ (show runL (fun pc' ls' st' M' => run n m nd pc' (msk (blk m pc').1 ls') st' M') (fun f args M' => bif Nat.ble (need f args + 1) nd then run n f (need f args) 0 (mkl (inf f).1 args) [] M' else none) (blk m pc).2 ls st M = some R from h)
      exact h0 n0 (Nat.le_refl _)
  have down1 : ∀ R, runL (fun pc' ls' st' M' => ev m nd pc' (msk (blk m pc').1 ls') st' M') (fun f args M' => bif Nat.ble (need f args + 1) nd then cal f args M' else none) (blk m pc).2 ls st M = some R → ev m nd pc ls st M = some R := by
    intro R h
    obtain ⟨n0, h0⟩ := runL_lim (Jn := fun n pc' ls' st' M' => run n m nd pc' (msk (blk m pc').1 ls') st' M') (Cn := fun n f args M' => bif Nat.ble (need f args + 1) nd then run n f (need f args) 0 (mkl (inf f).1 args) [] M' else none)
      (fun p a b M R h => by
        obtain ⟨n, hn⟩ := ev_run.mp h
        exact ⟨n, fun n' h' => run_mono h' hn⟩)
      (fun f a M R h => by
        cases hb : Nat.ble (need f a + 1) nd with
        | false => rw [hb] at h; exact absurd h (by simp)
        | true =>
          rw [hb] at h
          obtain ⟨n, hn⟩ := ev_run.mp (show cal f a M = some R from h)
          exact ⟨n, fun n' h' => run_mono h' hn⟩) _ _ _ _ _ h
    exact ev_run.mpr ⟨n0 + 1, h0 n0 (Nat.le_refl _)⟩
  cases h1 : ev m nd pc ls st M with
  | some R => exact (up1 R h1).symm
  | none =>
    cases h2 : runL (fun pc' ls' st' M' => ev m nd pc' (msk (blk m pc').1 ls') st' M') (fun f args M' => bif Nat.ble (need f args + 1) nd then cal f args M' else none) (blk m pc).2 ls st M with
    | none => rfl
    | some R => rw [down1 R h2] at h1; exact absurd h1 (by simp)
end
section
/-! THE CELLS that the two constructors make: 0 .. 76 of the class, 77 .. 108 of the reference. -/
def bsh : List Shp := [(21, 19, [2, 30, 0, 11, 0, 49, 12, 15, 19, 22, 50, 56, 60, 74, 0, 0, 0, 0, 77]),
  (17, 15, [0, 3, 0, 4, 5, 0, 6, 0, 0, 7, 8, 0, 9, 0, 10]),
  (0, 25, []),
  (0, 18, []),
  (0, 5, []),
  (4, 6, []),
  (0, 17, []),
  (0, 204, []),
  (0, 72, []),
  (0, 32, []),
  (0, 400, []),
  (20, 5, [13, 14, 0, 0, 0]),
  (0, 72, []),
  (0, 450, []),
  (14, 4, [2, 16, 18, 0]),
  (13, 3, [17, 0, 0]),
  (0, 100, []),
  (0, 10, []),
  (19, 4, [2, 15, 20, 21]),
  (0, 12, []),
  (0, 12, []),
  (15, 15, [2, 15, 23, 24, 25, 26, 27, 28, 0, 0, 0, 29, 0, 0, 0]),
  (0, 72, []),
  (0, 72, []),
  (0, 30, []),
  (2, 30, []),
  (0, 72, []),
  (0, 5, []),
  (0, 5, []),
  (3, 2, []),
  (17, 15, [0, 32, 0, 33, 34, 0, 35, 0, 0, 36, 37, 0, 38, 0, 39]),
  (0, 25, []),
  (0, 18, []),
  (0, 5, []),
  (4, 6, []),
  (0, 17, []),
  (0, 204, []),
  (0, 72, []),
  (0, 32, []),
  (17, 15, [0, 41, 0, 42, 43, 0, 44, 0, 0, 45, 46, 0, 47, 0, 48]),
  (0, 25, []),
  (0, 18, []),
  (0, 5, []),
  (4, 6, []),
  (0, 17, []),
  (0, 204, []),
  (0, 72, []),
  (0, 32, []),
  (16, 9, [11, 0, 12, 0, 0, 0, 0, 0, 0]),
  (18, 9, [2, 0, 51, 52, 53, 54, 55, 0, 0]),
  (0, 49, []),
  (0, 128, []),
  (0, 128, []),
  (0, 7, []),
  (0, 64, []),
  (12, 6, [2, 15, 57, 58, 59, 0]),
  (0, 8, []),
  (0, 100, []),
  (0, 8, []),
  (11, 10, [2, 61, 15, 19, 22, 70, 72, 73, 0, 0]),
  (17, 15, [0, 62, 0, 63, 64, 0, 65, 0, 0, 66, 67, 0, 68, 0, 69]),
  (0, 25, []),
  (0, 18, []),
  (0, 5, []),
  (4, 6, []),
  (0, 17, []),
  (0, 204, []),
  (0, 72, []),
  (0, 32, []),
  (13, 3, [71, 0, 0]),
  (0, 100, []),
  (0, 18, []),
  (0, 3, []),
  (10, 8, [2, 15, 0, 0, 75, 76, 0, 0]),
  (0, 5, []),
  (0, 12, []),
  (0, 5, []),
  (22, 61, [0, 0, 79, 80, 81, 82, 83, 0, 84, 0, 0, 0, 0, 0, 0, 0, 0, 0, 85, 0, 86, 87, 0, 88, 89, 0, 0, 90, 91, 92, 0, 93, 94, 95, 0, 0, 0, 96, 97, 98, 99, 100, 101, 102, 0, 0, 0, 103, 104, 0, 0, 105, 106, 107, 108, 0, 0, 0, 109, 0, 0]),
  (0, 7, []),
  (0, 5780, []),
  (0, 11560, []),
  (0, 5780, []),
  (2, 2, []),
  (0, 400, []),
  (0, 96, []),
  (0, 400, []),
  (0, 400, []),
  (0, 400, []),
  (0, 400, []),
  (1, 10, []),
  (1, 7, []),
  (1, 5, []),
  (1, 13, []),
  (1, 13, []),
  (1, 400, []),
  (0, 1200, []),
  (0, 600, []),
  (0, 5, []),
  (0, 5, []),
  (0, 25, []),
  (2, 25, []),
  (2, 6, []),
  (0, 6, []),
  (0, 6, []),
  (0, 64, []),
  (0, 100, []),
  (0, 8, []),
  (0, 120, []),
  (0, 17, [])]
abbrev SH (T : List Shp) : List Shp := bsh ++ T
theorem el_of {γ α : Type} {o : Option γ} {q : γ} {Z : α} {g : γ → α} (h : o = some q) : o.elim Z g = g q := by rw [h]; rfl
theorem el_call {b : Bool} {o : Res} {q : Option V × Mem} {g : Option V × Mem → Res} (hb : b = true) (h : o = some q) : (bif b then o else none).elim none g = g q := by rw [hb, h]; rfl
theorem pD_of {α : Type} {L : List Shp} {r : Int} {p : Nat} {s : Shp} {Z : α} {f : Nat → Shp → α} (h : drf L r = some (p, s)) : pD Z L r f = f p s := by unfold pD; rw [h]; rfl
end
section
theorem E_X7_nearOf {T : List Shp} {c : Nat → Int → Int} {x1 : Int}  : cal 73 [vR 2, vI x1] (SH T, c) = ev 73 1 4 [vR 2, vI x1, vI 0, vI 0] [] (SH T, c) := by
  refine (ev_eq _ _ _ _ _ _).trans ?_
  rfl
theorem B_X7_nearOf_4_1 {T : List Shp} {c : Nat → Int → Int} {x1 x2 x3 : Int} (h1 : x3 < 12) (h2 : 0 ≤ (w32 ((w32 (x1 * 12)) + x3)) ∧ (w32 ((w32 (x1 * 12)) + x3)) < 72) (h3 : 0 ≤ (w32 ((w32 ((c 1 8) * 12)) + x3)) ∧ (w32 ((w32 ((c 1 8) * 12)) + x3)) < 204) (h4 : (c 8 (w32 ((w32 (x1 * 12)) + x3))) = (c 7 (w32 ((w32 ((c 1 8) * 12)) + x3)))) : ev 73 1 4 [vR 2, vI x1, vI x2, vI x3] [] (SH T, c) = ev 73 1 41 [vR 2, vI x1, vI x2, vI x3] [] (SH T, c) := by
  refine (ev_eq _ _ _ _ _ _).trans ?_
  refine (if_pos h1).trans ?_
  refine (if_pos h2).trans ?_
  refine (if_pos h3).trans ?_
  refine (if_pos h4).trans ?_
  rfl
theorem B_X7_nearOf_4_2 {T : List Shp} {c : Nat → Int → Int} {x1 x2 x3 : Int} (h1 : x3 < 12) (h2 : 0 ≤ (w32 ((w32 (x1 * 12)) + x3)) ∧ (w32 ((w32 (x1 * 12)) + x3)) < 72) (h3 : 0 ≤ (w32 ((w32 ((c 1 8) * 12)) + x3)) ∧ (w32 ((w32 ((c 1 8) * 12)) + x3)) < 204) (h4 : ¬ (c 8 (w32 ((w32 (x1 * 12)) + x3))) = (c 7 (w32 ((w32 ((c 1 8) * 12)) + x3)))) : ev 73 1 4 [vR 2, vI x1, vI x2, vI x3] [] (SH T, c) = ev 73 1 41 [vR 2, vI x1, vI (w32 (x2 + 1)), vI x3] [] (SH T, c) := by
  refine (ev_eq _ _ _ _ _ _).trans ?_
  refine (if_pos h1).trans ?_
  refine (if_pos h2).trans ?_
  refine (if_pos h3).trans ?_
  refine (if_neg h4).trans ?_
  rfl
theorem B_X7_nearOf_4_3 {T : List Shp} {c : Nat → Int → Int} {x1 x2 x3 : Int} (h1 : ¬ x3 < 12) : ev 73 1 4 [vR 2, vI x1, vI x2, vI x3] [] (SH T, c) = some (some (vI x2), (SH T, c)) := by
  refine (ev_eq _ _ _ _ _ _).trans ?_
  refine (if_neg h1).trans ?_
  refine (ev_eq _ _ _ _ _ _).trans ?_
  rfl
theorem B_X7_nearOf_41 {T : List Shp} {c : Nat → Int → Int} {x1 x2 x3 : Int}  : ev 73 1 41 [vR 2, vI x1, vI x2, vI x3] [] (SH T, c) = ev 73 1 4 [vR 2, vI x1, vI x2, vI (w32 (x3 + 1))] [] (SH T, c) := by
  refine (ev_eq _ _ _ _ _ _).trans ?_
  rfl
theorem E_X11_isCell_1 {T : List Shp} {c : Nat → Int → Int} {x0 : Int} (h1 : x0 < 0) : cal 178 [vI x0] (SH T, c) = some (some (vI 0), (SH T, c)) := by
  refine (ev_eq _ _ _ _ _ _).trans ?_
  refine (if_pos h1).trans ?_
  refine (ev_eq _ _ _ _ _ _).trans ?_
  rfl
theorem E_X11_isCell_2 {T : List Shp} {c : Nat → Int → Int} {x0 : Int} (h1 : ¬ x0 < 0) (h2 : x0 < 12) : cal 178 [vI x0] (SH T, c) = some (some (vI 1), (SH T, c)) := by
  refine (ev_eq _ _ _ _ _ _).trans ?_
  refine (if_neg h1).trans ?_
  refine (if_pos h2).trans ?_
  rfl
theorem E_X11_isCell_3 {T : List Shp} {c : Nat → Int → Int} {x0 : Int} (h1 : ¬ x0 < 0) (h2 : ¬ x0 < 12) : cal 178 [vI x0] (SH T, c) = some (some (vI 0), (SH T, c)) := by
  refine (ev_eq _ _ _ _ _ _).trans ?_
  refine (if_neg h1).trans ?_
  refine (if_neg h2).trans ?_
  refine (ev_eq _ _ _ _ _ _).trans ?_
  rfl
theorem E_X11_first_1 {T : List Shp} {c : Nat → Int → Int} {x1 x2 : Int} {r1 : Int} {c2 : Nat → Int → Int} (h1 : cal 178 [vI x1] (SH T, c) = some (some (vI r1), (SH T, c2))) (h2 : r1 = 0) : cal 114 [vR 1, vI x1, vI x2] (SH T, c) = ev 114 3 14 [vR 1, vU, vU, vU] [] (SH T, c2) := by
  refine (ev_eq _ _ _ _ _ _).trans ?_
  refine (el_call rfl h1).trans ?_
  refine (if_pos h2).trans ?_
  rfl
theorem E_X11_first_2 {T : List Shp} {c : Nat → Int → Int} {x1 x2 : Int} {r1 : Int} {c2 : Nat → Int → Int} {r3 : Int} {c4 : Nat → Int → Int} (h1 : cal 178 [vI x1] (SH T, c) = some (some (vI r1), (SH T, c2))) (h2 : ¬ r1 = 0) (h3 : cal 179 [vI x2] (SH T, c2) = some (some (vI r3), (SH T, c4))) (h4 : r3 = 0) : cal 114 [vR 1, vI x1, vI x2] (SH T, c) = ev 114 3 14 [vR 1, vU, vU, vU] [] (SH T, c4) := by
  refine (ev_eq _ _ _ _ _ _).trans ?_
  refine (el_call rfl h1).trans ?_
  refine (if_neg h2).trans ?_
  refine (el_call rfl h3).trans ?_
  refine (if_pos h4).trans ?_
  rfl
theorem E_X11_first_3 {T : List Shp} {c : Nat → Int → Int} {x1 x2 : Int} {r1 : Int} {c2 : Nat → Int → Int} {r3 : Int} {c4 : Nat → Int → Int} {r5 : Int} {c6 : Nat → Int → Int} (h1 : cal 178 [vI x1] (SH T, c) = some (some (vI r1), (SH T, c2))) (h2 : ¬ r1 = 0) (h3 : cal 179 [vI x2] (SH T, c2) = some (some (vI r3), (SH T, c4))) (h4 : ¬ r3 = 0) (h5 : 0 ≤ x1 ∧ x1 < 204) (h6 : 0 ≤ x1 ∧ x1 < 204) (h7 : cal 171 [vR 1, vI (c4 7 x1)] (SH T, (up (up c4 7 x1 x2) 1 8 0)) = some (some (vI r5), (SH T, c6))) : cal 114 [vR 1, vI x1, vI x2] (SH T, c) = some (some (vI r5), (SH T, c6)) := by
  refine (ev_eq _ _ _ _ _ _).trans ?_
  refine (el_call rfl h1).trans ?_
  refine (if_neg h2).trans ?_
  refine (el_call rfl h3).trans ?_
  refine (if_neg h4).trans ?_
  refine (ev_eq _ _ _ _ _ _).trans ?_
  refine (if_pos h5).trans ?_
  refine (if_pos h6).trans ?_
  refine (el_call rfl h7).trans ?_
  rfl
theorem B_X11_first_14 {T : List Shp} {c : Nat → Int → Int} {r1 : Int} {c2 : Nat → Int → Int} (h1 : cal 172 [vR 1, vI (-1)] (SH T, c) = some (some (vI r1), (SH T, c2))) : ev 114 3 14 [vR 1, vU, vU, vU] [] (SH T, c) = some (some (vI r1), (SH T, c2)) := by
  refine (ev_eq _ _ _ _ _ _).trans ?_
  refine (el_call rfl h1).trans ?_
  rfl
theorem E_X7_brushed {T : List Shp} {c : Nat → Int → Int} {x1 x2 x3 x4 : Int} {r1 : Int} {c2 : Nat → Int → Int} {r3 : Int} {c4 : Nat → Int → Int} (h1 : 0 ≤ (w32 (x1 * 5)) ∧ (w32 (x1 * 5)) < 25) (h2 : cal 184 [vI (w32 (x4 - x3)), vI (w32 (-(c 2 (w32 (x1 * 5))))), vI (c 2 (w32 (x1 * 5)))] (SH T, c) = some (some (vI r1), (SH T, c2))) (h3 : 0 ≤ (w32 ((w32 ((w32 (x1 * 5)) + 2)) + (w32 (Int.tmod x2 3)))) ∧ (w32 ((w32 ((w32 (x1 * 5)) + 2)) + (w32 (Int.tmod x2 3)))) < 25) (h4 : cal 184 [vI (w32 ((w32 ((w32 (x3 + r1)) + (c2 2 (w32 ((w32 ((w32 (x1 * 5)) + 2)) + (w32 (Int.tmod x2 3))))))) - 3)), vI 0, vI 9] (SH T, c2) = some (some (vI r3), (SH T, c4))) : cal 76 [vR 2, vI x1, vI x2, vI x3, vI x4] (SH T, c) = some (some (vI r3), (SH T, c4)) := by
  refine (ev_eq _ _ _ _ _ _).trans ?_
  refine (if_pos h1).trans ?_
  refine (el_call rfl h2).trans ?_
  refine (if_pos h3).trans ?_
  refine (el_call rfl h4).trans ?_
  rfl
theorem E_X12_first_1 {T : List Shp} {c : Nat → Int → Int} {x1 x2 : Int} {r1 : Int} {c2 : Nat → Int → Int} (h1 : cal 194 [vI x1] (SH T, (up c 77 0 0)) = some (some (vI r1), (SH T, c2))) (h2 : r1 = 0) : cal 204 [vR 78, vI x1, vI x2] (SH T, c) = ev 204 3 19 [vR 78, vU, vU] [] (SH T, c2) := by
  refine (ev_eq _ _ _ _ _ _).trans ?_
  refine (el_call rfl h1).trans ?_
  refine (if_pos h2).trans ?_
  rfl
theorem E_X12_first_2 {T : List Shp} {c : Nat → Int → Int} {x1 x2 : Int} {r1 : Int} {c2 : Nat → Int → Int} {r3 : Int} {c4 : Nat → Int → Int} (h1 : cal 194 [vI x1] (SH T, (up c 77 0 0)) = some (some (vI r1), (SH T, c2))) (h2 : ¬ r1 = 0) (h3 : cal 195 [vI x2] (SH T, c2) = some (some (vI r3), (SH T, c4))) (h4 : r3 = 0) : cal 204 [vR 78, vI x1, vI x2] (SH T, c) = ev 204 3 19 [vR 78, vU, vU] [] (SH T, c4) := by
  refine (ev_eq _ _ _ _ _ _).trans ?_
  refine (el_call rfl h1).trans ?_
  refine (if_neg h2).trans ?_
  refine (el_call rfl h3).trans ?_
  refine (if_pos h4).trans ?_
  rfl
theorem E_X12_first_3 {T : List Shp} {c : Nat → Int → Int} {x1 x2 : Int} {r1 : Int} {c2 : Nat → Int → Int} {r3 : Int} {c4 : Nat → Int → Int} {r5 : Int} {c6 : Nat → Int → Int} (h1 : cal 194 [vI x1] (SH T, (up c 77 0 0)) = some (some (vI r1), (SH T, c2))) (h2 : ¬ r1 = 0) (h3 : cal 195 [vI x2] (SH T, c2) = some (some (vI r3), (SH T, c4))) (h4 : ¬ r3 = 0) (h5 : cal 191 [vR 78, vI (w32 (12 + x1)), vI x2] (SH T, (up c4 79 4 0)) = some (some (vI r5), (SH T, c6))) : cal 204 [vR 78, vI x1, vI x2] (SH T, c) = some (some (vI r5), (SH T, c6)) := by
  refine (ev_eq _ _ _ _ _ _).trans ?_
  refine (el_call rfl h1).trans ?_
  refine (if_neg h2).trans ?_
  refine (el_call rfl h3).trans ?_
  refine (if_neg h4).trans ?_
  refine (ev_eq _ _ _ _ _ _).trans ?_
  refine (el_call rfl h5).trans ?_
  rfl
theorem B_X12_first_19 {T : List Shp} {c : Nat → Int → Int} {r1 : Int} {c2 : Nat → Int → Int} (h1 : cal 190 [vR 78, vI (-1)] (SH T, c) = some (some (vI r1), (SH T, c2))) : ev 204 3 19 [vR 78, vU, vU] [] (SH T, c) = some (some (vI r1), (SH T, c2)) := by
  refine (ev_eq _ _ _ _ _ _).trans ?_
  refine (el_call rfl h1).trans ?_
  rfl
theorem E_X12_in_1 {T : List Shp} {c : Nat → Int → Int} {x0 x2 x4 : Int} (h1 : x0 < x2) : cal 186 [vL x0, vL x2, vL x4] (SH T, c) = some (some (vI 0), (SH T, c)) := by
  refine (ev_eq _ _ _ _ _ _).trans ?_
  -- LC h1 -1
  refine (ev_eq _ _ _ _ _ _).trans ?_
  rfl
theorem E_X12_in_2 {T : List Shp} {c : Nat → Int → Int} {x0 x2 x4 : Int} (h1 : x0 = x2) (h2 : x0 < x4) : cal 186 [vL x0, vL x2, vL x4] (SH T, c) = some (some (vI 1), (SH T, c)) := by
  refine (ev_eq _ _ _ _ _ _).trans ?_
  -- LC h1 0
  -- LC h2 -1
  rfl
theorem E_X12_in_3 {T : List Shp} {c : Nat → Int → Int} {x0 x2 x4 : Int} (h1 : x0 = x2) (h2 : x0 = x4) : cal 186 [vL x0, vL x2, vL x4] (SH T, c) = some (some (vI 1), (SH T, c)) := by
  refine (ev_eq _ _ _ _ _ _).trans ?_
  -- LC h1 0
  -- LC h2 0
  rfl
theorem E_X12_in_4 {T : List Shp} {c : Nat → Int → Int} {x0 x2 x4 : Int} (h1 : x0 = x2) (h2 : ¬ x0 < x4 ∧ ¬ x0 = x4) : cal 186 [vL x0, vL x2, vL x4] (SH T, c) = some (some (vI 0), (SH T, c)) := by
  refine (ev_eq _ _ _ _ _ _).trans ?_
  -- LC h1 0
  -- LC h2 1
  refine (ev_eq _ _ _ _ _ _).trans ?_
  rfl
theorem E_X12_in_5 {T : List Shp} {c : Nat → Int → Int} {x0 x2 x4 : Int} (h1 : ¬ x0 < x2 ∧ ¬ x0 = x2) (h2 : x0 < x4) : cal 186 [vL x0, vL x2, vL x4] (SH T, c) = some (some (vI 1), (SH T, c)) := by
  refine (ev_eq _ _ _ _ _ _).trans ?_
  -- LC h1 1
  -- LC h2 -1
  rfl
theorem E_X12_in_6 {T : List Shp} {c : Nat → Int → Int} {x0 x2 x4 : Int} (h1 : ¬ x0 < x2 ∧ ¬ x0 = x2) (h2 : x0 = x4) : cal 186 [vL x0, vL x2, vL x4] (SH T, c) = some (some (vI 1), (SH T, c)) := by
  refine (ev_eq _ _ _ _ _ _).trans ?_
  -- LC h1 1
  -- LC h2 0
  rfl
theorem E_X12_in_7 {T : List Shp} {c : Nat → Int → Int} {x0 x2 x4 : Int} (h1 : ¬ x0 < x2 ∧ ¬ x0 = x2) (h2 : ¬ x0 < x4 ∧ ¬ x0 = x4) : cal 186 [vL x0, vL x2, vL x4] (SH T, c) = some (some (vI 0), (SH T, c)) := by
  refine (ev_eq _ _ _ _ _ _).trans ?_
  -- LC h1 1
  -- LC h2 1
  refine (ev_eq _ _ _ _ _ _).trans ?_
  rfl
theorem E_X12_apart {T : List Shp} {c : Nat → Int → Int} {x1 x2 : Int}  : cal 289 [vR 78, vI x1, vI x2] (SH T, c) = ev 289 1 5 [vR 78, vI x1, vI x2, vI 0, vI 0] [] (SH T, c) := by
  refine (ev_eq _ _ _ _ _ _).trans ?_
  rfl
theorem B_X12_apart_5_1 {T : List Shp} {c : Nat → Int → Int} {x1 x2 x3 x4 : Int} (h1 : x4 < 12) (h2 : 0 ≤ (w32 (x1 + x4)) ∧ (w32 (x1 + x4)) < 5780) (h3 : 0 ≤ (w32 (x2 + x4)) ∧ (w32 (x2 + x4)) < 5780) (h4 : (c 79 (w32 (x1 + x4))) = (c 79 (w32 (x2 + x4)))) : ev 289 1 5 [vR 78, vI x1, vI x2, vI x3, vI x4] [] (SH T, c) = ev 289 1 5 [vR 78, vI x1, vI x2, vI (w32 (x3 + 0)), vI (w32 (x4 + 1))] [] (SH T, c) := by
  refine (ev_eq _ _ _ _ _ _).trans ?_
  refine (if_pos h1).trans ?_
  refine (if_pos h2).trans ?_
  refine (if_pos h3).trans ?_
  refine (if_pos h4).trans ?_
  rfl
theorem B_X12_apart_5_2 {T : List Shp} {c : Nat → Int → Int} {x1 x2 x3 x4 : Int} (h1 : x4 < 12) (h2 : 0 ≤ (w32 (x1 + x4)) ∧ (w32 (x1 + x4)) < 5780) (h3 : 0 ≤ (w32 (x2 + x4)) ∧ (w32 (x2 + x4)) < 5780) (h4 : ¬ (c 79 (w32 (x1 + x4))) = (c 79 (w32 (x2 + x4)))) : ev 289 1 5 [vR 78, vI x1, vI x2, vI x3, vI x4] [] (SH T, c) = ev 289 1 5 [vR 78, vI x1, vI x2, vI (w32 (x3 + 1)), vI (w32 (x4 + 1))] [] (SH T, c) := by
  refine (ev_eq _ _ _ _ _ _).trans ?_
  refine (if_pos h1).trans ?_
  refine (if_pos h2).trans ?_
  refine (if_pos h3).trans ?_
  refine (if_neg h4).trans ?_
  refine (ev_eq _ _ _ _ _ _).trans ?_
  rfl
theorem B_X12_apart_5_3 {T : List Shp} {c : Nat → Int → Int} {x1 x2 x3 x4 : Int} (h1 : ¬ x4 < 12) : ev 289 1 5 [vR 78, vI x1, vI x2, vI x3, vI x4] [] (SH T, c) = some (some (vI x3), (SH T, c)) := by
  refine (ev_eq _ _ _ _ _ _).trans ?_
  refine (if_neg h1).trans ?_
  refine (ev_eq _ _ _ _ _ _).trans ?_
  rfl
end
