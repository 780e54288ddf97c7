section
-- ===== PART A: goes FIRST, ahead of the names: the tables' words, and 'selects' of the private methods out of them =====
/-- a private method of a class that the tables say can be made, by its rows of tables_1 -/
def lw_okq (q : MethodName × Nat) : Prop := (q.1.cls ≠ "java/lang/invoke/MethodHandle" ∧ q.1.cls ≠ "java/lang/invoke/VarHandle") ∧ Cond.instantiable q.1.cls q.2 ∈ tables_1 ∧ Cond.privateMethod q.1 ∈ tables_1 ∧ Cond.instanceMethod q.1 ∈ tables_1
theorem lw_p0 : lw_okq (⟨"AgingPortrait", "refuse", "(I)I"⟩, 19) := ⟨⟨by decide +kernel, by decide +kernel⟩, List.mem_of_getElem? (i := 22) (by decide +kernel), List.mem_of_getElem? (i := 522) (by decide +kernel), List.mem_of_getElem? (i := 523) (by decide +kernel)⟩
theorem lw_p1 : lw_okq (⟨"AgingPortrait", "answer", "(I)I"⟩, 19) := ⟨⟨by decide +kernel, by decide +kernel⟩, List.mem_of_getElem? (i := 22) (by decide +kernel), List.mem_of_getElem? (i := 529) (by decide +kernel), List.mem_of_getElem? (i := 530) (by decide +kernel)⟩
theorem lw_p2 : lw_okq (⟨"AgingPortrait", "putBytes", "(I)V"⟩, 19) := ⟨⟨by decide +kernel, by decide +kernel⟩, List.mem_of_getElem? (i := 22) (by decide +kernel), List.mem_of_getElem? (i := 569) (by decide +kernel), List.mem_of_getElem? (i := 570) (by decide +kernel)⟩
theorem lw_p3 : lw_okq (⟨"AgingPortrait$Reader", "next", "()V"⟩, 9) := ⟨⟨by decide +kernel, by decide +kernel⟩, List.mem_of_getElem? (i := 279) (by decide +kernel), List.mem_of_getElem? (i := 600) (by decide +kernel), List.mem_of_getElem? (i := 601) (by decide +kernel)⟩
theorem lw_p4 : lw_okq (⟨"AgingPortrait$Reader", "clearRow", "(I)V"⟩, 9) := ⟨⟨by decide +kernel, by decide +kernel⟩, List.mem_of_getElem? (i := 279) (by decide +kernel), List.mem_of_getElem? (i := 607) (by decide +kernel), List.mem_of_getElem? (i := 608) (by decide +kernel)⟩
theorem lw_p5 : lw_okq (⟨"AgingPortrait$Reader", "readOrder", "(I)Z"⟩, 9) := ⟨⟨by decide +kernel, by decide +kernel⟩, List.mem_of_getElem? (i := 279) (by decide +kernel), List.mem_of_getElem? (i := 611) (by decide +kernel), List.mem_of_getElem? (i := 612) (by decide +kernel)⟩
theorem lw_p6 : lw_okq (⟨"AgingPortrait$Reader", "placeIn", "(Ljava/lang/String;)I"⟩, 9) := ⟨⟨by decide +kernel, by decide +kernel⟩, List.mem_of_getElem? (i := 279) (by decide +kernel), List.mem_of_getElem? (i := 616) (by decide +kernel), List.mem_of_getElem? (i := 617) (by decide +kernel)⟩
theorem lw_p7 : lw_okq (⟨"AgingPortrait$Reader", "isSame", "(Ljava/lang/String;II)Z"⟩, 9) := ⟨⟨by decide +kernel, by decide +kernel⟩, List.mem_of_getElem? (i := 279) (by decide +kernel), List.mem_of_getElem? (i := 668) (by decide +kernel), List.mem_of_getElem? (i := 669) (by decide +kernel)⟩
theorem lw_p8 : lw_okq (⟨"AgingPortrait$Reader", "readSumOf", "(II)Z"⟩, 9) := ⟨⟨by decide +kernel, by decide +kernel⟩, List.mem_of_getElem? (i := 279) (by decide +kernel), List.mem_of_getElem? (i := 673) (by decide +kernel), List.mem_of_getElem? (i := 674) (by decide +kernel)⟩
theorem lw_p9 : lw_okq (⟨"AgingPortrait$Reader", "readSum", "(I)Z"⟩, 9) := ⟨⟨by decide +kernel, by decide +kernel⟩, List.mem_of_getElem? (i := 279) (by decide +kernel), List.mem_of_getElem? (i := 677) (by decide +kernel), List.mem_of_getElem? (i := 678) (by decide +kernel)⟩
theorem lw_p10 : lw_okq (⟨"AgingPortrait$Reader", "readTerm", "(I)Z"⟩, 9) := ⟨⟨by decide +kernel, by decide +kernel⟩, List.mem_of_getElem? (i := 279) (by decide +kernel), List.mem_of_getElem? (i := 681) (by decide +kernel), List.mem_of_getElem? (i := 682) (by decide +kernel)⟩
theorem lw_p11 : lw_okq (⟨"AgingPortrait$Reader", "readPart", "(I)Z"⟩, 9) := ⟨⟨by decide +kernel, by decide +kernel⟩, List.mem_of_getElem? (i := 279) (by decide +kernel), List.mem_of_getElem? (i := 685) (by decide +kernel), List.mem_of_getElem? (i := 686) (by decide +kernel)⟩
theorem lw_p12 : lw_okq (⟨"AgingPortrait$Reader", "isSign", "(C)Z"⟩, 9) := ⟨⟨by decide +kernel, by decide +kernel⟩, List.mem_of_getElem? (i := 279) (by decide +kernel), List.mem_of_getElem? (i := 689) (by decide +kernel), List.mem_of_getElem? (i := 690) (by decide +kernel)⟩
theorem lw_p13 : lw_okq (⟨"AgingPortrait$Reader", "opens", "(I)Z"⟩, 9) := ⟨⟨by decide +kernel, by decide +kernel⟩, List.mem_of_getElem? (i := 279) (by decide +kernel), List.mem_of_getElem? (i := 693) (by decide +kernel), List.mem_of_getElem? (i := 694) (by decide +kernel)⟩
theorem lw_p14 : lw_okq (⟨"AgingPortrait$Reader", "takes", "(C)Z"⟩, 9) := ⟨⟨by decide +kernel, by decide +kernel⟩, List.mem_of_getElem? (i := 279) (by decide +kernel), List.mem_of_getElem? (i := 697) (by decide +kernel), List.mem_of_getElem? (i := 698) (by decide +kernel)⟩
theorem lw_p15 : lw_okq (⟨"AgingPortrait$Reader", "takesWord", "(Ljava/lang/String;)Z"⟩, 9) := ⟨⟨by decide +kernel, by decide +kernel⟩, List.mem_of_getElem? (i := 279) (by decide +kernel), List.mem_of_getElem? (i := 708) (by decide +kernel), List.mem_of_getElem? (i := 709) (by decide +kernel)⟩
def lw_privs_1 : List (MethodName × Nat) := [(⟨"AgingPortrait", "refuse", "(I)I"⟩, 19), (⟨"AgingPortrait", "answer", "(I)I"⟩, 19), (⟨"AgingPortrait", "putBytes", "(I)V"⟩, 19), (⟨"AgingPortrait$Reader", "next", "()V"⟩, 9), (⟨"AgingPortrait$Reader", "clearRow", "(I)V"⟩, 9), (⟨"AgingPortrait$Reader", "readOrder", "(I)Z"⟩, 9), (⟨"AgingPortrait$Reader", "placeIn", "(Ljava/lang/String;)I"⟩, 9), (⟨"AgingPortrait$Reader", "isSame", "(Ljava/lang/String;II)Z"⟩, 9), (⟨"AgingPortrait$Reader", "readSumOf", "(II)Z"⟩, 9), (⟨"AgingPortrait$Reader", "readSum", "(I)Z"⟩, 9), (⟨"AgingPortrait$Reader", "readTerm", "(I)Z"⟩, 9), (⟨"AgingPortrait$Reader", "readPart", "(I)Z"⟩, 9), (⟨"AgingPortrait$Reader", "isSign", "(C)Z"⟩, 9), (⟨"AgingPortrait$Reader", "opens", "(I)Z"⟩, 9), (⟨"AgingPortrait$Reader", "takes", "(C)Z"⟩, 9), (⟨"AgingPortrait$Reader", "takesWord", "(Ljava/lang/String;)Z"⟩, 9)]
theorem lw_r1 : ∀ q ∈ lw_privs_1, lw_okq q := List.forall_mem_cons.mpr ⟨lw_p0, List.forall_mem_cons.mpr ⟨lw_p1, List.forall_mem_cons.mpr ⟨lw_p2, List.forall_mem_cons.mpr ⟨lw_p3, List.forall_mem_cons.mpr ⟨lw_p4, List.forall_mem_cons.mpr ⟨lw_p5, List.forall_mem_cons.mpr ⟨lw_p6, List.forall_mem_cons.mpr ⟨lw_p7, List.forall_mem_cons.mpr ⟨lw_p8, List.forall_mem_cons.mpr ⟨lw_p9, List.forall_mem_cons.mpr ⟨lw_p10, List.forall_mem_cons.mpr ⟨lw_p11, List.forall_mem_cons.mpr ⟨lw_p12, List.forall_mem_cons.mpr ⟨lw_p13, List.forall_mem_cons.mpr ⟨lw_p14, List.forall_mem_cons.mpr ⟨lw_p15, fun _ h => absurd h List.not_mem_nil⟩⟩⟩⟩⟩⟩⟩⟩⟩⟩⟩⟩⟩⟩⟩⟩
theorem lw_p16 : lw_okq (⟨"AgingPortrait$Reader", "readTimes", "(I)Z"⟩, 9) := ⟨⟨by decide +kernel, by decide +kernel⟩, List.mem_of_getElem? (i := 279) (by decide +kernel), List.mem_of_getElem? (i := 713) (by decide +kernel), List.mem_of_getElem? (i := 714) (by decide +kernel)⟩
theorem lw_p17 : lw_okq (⟨"AgingPortrait$Reader", "readClause", "(I)Z"⟩, 9) := ⟨⟨by decide +kernel, by decide +kernel⟩, List.mem_of_getElem? (i := 279) (by decide +kernel), List.mem_of_getElem? (i := 718) (by decide +kernel), List.mem_of_getElem? (i := 719) (by decide +kernel)⟩
theorem lw_p18 : lw_okq (⟨"AgingPortrait$Reader", "readIf", "(I)Z"⟩, 9) := ⟨⟨by decide +kernel, by decide +kernel⟩, List.mem_of_getElem? (i := 279) (by decide +kernel), List.mem_of_getElem? (i := 723) (by decide +kernel), List.mem_of_getElem? (i := 724) (by decide +kernel)⟩
theorem lw_p19 : lw_okq (⟨"AgingPortrait$Reader", "readTest", "(I)Z"⟩, 9) := ⟨⟨by decide +kernel, by decide +kernel⟩, List.mem_of_getElem? (i := 279) (by decide +kernel), List.mem_of_getElem? (i := 728) (by decide +kernel), List.mem_of_getElem? (i := 729) (by decide +kernel)⟩
theorem lw_p20 : lw_okq (⟨"AgingPortrait$Reader", "readBoth", "(I)Z"⟩, 9) := ⟨⟨by decide +kernel, by decide +kernel⟩, List.mem_of_getElem? (i := 279) (by decide +kernel), List.mem_of_getElem? (i := 732) (by decide +kernel), List.mem_of_getElem? (i := 733) (by decide +kernel)⟩
theorem lw_p21 : lw_okq (⟨"AgingPortrait$Reader", "readPlain", "(I)Z"⟩, 9) := ⟨⟨by decide +kernel, by decide +kernel⟩, List.mem_of_getElem? (i := 279) (by decide +kernel), List.mem_of_getElem? (i := 736) (by decide +kernel), List.mem_of_getElem? (i := 737) (by decide +kernel)⟩
theorem lw_p22 : lw_okq (⟨"AgingPortrait$Clerk", "learnWords", "(I)V"⟩, 10) := ⟨⟨by decide +kernel, by decide +kernel⟩, List.mem_of_getElem? (i := 377) (by decide +kernel), List.mem_of_getElem? (i := 770) (by decide +kernel), List.mem_of_getElem? (i := 771) (by decide +kernel)⟩
theorem lw_p23 : lw_okq (⟨"AgingPortrait$Judge", "scarOn", "(II)I"⟩, 4) := ⟨⟨by decide +kernel, by decide +kernel⟩, List.mem_of_getElem? (i := 163) (by decide +kernel), List.mem_of_getElem? (i := 790) (by decide +kernel), List.mem_of_getElem? (i := 791) (by decide +kernel)⟩
theorem lw_p24 : lw_okq (⟨"AgingPortrait$Judge", "ask", "(I)V"⟩, 4) := ⟨⟨by decide +kernel, by decide +kernel⟩, List.mem_of_getElem? (i := 163) (by decide +kernel), List.mem_of_getElem? (i := 794) (by decide +kernel), List.mem_of_getElem? (i := 795) (by decide +kernel)⟩
theorem lw_p25 : lw_okq (⟨"AgingPortrait$Judge", "tells", "(I)Z"⟩, 4) := ⟨⟨by decide +kernel, by decide +kernel⟩, List.mem_of_getElem? (i := 163) (by decide +kernel), List.mem_of_getElem? (i := 799) (by decide +kernel), List.mem_of_getElem? (i := 800) (by decide +kernel)⟩
theorem lw_p26 : lw_okq (⟨"AgingPortrait$Engine", "joins", "(I)Z"⟩, 3) := ⟨⟨by decide +kernel, by decide +kernel⟩, List.mem_of_getElem? (i := 169) (by decide +kernel), List.mem_of_getElem? (i := 809) (by decide +kernel), List.mem_of_getElem? (i := 810) (by decide +kernel)⟩
theorem lw_p27 : lw_okq (⟨"AgingPortrait$Judge", "askPainter", "(II)V"⟩, 4) := ⟨⟨by decide +kernel, by decide +kernel⟩, List.mem_of_getElem? (i := 163) (by decide +kernel), List.mem_of_getElem? (i := 830) (by decide +kernel), List.mem_of_getElem? (i := 831) (by decide +kernel)⟩
theorem lw_p28 : lw_okq (⟨"AgingPortrait$Clerk", "isWanted", "(LAgingPortrait$Text;I)Z"⟩, 10) := ⟨⟨by decide +kernel, by decide +kernel⟩, List.mem_of_getElem? (i := 377) (by decide +kernel), List.mem_of_getElem? (i := 834) (by decide +kernel), List.mem_of_getElem? (i := 835) (by decide +kernel)⟩
theorem lw_p29 : lw_okq (⟨"AgingPortrait$Clerk", "sumsWork", "(LAgingPortrait$Text;I)Z"⟩, 10) := ⟨⟨by decide +kernel, by decide +kernel⟩, List.mem_of_getElem? (i := 377) (by decide +kernel), List.mem_of_getElem? (i := 839) (by decide +kernel), List.mem_of_getElem? (i := 840) (by decide +kernel)⟩
theorem lw_p30 : lw_okq (⟨"AgingPortrait$Clerk", "paints", "(I)I"⟩, 10) := ⟨⟨by decide +kernel, by decide +kernel⟩, List.mem_of_getElem? (i := 377) (by decide +kernel), List.mem_of_getElem? (i := 843) (by decide +kernel), List.mem_of_getElem? (i := 844) (by decide +kernel)⟩
theorem lw_p31 : lw_okq (⟨"AgingPortrait$Planner", "weigh", "(I)V"⟩, 15) := ⟨⟨by decide +kernel, by decide +kernel⟩, List.mem_of_getElem? (i := 219) (by decide +kernel), List.mem_of_getElem? (i := 866) (by decide +kernel), List.mem_of_getElem? (i := 867) (by decide +kernel)⟩
def lw_privs_2 : List (MethodName × Nat) := [(⟨"AgingPortrait$Reader", "readTimes", "(I)Z"⟩, 9), (⟨"AgingPortrait$Reader", "readClause", "(I)Z"⟩, 9), (⟨"AgingPortrait$Reader", "readIf", "(I)Z"⟩, 9), (⟨"AgingPortrait$Reader", "readTest", "(I)Z"⟩, 9), (⟨"AgingPortrait$Reader", "readBoth", "(I)Z"⟩, 9), (⟨"AgingPortrait$Reader", "readPlain", "(I)Z"⟩, 9), (⟨"AgingPortrait$Clerk", "learnWords", "(I)V"⟩, 10), (⟨"AgingPortrait$Judge", "scarOn", "(II)I"⟩, 4), (⟨"AgingPortrait$Judge", "ask", "(I)V"⟩, 4), (⟨"AgingPortrait$Judge", "tells", "(I)Z"⟩, 4), (⟨"AgingPortrait$Engine", "joins", "(I)Z"⟩, 3), (⟨"AgingPortrait$Judge", "askPainter", "(II)V"⟩, 4), (⟨"AgingPortrait$Clerk", "isWanted", "(LAgingPortrait$Text;I)Z"⟩, 10), (⟨"AgingPortrait$Clerk", "sumsWork", "(LAgingPortrait$Text;I)Z"⟩, 10), (⟨"AgingPortrait$Clerk", "paints", "(I)I"⟩, 10), (⟨"AgingPortrait$Planner", "weigh", "(I)V"⟩, 15)]
theorem lw_r2 : ∀ q ∈ lw_privs_2, lw_okq q := List.forall_mem_cons.mpr ⟨lw_p16, List.forall_mem_cons.mpr ⟨lw_p17, List.forall_mem_cons.mpr ⟨lw_p18, List.forall_mem_cons.mpr ⟨lw_p19, List.forall_mem_cons.mpr ⟨lw_p20, List.forall_mem_cons.mpr ⟨lw_p21, List.forall_mem_cons.mpr ⟨lw_p22, List.forall_mem_cons.mpr ⟨lw_p23, List.forall_mem_cons.mpr ⟨lw_p24, List.forall_mem_cons.mpr ⟨lw_p25, List.forall_mem_cons.mpr ⟨lw_p26, List.forall_mem_cons.mpr ⟨lw_p27, List.forall_mem_cons.mpr ⟨lw_p28, List.forall_mem_cons.mpr ⟨lw_p29, List.forall_mem_cons.mpr ⟨lw_p30, List.forall_mem_cons.mpr ⟨lw_p31, fun _ h => absurd h List.not_mem_nil⟩⟩⟩⟩⟩⟩⟩⟩⟩⟩⟩⟩⟩⟩⟩⟩
theorem lw_p32 : lw_okq (⟨"AgingPortrait$Planner", "isBetter", "(II)Z"⟩, 15) := ⟨⟨by decide +kernel, by decide +kernel⟩, List.mem_of_getElem? (i := 219) (by decide +kernel), List.mem_of_getElem? (i := 871) (by decide +kernel), List.mem_of_getElem? (i := 872) (by decide +kernel)⟩
theorem lw_p33 : lw_okq (⟨"AgingPortrait$Planner", "mayPaint", "(II)Z"⟩, 15) := ⟨⟨by decide +kernel, by decide +kernel⟩, List.mem_of_getElem? (i := 219) (by decide +kernel), List.mem_of_getElem? (i := 875) (by decide +kernel), List.mem_of_getElem? (i := 876) (by decide +kernel)⟩
theorem lw_p34 : lw_okq (⟨"AgingPortrait$Planner", "paintOver", "(II)V"⟩, 15) := ⟨⟨by decide +kernel, by decide +kernel⟩, List.mem_of_getElem? (i := 219) (by decide +kernel), List.mem_of_getElem? (i := 886) (by decide +kernel), List.mem_of_getElem? (i := 887) (by decide +kernel)⟩
theorem lw_p35 : lw_okq (⟨"AgingPortrait$Planner", "isGood", "(II)Z"⟩, 15) := ⟨⟨by decide +kernel, by decide +kernel⟩, List.mem_of_getElem? (i := 219) (by decide +kernel), List.mem_of_getElem? (i := 895) (by decide +kernel), List.mem_of_getElem? (i := 896) (by decide +kernel)⟩
theorem lw_p36 : lw_okq (⟨"AgingPortrait$Clerk", "changes", "(I)I"⟩, 10) := ⟨⟨by decide +kernel, by decide +kernel⟩, List.mem_of_getElem? (i := 377) (by decide +kernel), List.mem_of_getElem? (i := 908) (by decide +kernel), List.mem_of_getElem? (i := 909) (by decide +kernel)⟩
theorem lw_p37 : lw_okq (⟨"AgingPortrait$Studio", "carried", "(IIII)I"⟩, 4) := ⟨⟨by decide +kernel, by decide +kernel⟩, List.mem_of_getElem? (i := 200) (by decide +kernel), List.mem_of_getElem? (i := 1003) (by decide +kernel), List.mem_of_getElem? (i := 1004) (by decide +kernel)⟩
theorem lw_p38 : lw_okq (⟨"AgingPortrait$Studio", "aimAt", "(I[I)V"⟩, 4) := ⟨⟨by decide +kernel, by decide +kernel⟩, List.mem_of_getElem? (i := 200) (by decide +kernel), List.mem_of_getElem? (i := 1021) (by decide +kernel), List.mem_of_getElem? (i := 1022) (by decide +kernel)⟩
theorem lw_p39 : lw_okq (⟨"AgingPortrait$Studio", "undo", "(II)Z"⟩, 4) := ⟨⟨by decide +kernel, by decide +kernel⟩, List.mem_of_getElem? (i := 200) (by decide +kernel), List.mem_of_getElem? (i := 1025) (by decide +kernel), List.mem_of_getElem? (i := 1026) (by decide +kernel)⟩
theorem lw_p40 : lw_okq (⟨"AgingPortrait", "heirs", "()I"⟩, 19) := ⟨⟨by decide +kernel, by decide +kernel⟩, List.mem_of_getElem? (i := 22) (by decide +kernel), List.mem_of_getElem? (i := 1046) (by decide +kernel), List.mem_of_getElem? (i := 1047) (by decide +kernel)⟩
theorem lw_p41 : lw_okq (⟨"AgingPortrait", "isRootOrCopy", "(I)Z"⟩, 19) := ⟨⟨by decide +kernel, by decide +kernel⟩, List.mem_of_getElem? (i := 22) (by decide +kernel), List.mem_of_getElem? (i := 1058) (by decide +kernel), List.mem_of_getElem? (i := 1059) (by decide +kernel)⟩
theorem lw_p42 : lw_okq (⟨"AgingPortrait$Stemma", "toneIn", "(II)I"⟩, 9) := ⟨⟨by decide +kernel, by decide +kernel⟩, List.mem_of_getElem? (i := 313) (by decide +kernel), List.mem_of_getElem? (i := 1066) (by decide +kernel), List.mem_of_getElem? (i := 1067) (by decide +kernel)⟩
theorem lw_p43 : lw_okq (⟨"AgingPortrait$Stemma", "weighSet", "(I)V"⟩, 9) := ⟨⟨by decide +kernel, by decide +kernel⟩, List.mem_of_getElem? (i := 313) (by decide +kernel), List.mem_of_getElem? (i := 1079) (by decide +kernel), List.mem_of_getElem? (i := 1080) (by decide +kernel)⟩
theorem lw_p44 : lw_okq (⟨"AgingPortrait$Stemma", "joinBranch", "(II)V"⟩, 9) := ⟨⟨by decide +kernel, by decide +kernel⟩, List.mem_of_getElem? (i := 313) (by decide +kernel), List.mem_of_getElem? (i := 1083) (by decide +kernel), List.mem_of_getElem? (i := 1084) (by decide +kernel)⟩
theorem lw_p45 : lw_okq (⟨"AgingPortrait$Stemma", "leastFrom", "(I)I"⟩, 9) := ⟨⟨by decide +kernel, by decide +kernel⟩, List.mem_of_getElem? (i := 313) (by decide +kernel), List.mem_of_getElem? (i := 1101) (by decide +kernel), List.mem_of_getElem? (i := 1102) (by decide +kernel)⟩
theorem lw_p46 : lw_okq (⟨"AgingPortrait$Stemma", "comesFrom", "(II)Z"⟩, 9) := ⟨⟨by decide +kernel, by decide +kernel⟩, List.mem_of_getElem? (i := 313) (by decide +kernel), List.mem_of_getElem? (i := 1106) (by decide +kernel), List.mem_of_getElem? (i := 1107) (by decide +kernel)⟩
theorem lw_p47 : lw_okq (⟨"AgingPortrait$Stemma", "fromLayer", "(II)I"⟩, 9) := ⟨⟨by decide +kernel, by decide +kernel⟩, List.mem_of_getElem? (i := 313) (by decide +kernel), List.mem_of_getElem? (i := 1126) (by decide +kernel), List.mem_of_getElem? (i := 1127) (by decide +kernel)⟩
def lw_privs_3 : List (MethodName × Nat) := [(⟨"AgingPortrait$Planner", "isBetter", "(II)Z"⟩, 15), (⟨"AgingPortrait$Planner", "mayPaint", "(II)Z"⟩, 15), (⟨"AgingPortrait$Planner", "paintOver", "(II)V"⟩, 15), (⟨"AgingPortrait$Planner", "isGood", "(II)Z"⟩, 15), (⟨"AgingPortrait$Clerk", "changes", "(I)I"⟩, 10), (⟨"AgingPortrait$Studio", "carried", "(IIII)I"⟩, 4), (⟨"AgingPortrait$Studio", "aimAt", "(I[I)V"⟩, 4), (⟨"AgingPortrait$Studio", "undo", "(II)Z"⟩, 4), (⟨"AgingPortrait", "heirs", "()I"⟩, 19), (⟨"AgingPortrait", "isRootOrCopy", "(I)Z"⟩, 19), (⟨"AgingPortrait$Stemma", "toneIn", "(II)I"⟩, 9), (⟨"AgingPortrait$Stemma", "weighSet", "(I)V"⟩, 9), (⟨"AgingPortrait$Stemma", "joinBranch", "(II)V"⟩, 9), (⟨"AgingPortrait$Stemma", "leastFrom", "(I)I"⟩, 9), (⟨"AgingPortrait$Stemma", "comesFrom", "(II)Z"⟩, 9), (⟨"AgingPortrait$Stemma", "fromLayer", "(II)I"⟩, 9)]
theorem lw_r3 : ∀ q ∈ lw_privs_3, lw_okq q := List.forall_mem_cons.mpr ⟨lw_p32, List.forall_mem_cons.mpr ⟨lw_p33, List.forall_mem_cons.mpr ⟨lw_p34, List.forall_mem_cons.mpr ⟨lw_p35, List.forall_mem_cons.mpr ⟨lw_p36, List.forall_mem_cons.mpr ⟨lw_p37, List.forall_mem_cons.mpr ⟨lw_p38, List.forall_mem_cons.mpr ⟨lw_p39, List.forall_mem_cons.mpr ⟨lw_p40, List.forall_mem_cons.mpr ⟨lw_p41, List.forall_mem_cons.mpr ⟨lw_p42, List.forall_mem_cons.mpr ⟨lw_p43, List.forall_mem_cons.mpr ⟨lw_p44, List.forall_mem_cons.mpr ⟨lw_p45, List.forall_mem_cons.mpr ⟨lw_p46, List.forall_mem_cons.mpr ⟨lw_p47, fun _ h => absurd h List.not_mem_nil⟩⟩⟩⟩⟩⟩⟩⟩⟩⟩⟩⟩⟩⟩⟩⟩
theorem lw_p48 : lw_okq (⟨"AgingPortrait$Stemma", "needBehind", "(II)I"⟩, 9) := ⟨⟨by decide +kernel, by decide +kernel⟩, List.mem_of_getElem? (i := 313) (by decide +kernel), List.mem_of_getElem? (i := 1138) (by decide +kernel), List.mem_of_getElem? (i := 1139) (by decide +kernel)⟩
theorem lw_p49 : lw_okq (⟨"AgingPortrait$Stemma", "sameIn", "(III)I"⟩, 9) := ⟨⟨by decide +kernel, by decide +kernel⟩, List.mem_of_getElem? (i := 313) (by decide +kernel), List.mem_of_getElem? (i := 1142) (by decide +kernel), List.mem_of_getElem? (i := 1143) (by decide +kernel)⟩
theorem lw_p50 : lw_okq (⟨"AgingPortrait$Studio", "comesOut", "(III)Z"⟩, 4) := ⟨⟨by decide +kernel, by decide +kernel⟩, List.mem_of_getElem? (i := 200) (by decide +kernel), List.mem_of_getElem? (i := 1154) (by decide +kernel), List.mem_of_getElem? (i := 1155) (by decide +kernel)⟩
theorem lw_p51 : lw_okq (⟨"AgingPortrait$Judge", "askClaimant", "(II)V"⟩, 4) := ⟨⟨by decide +kernel, by decide +kernel⟩, List.mem_of_getElem? (i := 163) (by decide +kernel), List.mem_of_getElem? (i := 1223) (by decide +kernel), List.mem_of_getElem? (i := 1224) (by decide +kernel)⟩
theorem lw_p52 : lw_okq (⟨"AgingPortrait$Court", "begins", "(I)Z"⟩, 6) := ⟨⟨by decide +kernel, by decide +kernel⟩, List.mem_of_getElem? (i := 349) (by decide +kernel), List.mem_of_getElem? (i := 1261) (by decide +kernel), List.mem_of_getElem? (i := 1262) (by decide +kernel)⟩
theorem lw_p53 : lw_okq (⟨"AgingPortrait$Court", "lasts", "(I)I"⟩, 6) := ⟨⟨by decide +kernel, by decide +kernel⟩, List.mem_of_getElem? (i := 349) (by decide +kernel), List.mem_of_getElem? (i := 1269) (by decide +kernel), List.mem_of_getElem? (i := 1270) (by decide +kernel)⟩
theorem lw_p54 : lw_okq (⟨"AgingPortrait$Century", "paintOne", "(I)V"⟩, 8) := ⟨⟨by decide +kernel, by decide +kernel⟩, List.mem_of_getElem? (i := 420) (by decide +kernel), List.mem_of_getElem? (i := 1292) (by decide +kernel), List.mem_of_getElem? (i := 1293) (by decide +kernel)⟩
theorem lw_p55 : lw_okq (⟨"AgingPortrait$Century", "draw", "(I)I"⟩, 8) := ⟨⟨by decide +kernel, by decide +kernel⟩, List.mem_of_getElem? (i := 420) (by decide +kernel), List.mem_of_getElem? (i := 1296) (by decide +kernel), List.mem_of_getElem? (i := 1297) (by decide +kernel)⟩
theorem lw_p56 : lw_okq (⟨"AgingPortraitModel", "tell", "(I)I"⟩, 61) := ⟨⟨by decide +kernel, by decide +kernel⟩, List.mem_of_getElem? (i := 1331) (by decide +kernel), List.mem_of_getElem? (i := 1550) (by decide +kernel), List.mem_of_getElem? (i := 1551) (by decide +kernel)⟩
theorem lw_p57 : lw_okq (⟨"AgingPortraitModel", "change", "(II)I"⟩, 61) := ⟨⟨by decide +kernel, by decide +kernel⟩, List.mem_of_getElem? (i := 1331) (by decide +kernel), List.mem_of_getElem? (i := 1570) (by decide +kernel), List.mem_of_getElem? (i := 1571) (by decide +kernel)⟩
theorem lw_p58 : lw_okq (⟨"AgingPortraitModel", "isPainter", "(I)Z"⟩, 61) := ⟨⟨by decide +kernel, by decide +kernel⟩, List.mem_of_getElem? (i := 1331) (by decide +kernel), List.mem_of_getElem? (i := 1585) (by decide +kernel), List.mem_of_getElem? (i := 1586) (by decide +kernel)⟩
theorem lw_p59 : lw_okq (⟨"AgingPortraitModel", "four", "(I)V"⟩, 61) := ⟨⟨by decide +kernel, by decide +kernel⟩, List.mem_of_getElem? (i := 1331) (by decide +kernel), List.mem_of_getElem? (i := 1627) (by decide +kernel), List.mem_of_getElem? (i := 1628) (by decide +kernel)⟩
theorem lw_p60 : lw_okq (⟨"AgingPortraitModel", "beginText", "(Z)V"⟩, 61) := ⟨⟨by decide +kernel, by decide +kernel⟩, List.mem_of_getElem? (i := 1331) (by decide +kernel), List.mem_of_getElem? (i := 1643) (by decide +kernel), List.mem_of_getElem? (i := 1644) (by decide +kernel)⟩
theorem lw_p61 : lw_okq (⟨"AgingPortraitModel", "begin", "()V"⟩, 61) := ⟨⟨by decide +kernel, by decide +kernel⟩, List.mem_of_getElem? (i := 1331) (by decide +kernel), List.mem_of_getElem? (i := 1647) (by decide +kernel), List.mem_of_getElem? (i := 1648) (by decide +kernel)⟩
theorem lw_p62 : lw_okq (⟨"AgingPortraitModel", "next", "()V"⟩, 61) := ⟨⟨by decide +kernel, by decide +kernel⟩, List.mem_of_getElem? (i := 1331) (by decide +kernel), List.mem_of_getElem? (i := 1651) (by decide +kernel), List.mem_of_getElem? (i := 1652) (by decide +kernel)⟩
theorem lw_p63 : lw_okq (⟨"AgingPortraitModel", "readClause", "()V"⟩, 61) := ⟨⟨by decide +kernel, by decide +kernel⟩, List.mem_of_getElem? (i := 1331) (by decide +kernel), List.mem_of_getElem? (i := 1667) (by decide +kernel), List.mem_of_getElem? (i := 1668) (by decide +kernel)⟩
def lw_privs_4 : List (MethodName × Nat) := [(⟨"AgingPortrait$Stemma", "needBehind", "(II)I"⟩, 9), (⟨"AgingPortrait$Stemma", "sameIn", "(III)I"⟩, 9), (⟨"AgingPortrait$Studio", "comesOut", "(III)Z"⟩, 4), (⟨"AgingPortrait$Judge", "askClaimant", "(II)V"⟩, 4), (⟨"AgingPortrait$Court", "begins", "(I)Z"⟩, 6), (⟨"AgingPortrait$Court", "lasts", "(I)I"⟩, 6), (⟨"AgingPortrait$Century", "paintOne", "(I)V"⟩, 8), (⟨"AgingPortrait$Century", "draw", "(I)I"⟩, 8), (⟨"AgingPortraitModel", "tell", "(I)I"⟩, 61), (⟨"AgingPortraitModel", "change", "(II)I"⟩, 61), (⟨"AgingPortraitModel", "isPainter", "(I)Z"⟩, 61), (⟨"AgingPortraitModel", "four", "(I)V"⟩, 61), (⟨"AgingPortraitModel", "beginText", "(Z)V"⟩, 61), (⟨"AgingPortraitModel", "begin", "()V"⟩, 61), (⟨"AgingPortraitModel", "next", "()V"⟩, 61), (⟨"AgingPortraitModel", "readClause", "()V"⟩, 61)]
theorem lw_r4 : ∀ q ∈ lw_privs_4, lw_okq q := List.forall_mem_cons.mpr ⟨lw_p48, List.forall_mem_cons.mpr ⟨lw_p49, List.forall_mem_cons.mpr ⟨lw_p50, List.forall_mem_cons.mpr ⟨lw_p51, List.forall_mem_cons.mpr ⟨lw_p52, List.forall_mem_cons.mpr ⟨lw_p53, List.forall_mem_cons.mpr ⟨lw_p54, List.forall_mem_cons.mpr ⟨lw_p55, List.forall_mem_cons.mpr ⟨lw_p56, List.forall_mem_cons.mpr ⟨lw_p57, List.forall_mem_cons.mpr ⟨lw_p58, List.forall_mem_cons.mpr ⟨lw_p59, List.forall_mem_cons.mpr ⟨lw_p60, List.forall_mem_cons.mpr ⟨lw_p61, List.forall_mem_cons.mpr ⟨lw_p62, List.forall_mem_cons.mpr ⟨lw_p63, fun _ h => absurd h List.not_mem_nil⟩⟩⟩⟩⟩⟩⟩⟩⟩⟩⟩⟩⟩⟩⟩⟩
theorem lw_p64 : lw_okq (⟨"AgingPortraitModel", "isWord", "(J)Z"⟩, 61) := ⟨⟨by decide +kernel, by decide +kernel⟩, List.mem_of_getElem? (i := 1331) (by decide +kernel), List.mem_of_getElem? (i := 1671) (by decide +kernel), List.mem_of_getElem? (i := 1672) (by decide +kernel)⟩
theorem lw_p65 : lw_okq (⟨"AgingPortraitModel", "must", "(Z)V"⟩, 61) := ⟨⟨by decide +kernel, by decide +kernel⟩, List.mem_of_getElem? (i := 1331) (by decide +kernel), List.mem_of_getElem? (i := 1675) (by decide +kernel), List.mem_of_getElem? (i := 1676) (by decide +kernel)⟩
theorem lw_p66 : lw_okq (⟨"AgingPortraitModel", "readExpression", "(Z)V"⟩, 61) := ⟨⟨by decide +kernel, by decide +kernel⟩, List.mem_of_getElem? (i := 1331) (by decide +kernel), List.mem_of_getElem? (i := 1679) (by decide +kernel), List.mem_of_getElem? (i := 1680) (by decide +kernel)⟩
theorem lw_p67 : lw_okq (⟨"AgingPortraitModel", "readPlain", "()I"⟩, 61) := ⟨⟨by decide +kernel, by decide +kernel⟩, List.mem_of_getElem? (i := 1331) (by decide +kernel), List.mem_of_getElem? (i := 1683) (by decide +kernel), List.mem_of_getElem? (i := 1684) (by decide +kernel)⟩
theorem lw_p68 : lw_okq (⟨"AgingPortraitModel", "push", "(II)V"⟩, 61) := ⟨⟨by decide +kernel, by decide +kernel⟩, List.mem_of_getElem? (i := 1331) (by decide +kernel), List.mem_of_getElem? (i := 1688) (by decide +kernel), List.mem_of_getElem? (i := 1689) (by decide +kernel)⟩
theorem lw_p69 : lw_okq (⟨"AgingPortraitModel", "isSign", "(I)Z"⟩, 61) := ⟨⟨by decide +kernel, by decide +kernel⟩, List.mem_of_getElem? (i := 1331) (by decide +kernel), List.mem_of_getElem? (i := 1692) (by decide +kernel), List.mem_of_getElem? (i := 1693) (by decide +kernel)⟩
theorem lw_p70 : lw_okq (⟨"AgingPortraitModel", "openBracket", "(I)V"⟩, 61) := ⟨⟨by decide +kernel, by decide +kernel⟩, List.mem_of_getElem? (i := 1331) (by decide +kernel), List.mem_of_getElem? (i := 1696) (by decide +kernel), List.mem_of_getElem? (i := 1697) (by decide +kernel)⟩
theorem lw_p71 : lw_okq (⟨"AgingPortraitModel", "readPart", "()I"⟩, 61) := ⟨⟨by decide +kernel, by decide +kernel⟩, List.mem_of_getElem? (i := 1331) (by decide +kernel), List.mem_of_getElem? (i := 1700) (by decide +kernel), List.mem_of_getElem? (i := 1701) (by decide +kernel)⟩
theorem lw_p72 : lw_okq (⟨"AgingPortraitModel", "orderPartAt", "()I"⟩, 61) := ⟨⟨by decide +kernel, by decide +kernel⟩, List.mem_of_getElem? (i := 1331) (by decide +kernel), List.mem_of_getElem? (i := 1704) (by decide +kernel), List.mem_of_getElem? (i := 1705) (by decide +kernel)⟩
theorem lw_p73 : lw_okq (⟨"AgingPortraitModel", "partAt", "()I"⟩, 61) := ⟨⟨by decide +kernel, by decide +kernel⟩, List.mem_of_getElem? (i := 1331) (by decide +kernel), List.mem_of_getElem? (i := 1708) (by decide +kernel), List.mem_of_getElem? (i := 1709) (by decide +kernel)⟩
theorem lw_p74 : lw_okq (⟨"AgingPortraitModel", "leaf", "(ZII)V"⟩, 61) := ⟨⟨by decide +kernel, by decide +kernel⟩, List.mem_of_getElem? (i := 1331) (by decide +kernel), List.mem_of_getElem? (i := 1713) (by decide +kernel), List.mem_of_getElem? (i := 1714) (by decide +kernel)⟩
theorem lw_p75 : lw_okq (⟨"AgingPortraitModel", "emit", "(II)V"⟩, 61) := ⟨⟨by decide +kernel, by decide +kernel⟩, List.mem_of_getElem? (i := 1331) (by decide +kernel), List.mem_of_getElem? (i := 1717) (by decide +kernel), List.mem_of_getElem? (i := 1718) (by decide +kernel)⟩
theorem lw_p76 : lw_okq (⟨"AgingPortraitModel", "number", "(JJ)I"⟩, 61) := ⟨⟨by decide +kernel, by decide +kernel⟩, List.mem_of_getElem? (i := 1331) (by decide +kernel), List.mem_of_getElem? (i := 1721) (by decide +kernel), List.mem_of_getElem? (i := 1722) (by decide +kernel)⟩
theorem lw_p77 : lw_okq (⟨"AgingPortraitModel", "behindSum", "(Z)I"⟩, 61) := ⟨⟨by decide +kernel, by decide +kernel⟩, List.mem_of_getElem? (i := 1331) (by decide +kernel), List.mem_of_getElem? (i := 1725) (by decide +kernel), List.mem_of_getElem? (i := 1726) (by decide +kernel)⟩
theorem lw_p78 : lw_okq (⟨"AgingPortraitModel", "settle", "(I)V"⟩, 61) := ⟨⟨by decide +kernel, by decide +kernel⟩, List.mem_of_getElem? (i := 1331) (by decide +kernel), List.mem_of_getElem? (i := 1732) (by decide +kernel), List.mem_of_getElem? (i := 1733) (by decide +kernel)⟩
theorem lw_p79 : lw_okq (⟨"AgingPortraitModel", "inner", "()I"⟩, 61) := ⟨⟨by decide +kernel, by decide +kernel⟩, List.mem_of_getElem? (i := 1331) (by decide +kernel), List.mem_of_getElem? (i := 1736) (by decide +kernel), List.mem_of_getElem? (i := 1737) (by decide +kernel)⟩
def lw_privs_5 : List (MethodName × Nat) := [(⟨"AgingPortraitModel", "isWord", "(J)Z"⟩, 61), (⟨"AgingPortraitModel", "must", "(Z)V"⟩, 61), (⟨"AgingPortraitModel", "readExpression", "(Z)V"⟩, 61), (⟨"AgingPortraitModel", "readPlain", "()I"⟩, 61), (⟨"AgingPortraitModel", "push", "(II)V"⟩, 61), (⟨"AgingPortraitModel", "isSign", "(I)Z"⟩, 61), (⟨"AgingPortraitModel", "openBracket", "(I)V"⟩, 61), (⟨"AgingPortraitModel", "readPart", "()I"⟩, 61), (⟨"AgingPortraitModel", "orderPartAt", "()I"⟩, 61), (⟨"AgingPortraitModel", "partAt", "()I"⟩, 61), (⟨"AgingPortraitModel", "leaf", "(ZII)V"⟩, 61), (⟨"AgingPortraitModel", "emit", "(II)V"⟩, 61), (⟨"AgingPortraitModel", "number", "(JJ)I"⟩, 61), (⟨"AgingPortraitModel", "behindSum", "(Z)I"⟩, 61), (⟨"AgingPortraitModel", "settle", "(I)V"⟩, 61), (⟨"AgingPortraitModel", "inner", "()I"⟩, 61)]
theorem lw_r5 : ∀ q ∈ lw_privs_5, lw_okq q := List.forall_mem_cons.mpr ⟨lw_p64, List.forall_mem_cons.mpr ⟨lw_p65, List.forall_mem_cons.mpr ⟨lw_p66, List.forall_mem_cons.mpr ⟨lw_p67, List.forall_mem_cons.mpr ⟨lw_p68, List.forall_mem_cons.mpr ⟨lw_p69, List.forall_mem_cons.mpr ⟨lw_p70, List.forall_mem_cons.mpr ⟨lw_p71, List.forall_mem_cons.mpr ⟨lw_p72, List.forall_mem_cons.mpr ⟨lw_p73, List.forall_mem_cons.mpr ⟨lw_p74, List.forall_mem_cons.mpr ⟨lw_p75, List.forall_mem_cons.mpr ⟨lw_p76, List.forall_mem_cons.mpr ⟨lw_p77, List.forall_mem_cons.mpr ⟨lw_p78, List.forall_mem_cons.mpr ⟨lw_p79, fun _ h => absurd h List.not_mem_nil⟩⟩⟩⟩⟩⟩⟩⟩⟩⟩⟩⟩⟩⟩⟩⟩
theorem lw_p80 : lw_okq (⟨"AgingPortraitModel", "isCompared", "()Z"⟩, 61) := ⟨⟨by decide +kernel, by decide +kernel⟩, List.mem_of_getElem? (i := 1331) (by decide +kernel), List.mem_of_getElem? (i := 1740) (by decide +kernel), List.mem_of_getElem? (i := 1741) (by decide +kernel)⟩
theorem lw_p81 : lw_okq (⟨"AgingPortraitModel", "behindTest", "()I"⟩, 61) := ⟨⟨by decide +kernel, by decide +kernel⟩, List.mem_of_getElem? (i := 1331) (by decide +kernel), List.mem_of_getElem? (i := 1748) (by decide +kernel), List.mem_of_getElem? (i := 1749) (by decide +kernel)⟩
theorem lw_p82 : lw_okq (⟨"AgingPortraitModel", "endText", "()V"⟩, 61) := ⟨⟨by decide +kernel, by decide +kernel⟩, List.mem_of_getElem? (i := 1331) (by decide +kernel), List.mem_of_getElem? (i := 1755) (by decide +kernel), List.mem_of_getElem? (i := 1756) (by decide +kernel)⟩
theorem lw_p83 : lw_okq (⟨"AgingPortraitModel", "ageIn", "(I)I"⟩, 61) := ⟨⟨by decide +kernel, by decide +kernel⟩, List.mem_of_getElem? (i := 1331) (by decide +kernel), List.mem_of_getElem? (i := 1767) (by decide +kernel), List.mem_of_getElem? (i := 1768) (by decide +kernel)⟩
theorem lw_p84 : lw_okq (⟨"AgingPortraitModel", "looksOf", "(II)I"⟩, 61) := ⟨⟨by decide +kernel, by decide +kernel⟩, List.mem_of_getElem? (i := 1331) (by decide +kernel), List.mem_of_getElem? (i := 1774) (by decide +kernel), List.mem_of_getElem? (i := 1775) (by decide +kernel)⟩
theorem lw_p85 : lw_okq (⟨"AgingPortraitModel", "setNone", "(I)V"⟩, 61) := ⟨⟨by decide +kernel, by decide +kernel⟩, List.mem_of_getElem? (i := 1331) (by decide +kernel), List.mem_of_getElem? (i := 1778) (by decide +kernel), List.mem_of_getElem? (i := 1779) (by decide +kernel)⟩
theorem lw_p86 : lw_okq (⟨"AgingPortraitModel", "tells", "(IJ)J"⟩, 61) := ⟨⟨by decide +kernel, by decide +kernel⟩, List.mem_of_getElem? (i := 1331) (by decide +kernel), List.mem_of_getElem? (i := 1782) (by decide +kernel), List.mem_of_getElem? (i := 1783) (by decide +kernel)⟩
theorem lw_p87 : lw_okq (⟨"AgingPortraitModel", "isSo", "(I)Z"⟩, 61) := ⟨⟨by decide +kernel, by decide +kernel⟩, List.mem_of_getElem? (i := 1331) (by decide +kernel), List.mem_of_getElem? (i := 1786) (by decide +kernel), List.mem_of_getElem? (i := 1787) (by decide +kernel)⟩
theorem lw_p88 : lw_okq (⟨"AgingPortraitModel", "reckonAll", "(II)V"⟩, 61) := ⟨⟨by decide +kernel, by decide +kernel⟩, List.mem_of_getElem? (i := 1331) (by decide +kernel), List.mem_of_getElem? (i := 1790) (by decide +kernel), List.mem_of_getElem? (i := 1791) (by decide +kernel)⟩
theorem lw_p89 : lw_okq (⟨"AgingPortraitModel", "seen", "(I)I"⟩, 61) := ⟨⟨by decide +kernel, by decide +kernel⟩, List.mem_of_getElem? (i := 1331) (by decide +kernel), List.mem_of_getElem? (i := 1794) (by decide +kernel), List.mem_of_getElem? (i := 1795) (by decide +kernel)⟩
theorem lw_p90 : lw_okq (⟨"AgingPortraitModel", "years", "()I"⟩, 61) := ⟨⟨by decide +kernel, by decide +kernel⟩, List.mem_of_getElem? (i := 1331) (by decide +kernel), List.mem_of_getElem? (i := 1798) (by decide +kernel), List.mem_of_getElem? (i := 1799) (by decide +kernel)⟩
theorem lw_p91 : lw_okq (⟨"AgingPortraitModel", "toneAt", "(II)I"⟩, 61) := ⟨⟨by decide +kernel, by decide +kernel⟩, List.mem_of_getElem? (i := 1331) (by decide +kernel), List.mem_of_getElem? (i := 1802) (by decide +kernel), List.mem_of_getElem? (i := 1803) (by decide +kernel)⟩
theorem lw_p92 : lw_okq (⟨"AgingPortraitModel", "reckon", "(IJJ)J"⟩, 61) := ⟨⟨by decide +kernel, by decide +kernel⟩, List.mem_of_getElem? (i := 1331) (by decide +kernel), List.mem_of_getElem? (i := 1806) (by decide +kernel), List.mem_of_getElem? (i := 1807) (by decide +kernel)⟩
theorem lw_p93 : lw_okq (⟨"AgingPortraitModel", "letsOf", "(II)I"⟩, 61) := ⟨⟨by decide +kernel, by decide +kernel⟩, List.mem_of_getElem? (i := 1331) (by decide +kernel), List.mem_of_getElem? (i := 1812) (by decide +kernel), List.mem_of_getElem? (i := 1813) (by decide +kernel)⟩
theorem lw_p94 : lw_okq (⟨"AgingPortraitModel", "asksOf", "(II)I"⟩, 61) := ⟨⟨by decide +kernel, by decide +kernel⟩, List.mem_of_getElem? (i := 1331) (by decide +kernel), List.mem_of_getElem? (i := 1820) (by decide +kernel), List.mem_of_getElem? (i := 1821) (by decide +kernel)⟩
theorem lw_p95 : lw_okq (⟨"AgingPortraitModel", "setPainter", "(II)V"⟩, 61) := ⟨⟨by decide +kernel, by decide +kernel⟩, List.mem_of_getElem? (i := 1331) (by decide +kernel), List.mem_of_getElem? (i := 1824) (by decide +kernel), List.mem_of_getElem? (i := 1825) (by decide +kernel)⟩
def lw_privs_6 : List (MethodName × Nat) := [(⟨"AgingPortraitModel", "isCompared", "()Z"⟩, 61), (⟨"AgingPortraitModel", "behindTest", "()I"⟩, 61), (⟨"AgingPortraitModel", "endText", "()V"⟩, 61), (⟨"AgingPortraitModel", "ageIn", "(I)I"⟩, 61), (⟨"AgingPortraitModel", "looksOf", "(II)I"⟩, 61), (⟨"AgingPortraitModel", "setNone", "(I)V"⟩, 61), (⟨"AgingPortraitModel", "tells", "(IJ)J"⟩, 61), (⟨"AgingPortraitModel", "isSo", "(I)Z"⟩, 61), (⟨"AgingPortraitModel", "reckonAll", "(II)V"⟩, 61), (⟨"AgingPortraitModel", "seen", "(I)I"⟩, 61), (⟨"AgingPortraitModel", "years", "()I"⟩, 61), (⟨"AgingPortraitModel", "toneAt", "(II)I"⟩, 61), (⟨"AgingPortraitModel", "reckon", "(IJJ)J"⟩, 61), (⟨"AgingPortraitModel", "letsOf", "(II)I"⟩, 61), (⟨"AgingPortraitModel", "asksOf", "(II)I"⟩, 61), (⟨"AgingPortraitModel", "setPainter", "(II)V"⟩, 61)]
theorem lw_r6 : ∀ q ∈ lw_privs_6, lw_okq q := List.forall_mem_cons.mpr ⟨lw_p80, List.forall_mem_cons.mpr ⟨lw_p81, List.forall_mem_cons.mpr ⟨lw_p82, List.forall_mem_cons.mpr ⟨lw_p83, List.forall_mem_cons.mpr ⟨lw_p84, List.forall_mem_cons.mpr ⟨lw_p85, List.forall_mem_cons.mpr ⟨lw_p86, List.forall_mem_cons.mpr ⟨lw_p87, List.forall_mem_cons.mpr ⟨lw_p88, List.forall_mem_cons.mpr ⟨lw_p89, List.forall_mem_cons.mpr ⟨lw_p90, List.forall_mem_cons.mpr ⟨lw_p91, List.forall_mem_cons.mpr ⟨lw_p92, List.forall_mem_cons.mpr ⟨lw_p93, List.forall_mem_cons.mpr ⟨lw_p94, List.forall_mem_cons.mpr ⟨lw_p95, fun _ h => absurd h List.not_mem_nil⟩⟩⟩⟩⟩⟩⟩⟩⟩⟩⟩⟩⟩⟩⟩⟩
theorem lw_p96 : lw_okq (⟨"AgingPortraitModel", "isBarred", "(II)Z"⟩, 61) := ⟨⟨by decide +kernel, by decide +kernel⟩, List.mem_of_getElem? (i := 1331) (by decide +kernel), List.mem_of_getElem? (i := 1828) (by decide +kernel), List.mem_of_getElem? (i := 1829) (by decide +kernel)⟩
theorem lw_p97 : lw_okq (⟨"AgingPortraitModel", "paintNow", "(I)I"⟩, 61) := ⟨⟨by decide +kernel, by decide +kernel⟩, List.mem_of_getElem? (i := 1331) (by decide +kernel), List.mem_of_getElem? (i := 1836) (by decide +kernel), List.mem_of_getElem? (i := 1837) (by decide +kernel)⟩
theorem lw_p98 : lw_okq (⟨"AgingPortraitModel", "rests", "(II)Z"⟩, 61) := ⟨⟨by decide +kernel, by decide +kernel⟩, List.mem_of_getElem? (i := 1331) (by decide +kernel), List.mem_of_getElem? (i := 1840) (by decide +kernel), List.mem_of_getElem? (i := 1841) (by decide +kernel)⟩
theorem lw_p99 : lw_okq (⟨"AgingPortraitModel", "layLooks", "(I)V"⟩, 61) := ⟨⟨by decide +kernel, by decide +kernel⟩, List.mem_of_getElem? (i := 1331) (by decide +kernel), List.mem_of_getElem? (i := 1844) (by decide +kernel), List.mem_of_getElem? (i := 1845) (by decide +kernel)⟩
theorem lw_p100 : lw_okq (⟨"AgingPortraitModel", "loadPaper", "(II)V"⟩, 61) := ⟨⟨by decide +kernel, by decide +kernel⟩, List.mem_of_getElem? (i := 1331) (by decide +kernel), List.mem_of_getElem? (i := 1848) (by decide +kernel), List.mem_of_getElem? (i := 1849) (by decide +kernel)⟩
theorem lw_p101 : lw_okq (⟨"AgingPortraitModel", "paintPaper", "(IIII)V"⟩, 61) := ⟨⟨by decide +kernel, by decide +kernel⟩, List.mem_of_getElem? (i := 1331) (by decide +kernel), List.mem_of_getElem? (i := 1852) (by decide +kernel), List.mem_of_getElem? (i := 1853) (by decide +kernel)⟩
theorem lw_p102 : lw_okq (⟨"AgingPortraitModel", "painted", "(IIII)I"⟩, 61) := ⟨⟨by decide +kernel, by decide +kernel⟩, List.mem_of_getElem? (i := 1331) (by decide +kernel), List.mem_of_getElem? (i := 1856) (by decide +kernel), List.mem_of_getElem? (i := 1857) (by decide +kernel)⟩
theorem lw_p103 : lw_okq (⟨"AgingPortraitModel", "unlikePaper", "(II)I"⟩, 61) := ⟨⟨by decide +kernel, by decide +kernel⟩, List.mem_of_getElem? (i := 1331) (by decide +kernel), List.mem_of_getElem? (i := 1860) (by decide +kernel), List.mem_of_getElem? (i := 1861) (by decide +kernel)⟩
theorem lw_p104 : lw_okq (⟨"AgingPortraitModel", "isLayer", "(I)Z"⟩, 61) := ⟨⟨by decide +kernel, by decide +kernel⟩, List.mem_of_getElem? (i := 1331) (by decide +kernel), List.mem_of_getElem? (i := 1875) (by decide +kernel), List.mem_of_getElem? (i := 1876) (by decide +kernel)⟩
theorem lw_p105 : lw_okq (⟨"AgingPortraitModel", "unlikeOf", "(I)I"⟩, 61) := ⟨⟨by decide +kernel, by decide +kernel⟩, List.mem_of_getElem? (i := 1331) (by decide +kernel), List.mem_of_getElem? (i := 1883) (by decide +kernel), List.mem_of_getElem? (i := 1884) (by decide +kernel)⟩
theorem lw_p106 : lw_okq (⟨"AgingPortraitModel", "tooFarIn", "(I)I"⟩, 61) := ⟨⟨by decide +kernel, by decide +kernel⟩, List.mem_of_getElem? (i := 1331) (by decide +kernel), List.mem_of_getElem? (i := 1887) (by decide +kernel), List.mem_of_getElem? (i := 1888) (by decide +kernel)⟩
theorem lw_p107 : lw_okq (⟨"AgingPortraitModel", "tooFar", "(II)I"⟩, 61) := ⟨⟨by decide +kernel, by decide +kernel⟩, List.mem_of_getElem? (i := 1331) (by decide +kernel), List.mem_of_getElem? (i := 1891) (by decide +kernel), List.mem_of_getElem? (i := 1892) (by decide +kernel)⟩
theorem lw_p108 : lw_okq (⟨"AgingPortraitModel", "moneyBehind", "(I)I"⟩, 61) := ⟨⟨by decide +kernel, by decide +kernel⟩, List.mem_of_getElem? (i := 1331) (by decide +kernel), List.mem_of_getElem? (i := 1903) (by decide +kernel), List.mem_of_getElem? (i := 1904) (by decide +kernel)⟩
theorem lw_p109 : lw_okq (⟨"AgingPortraitModel", "goThrough", "(II)V"⟩, 61) := ⟨⟨by decide +kernel, by decide +kernel⟩, List.mem_of_getElem? (i := 1331) (by decide +kernel), List.mem_of_getElem? (i := 1916) (by decide +kernel), List.mem_of_getElem? (i := 1917) (by decide +kernel)⟩
theorem lw_p110 : lw_okq (⟨"AgingPortraitModel", "weigh", "(II)V"⟩, 61) := ⟨⟨by decide +kernel, by decide +kernel⟩, List.mem_of_getElem? (i := 1331) (by decide +kernel), List.mem_of_getElem? (i := 1920) (by decide +kernel), List.mem_of_getElem? (i := 1921) (by decide +kernel)⟩
theorem lw_p111 : lw_okq (⟨"AgingPortraitModel", "restsInRow", "(II)Z"⟩, 61) := ⟨⟨by decide +kernel, by decide +kernel⟩, List.mem_of_getElem? (i := 1331) (by decide +kernel), List.mem_of_getElem? (i := 1924) (by decide +kernel), List.mem_of_getElem? (i := 1925) (by decide +kernel)⟩
def lw_privs_7 : List (MethodName × Nat) := [(⟨"AgingPortraitModel", "isBarred", "(II)Z"⟩, 61), (⟨"AgingPortraitModel", "paintNow", "(I)I"⟩, 61), (⟨"AgingPortraitModel", "rests", "(II)Z"⟩, 61), (⟨"AgingPortraitModel", "layLooks", "(I)V"⟩, 61), (⟨"AgingPortraitModel", "loadPaper", "(II)V"⟩, 61), (⟨"AgingPortraitModel", "paintPaper", "(IIII)V"⟩, 61), (⟨"AgingPortraitModel", "painted", "(IIII)I"⟩, 61), (⟨"AgingPortraitModel", "unlikePaper", "(II)I"⟩, 61), (⟨"AgingPortraitModel", "isLayer", "(I)Z"⟩, 61), (⟨"AgingPortraitModel", "unlikeOf", "(I)I"⟩, 61), (⟨"AgingPortraitModel", "tooFarIn", "(I)I"⟩, 61), (⟨"AgingPortraitModel", "tooFar", "(II)I"⟩, 61), (⟨"AgingPortraitModel", "moneyBehind", "(I)I"⟩, 61), (⟨"AgingPortraitModel", "goThrough", "(II)V"⟩, 61), (⟨"AgingPortraitModel", "weigh", "(II)V"⟩, 61), (⟨"AgingPortraitModel", "restsInRow", "(II)Z"⟩, 61)]
theorem lw_r7 : ∀ q ∈ lw_privs_7, lw_okq q := List.forall_mem_cons.mpr ⟨lw_p96, List.forall_mem_cons.mpr ⟨lw_p97, List.forall_mem_cons.mpr ⟨lw_p98, List.forall_mem_cons.mpr ⟨lw_p99, List.forall_mem_cons.mpr ⟨lw_p100, List.forall_mem_cons.mpr ⟨lw_p101, List.forall_mem_cons.mpr ⟨lw_p102, List.forall_mem_cons.mpr ⟨lw_p103, List.forall_mem_cons.mpr ⟨lw_p104, List.forall_mem_cons.mpr ⟨lw_p105, List.forall_mem_cons.mpr ⟨lw_p106, List.forall_mem_cons.mpr ⟨lw_p107, List.forall_mem_cons.mpr ⟨lw_p108, List.forall_mem_cons.mpr ⟨lw_p109, List.forall_mem_cons.mpr ⟨lw_p110, List.forall_mem_cons.mpr ⟨lw_p111, fun _ h => absurd h List.not_mem_nil⟩⟩⟩⟩⟩⟩⟩⟩⟩⟩⟩⟩⟩⟩⟩⟩
theorem lw_p112 : lw_okq (⟨"AgingPortraitModel", "driftOf", "(II)I"⟩, 61) := ⟨⟨by decide +kernel, by decide +kernel⟩, List.mem_of_getElem? (i := 1331) (by decide +kernel), List.mem_of_getElem? (i := 1932) (by decide +kernel), List.mem_of_getElem? (i := 1933) (by decide +kernel)⟩
theorem lw_p113 : lw_okq (⟨"AgingPortraitModel", "isSame", "(II)Z"⟩, 61) := ⟨⟨by decide +kernel, by decide +kernel⟩, List.mem_of_getElem? (i := 1331) (by decide +kernel), List.mem_of_getElem? (i := 1943) (by decide +kernel), List.mem_of_getElem? (i := 1944) (by decide +kernel)⟩
theorem lw_p114 : lw_okq (⟨"AgingPortraitModel", "copyNow", "()I"⟩, 61) := ⟨⟨by decide +kernel, by decide +kernel⟩, List.mem_of_getElem? (i := 1331) (by decide +kernel), List.mem_of_getElem? (i := 1951) (by decide +kernel), List.mem_of_getElem? (i := 1952) (by decide +kernel)⟩
theorem lw_p115 : lw_okq (⟨"AgingPortraitModel", "isCopy", "(I)Z"⟩, 61) := ⟨⟨by decide +kernel, by decide +kernel⟩, List.mem_of_getElem? (i := 1331) (by decide +kernel), List.mem_of_getElem? (i := 1959) (by decide +kernel), List.mem_of_getElem? (i := 1960) (by decide +kernel)⟩
theorem lw_p116 : lw_okq (⟨"AgingPortraitModel", "nearOf", "(I)I"⟩, 61) := ⟨⟨by decide +kernel, by decide +kernel⟩, List.mem_of_getElem? (i := 1331) (by decide +kernel), List.mem_of_getElem? (i := 1971) (by decide +kernel), List.mem_of_getElem? (i := 1972) (by decide +kernel)⟩
theorem lw_p117 : lw_okq (⟨"AgingPortraitModel", "apart", "(II)I"⟩, 61) := ⟨⟨by decide +kernel, by decide +kernel⟩, List.mem_of_getElem? (i := 1331) (by decide +kernel), List.mem_of_getElem? (i := 1975) (by decide +kernel), List.mem_of_getElem? (i := 1976) (by decide +kernel)⟩
theorem lw_p118 : lw_okq (⟨"AgingPortraitModel", "pictureAt", "(I)I"⟩, 61) := ⟨⟨by decide +kernel, by decide +kernel⟩, List.mem_of_getElem? (i := 1331) (by decide +kernel), List.mem_of_getElem? (i := 1984) (by decide +kernel), List.mem_of_getElem? (i := 1985) (by decide +kernel)⟩
theorem lw_p119 : lw_okq (⟨"AgingPortraitModel", "findTree", "()V"⟩, 61) := ⟨⟨by decide +kernel, by decide +kernel⟩, List.mem_of_getElem? (i := 1331) (by decide +kernel), List.mem_of_getElem? (i := 1992) (by decide +kernel), List.mem_of_getElem? (i := 1993) (by decide +kernel)⟩
theorem lw_p120 : lw_okq (⟨"AgingPortraitModel", "isTree", "(I)Z"⟩, 61) := ⟨⟨by decide +kernel, by decide +kernel⟩, List.mem_of_getElem? (i := 1331) (by decide +kernel), List.mem_of_getElem? (i := 1996) (by decide +kernel), List.mem_of_getElem? (i := 1997) (by decide +kernel)⟩
theorem lw_p121 : lw_okq (⟨"AgingPortraitModel", "findDepths", "()V"⟩, 61) := ⟨⟨by decide +kernel, by decide +kernel⟩, List.mem_of_getElem? (i := 1331) (by decide +kernel), List.mem_of_getElem? (i := 2012) (by decide +kernel), List.mem_of_getElem? (i := 2013) (by decide +kernel)⟩
theorem lw_p122 : lw_okq (⟨"AgingPortraitModel", "worst", "(II)I"⟩, 61) := ⟨⟨by decide +kernel, by decide +kernel⟩, List.mem_of_getElem? (i := 1331) (by decide +kernel), List.mem_of_getElem? (i := 2016) (by decide +kernel), List.mem_of_getElem? (i := 2017) (by decide +kernel)⟩
theorem lw_p123 : lw_okq (⟨"AgingPortraitModel", "whoOf", "(I)I"⟩, 61) := ⟨⟨by decide +kernel, by decide +kernel⟩, List.mem_of_getElem? (i := 1331) (by decide +kernel), List.mem_of_getElem? (i := 2024) (by decide +kernel), List.mem_of_getElem? (i := 2025) (by decide +kernel)⟩
theorem lw_p124 : lw_okq (⟨"AgingPortraitModel", "layAll", "()V"⟩, 61) := ⟨⟨by decide +kernel, by decide +kernel⟩, List.mem_of_getElem? (i := 1331) (by decide +kernel), List.mem_of_getElem? (i := 2044) (by decide +kernel), List.mem_of_getElem? (i := 2045) (by decide +kernel)⟩
theorem lw_p125 : lw_okq (⟨"AgingPortraitModel", "wasOf", "(I)I"⟩, 61) := ⟨⟨by decide +kernel, by decide +kernel⟩, List.mem_of_getElem? (i := 1331) (by decide +kernel), List.mem_of_getElem? (i := 2048) (by decide +kernel), List.mem_of_getElem? (i := 2049) (by decide +kernel)⟩
theorem lw_p126 : lw_okq (⟨"AgingPortraitModel", "isClaimant", "(I)Z"⟩, 61) := ⟨⟨by decide +kernel, by decide +kernel⟩, List.mem_of_getElem? (i := 1331) (by decide +kernel), List.mem_of_getElem? (i := 2060) (by decide +kernel), List.mem_of_getElem? (i := 2061) (by decide +kernel)⟩
theorem lw_p127 : lw_okq (⟨"AgingPortraitModel", "ofClaimant", "(II)I"⟩, 61) := ⟨⟨by decide +kernel, by decide +kernel⟩, List.mem_of_getElem? (i := 1331) (by decide +kernel), List.mem_of_getElem? (i := 2069) (by decide +kernel), List.mem_of_getElem? (i := 2070) (by decide +kernel)⟩
def lw_privs_8 : List (MethodName × Nat) := [(⟨"AgingPortraitModel", "driftOf", "(II)I"⟩, 61), (⟨"AgingPortraitModel", "isSame", "(II)Z"⟩, 61), (⟨"AgingPortraitModel", "copyNow", "()I"⟩, 61), (⟨"AgingPortraitModel", "isCopy", "(I)Z"⟩, 61), (⟨"AgingPortraitModel", "nearOf", "(I)I"⟩, 61), (⟨"AgingPortraitModel", "apart", "(II)I"⟩, 61), (⟨"AgingPortraitModel", "pictureAt", "(I)I"⟩, 61), (⟨"AgingPortraitModel", "findTree", "()V"⟩, 61), (⟨"AgingPortraitModel", "isTree", "(I)Z"⟩, 61), (⟨"AgingPortraitModel", "findDepths", "()V"⟩, 61), (⟨"AgingPortraitModel", "worst", "(II)I"⟩, 61), (⟨"AgingPortraitModel", "whoOf", "(I)I"⟩, 61), (⟨"AgingPortraitModel", "layAll", "()V"⟩, 61), (⟨"AgingPortraitModel", "wasOf", "(I)I"⟩, 61), (⟨"AgingPortraitModel", "isClaimant", "(I)Z"⟩, 61), (⟨"AgingPortraitModel", "ofClaimant", "(II)I"⟩, 61)]
theorem lw_r8 : ∀ q ∈ lw_privs_8, lw_okq q := List.forall_mem_cons.mpr ⟨lw_p112, List.forall_mem_cons.mpr ⟨lw_p113, List.forall_mem_cons.mpr ⟨lw_p114, List.forall_mem_cons.mpr ⟨lw_p115, List.forall_mem_cons.mpr ⟨lw_p116, List.forall_mem_cons.mpr ⟨lw_p117, List.forall_mem_cons.mpr ⟨lw_p118, List.forall_mem_cons.mpr ⟨lw_p119, List.forall_mem_cons.mpr ⟨lw_p120, List.forall_mem_cons.mpr ⟨lw_p121, List.forall_mem_cons.mpr ⟨lw_p122, List.forall_mem_cons.mpr ⟨lw_p123, List.forall_mem_cons.mpr ⟨lw_p124, List.forall_mem_cons.mpr ⟨lw_p125, List.forall_mem_cons.mpr ⟨lw_p126, List.forall_mem_cons.mpr ⟨lw_p127, fun _ h => absurd h List.not_mem_nil⟩⟩⟩⟩⟩⟩⟩⟩⟩⟩⟩⟩⟩⟩⟩⟩
theorem lw_p128 : lw_okq (⟨"AgingPortraitModel", "isAlive", "(II)Z"⟩, 61) := ⟨⟨by decide +kernel, by decide +kernel⟩, List.mem_of_getElem? (i := 1331) (by decide +kernel), List.mem_of_getElem? (i := 2081) (by decide +kernel), List.mem_of_getElem? (i := 2082) (by decide +kernel)⟩
theorem lw_p129 : lw_okq (⟨"AgingPortraitModel", "ranks", "(II)I"⟩, 61) := ⟨⟨by decide +kernel, by decide +kernel⟩, List.mem_of_getElem? (i := 1331) (by decide +kernel), List.mem_of_getElem? (i := 2085) (by decide +kernel), List.mem_of_getElem? (i := 2086) (by decide +kernel)⟩
theorem lw_p130 : lw_okq (⟨"AgingPortraitModel", "setClaimant", "(II)V"⟩, 61) := ⟨⟨by decide +kernel, by decide +kernel⟩, List.mem_of_getElem? (i := 1331) (by decide +kernel), List.mem_of_getElem? (i := 2089) (by decide +kernel), List.mem_of_getElem? (i := 2090) (by decide +kernel)⟩
theorem lw_p131 : lw_okq (⟨"AgingPortraitModel", "childrenOf", "(II)I"⟩, 61) := ⟨⟨by decide +kernel, by decide +kernel⟩, List.mem_of_getElem? (i := 1331) (by decide +kernel), List.mem_of_getElem? (i := 2093) (by decide +kernel), List.mem_of_getElem? (i := 2094) (by decide +kernel)⟩
theorem lw_p132 : lw_okq (⟨"AgingPortraitModel", "isOut", "(II)Z"⟩, 61) := ⟨⟨by decide +kernel, by decide +kernel⟩, List.mem_of_getElem? (i := 1331) (by decide +kernel), List.mem_of_getElem? (i := 2097) (by decide +kernel), List.mem_of_getElem? (i := 2098) (by decide +kernel)⟩
theorem lw_p133 : lw_okq (⟨"AgingPortraitModel", "findRulers", "()V"⟩, 61) := ⟨⟨by decide +kernel, by decide +kernel⟩, List.mem_of_getElem? (i := 1331) (by decide +kernel), List.mem_of_getElem? (i := 2105) (by decide +kernel), List.mem_of_getElem? (i := 2106) (by decide +kernel)⟩
theorem lw_p134 : lw_okq (⟨"AgingPortraitModel", "readOrder", "()V"⟩, 61) := ⟨⟨by decide +kernel, by decide +kernel⟩, List.mem_of_getElem? (i := 1331) (by decide +kernel), List.mem_of_getElem? (i := 2125) (by decide +kernel), List.mem_of_getElem? (i := 2126) (by decide +kernel)⟩
theorem lw_p135 : lw_okq (⟨"AgingPortraitModel", "readHead", "()I"⟩, 61) := ⟨⟨by decide +kernel, by decide +kernel⟩, List.mem_of_getElem? (i := 1331) (by decide +kernel), List.mem_of_getElem? (i := 2129) (by decide +kernel), List.mem_of_getElem? (i := 2130) (by decide +kernel)⟩
theorem lw_p136 : lw_okq (⟨"AgingPortraitModel", "readSum", "(I)V"⟩, 61) := ⟨⟨by decide +kernel, by decide +kernel⟩, List.mem_of_getElem? (i := 1331) (by decide +kernel), List.mem_of_getElem? (i := 2140) (by decide +kernel), List.mem_of_getElem? (i := 2141) (by decide +kernel)⟩
theorem lw_p137 : lw_okq (⟨"AgingPortraitModel", "run", "(I)I"⟩, 61) := ⟨⟨by decide +kernel, by decide +kernel⟩, List.mem_of_getElem? (i := 1331) (by decide +kernel), List.mem_of_getElem? (i := 2147) (by decide +kernel), List.mem_of_getElem? (i := 2148) (by decide +kernel)⟩
theorem lw_p138 : lw_okq (⟨"AgingPortraitModel", "setNow", "()V"⟩, 61) := ⟨⟨by decide +kernel, by decide +kernel⟩, List.mem_of_getElem? (i := 1331) (by decide +kernel), List.mem_of_getElem? (i := 2151) (by decide +kernel), List.mem_of_getElem? (i := 2152) (by decide +kernel)⟩
theorem lw_p139 : lw_okq (⟨"AgingPortraitModel", "sumOf", "(I)J"⟩, 61) := ⟨⟨by decide +kernel, by decide +kernel⟩, List.mem_of_getElem? (i := 1331) (by decide +kernel), List.mem_of_getElem? (i := 2155) (by decide +kernel), List.mem_of_getElem? (i := 2156) (by decide +kernel)⟩
theorem lw_p140 : lw_okq (⟨"AgingPortraitModel", "act", "(II)I"⟩, 61) := ⟨⟨by decide +kernel, by decide +kernel⟩, List.mem_of_getElem? (i := 1331) (by decide +kernel), List.mem_of_getElem? (i := 2159) (by decide +kernel), List.mem_of_getElem? (i := 2160) (by decide +kernel)⟩
theorem lw_p141 : lw_okq (⟨"AgingPortraitModel", "touchNow", "(I)I"⟩, 61) := ⟨⟨by decide +kernel, by decide +kernel⟩, List.mem_of_getElem? (i := 1331) (by decide +kernel), List.mem_of_getElem? (i := 2163) (by decide +kernel), List.mem_of_getElem? (i := 2164) (by decide +kernel)⟩
theorem lw_p142 : lw_okq (⟨"AgingPortraitModel", "draw", "(I)I"⟩, 61) := ⟨⟨by decide +kernel, by decide +kernel⟩, List.mem_of_getElem? (i := 1331) (by decide +kernel), List.mem_of_getElem? (i := 2176) (by decide +kernel), List.mem_of_getElem? (i := 2177) (by decide +kernel)⟩
def lw_privs_9 : List (MethodName × Nat) := [(⟨"AgingPortraitModel", "isAlive", "(II)Z"⟩, 61), (⟨"AgingPortraitModel", "ranks", "(II)I"⟩, 61), (⟨"AgingPortraitModel", "setClaimant", "(II)V"⟩, 61), (⟨"AgingPortraitModel", "childrenOf", "(II)I"⟩, 61), (⟨"AgingPortraitModel", "isOut", "(II)Z"⟩, 61), (⟨"AgingPortraitModel", "findRulers", "()V"⟩, 61), (⟨"AgingPortraitModel", "readOrder", "()V"⟩, 61), (⟨"AgingPortraitModel", "readHead", "()I"⟩, 61), (⟨"AgingPortraitModel", "readSum", "(I)V"⟩, 61), (⟨"AgingPortraitModel", "run", "(I)I"⟩, 61), (⟨"AgingPortraitModel", "setNow", "()V"⟩, 61), (⟨"AgingPortraitModel", "sumOf", "(I)J"⟩, 61), (⟨"AgingPortraitModel", "act", "(II)I"⟩, 61), (⟨"AgingPortraitModel", "touchNow", "(I)I"⟩, 61), (⟨"AgingPortraitModel", "draw", "(I)I"⟩, 61)]
theorem lw_r9 : ∀ q ∈ lw_privs_9, lw_okq q := List.forall_mem_cons.mpr ⟨lw_p128, List.forall_mem_cons.mpr ⟨lw_p129, List.forall_mem_cons.mpr ⟨lw_p130, List.forall_mem_cons.mpr ⟨lw_p131, List.forall_mem_cons.mpr ⟨lw_p132, List.forall_mem_cons.mpr ⟨lw_p133, List.forall_mem_cons.mpr ⟨lw_p134, List.forall_mem_cons.mpr ⟨lw_p135, List.forall_mem_cons.mpr ⟨lw_p136, List.forall_mem_cons.mpr ⟨lw_p137, List.forall_mem_cons.mpr ⟨lw_p138, List.forall_mem_cons.mpr ⟨lw_p139, List.forall_mem_cons.mpr ⟨lw_p140, List.forall_mem_cons.mpr ⟨lw_p141, List.forall_mem_cons.mpr ⟨lw_p142, fun _ h => absurd h List.not_mem_nil⟩⟩⟩⟩⟩⟩⟩⟩⟩⟩⟩⟩⟩⟩⟩
def lw_privs : List (MethodName × Nat) := lw_privs_1 ++ (lw_privs_2 ++ (lw_privs_3 ++ (lw_privs_4 ++ (lw_privs_5 ++ (lw_privs_6 ++ (lw_privs_7 ++ (lw_privs_8 ++ (lw_privs_9))))))))
def lw_tbl : List Cond := k2_sels lw_privs ++ tables_1
theorem lw_privs_ok : ∀ q ∈ lw_privs, lw_okq q := by
  show ∀ q ∈ lw_privs_1 ++ (lw_privs_2 ++ (lw_privs_3 ++ (lw_privs_4 ++ (lw_privs_5 ++ (lw_privs_6 ++ (lw_privs_7 ++ (lw_privs_8 ++ (lw_privs_9)))))))), lw_okq q
  exact List.forall_mem_append.mpr ⟨lw_r1, List.forall_mem_append.mpr ⟨lw_r2, List.forall_mem_append.mpr ⟨lw_r3, List.forall_mem_append.mpr ⟨lw_r4, List.forall_mem_append.mpr ⟨lw_r5, List.forall_mem_append.mpr ⟨lw_r6, List.forall_mem_append.mpr ⟨lw_r7, List.forall_mem_append.mpr ⟨lw_r8, lw_r9⟩⟩⟩⟩⟩⟩⟩⟩
/-! ===== BEGIN words of one list among another's, by their places ===== -/
theorem goodIn_r {big : List Cond} (ws : List Cond) (ps : List Nat) (hp : ws = ps.filterMap (fun i => big[i]?)) (h : ws.all goodWord = true) : GoodIn big ws := by
  intro w hw
  have h1 := List.all_eq_true.mp h w hw
  rw [hp] at hw
  obtain ⟨i, -, hi⟩ := List.mem_filterMap.mp hw
  have hm : w ∈ big := by first | exact List.mem_of_getElem? hi | exact List.getElem?_mem hi
  exact ⟨hm, good_of_word h1⟩
theorem goodIn_app {big a b : List Cond} (ha : GoodIn big a) (hb : GoodIn big b) : GoodIn big (a ++ b) := fun w h => (List.mem_append.mp h).elim (ha w) (hb w)
theorem goodIn_ca {big a b : List Cond} {c : Cond} (ha : GoodIn big (c :: a)) (hb : GoodIn big b) : GoodIn big (c :: (a ++ b)) := fun w h => (List.mem_cons.mp h).elim (fun e => ha w (List.mem_cons.mpr (Or.inl e))) (fun h => (List.mem_append.mp h).elim (fun h => ha w (List.mem_cons.mpr (Or.inr h))) (hb w))
theorem goodIn_sub {big ws : List Cond} (hm : ∀ w ∈ ws, w ∈ big) (h : ws.all goodWord = true) : GoodIn big ws := fun w hw => ⟨hm w hw, good_of_word (List.all_eq_true.mp h w hw)⟩
/-! ===== END ===== -/

/-! ===== BEGIN printed: names, fields, word lists, decode rows ===== -/
def RX0 : String := "AgingPortrait$Century"
def TX0 : u_T := fun k => match k with
  | 0 => ("AgingPortrait$Century", "now", "LAgingPortrait$State;", true)
  | 1 => ("AgingPortrait$Century", "judge", "LAgingPortrait$Judge;", true)
  | 2 => ("AgingPortrait$Century", "seed", "I", false)
  | 3 => ("AgingPortrait$Century", "painters", "I", false)
  | 4 => ("AgingPortrait$Century", "painted", "[I", true)
  | 5 => ("AgingPortrait$Century", "picture", "[I", true)
  | 6 => ("AgingPortrait$Century", "unlikeInTheEnd", "I", false)
  | _ => ("AgingPortrait$Century", "passed", "Z", false)
def tyX0 : Nat → FieldType := fun k => match k with
  | 0 => .object "AgingPortrait$State"
  | 1 => .object "AgingPortrait$Judge"
  | 2 => .int
  | 3 => .int
  | 4 => .array .int
  | 5 => .array .int
  | 6 => .int
  | _ => .boolean
abbrev wsX00 : List Cond := u_ws RX0 TX0 8
theorem nmX0 : ∀ a, a < 8 → ∀ b, b < 8 → a ≠ b → (TX0 a).2.1 ≠ (TX0 b).2.1 := by decide +kernel
theorem tyX0_ok : ∀ k, k < 8 → parseFieldDescriptor (TX0 k).2.2.1 = some (tyX0 k) := by decide +kernel
abbrev cX0_init : ByteArray := prog_2_method_1_code
def yX0_init : MethodName := ⟨RX0, "<init>", "(LAgingPortrait$State;LAgingPortrait$Judge;)V"⟩
abbrev cX0_pass : ByteArray := prog_2_method_2_code
def yX0_pass : MethodName := ⟨RX0, "pass", "(II)V"⟩
abbrev cX0_yearsOf : ByteArray := prog_2_method_3_code
def yX0_yearsOf : MethodName := ⟨RX0, "yearsOf", "(I)I"⟩
abbrev cX0_paintOne : ByteArray := prog_2_method_4_code
def yX0_paintOne : MethodName := ⟨RX0, "paintOne", "(I)V"⟩
abbrev cX0_draw : ByteArray := prog_2_method_5_code
def yX0_draw : MethodName := ⟨RX0, "draw", "(I)I"⟩
def RX1 : String := "AgingPortrait$Clerk"
def TX1 : u_T := fun k => match k with
  | 0 => ("AgingPortrait$Clerk", "now", "LAgingPortrait$State;", true)
  | 1 => ("AgingPortrait$Clerk", "before", "LAgingPortrait$State;", true)
  | 2 => ("AgingPortrait$Clerk", "judge", "LAgingPortrait$Judge;", true)
  | 3 => ("AgingPortrait$Clerk", "studio", "LAgingPortrait$Studio;", true)
  | 4 => ("AgingPortrait$Clerk", "planner", "LAgingPortrait$Planner;", true)
  | 5 => ("AgingPortrait$Clerk", "engine", "LAgingPortrait$Engine;", true)
  | 6 => ("AgingPortrait$Clerk", "words", "[I", true)
  | 7 => ("AgingPortrait$Clerk", "sums", "[I", true)
  | 8 => ("AgingPortrait$Clerk", "order", "I", false)
  | _ => ("AgingPortrait$Clerk", "done", "I", false)
def tyX1 : Nat → FieldType := fun k => match k with
  | 0 => .object "AgingPortrait$State"
  | 1 => .object "AgingPortrait$State"
  | 2 => .object "AgingPortrait$Judge"
  | 3 => .object "AgingPortrait$Studio"
  | 4 => .object "AgingPortrait$Planner"
  | 5 => .object "AgingPortrait$Engine"
  | 6 => .array .int
  | 7 => .array .int
  | 8 => .int
  | _ => .int
abbrev wsX10 : List Cond := u_ws RX1 TX1 10
theorem nmX1 : ∀ a, a < 10 → ∀ b, b < 10 → a ≠ b → (TX1 a).2.1 ≠ (TX1 b).2.1 := by decide +kernel
theorem tyX1_ok : ∀ k, k < 10 → parseFieldDescriptor (TX1 k).2.2.1 = some (tyX1 k) := by decide +kernel
abbrev cX1_init : ByteArray := prog_3_method_1_code
def yX1_init : MethodName := ⟨RX1, "<init>", "(LAgingPortrait$State;LAgingPortrait$Judge;LAgingPortrait$Studio;LAgingPortrait$Planner;)V"⟩
abbrev cX1_runAll : ByteArray := prog_3_method_2_code
def yX1_runAll : MethodName := ⟨RX1, "runAll", "(LAgingPortrait$Text;)I"⟩
abbrev cX1_learnWords : ByteArray := prog_3_method_3_code
def yX1_learnWords : MethodName := ⟨RX1, "learnWords", "(I)V"⟩
abbrev cX1_isWanted : ByteArray := prog_3_method_4_code
def yX1_isWanted : MethodName := ⟨RX1, "isWanted", "(LAgingPortrait$Text;I)Z"⟩
abbrev cX1_sumsWork : ByteArray := prog_3_method_5_code
def yX1_sumsWork : MethodName := ⟨RX1, "sumsWork", "(LAgingPortrait$Text;I)Z"⟩
abbrev cX1_paints : ByteArray := prog_3_method_6_code
def yX1_paints : MethodName := ⟨RX1, "paints", "(I)I"⟩
abbrev cX1_changes : ByteArray := prog_3_method_7_code
def yX1_changes : MethodName := ⟨RX1, "changes", "(I)I"⟩
def RX2 : String := "AgingPortrait$Court"
def TX2 : u_T := fun k => match k with
  | 0 => ("AgingPortrait$Court", "now", "LAgingPortrait$State;", true)
  | 1 => ("AgingPortrait$Court", "judge", "LAgingPortrait$Judge;", true)
  | 2 => ("AgingPortrait$Court", "ranks", "[I", true)
  | 3 => ("AgingPortrait$Court", "ruling", "[I", true)
  | 4 => ("AgingPortrait$Court", "queue", "[I", true)
  | _ => ("AgingPortrait$Court", "standing", "I", false)
def tyX2 : Nat → FieldType := fun k => match k with
  | 0 => .object "AgingPortrait$State"
  | 1 => .object "AgingPortrait$Judge"
  | 2 => .array .int
  | 3 => .array .int
  | 4 => .array .int
  | _ => .int
abbrev wsX20 : List Cond := u_ws RX2 TX2 6
theorem nmX2 : ∀ a, a < 6 → ∀ b, b < 6 → a ≠ b → (TX2 a).2.1 ≠ (TX2 b).2.1 := by decide +kernel
theorem tyX2_ok : ∀ k, k < 6 → parseFieldDescriptor (TX2 k).2.2.1 = some (tyX2 k) := by decide +kernel
abbrev cX2_init : ByteArray := prog_4_method_1_code
def yX2_init : MethodName := ⟨RX2, "<init>", "(LAgingPortrait$State;LAgingPortrait$Judge;)V"⟩
abbrev cX2_crownTill : ByteArray := prog_4_method_2_code
def yX2_crownTill : MethodName := ⟨RX2, "crownTill", "(I)V"⟩
abbrev cX2_reigns : ByteArray := prog_4_method_3_code
def yX2_reigns : MethodName := ⟨RX2, "reigns", "()I"⟩
abbrev cX2_reignOf : ByteArray := prog_4_method_4_code
def yX2_reignOf : MethodName := ⟨RX2, "reignOf", "(II)I"⟩
abbrev cX2_standInLine : ByteArray := prog_4_method_5_code
def yX2_standInLine : MethodName := ⟨RX2, "standInLine", "(I)V"⟩
abbrev cX2_begins : ByteArray := prog_4_method_6_code
def yX2_begins : MethodName := ⟨RX2, "begins", "(I)Z"⟩
abbrev cX2_lasts : ByteArray := prog_4_method_7_code
def yX2_lasts : MethodName := ⟨RX2, "lasts", "(I)I"⟩
def RX3 : String := "AgingPortrait$Engine"
def TX3 : u_T := fun k => match k with
  | 0 => ("AgingPortrait$Engine", "stack", "[I", true)
  | 1 => ("AgingPortrait$Engine", "height", "I", false)
  | _ => ("AgingPortrait$Engine", "result", "I", false)
def tyX3 : Nat → FieldType := fun k => match k with
  | 0 => .array .int
  | 1 => .int
  | _ => .int
abbrev wsX30 : List Cond := u_ws RX3 TX3 3
theorem nmX3 : ∀ a, a < 3 → ∀ b, b < 3 → a ≠ b → (TX3 a).2.1 ≠ (TX3 b).2.1 := by decide +kernel
theorem tyX3_ok : ∀ k, k < 3 → parseFieldDescriptor (TX3 k).2.2.1 = some (tyX3 k) := by decide +kernel
abbrev cX3_init : ByteArray := prog_5_method_1_code
def yX3_init : MethodName := ⟨RX3, "<init>", "()V"⟩
abbrev cX3_works : ByteArray := prog_5_method_2_code
def yX3_works : MethodName := ⟨RX3, "works", "(LAgingPortrait$Text;I[I)Z"⟩
abbrev cX3_joins : ByteArray := prog_5_method_3_code
def yX3_joins : MethodName := ⟨RX3, "joins", "(I)Z"⟩
def RX4 : String := "AgingPortrait$Judge"
def TX4 : u_T := fun k => match k with
  | 0 => ("AgingPortrait$Judge", "now", "LAgingPortrait$State;", true)
  | 1 => ("AgingPortrait$Judge", "engine", "LAgingPortrait$Engine;", true)
  | 2 => ("AgingPortrait$Judge", "words", "[I", true)
  | _ => ("AgingPortrait$Judge", "told", "I", false)
def tyX4 : Nat → FieldType := fun k => match k with
  | 0 => .object "AgingPortrait$State"
  | 1 => .object "AgingPortrait$Engine"
  | 2 => .array .int
  | _ => .int
abbrev wsX40 : List Cond := u_ws RX4 TX4 4
theorem nmX4 : ∀ a, a < 4 → ∀ b, b < 4 → a ≠ b → (TX4 a).2.1 ≠ (TX4 b).2.1 := by decide +kernel
theorem tyX4_ok : ∀ k, k < 4 → parseFieldDescriptor (TX4 k).2.2.1 = some (tyX4 k) := by decide +kernel
abbrev cX4_init : ByteArray := prog_6_method_1_code
def yX4_init : MethodName := ⟨RX4, "<init>", "(LAgingPortrait$State;)V"⟩
abbrev cX4_looksOf : ByteArray := prog_6_method_2_code
def yX4_looksOf : MethodName := ⟨RX4, "looksOf", "(II)I"⟩
abbrev cX4_letsOf : ByteArray := prog_6_method_3_code
def yX4_letsOf : MethodName := ⟨RX4, "letsOf", "(II)I"⟩
abbrev cX4_asksOf : ByteArray := prog_6_method_4_code
def yX4_asksOf : MethodName := ⟨RX4, "asksOf", "(II)I"⟩
abbrev cX4_barsPainter : ByteArray := prog_6_method_5_code
def yX4_barsPainter : MethodName := ⟨RX4, "barsPainter", "(II)Z"⟩
abbrev cX4_ranksOf : ByteArray := prog_6_method_6_code
def yX4_ranksOf : MethodName := ⟨RX4, "ranksOf", "(II)I"⟩
abbrev cX4_barsClaimant : ByteArray := prog_6_method_7_code
def yX4_barsClaimant : MethodName := ⟨RX4, "barsClaimant", "(II)Z"⟩
abbrev cX4_scarOn : ByteArray := prog_6_method_8_code
def yX4_scarOn : MethodName := ⟨RX4, "scarOn", "(II)I"⟩
abbrev cX4_ask : ByteArray := prog_6_method_9_code
def yX4_ask : MethodName := ⟨RX4, "ask", "(I)V"⟩
abbrev cX4_askPainter : ByteArray := prog_6_method_10_code
def yX4_askPainter : MethodName := ⟨RX4, "askPainter", "(II)V"⟩
abbrev cX4_askClaimant : ByteArray := prog_6_method_11_code
def yX4_askClaimant : MethodName := ⟨RX4, "askClaimant", "(II)V"⟩
abbrev cX4_tells : ByteArray := prog_6_method_12_code
def yX4_tells : MethodName := ⟨RX4, "tells", "(I)Z"⟩
def RX5 : String := "AgingPortrait$Planner"
def TX5 : u_T := fun k => match k with
  | 0 => ("AgingPortrait$Planner", "now", "LAgingPortrait$State;", true)
  | 1 => ("AgingPortrait$Planner", "judge", "LAgingPortrait$Judge;", true)
  | 2 => ("AgingPortrait$Planner", "aims", "[I", true)
  | 3 => ("AgingPortrait$Planner", "lets", "[I", true)
  | 4 => ("AgingPortrait$Planner", "asked", "[I", true)
  | 5 => ("AgingPortrait$Planner", "barred", "[Z", true)
  | 6 => ("AgingPortrait$Planner", "pictures", "[I", true)
  | 7 => ("AgingPortrait$Planner", "row", "[I", true)
  | 8 => ("AgingPortrait$Planner", "by", "I", false)
  | 9 => ("AgingPortrait$Planner", "length", "I", false)
  | 10 => ("AgingPortrait$Planner", "money", "I", false)
  | 11 => ("AgingPortrait$Planner", "best", "[I", true)
  | 12 => ("AgingPortrait$Planner", "leastUnlike", "I", false)
  | 13 => ("AgingPortrait$Planner", "leastAsked", "I", false)
  | _ => ("AgingPortrait$Planner", "rows", "I", false)
def tyX5 : Nat → FieldType := fun k => match k with
  | 0 => .object "AgingPortrait$State"
  | 1 => .object "AgingPortrait$Judge"
  | 2 => .array .int
  | 3 => .array .int
  | 4 => .array .int
  | 5 => .array .boolean
  | 6 => .array .int
  | 7 => .array .int
  | 8 => .int
  | 9 => .int
  | 10 => .int
  | 11 => .array .int
  | 12 => .int
  | 13 => .int
  | _ => .int
abbrev wsX50 : List Cond := u_ws RX5 TX5 15
theorem nmX5 : ∀ a, a < 15 → ∀ b, b < 15 → a ≠ b → (TX5 a).2.1 ≠ (TX5 b).2.1 := by decide +kernel
theorem tyX5_ok : ∀ k, k < 15 → parseFieldDescriptor (TX5 k).2.2.1 = some (tyX5 k) := by decide +kernel
abbrev cX5_init : ByteArray := prog_7_method_1_code
def yX5_init : MethodName := ⟨RX5, "<init>", "(LAgingPortrait$State;LAgingPortrait$Judge;)V"⟩
abbrev cX5_seek : ByteArray := prog_7_method_2_code
def yX5_seek : MethodName := ⟨RX5, "seek", "(II)V"⟩
abbrev cX5_walk : ByteArray := prog_7_method_3_code
def yX5_walk : MethodName := ⟨RX5, "walk", "(LAgingPortrait$Planner;II)V"⟩
abbrev cX5_mayPaint : ByteArray := prog_7_method_4_code
def yX5_mayPaint : MethodName := ⟨RX5, "mayPaint", "(II)Z"⟩
abbrev cX5_paintOver : ByteArray := prog_7_method_5_code
def yX5_paintOver : MethodName := ⟨RX5, "paintOver", "(II)V"⟩
abbrev cX5_isGood : ByteArray := prog_7_method_6_code
def yX5_isGood : MethodName := ⟨RX5, "isGood", "(II)Z"⟩
abbrev cX5_weigh : ByteArray := prog_7_method_7_code
def yX5_weigh : MethodName := ⟨RX5, "weigh", "(I)V"⟩
abbrev cX5_isBetter : ByteArray := prog_7_method_8_code
def yX5_isBetter : MethodName := ⟨RX5, "isBetter", "(II)Z"⟩
def RX6 : String := "AgingPortrait$Reader"
def TX6 : u_T := fun k => match k with
  | 0 => ("AgingPortrait$Reader", "tape", "[I", true)
  | 1 => ("AgingPortrait$Reader", "length", "I", false)
  | 2 => ("AgingPortrait$Reader", "into", "LAgingPortrait$Text;", true)
  | 3 => ("AgingPortrait$Reader", "isOrders", "Z", false)
  | 4 => ("AgingPortrait$Reader", "kind", "I", false)
  | 5 => ("AgingPortrait$Reader", "start", "I", false)
  | 6 => ("AgingPortrait$Reader", "stop", "I", false)
  | 7 => ("AgingPortrait$Reader", "number", "I", false)
  | _ => ("AgingPortrait$Reader", "parts", "I", false)
def tyX6 : Nat → FieldType := fun k => match k with
  | 0 => .array .int
  | 1 => .int
  | 2 => .object "AgingPortrait$Text"
  | 3 => .boolean
  | 4 => .int
  | 5 => .int
  | 6 => .int
  | 7 => .int
  | _ => .int
abbrev wsX60 : List Cond := u_ws RX6 TX6 9
theorem nmX6 : ∀ a, a < 9 → ∀ b, b < 9 → a ≠ b → (TX6 a).2.1 ≠ (TX6 b).2.1 := by decide +kernel
theorem tyX6_ok : ∀ k, k < 9 → parseFieldDescriptor (TX6 k).2.2.1 = some (tyX6 k) := by decide +kernel
abbrev cX6_init : ByteArray := prog_8_method_1_code
def yX6_init : MethodName := ⟨RX6, "<init>", "([ILAgingPortrait$Text;)V"⟩
abbrev cX6_faultIn : ByteArray := prog_8_method_2_code
def yX6_faultIn : MethodName := ⟨RX6, "faultIn", "(IZ)I"⟩
abbrev cX6_clearRow : ByteArray := prog_8_method_3_code
def yX6_clearRow : MethodName := ⟨RX6, "clearRow", "(I)V"⟩
abbrev cX6_readClause : ByteArray := prog_8_method_4_code
def yX6_readClause : MethodName := ⟨RX6, "readClause", "(I)Z"⟩
abbrev cX6_readOrder : ByteArray := prog_8_method_5_code
def yX6_readOrder : MethodName := ⟨RX6, "readOrder", "(I)Z"⟩
abbrev cX6_readTimes : ByteArray := prog_8_method_6_code
def yX6_readTimes : MethodName := ⟨RX6, "readTimes", "(I)Z"⟩
abbrev cX6_readIf : ByteArray := prog_8_method_7_code
def yX6_readIf : MethodName := ⟨RX6, "readIf", "(I)Z"⟩
abbrev cX6_readSumOf : ByteArray := prog_8_method_8_code
def yX6_readSumOf : MethodName := ⟨RX6, "readSumOf", "(II)Z"⟩
abbrev cX6_readTest : ByteArray := prog_8_method_9_code
def yX6_readTest : MethodName := ⟨RX6, "readTest", "(I)Z"⟩
abbrev cX6_readBoth : ByteArray := prog_8_method_10_code
def yX6_readBoth : MethodName := ⟨RX6, "readBoth", "(I)Z"⟩
abbrev cX6_readPlain : ByteArray := prog_8_method_11_code
def yX6_readPlain : MethodName := ⟨RX6, "readPlain", "(I)Z"⟩
abbrev cX6_readSum : ByteArray := prog_8_method_12_code
def yX6_readSum : MethodName := ⟨RX6, "readSum", "(I)Z"⟩
abbrev cX6_readTerm : ByteArray := prog_8_method_13_code
def yX6_readTerm : MethodName := ⟨RX6, "readTerm", "(I)Z"⟩
abbrev cX6_readPart : ByteArray := prog_8_method_14_code
def yX6_readPart : MethodName := ⟨RX6, "readPart", "(I)Z"⟩
abbrev cX6_opens : ByteArray := prog_8_method_15_code
def yX6_opens : MethodName := ⟨RX6, "opens", "(I)Z"⟩
abbrev cX6_isSign : ByteArray := prog_8_method_16_code
def yX6_isSign : MethodName := ⟨RX6, "isSign", "(C)Z"⟩
abbrev cX6_takes : ByteArray := prog_8_method_17_code
def yX6_takes : MethodName := ⟨RX6, "takes", "(C)Z"⟩
abbrev cX6_takesWord : ByteArray := prog_8_method_18_code
def yX6_takesWord : MethodName := ⟨RX6, "takesWord", "(Ljava/lang/String;)Z"⟩
abbrev cX6_placeIn : ByteArray := prog_8_method_19_code
def yX6_placeIn : MethodName := ⟨RX6, "placeIn", "(Ljava/lang/String;)I"⟩
abbrev cX6_isSame : ByteArray := prog_8_method_20_code
def yX6_isSame : MethodName := ⟨RX6, "isSame", "(Ljava/lang/String;II)Z"⟩
abbrev cX6_next : ByteArray := prog_8_method_21_code
def yX6_next : MethodName := ⟨RX6, "next", "()V"⟩
abbrev cX6_kindOf : ByteArray := prog_8_method_22_code
def yX6_kindOf : MethodName := ⟨RX6, "kindOf", "(I)I"⟩
def RX7 : String := "AgingPortrait$State"
def TX7 : u_T := fun k => match k with
  | 0 => ("AgingPortrait$State", "painters", "I", false)
  | 1 => ("AgingPortrait$State", "facts", "[I", true)
  | 2 => ("AgingPortrait$State", "scars", "I", false)
  | 3 => ("AgingPortrait$State", "marks", "[I", true)
  | 4 => ("AgingPortrait$State", "terms", "[I", true)
  | 5 => ("AgingPortrait$State", "laws", "I", false)
  | 6 => ("AgingPortrait$State", "texts", "[LAgingPortrait$Text;", true)
  | 7 => ("AgingPortrait$State", "inForce", "I", false)
  | 8 => ("AgingPortrait$State", "years", "I", false)
  | 9 => ("AgingPortrait$State", "by", "[I", true)
  | 10 => ("AgingPortrait$State", "tones", "[I", true)
  | 11 => ("AgingPortrait$State", "copies", "I", false)
  | 12 => ("AgingPortrait$State", "pictures", "[I", true)
  | 13 => ("AgingPortrait$State", "claimants", "I", false)
  | _ => ("AgingPortrait$State", "traits", "[I", true)
def tyX7 : Nat → FieldType := fun k => match k with
  | 0 => .int
  | 1 => .array .int
  | 2 => .int
  | 3 => .array .int
  | 4 => .array .int
  | 5 => .int
  | 6 => .array (.object "AgingPortrait$Text")
  | 7 => .int
  | 8 => .int
  | 9 => .array .int
  | 10 => .array .int
  | 11 => .int
  | 12 => .array .int
  | 13 => .int
  | _ => .array .int
abbrev wsX70 : List Cond := u_ws RX7 TX7 15
theorem nmX7 : ∀ a, a < 15 → ∀ b, b < 15 → a ≠ b → (TX7 a).2.1 ≠ (TX7 b).2.1 := by decide +kernel
theorem tyX7_ok : ∀ k, k < 15 → parseFieldDescriptor (TX7 k).2.2.1 = some (tyX7 k) := by decide +kernel
abbrev cX7_init : ByteArray := prog_9_method_1_code
def yX7_init : MethodName := ⟨RX7, "<init>", "()V"⟩
abbrev cX7_takeFrom : ByteArray := prog_9_method_2_code
def yX7_takeFrom : MethodName := ⟨RX7, "takeFrom", "(LAgingPortrait$State;)V"⟩
abbrev cX7_hasPainter : ByteArray := prog_9_method_3_code
def yX7_hasPainter : MethodName := ⟨RX7, "hasPainter", "(I)Z"⟩
abbrev cX7_hasLayer : ByteArray := prog_9_method_4_code
def yX7_hasLayer : MethodName := ⟨RX7, "hasLayer", "(I)Z"⟩
abbrev cX7_hasClaimant : ByteArray := prog_9_method_5_code
def yX7_hasClaimant : MethodName := ⟨RX7, "hasClaimant", "(I)Z"⟩
abbrev cX7_ageIn : ByteArray := prog_9_method_6_code
def yX7_ageIn : MethodName := ⟨RX7, "ageIn", "(I)I"⟩
abbrev cX7_rests : ByteArray := prog_9_method_7_code
def yX7_rests : MethodName := ⟨RX7, "rests", "(II)Z"⟩
abbrev cX7_seenAt : ByteArray := prog_9_method_8_code
def yX7_seenAt : MethodName := ⟨RX7, "seenAt", "(I)I"⟩
abbrev cX7_addCopy : ByteArray := prog_9_method_9_code
def yX7_addCopy : MethodName := ⟨RX7, "addCopy", "()V"⟩
abbrev cX7_nearOf : ByteArray := prog_9_method_10_code
def yX7_nearOf : MethodName := ⟨RX7, "nearOf", "(I)I"⟩
abbrev cX7_isAlive : ByteArray := prog_9_method_11_code
def yX7_isAlive : MethodName := ⟨RX7, "isAlive", "(II)Z"⟩
abbrev cX7_childrenOf : ByteArray := prog_9_method_12_code
def yX7_childrenOf : MethodName := ⟨RX7, "childrenOf", "(II)I"⟩
abbrev cX7_brushed : ByteArray := prog_9_method_13_code
def yX7_brushed : MethodName := ⟨RX7, "brushed", "(IIII)I"⟩
def RX8 : String := "AgingPortrait$Stemma"
def TX8 : u_T := fun k => match k with
  | 0 => ("AgingPortrait$Stemma", "now", "LAgingPortrait$State;", true)
  | 1 => ("AgingPortrait$Stemma", "nodes", "I", false)
  | 2 => ("AgingPortrait$Stemma", "apart", "[I", true)
  | 3 => ("AgingPortrait$Stemma", "least", "[I", true)
  | 4 => ("AgingPortrait$Stemma", "ways", "[I", true)
  | 5 => ("AgingPortrait$Stemma", "parents", "[I", true)
  | 6 => ("AgingPortrait$Stemma", "worst", "[I", true)
  | 7 => ("AgingPortrait$Stemma", "cellsToKnow", "I", false)
  | _ => ("AgingPortrait$Stemma", "cellToBegin", "I", false)
def tyX8 : Nat → FieldType := fun k => match k with
  | 0 => .object "AgingPortrait$State"
  | 1 => .int
  | 2 => .array .int
  | 3 => .array .int
  | 4 => .array .int
  | 5 => .array .int
  | 6 => .array .int
  | 7 => .int
  | _ => .int
abbrev wsX80 : List Cond := u_ws RX8 TX8 9
theorem nmX8 : ∀ a, a < 9 → ∀ b, b < 9 → a ≠ b → (TX8 a).2.1 ≠ (TX8 b).2.1 := by decide +kernel
theorem tyX8_ok : ∀ k, k < 9 → parseFieldDescriptor (TX8 k).2.2.1 = some (tyX8 k) := by decide +kernel
abbrev cX8_init : ByteArray := prog_10_method_1_code
def yX8_init : MethodName := ⟨RX8, "<init>", "(LAgingPortrait$State;)V"⟩
abbrev cX8_between : ByteArray := prog_10_method_2_code
def yX8_between : MethodName := ⟨RX8, "between", "(II)I"⟩
abbrev cX8_weigh : ByteArray := prog_10_method_3_code
def yX8_weigh : MethodName := ⟨RX8, "weigh", "()V"⟩
abbrev cX8_changed : ByteArray := prog_10_method_4_code
def yX8_changed : MethodName := ⟨RX8, "changed", "()I"⟩
abbrev cX8_waysInAll : ByteArray := prog_10_method_5_code
def yX8_waysInAll : MethodName := ⟨RX8, "waysInAll", "()I"⟩
abbrev cX8_parentOf : ByteArray := prog_10_method_6_code
def yX8_parentOf : MethodName := ⟨RX8, "parentOf", "(I)I"⟩
abbrev cX8_datedBy : ByteArray := prog_10_method_7_code
def yX8_datedBy : MethodName := ⟨RX8, "datedBy", "(II)I"⟩
abbrev cX8_learn : ByteArray := prog_10_method_8_code
def yX8_learn : MethodName := ⟨RX8, "learn", "()V"⟩
abbrev cX8_needBehind : ByteArray := prog_10_method_9_code
def yX8_needBehind : MethodName := ⟨RX8, "needBehind", "(II)I"⟩
abbrev cX8_sameIn : ByteArray := prog_10_method_10_code
def yX8_sameIn : MethodName := ⟨RX8, "sameIn", "(III)I"⟩
abbrev cX8_toneIn : ByteArray := prog_10_method_11_code
def yX8_toneIn : MethodName := ⟨RX8, "toneIn", "(II)I"⟩
abbrev cX8_fromLayer : ByteArray := prog_10_method_12_code
def yX8_fromLayer : MethodName := ⟨RX8, "fromLayer", "(II)I"⟩
abbrev cX8_weighSet : ByteArray := prog_10_method_13_code
def yX8_weighSet : MethodName := ⟨RX8, "weighSet", "(I)V"⟩
abbrev cX8_joinBranch : ByteArray := prog_10_method_14_code
def yX8_joinBranch : MethodName := ⟨RX8, "joinBranch", "(II)V"⟩
abbrev cX8_fits : ByteArray := prog_10_method_15_code
def yX8_fits : MethodName := ⟨RX8, "fits", "(LAgingPortrait$Stemma;II)Z"⟩
abbrev cX8_leastFrom : ByteArray := prog_10_method_16_code
def yX8_leastFrom : MethodName := ⟨RX8, "leastFrom", "(I)I"⟩
abbrev cX8_comesFrom : ByteArray := prog_10_method_17_code
def yX8_comesFrom : MethodName := ⟨RX8, "comesFrom", "(II)Z"⟩
def RX9 : String := "AgingPortrait$Studio"
def TX9 : u_T := fun k => match k with
  | 0 => ("AgingPortrait$Studio", "now", "LAgingPortrait$State;", true)
  | 1 => ("AgingPortrait$Studio", "judge", "LAgingPortrait$Judge;", true)
  | 2 => ("AgingPortrait$Studio", "aims", "[I", true)
  | _ => ("AgingPortrait$Studio", "laterAims", "[I", true)
def tyX9 : Nat → FieldType := fun k => match k with
  | 0 => .object "AgingPortrait$State"
  | 1 => .object "AgingPortrait$Judge"
  | 2 => .array .int
  | _ => .array .int
abbrev wsX90 : List Cond := u_ws RX9 TX9 4
theorem nmX9 : ∀ a, a < 4 → ∀ b, b < 4 → a ≠ b → (TX9 a).2.1 ≠ (TX9 b).2.1 := by decide +kernel
theorem tyX9_ok : ∀ k, k < 4 → parseFieldDescriptor (TX9 k).2.2.1 = some (tyX9 k) := by decide +kernel
abbrev cX9_init : ByteArray := prog_11_method_1_code
def yX9_init : MethodName := ⟨RX9, "<init>", "(LAgingPortrait$State;LAgingPortrait$Judge;)V"⟩
abbrev cX9_paintNext : ByteArray := prog_11_method_2_code
def yX9_paintNext : MethodName := ⟨RX9, "paintNext", "(I)V"⟩
abbrev cX9_unlikeOf : ByteArray := prog_11_method_3_code
def yX9_unlikeOf : MethodName := ⟨RX9, "unlikeOf", "(I)I"⟩
abbrev cX9_farCell : ByteArray := prog_11_method_4_code
def yX9_farCell : MethodName := ⟨RX9, "farCell", "(I)I"⟩
abbrev cX9_moneyBehind : ByteArray := prog_11_method_5_code
def yX9_moneyBehind : MethodName := ⟨RX9, "moneyBehind", "(I)I"⟩
abbrev cX9_whoCan : ByteArray := prog_11_method_6_code
def yX9_whoCan : MethodName := ⟨RX9, "whoCan", "(I)I"⟩
abbrev cX9_rowsInto : ByteArray := prog_11_method_7_code
def yX9_rowsInto : MethodName := ⟨RX9, "rowsInto", "(II)I"⟩
abbrev cX9_driftOf : ByteArray := prog_11_method_8_code
def yX9_driftOf : MethodName := ⟨RX9, "driftOf", "(II)I"⟩
abbrev cX9_undoingPair : ByteArray := prog_11_method_9_code
def yX9_undoingPair : MethodName := ⟨RX9, "undoingPair", "(I)I"⟩
abbrev cX9_firstTones : ByteArray := prog_11_method_10_code
def yX9_firstTones : MethodName := ⟨RX9, "firstTones", "(I)I"⟩
abbrev cX9_aimAt : ByteArray := prog_11_method_11_code
def yX9_aimAt : MethodName := ⟨RX9, "aimAt", "(I[I)V"⟩
abbrev cX9_comesOut : ByteArray := prog_11_method_12_code
def yX9_comesOut : MethodName := ⟨RX9, "comesOut", "(III)Z"⟩
abbrev cX9_carried : ByteArray := prog_11_method_13_code
def yX9_carried : MethodName := ⟨RX9, "carried", "(IIII)I"⟩
abbrev cX9_undo : ByteArray := prog_11_method_14_code
def yX9_undo : MethodName := ⟨RX9, "undo", "(II)Z"⟩
def RX10 : String := "AgingPortrait$Text"
def TX10 : u_T := fun k => match k with
  | 0 => ("AgingPortrait$Text", "rows", "[I", true)
  | 1 => ("AgingPortrait$Text", "steps", "[I", true)
  | 2 => ("AgingPortrait$Text", "clauses", "I", false)
  | 3 => ("AgingPortrait$Text", "length", "I", false)
  | _ => ("AgingPortrait$Text", "words", "I", false)
def tyX10 : Nat → FieldType := fun k => match k with
  | 0 => .array .int
  | 1 => .array .int
  | 2 => .int
  | 3 => .int
  | _ => .int
abbrev wsX100 : List Cond := u_ws RX10 TX10 5
theorem nmX10 : ∀ a, a < 5 → ∀ b, b < 5 → a ≠ b → (TX10 a).2.1 ≠ (TX10 b).2.1 := by decide +kernel
theorem tyX10_ok : ∀ k, k < 5 → parseFieldDescriptor (TX10 k).2.2.1 = some (tyX10 k) := by decide +kernel
abbrev cX10_init : ByteArray := prog_12_method_1_code
def yX10_init : MethodName := ⟨RX10, "<init>", "(II)V"⟩
abbrev cX10_clear : ByteArray := prog_12_method_2_code
def yX10_clear : MethodName := ⟨RX10, "clear", "()V"⟩
abbrev cX10_add : ByteArray := prog_12_method_3_code
def yX10_add : MethodName := ⟨RX10, "add", "(II)V"⟩
abbrev cX10_jumpHere : ByteArray := prog_12_method_4_code
def yX10_jumpHere : MethodName := ⟨RX10, "jumpHere", "(I)V"⟩
abbrev cX10_trimmed : ByteArray := prog_12_method_5_code
def yX10_trimmed : MethodName := ⟨RX10, "trimmed", "()LAgingPortrait$Text;"⟩
def RX11 : String := "AgingPortrait"
def TX11 : u_T := fun k => match k with
  | 0 => ("AgingPortrait", "now", "LAgingPortrait$State;", true)
  | 1 => ("AgingPortrait", "images", "[LAgingPortrait$State;", true)
  | 2 => ("AgingPortrait", "imagesKept", "I", false)
  | 3 => ("AgingPortrait", "tape", "[I", true)
  | 4 => ("AgingPortrait", "tapeLength", "I", false)
  | 5 => ("AgingPortrait", "reader", "LAgingPortrait$Reader;", true)
  | 6 => ("AgingPortrait", "read", "LAgingPortrait$Text;", true)
  | 7 => ("AgingPortrait", "judge", "LAgingPortrait$Judge;", true)
  | 8 => ("AgingPortrait", "studio", "LAgingPortrait$Studio;", true)
  | 9 => ("AgingPortrait", "planner", "LAgingPortrait$Planner;", true)
  | 10 => ("AgingPortrait", "stemma", "LAgingPortrait$Stemma;", true)
  | 11 => ("AgingPortrait", "court", "LAgingPortrait$Court;", true)
  | 12 => ("AgingPortrait", "clerk", "LAgingPortrait$Clerk;", true)
  | 13 => ("AgingPortrait", "latest", "LAgingPortrait$Century;", true)
  | 14 => ("AgingPortrait", "faultPlace", "I", false)
  | 15 => ("AgingPortrait", "flakesFallen", "I", false)
  | 16 => ("AgingPortrait", "stoppedAt", "I", false)
  | 17 => ("AgingPortrait", "lastStatus", "I", false)
  | _ => ("AgingPortrait", "refused", "[I", true)
def tyX11 : Nat → FieldType := fun k => match k with
  | 0 => .object "AgingPortrait$State"
  | 1 => .array (.object "AgingPortrait$State")
  | 2 => .int
  | 3 => .array .int
  | 4 => .int
  | 5 => .object "AgingPortrait$Reader"
  | 6 => .object "AgingPortrait$Text"
  | 7 => .object "AgingPortrait$Judge"
  | 8 => .object "AgingPortrait$Studio"
  | 9 => .object "AgingPortrait$Planner"
  | 10 => .object "AgingPortrait$Stemma"
  | 11 => .object "AgingPortrait$Court"
  | 12 => .object "AgingPortrait$Clerk"
  | 13 => .object "AgingPortrait$Century"
  | 14 => .int
  | 15 => .int
  | 16 => .int
  | 17 => .int
  | _ => .array .int
abbrev wsX110 : List Cond := u_ws RX11 TX11 19
theorem nmX11 : ∀ a, a < 19 → ∀ b, b < 19 → a ≠ b → (TX11 a).2.1 ≠ (TX11 b).2.1 := by decide +kernel
theorem tyX11_ok : ∀ k, k < 19 → parseFieldDescriptor (TX11 k).2.2.1 = some (tyX11 k) := by decide +kernel
abbrev cX11_init : ByteArray := prog_1_method_1_code
def yX11_init : MethodName := ⟨RX11, "<init>", "()V"⟩
abbrev cX11_first : ByteArray := prog_1_method_2_code
def yX11_first : MethodName := ⟨RX11, "first", "(II)I"⟩
abbrev cX11_painter : ByteArray := prog_1_method_3_code
def yX11_painter : MethodName := ⟨RX11, "painter", "(II)I"⟩
abbrev cX11_err : ByteArray := prog_1_method_4_code
def yX11_err : MethodName := ⟨RX11, "err", "(III)I"⟩
abbrev cX11_of : ByteArray := prog_1_method_5_code
def yX11_of : MethodName := ⟨RX11, "of", "(II)I"⟩
abbrev cX11_terms : ByteArray := prog_1_method_6_code
def yX11_terms : MethodName := ⟨RX11, "terms", "(II)I"⟩
abbrev cX11_scar : ByteArray := prog_1_method_7_code
def yX11_scar : MethodName := ⟨RX11, "scar", "(III)I"⟩
abbrev cX11_heal : ByteArray := prog_1_method_8_code
def yX11_heal : MethodName := ⟨RX11, "heal", "(I)I"⟩
abbrev cX11_feed : ByteArray := prog_1_method_9_code
def yX11_feed : MethodName := ⟨RX11, "feed", "(IIIII)I"⟩
abbrev cX11_end : ByteArray := prog_1_method_10_code
def yX11_end : MethodName := ⟨RX11, "end", "(I)I"⟩
abbrev cX11_row : ByteArray := prog_1_method_11_code
def yX11_row : MethodName := ⟨RX11, "row", "()I"⟩
abbrev cX11_flakes : ByteArray := prog_1_method_12_code
def yX11_flakes : MethodName := ⟨RX11, "flakes", "()I"⟩
abbrev cX11_law : ByteArray := prog_1_method_13_code
def yX11_law : MethodName := ⟨RX11, "law", "()I"⟩
abbrev cX11_orders : ByteArray := prog_1_method_14_code
def yX11_orders : MethodName := ⟨RX11, "orders", "()I"⟩
abbrev cX11_fault : ByteArray := prog_1_method_15_code
def yX11_fault : MethodName := ⟨RX11, "fault", "()I"⟩
abbrev cX11_stopped : ByteArray := prog_1_method_16_code
def yX11_stopped : MethodName := ⟨RX11, "stopped", "()I"⟩
abbrev cX11_force : ByteArray := prog_1_method_17_code
def yX11_force : MethodName := ⟨RX11, "force", "(I)I"⟩
abbrev cX11_looks : ByteArray := prog_1_method_18_code
def yX11_looks : MethodName := ⟨RX11, "looks", "(III)I"⟩
abbrev cX11_asks : ByteArray := prog_1_method_19_code
def yX11_asks : MethodName := ⟨RX11, "asks", "(III)I"⟩
abbrev cX11_paint : ByteArray := prog_1_method_20_code
def yX11_paint : MethodName := ⟨RX11, "paint", "(I)I"⟩
abbrev cX11_scrape : ByteArray := prog_1_method_21_code
def yX11_scrape : MethodName := ⟨RX11, "scrape", "()I"⟩
abbrev cX11_tone : ByteArray := prog_1_method_22_code
def yX11_tone : MethodName := ⟨RX11, "tone", "(II)I"⟩
abbrev cX11_layer : ByteArray := prog_1_method_23_code
def yX11_layer : MethodName := ⟨RX11, "layer", "(II)I"⟩
abbrev cX11_unlawful : ByteArray := prog_1_method_24_code
def yX11_unlawful : MethodName := ⟨RX11, "unlawful", "()I"⟩
abbrev cX11_money : ByteArray := prog_1_method_25_code
def yX11_money : MethodName := ⟨RX11, "money", "(I)I"⟩
abbrev cX11_broke : ByteArray := prog_1_method_26_code
def yX11_broke : MethodName := ⟨RX11, "broke", "()I"⟩
abbrev cX11_plan : ByteArray := prog_1_method_27_code
def yX11_plan : MethodName := ⟨RX11, "plan", "(III)I"⟩
abbrev cX11_drift : ByteArray := prog_1_method_28_code
def yX11_drift : MethodName := ⟨RX11, "drift", "(III)I"⟩
abbrev cX11_undoing : ByteArray := prog_1_method_29_code
def yX11_undoing : MethodName := ⟨RX11, "undoing", "(I)I"⟩
abbrev cX11_copy : ByteArray := prog_1_method_30_code
def yX11_copy : MethodName := ⟨RX11, "copy", "()I"⟩
abbrev cX11_touch : ByteArray := prog_1_method_31_code
def yX11_touch : MethodName := ⟨RX11, "touch", "(III)I"⟩
abbrev cX11_burn : ByteArray := prog_1_method_32_code
def yX11_burn : MethodName := ⟨RX11, "burn", "()I"⟩
abbrev cX11_near : ByteArray := prog_1_method_33_code
def yX11_near : MethodName := ⟨RX11, "near", "(I)I"⟩
abbrev cX11_like : ByteArray := prog_1_method_34_code
def yX11_like : MethodName := ⟨RX11, "like", "(II)I"⟩
abbrev cX11_tree : ByteArray := prog_1_method_35_code
def yX11_tree : MethodName := ⟨RX11, "tree", "(I)I"⟩
abbrev cX11_trees : ByteArray := prog_1_method_36_code
def yX11_trees : MethodName := ⟨RX11, "trees", "()I"⟩
abbrev cX11_dated : ByteArray := prog_1_method_37_code
def yX11_dated : MethodName := ⟨RX11, "dated", "(II)I"⟩
abbrev cX11_know : ByteArray := prog_1_method_38_code
def yX11_know : MethodName := ⟨RX11, "know", "(I)I"⟩
abbrev cX11_who : ByteArray := prog_1_method_39_code
def yX11_who : MethodName := ⟨RX11, "who", "(I)I"⟩
abbrev cX11_forge : ByteArray := prog_1_method_40_code
def yX11_forge : MethodName := ⟨RX11, "forge", "(III)I"⟩
abbrev cX11_skipped : ByteArray := prog_1_method_41_code
def yX11_skipped : MethodName := ⟨RX11, "skipped", "()I"⟩
abbrev cX11_missing : ByteArray := prog_1_method_42_code
def yX11_missing : MethodName := ⟨RX11, "missing", "(II)I"⟩
abbrev cX11_was : ByteArray := prog_1_method_43_code
def yX11_was : MethodName := ⟨RX11, "was", "(I)I"⟩
abbrev cX11_ways : ByteArray := prog_1_method_44_code
def yX11_ways : MethodName := ⟨RX11, "ways", "()J"⟩
abbrev cX11_claimant : ByteArray := prog_1_method_45_code
def yX11_claimant : MethodName := ⟨RX11, "claimant", "(IIII)I"⟩
abbrev cX11_claim : ByteArray := prog_1_method_46_code
def yX11_claim : MethodName := ⟨RX11, "claim", "(III)I"⟩
abbrev cX11_born : ByteArray := prog_1_method_47_code
def yX11_born : MethodName := ⟨RX11, "born", "(II)I"⟩
abbrev cX11_stands : ByteArray := prog_1_method_48_code
def yX11_stands : MethodName := ⟨RX11, "stands", "(III)I"⟩
abbrev cX11_ruler : ByteArray := prog_1_method_49_code
def yX11_ruler : MethodName := ⟨RX11, "ruler", "(I)I"⟩
abbrev cX11_reign : ByteArray := prog_1_method_50_code
def yX11_reign : MethodName := ⟨RX11, "reign", "(II)I"⟩
abbrev cX11_vacant : ByteArray := prog_1_method_51_code
def yX11_vacant : MethodName := ⟨RX11, "vacant", "()I"⟩
abbrev cX11_line : ByteArray := prog_1_method_52_code
def yX11_line : MethodName := ⟨RX11, "line", "(II)I"⟩
abbrev cX11_century : ByteArray := prog_1_method_53_code
def yX11_century : MethodName := ⟨RX11, "century", "(II)I"⟩
abbrev cX11_drawn : ByteArray := prog_1_method_54_code
def yX11_drawn : MethodName := ⟨RX11, "drawn", "(I)I"⟩
abbrev cX11_image : ByteArray := prog_1_method_55_code
def yX11_image : MethodName := ⟨RX11, "image", "(I)I"⟩
abbrev cX11_back : ByteArray := prog_1_method_56_code
def yX11_back : MethodName := ⟨RX11, "back", "(I)I"⟩
abbrev cX11_count : ByteArray := prog_1_method_57_code
def yX11_count : MethodName := ⟨RX11, "count", "(I)I"⟩
abbrev cX11_status : ByteArray := prog_1_method_58_code
def yX11_status : MethodName := ⟨RX11, "status", "()I"⟩
abbrev cX11_answer : ByteArray := prog_1_method_59_code
def yX11_answer : MethodName := ⟨RX11, "answer", "(I)I"⟩
abbrev cX11_refuse : ByteArray := prog_1_method_60_code
def yX11_refuse : MethodName := ⟨RX11, "refuse", "(I)I"⟩
abbrev cX11_putBytes : ByteArray := prog_1_method_61_code
def yX11_putBytes : MethodName := ⟨RX11, "putBytes", "(I)V"⟩
abbrev cX11_heirs : ByteArray := prog_1_method_62_code
def yX11_heirs : MethodName := ⟨RX11, "heirs", "()I"⟩
abbrev cX11_isRootOrCopy : ByteArray := prog_1_method_63_code
def yX11_isRootOrCopy : MethodName := ⟨RX11, "isRootOrCopy", "(I)Z"⟩
abbrev cX11_highestTerm : ByteArray := prog_1_method_64_code
def yX11_highestTerm : MethodName := ⟨RX11, "highestTerm", "(I)I"⟩
abbrev cX11_inside : ByteArray := prog_1_method_65_code
def yX11_inside : MethodName := ⟨RX11, "inside", "(II)Z"⟩
abbrev cX11_isCell : ByteArray := prog_1_method_66_code
def yX11_isCell : MethodName := ⟨RX11, "isCell", "(I)Z"⟩
abbrev cX11_isTone : ByteArray := prog_1_method_67_code
def yX11_isTone : MethodName := ⟨RX11, "isTone", "(I)Z"⟩
abbrev cX11_canBeCopy : ByteArray := prog_1_method_68_code
def yX11_canBeCopy : MethodName := ⟨RX11, "canBeCopy", "(I)Z"⟩
abbrev cX11_bit : ByteArray := prog_1_method_69_code
def yX11_bit : MethodName := ⟨RX11, "bit", "(Z)I"⟩
abbrev cX11_lowestIn : ByteArray := prog_1_method_70_code
def yX11_lowestIn : MethodName := ⟨RX11, "lowestIn", "(I)I"⟩
abbrev cX11_highestIn : ByteArray := prog_1_method_71_code
def yX11_highestIn : MethodName := ⟨RX11, "highestIn", "(I)I"⟩
abbrev cX11_nearest : ByteArray := prog_1_method_72_code
def yX11_nearest : MethodName := ⟨RX11, "nearest", "(III)I"⟩
def RX12 : String := "AgingPortraitModel"
def TX12 : u_T := fun k => match k with
  | 0 => ("AgingPortraitModel", "thrown", "I", false)
  | 1 => ("AgingPortraitModel", "status", "I", false)
  | 2 => ("AgingPortraitModel", "refusals", "[I", true)
  | 3 => ("AgingPortraitModel", "row", "[I", true)
  | 4 => ("AgingPortraitModel", "images", "[I", true)
  | 5 => ("AgingPortraitModel", "before", "[I", true)
  | 6 => ("AgingPortraitModel", "isKept", "[Z", true)
  | 7 => ("AgingPortraitModel", "flakes", "I", false)
  | 8 => ("AgingPortraitModel", "tape", "[I", true)
  | 9 => ("AgingPortraitModel", "taped", "I", false)
  | 10 => ("AgingPortraitModel", "from", "I", false)
  | 11 => ("AgingPortraitModel", "to", "I", false)
  | 12 => ("AgingPortraitModel", "sort", "I", false)
  | 13 => ("AgingPortraitModel", "worth", "J", false)
  | 14 => ("AgingPortraitModel", "fault", "I", false)
  | 15 => ("AgingPortraitModel", "bad", "Z", false)
  | 16 => ("AgingPortraitModel", "ordered", "Z", false)
  | 17 => ("AgingPortraitModel", "nClauses", "I", false)
  | 18 => ("AgingPortraitModel", "nClause", "[I", true)
  | 19 => ("AgingPortraitModel", "nCode", "I", false)
  | 20 => ("AgingPortraitModel", "nOp", "[I", true)
  | 21 => ("AgingPortraitModel", "nArg", "[I", true)
  | 22 => ("AgingPortraitModel", "nLeaves", "I", false)
  | 23 => ("AgingPortraitModel", "pile", "[I", true)
  | 24 => ("AgingPortraitModel", "pileAt", "[I", true)
  | 25 => ("AgingPortraitModel", "piled", "I", false)
  | 26 => ("AgingPortraitModel", "opened", "I", false)
  | 27 => ("AgingPortraitModel", "words", "[J", true)
  | 28 => ("AgingPortraitModel", "orderWords", "[J", true)
  | 29 => ("AgingPortraitModel", "headWords", "[J", true)
  | 30 => ("AgingPortraitModel", "law", "I", false)
  | 31 => ("AgingPortraitModel", "set", "[J", true)
  | 32 => ("AgingPortraitModel", "now", "[J", true)
  | 33 => ("AgingPortraitModel", "rest", "[J", true)
  | 34 => ("AgingPortraitModel", "broken", "Z", false)
  | 35 => ("AgingPortraitModel", "value", "J", false)
  | 36 => ("AgingPortraitModel", "sum", "J", false)
  | 37 => ("AgingPortraitModel", "look", "[I", true)
  | 38 => ("AgingPortraitModel", "paper", "[I", true)
  | 39 => ("AgingPortraitModel", "rowOf", "[I", true)
  | 40 => ("AgingPortraitModel", "best", "[I", true)
  | 41 => ("AgingPortraitModel", "asked", "[I", true)
  | 42 => ("AgingPortraitModel", "bars", "[Z", true)
  | 43 => ("AgingPortraitModel", "lawful", "[Z", true)
  | 44 => ("AgingPortraitModel", "bestUnlike", "I", false)
  | 45 => ("AgingPortraitModel", "bestAsks", "I", false)
  | 46 => ("AgingPortraitModel", "ways", "I", false)
  | 47 => ("AgingPortraitModel", "parents", "[I", true)
  | 48 => ("AgingPortraitModel", "firstTree", "[I", true)
  | 49 => ("AgingPortraitModel", "treeLeast", "I", false)
  | 50 => ("AgingPortraitModel", "treeWays", "I", false)
  | 51 => ("AgingPortraitModel", "depths", "[I", true)
  | 52 => ("AgingPortraitModel", "rules", "[I", true)
  | 53 => ("AgingPortraitModel", "rankOf", "[I", true)
  | 54 => ("AgingPortraitModel", "nOrder", "[I", true)
  | 55 => ("AgingPortraitModel", "done", "I", false)
  | 56 => ("AgingPortraitModel", "stopped", "I", false)
  | 57 => ("AgingPortraitModel", "state", "J", false)
  | 58 => ("AgingPortraitModel", "drawn", "[I", true)
  | 59 => ("AgingPortraitModel", "isCentury", "Z", false)
  | _ => ("AgingPortraitModel", "nDrawn", "I", false)
def tyX12 : Nat → FieldType := fun k => match k with
  | 0 => .int
  | 1 => .int
  | 2 => .array .int
  | 3 => .array .int
  | 4 => .array .int
  | 5 => .array .int
  | 6 => .array .boolean
  | 7 => .int
  | 8 => .array .int
  | 9 => .int
  | 10 => .int
  | 11 => .int
  | 12 => .int
  | 13 => .long
  | 14 => .int
  | 15 => .boolean
  | 16 => .boolean
  | 17 => .int
  | 18 => .array .int
  | 19 => .int
  | 20 => .array .int
  | 21 => .array .int
  | 22 => .int
  | 23 => .array .int
  | 24 => .array .int
  | 25 => .int
  | 26 => .int
  | 27 => .array .long
  | 28 => .array .long
  | 29 => .array .long
  | 30 => .int
  | 31 => .array .long
  | 32 => .array .long
  | 33 => .array .long
  | 34 => .boolean
  | 35 => .long
  | 36 => .long
  | 37 => .array .int
  | 38 => .array .int
  | 39 => .array .int
  | 40 => .array .int
  | 41 => .array .int
  | 42 => .array .boolean
  | 43 => .array .boolean
  | 44 => .int
  | 45 => .int
  | 46 => .int
  | 47 => .array .int
  | 48 => .array .int
  | 49 => .int
  | 50 => .int
  | 51 => .array .int
  | 52 => .array .int
  | 53 => .array .int
  | 54 => .array .int
  | 55 => .int
  | 56 => .int
  | 57 => .long
  | 58 => .array .int
  | 59 => .boolean
  | _ => .int
abbrev wsX120 : List Cond := u_ws RX12 TX12 61
theorem nmX12 : ∀ a, a < 61 → ∀ b, b < 61 → a ≠ b → (TX12 a).2.1 ≠ (TX12 b).2.1 := by decide +kernel
theorem tyX12_ok : ∀ k, k < 61 → parseFieldDescriptor (TX12 k).2.2.1 = some (tyX12 k) := by decide +kernel
abbrev cX12_init : ByteArray := prog_14_method_1_code
def yX12_init : MethodName := ⟨RX12, "<init>", "()V"⟩
abbrev cX12_in : ByteArray := prog_14_method_3_code
def yX12_in : MethodName := ⟨RX12, "in", "(JJJ)Z"⟩
abbrev cX12_is : ByteArray := prog_14_method_4_code
def yX12_is : MethodName := ⟨RX12, "is", "(II)Z"⟩
abbrev cX12_size : ByteArray := prog_14_method_5_code
def yX12_size : MethodName := ⟨RX12, "size", "(I)I"⟩
abbrev cX12_within : ByteArray := prog_14_method_6_code
def yX12_within : MethodName := ⟨RX12, "within", "(JII)I"⟩
abbrev cX12_tell : ByteArray := prog_14_method_7_code
def yX12_tell : MethodName := ⟨RX12, "tell", "(I)I"⟩
abbrev cX12_change : ByteArray := prog_14_method_8_code
def yX12_change : MethodName := ⟨RX12, "change", "(II)I"⟩
abbrev cX12_image : ByteArray := prog_14_method_9_code
def yX12_image : MethodName := ⟨RX12, "image", "(I)I"⟩
abbrev cX12_back : ByteArray := prog_14_method_10_code
def yX12_back : MethodName := ⟨RX12, "back", "(I)I"⟩
abbrev cX12_isCell : ByteArray := prog_14_method_11_code
def yX12_isCell : MethodName := ⟨RX12, "isCell", "(I)Z"⟩
abbrev cX12_isTone : ByteArray := prog_14_method_12_code
def yX12_isTone : MethodName := ⟨RX12, "isTone", "(I)Z"⟩
abbrev cX12_isYear : ByteArray := prog_14_method_13_code
def yX12_isYear : MethodName := ⟨RX12, "isYear", "(I)Z"⟩
abbrev cX12_years : ByteArray := prog_14_method_14_code
def yX12_years : MethodName := ⟨RX12, "years", "()I"⟩
abbrev cX12_isLayer : ByteArray := prog_14_method_15_code
def yX12_isLayer : MethodName := ⟨RX12, "isLayer", "(I)Z"⟩
abbrev cX12_isPainter : ByteArray := prog_14_method_16_code
def yX12_isPainter : MethodName := ⟨RX12, "isPainter", "(I)Z"⟩
abbrev cX12_isCopy : ByteArray := prog_14_method_17_code
def yX12_isCopy : MethodName := ⟨RX12, "isCopy", "(I)Z"⟩
abbrev cX12_isClaimant : ByteArray := prog_14_method_18_code
def yX12_isClaimant : MethodName := ⟨RX12, "isClaimant", "(I)Z"⟩
abbrev cX12_toneAt : ByteArray := prog_14_method_19_code
def yX12_toneAt : MethodName := ⟨RX12, "toneAt", "(II)I"⟩
abbrev cX12_seen : ByteArray := prog_14_method_20_code
def yX12_seen : MethodName := ⟨RX12, "seen", "(I)I"⟩
abbrev cX12_first : ByteArray := prog_14_method_21_code
def yX12_first : MethodName := ⟨RX12, "first", "(II)I"⟩
abbrev cX12_painter : ByteArray := prog_14_method_22_code
def yX12_painter : MethodName := ⟨RX12, "painter", "(II)I"⟩
abbrev cX12_err : ByteArray := prog_14_method_23_code
def yX12_err : MethodName := ⟨RX12, "err", "(III)I"⟩
abbrev cX12_of : ByteArray := prog_14_method_24_code
def yX12_of : MethodName := ⟨RX12, "of", "(II)I"⟩
abbrev cX12_isTerm : ByteArray := prog_14_method_25_code
def yX12_isTerm : MethodName := ⟨RX12, "isTerm", "(II)Z"⟩
abbrev cX12_terms : ByteArray := prog_14_method_26_code
def yX12_terms : MethodName := ⟨RX12, "terms", "(II)I"⟩
abbrev cX12_scar : ByteArray := prog_14_method_27_code
def yX12_scar : MethodName := ⟨RX12, "scar", "(III)I"⟩
abbrev cX12_heal : ByteArray := prog_14_method_28_code
def yX12_heal : MethodName := ⟨RX12, "heal", "(I)I"⟩
abbrev cX12_row : ByteArray := prog_14_method_29_code
def yX12_row : MethodName := ⟨RX12, "row", "()I"⟩
abbrev cX12_flakes : ByteArray := prog_14_method_30_code
def yX12_flakes : MethodName := ⟨RX12, "flakes", "()I"⟩
abbrev cX12_four : ByteArray := prog_14_method_31_code
def yX12_four : MethodName := ⟨RX12, "four", "(I)V"⟩
abbrev cX12_feed : ByteArray := prog_14_method_32_code
def yX12_feed : MethodName := ⟨RX12, "feed", "(IIIII)I"⟩
abbrev cX12_end : ByteArray := prog_14_method_33_code
def yX12_end : MethodName := ⟨RX12, "end", "(I)I"⟩
abbrev cX12_isSmall : ByteArray := prog_14_method_34_code
def yX12_isSmall : MethodName := ⟨RX12, "isSmall", "(I)Z"⟩
abbrev cX12_isDigit : ByteArray := prog_14_method_35_code
def yX12_isDigit : MethodName := ⟨RX12, "isDigit", "(I)Z"⟩
abbrev cX12_begin : ByteArray := prog_14_method_36_code
def yX12_begin : MethodName := ⟨RX12, "begin", "()V"⟩
abbrev cX12_next : ByteArray := prog_14_method_37_code
def yX12_next : MethodName := ⟨RX12, "next", "()V"⟩
abbrev cX12_isWord : ByteArray := prog_14_method_38_code
def yX12_isWord : MethodName := ⟨RX12, "isWord", "(J)Z"⟩
abbrev cX12_isSign : ByteArray := prog_14_method_39_code
def yX12_isSign : MethodName := ⟨RX12, "isSign", "(I)Z"⟩
abbrev cX12_must : ByteArray := prog_14_method_40_code
def yX12_must : MethodName := ⟨RX12, "must", "(Z)V"⟩
abbrev cX12_number : ByteArray := prog_14_method_41_code
def yX12_number : MethodName := ⟨RX12, "number", "(JJ)I"⟩
abbrev cX12_fault : ByteArray := prog_14_method_42_code
def yX12_fault : MethodName := ⟨RX12, "fault", "()I"⟩
abbrev cX12_emit : ByteArray := prog_14_method_43_code
def yX12_emit : MethodName := ⟨RX12, "emit", "(II)V"⟩
abbrev cX12_push : ByteArray := prog_14_method_44_code
def yX12_push : MethodName := ⟨RX12, "push", "(II)V"⟩
abbrev cX12_binds : ByteArray := prog_14_method_45_code
def yX12_binds : MethodName := ⟨RX12, "binds", "(I)I"⟩
abbrev cX12_settle : ByteArray := prog_14_method_46_code
def yX12_settle : MethodName := ⟨RX12, "settle", "(I)V"⟩
abbrev cX12_inner : ByteArray := prog_14_method_47_code
def yX12_inner : MethodName := ⟨RX12, "inner", "()I"⟩
abbrev cX12_isCompared : ByteArray := prog_14_method_48_code
def yX12_isCompared : MethodName := ⟨RX12, "isCompared", "()Z"⟩
abbrev cX12_partAt : ByteArray := prog_14_method_49_code
def yX12_partAt : MethodName := ⟨RX12, "partAt", "()I"⟩
abbrev cX12_orderPartAt : ByteArray := prog_14_method_50_code
def yX12_orderPartAt : MethodName := ⟨RX12, "orderPartAt", "()I"⟩
abbrev cX12_openBracket : ByteArray := prog_14_method_51_code
def yX12_openBracket : MethodName := ⟨RX12, "openBracket", "(I)V"⟩
abbrev cX12_leaf : ByteArray := prog_14_method_52_code
def yX12_leaf : MethodName := ⟨RX12, "leaf", "(ZII)V"⟩
abbrev cX12_readPart : ByteArray := prog_14_method_53_code
def yX12_readPart : MethodName := ⟨RX12, "readPart", "()I"⟩
abbrev cX12_readPlain : ByteArray := prog_14_method_54_code
def yX12_readPlain : MethodName := ⟨RX12, "readPlain", "()I"⟩
abbrev cX12_behindSum : ByteArray := prog_14_method_55_code
def yX12_behindSum : MethodName := ⟨RX12, "behindSum", "(Z)I"⟩
abbrev cX12_behindTest : ByteArray := prog_14_method_56_code
def yX12_behindTest : MethodName := ⟨RX12, "behindTest", "()I"⟩
abbrev cX12_readExpression : ByteArray := prog_14_method_57_code
def yX12_readExpression : MethodName := ⟨RX12, "readExpression", "(Z)V"⟩
abbrev cX12_readClause : ByteArray := prog_14_method_58_code
def yX12_readClause : MethodName := ⟨RX12, "readClause", "()V"⟩
abbrev cX12_beginText : ByteArray := prog_14_method_59_code
def yX12_beginText : MethodName := ⟨RX12, "beginText", "(Z)V"⟩
abbrev cX12_endText : ByteArray := prog_14_method_60_code
def yX12_endText : MethodName := ⟨RX12, "endText", "()V"⟩
abbrev cX12_law : ByteArray := prog_14_method_61_code
def yX12_law : MethodName := ⟨RX12, "law", "()I"⟩
abbrev cX12_force : ByteArray := prog_14_method_62_code
def yX12_force : MethodName := ⟨RX12, "force", "(I)I"⟩
abbrev cX12_reckon : ByteArray := prog_14_method_63_code
def yX12_reckon : MethodName := ⟨RX12, "reckon", "(IJJ)J"⟩
abbrev cX12_reckonAll : ByteArray := prog_14_method_64_code
def yX12_reckonAll : MethodName := ⟨RX12, "reckonAll", "(II)V"⟩
abbrev cX12_isSo : ByteArray := prog_14_method_65_code
def yX12_isSo : MethodName := ⟨RX12, "isSo", "(I)Z"⟩
abbrev cX12_tells : ByteArray := prog_14_method_66_code
def yX12_tells : MethodName := ⟨RX12, "tells", "(IJ)J"⟩
abbrev cX12_setNone : ByteArray := prog_14_method_67_code
def yX12_setNone : MethodName := ⟨RX12, "setNone", "(I)V"⟩
abbrev cX12_ageIn : ByteArray := prog_14_method_68_code
def yX12_ageIn : MethodName := ⟨RX12, "ageIn", "(I)I"⟩
abbrev cX12_looksOf : ByteArray := prog_14_method_69_code
def yX12_looksOf : MethodName := ⟨RX12, "looksOf", "(II)I"⟩
abbrev cX12_letsOf : ByteArray := prog_14_method_70_code
def yX12_letsOf : MethodName := ⟨RX12, "letsOf", "(II)I"⟩
abbrev cX12_setPainter : ByteArray := prog_14_method_71_code
def yX12_setPainter : MethodName := ⟨RX12, "setPainter", "(II)V"⟩
abbrev cX12_asksOf : ByteArray := prog_14_method_72_code
def yX12_asksOf : MethodName := ⟨RX12, "asksOf", "(II)I"⟩
abbrev cX12_isBarred : ByteArray := prog_14_method_73_code
def yX12_isBarred : MethodName := ⟨RX12, "isBarred", "(II)Z"⟩
abbrev cX12_looks : ByteArray := prog_14_method_74_code
def yX12_looks : MethodName := ⟨RX12, "looks", "(III)I"⟩
abbrev cX12_asks : ByteArray := prog_14_method_75_code
def yX12_asks : MethodName := ⟨RX12, "asks", "(III)I"⟩
abbrev cX12_layLooks : ByteArray := prog_14_method_76_code
def yX12_layLooks : MethodName := ⟨RX12, "layLooks", "(I)V"⟩
abbrev cX12_painted : ByteArray := prog_14_method_77_code
def yX12_painted : MethodName := ⟨RX12, "painted", "(IIII)I"⟩
abbrev cX12_paintPaper : ByteArray := prog_14_method_78_code
def yX12_paintPaper : MethodName := ⟨RX12, "paintPaper", "(IIII)V"⟩
abbrev cX12_loadPaper : ByteArray := prog_14_method_79_code
def yX12_loadPaper : MethodName := ⟨RX12, "loadPaper", "(II)V"⟩
abbrev cX12_unlikePaper : ByteArray := prog_14_method_80_code
def yX12_unlikePaper : MethodName := ⟨RX12, "unlikePaper", "(II)I"⟩
abbrev cX12_unlikeOf : ByteArray := prog_14_method_81_code
def yX12_unlikeOf : MethodName := ⟨RX12, "unlikeOf", "(I)I"⟩
abbrev cX12_rests : ByteArray := prog_14_method_82_code
def yX12_rests : MethodName := ⟨RX12, "rests", "(II)Z"⟩
abbrev cX12_paintNow : ByteArray := prog_14_method_83_code
def yX12_paintNow : MethodName := ⟨RX12, "paintNow", "(I)I"⟩
abbrev cX12_paint : ByteArray := prog_14_method_84_code
def yX12_paint : MethodName := ⟨RX12, "paint", "(I)I"⟩
abbrev cX12_scrape : ByteArray := prog_14_method_85_code
def yX12_scrape : MethodName := ⟨RX12, "scrape", "()I"⟩
abbrev cX12_tone : ByteArray := prog_14_method_86_code
def yX12_tone : MethodName := ⟨RX12, "tone", "(II)I"⟩
abbrev cX12_tooFar : ByteArray := prog_14_method_87_code
def yX12_tooFar : MethodName := ⟨RX12, "tooFar", "(II)I"⟩
abbrev cX12_tooFarIn : ByteArray := prog_14_method_88_code
def yX12_tooFarIn : MethodName := ⟨RX12, "tooFarIn", "(I)I"⟩
abbrev cX12_layer : ByteArray := prog_14_method_89_code
def yX12_layer : MethodName := ⟨RX12, "layer", "(II)I"⟩
abbrev cX12_unlawful : ByteArray := prog_14_method_90_code
def yX12_unlawful : MethodName := ⟨RX12, "unlawful", "()I"⟩
abbrev cX12_moneyBehind : ByteArray := prog_14_method_91_code
def yX12_moneyBehind : MethodName := ⟨RX12, "moneyBehind", "(I)I"⟩
abbrev cX12_money : ByteArray := prog_14_method_92_code
def yX12_money : MethodName := ⟨RX12, "money", "(I)I"⟩
abbrev cX12_broke : ByteArray := prog_14_method_93_code
def yX12_broke : MethodName := ⟨RX12, "broke", "()I"⟩
abbrev cX12_restsInRow : ByteArray := prog_14_method_94_code
def yX12_restsInRow : MethodName := ⟨RX12, "restsInRow", "(II)Z"⟩
abbrev cX12_goThrough : ByteArray := prog_14_method_95_code
def yX12_goThrough : MethodName := ⟨RX12, "goThrough", "(II)V"⟩
abbrev cX12_weigh : ByteArray := prog_14_method_96_code
def yX12_weigh : MethodName := ⟨RX12, "weigh", "(II)V"⟩
abbrev cX12_plan : ByteArray := prog_14_method_97_code
def yX12_plan : MethodName := ⟨RX12, "plan", "(III)I"⟩
abbrev cX12_driftOf : ByteArray := prog_14_method_98_code
def yX12_driftOf : MethodName := ⟨RX12, "driftOf", "(II)I"⟩
abbrev cX12_drift : ByteArray := prog_14_method_99_code
def yX12_drift : MethodName := ⟨RX12, "drift", "(III)I"⟩
abbrev cX12_undoing : ByteArray := prog_14_method_100_code
def yX12_undoing : MethodName := ⟨RX12, "undoing", "(I)I"⟩
abbrev cX12_isSame : ByteArray := prog_14_method_101_code
def yX12_isSame : MethodName := ⟨RX12, "isSame", "(II)Z"⟩
abbrev cX12_copyNow : ByteArray := prog_14_method_102_code
def yX12_copyNow : MethodName := ⟨RX12, "copyNow", "()I"⟩
abbrev cX12_copy : ByteArray := prog_14_method_103_code
def yX12_copy : MethodName := ⟨RX12, "copy", "()I"⟩
abbrev cX12_touch : ByteArray := prog_14_method_104_code
def yX12_touch : MethodName := ⟨RX12, "touch", "(III)I"⟩
abbrev cX12_burn : ByteArray := prog_14_method_105_code
def yX12_burn : MethodName := ⟨RX12, "burn", "()I"⟩
abbrev cX12_apart : ByteArray := prog_14_method_106_code
def yX12_apart : MethodName := ⟨RX12, "apart", "(II)I"⟩
abbrev cX12_nearOf : ByteArray := prog_14_method_107_code
def yX12_nearOf : MethodName := ⟨RX12, "nearOf", "(I)I"⟩
abbrev cX12_near : ByteArray := prog_14_method_108_code
def yX12_near : MethodName := ⟨RX12, "near", "(I)I"⟩
abbrev cX12_pictureAt : ByteArray := prog_14_method_109_code
def yX12_pictureAt : MethodName := ⟨RX12, "pictureAt", "(I)I"⟩
abbrev cX12_like : ByteArray := prog_14_method_110_code
def yX12_like : MethodName := ⟨RX12, "like", "(II)I"⟩
abbrev cX12_isTree : ByteArray := prog_14_method_111_code
def yX12_isTree : MethodName := ⟨RX12, "isTree", "(I)Z"⟩
abbrev cX12_findTree : ByteArray := prog_14_method_112_code
def yX12_findTree : MethodName := ⟨RX12, "findTree", "()V"⟩
abbrev cX12_tree : ByteArray := prog_14_method_113_code
def yX12_tree : MethodName := ⟨RX12, "tree", "(I)I"⟩
abbrev cX12_trees : ByteArray := prog_14_method_114_code
def yX12_trees : MethodName := ⟨RX12, "trees", "()I"⟩
abbrev cX12_dated : ByteArray := prog_14_method_115_code
def yX12_dated : MethodName := ⟨RX12, "dated", "(II)I"⟩
abbrev cX12_worst : ByteArray := prog_14_method_116_code
def yX12_worst : MethodName := ⟨RX12, "worst", "(II)I"⟩
abbrev cX12_findDepths : ByteArray := prog_14_method_117_code
def yX12_findDepths : MethodName := ⟨RX12, "findDepths", "()V"⟩
abbrev cX12_know : ByteArray := prog_14_method_118_code
def yX12_know : MethodName := ⟨RX12, "know", "(I)I"⟩
abbrev cX12_whoOf : ByteArray := prog_14_method_119_code
def yX12_whoOf : MethodName := ⟨RX12, "whoOf", "(I)I"⟩
abbrev cX12_who : ByteArray := prog_14_method_120_code
def yX12_who : MethodName := ⟨RX12, "who", "(I)I"⟩
abbrev cX12_forge : ByteArray := prog_14_method_121_code
def yX12_forge : MethodName := ⟨RX12, "forge", "(III)I"⟩
abbrev cX12_skipped : ByteArray := prog_14_method_122_code
def yX12_skipped : MethodName := ⟨RX12, "skipped", "()I"⟩
abbrev cX12_missing : ByteArray := prog_14_method_123_code
def yX12_missing : MethodName := ⟨RX12, "missing", "(II)I"⟩
abbrev cX12_wasOf : ByteArray := prog_14_method_124_code
def yX12_wasOf : MethodName := ⟨RX12, "wasOf", "(I)I"⟩
abbrev cX12_layAll : ByteArray := prog_14_method_125_code
def yX12_layAll : MethodName := ⟨RX12, "layAll", "()V"⟩
abbrev cX12_was : ByteArray := prog_14_method_126_code
def yX12_was : MethodName := ⟨RX12, "was", "(I)I"⟩
abbrev cX12_ways : ByteArray := prog_14_method_127_code
def yX12_ways : MethodName := ⟨RX12, "ways", "()J"⟩
abbrev cX12_claimant : ByteArray := prog_14_method_128_code
def yX12_claimant : MethodName := ⟨RX12, "claimant", "(IIII)I"⟩
abbrev cX12_ofClaimant : ByteArray := prog_14_method_129_code
def yX12_ofClaimant : MethodName := ⟨RX12, "ofClaimant", "(II)I"⟩
abbrev cX12_claim : ByteArray := prog_14_method_130_code
def yX12_claim : MethodName := ⟨RX12, "claim", "(III)I"⟩
abbrev cX12_born : ByteArray := prog_14_method_131_code
def yX12_born : MethodName := ⟨RX12, "born", "(II)I"⟩
abbrev cX12_isAlive : ByteArray := prog_14_method_132_code
def yX12_isAlive : MethodName := ⟨RX12, "isAlive", "(II)Z"⟩
abbrev cX12_childrenOf : ByteArray := prog_14_method_133_code
def yX12_childrenOf : MethodName := ⟨RX12, "childrenOf", "(II)I"⟩
abbrev cX12_setClaimant : ByteArray := prog_14_method_134_code
def yX12_setClaimant : MethodName := ⟨RX12, "setClaimant", "(II)V"⟩
abbrev cX12_ranks : ByteArray := prog_14_method_135_code
def yX12_ranks : MethodName := ⟨RX12, "ranks", "(II)I"⟩
abbrev cX12_isOut : ByteArray := prog_14_method_136_code
def yX12_isOut : MethodName := ⟨RX12, "isOut", "(II)Z"⟩
abbrev cX12_stands : ByteArray := prog_14_method_137_code
def yX12_stands : MethodName := ⟨RX12, "stands", "(III)I"⟩
abbrev cX12_findRulers : ByteArray := prog_14_method_138_code
def yX12_findRulers : MethodName := ⟨RX12, "findRulers", "()V"⟩
abbrev cX12_ruler : ByteArray := prog_14_method_139_code
def yX12_ruler : MethodName := ⟨RX12, "ruler", "(I)I"⟩
abbrev cX12_reign : ByteArray := prog_14_method_140_code
def yX12_reign : MethodName := ⟨RX12, "reign", "(II)I"⟩
abbrev cX12_vacant : ByteArray := prog_14_method_141_code
def yX12_vacant : MethodName := ⟨RX12, "vacant", "()I"⟩
abbrev cX12_line : ByteArray := prog_14_method_142_code
def yX12_line : MethodName := ⟨RX12, "line", "(II)I"⟩
abbrev cX12_readSum : ByteArray := prog_14_method_143_code
def yX12_readSum : MethodName := ⟨RX12, "readSum", "(I)V"⟩
abbrev cX12_readHead : ByteArray := prog_14_method_144_code
def yX12_readHead : MethodName := ⟨RX12, "readHead", "()I"⟩
abbrev cX12_readOrder : ByteArray := prog_14_method_145_code
def yX12_readOrder : MethodName := ⟨RX12, "readOrder", "()V"⟩
abbrev cX12_setNow : ByteArray := prog_14_method_146_code
def yX12_setNow : MethodName := ⟨RX12, "setNow", "()V"⟩
abbrev cX12_sumOf : ByteArray := prog_14_method_147_code
def yX12_sumOf : MethodName := ⟨RX12, "sumOf", "(I)J"⟩
abbrev cX12_run : ByteArray := prog_14_method_148_code
def yX12_run : MethodName := ⟨RX12, "run", "(I)I"⟩
abbrev cX12_act : ByteArray := prog_14_method_149_code
def yX12_act : MethodName := ⟨RX12, "act", "(II)I"⟩
abbrev cX12_touchNow : ByteArray := prog_14_method_150_code
def yX12_touchNow : MethodName := ⟨RX12, "touchNow", "(I)I"⟩
abbrev cX12_orders : ByteArray := prog_14_method_151_code
def yX12_orders : MethodName := ⟨RX12, "orders", "()I"⟩
abbrev cX12_stopped : ByteArray := prog_14_method_152_code
def yX12_stopped : MethodName := ⟨RX12, "stopped", "()I"⟩
abbrev cX12_draw : ByteArray := prog_14_method_153_code
def yX12_draw : MethodName := ⟨RX12, "draw", "(I)I"⟩
abbrev cX12_century : ByteArray := prog_14_method_154_code
def yX12_century : MethodName := ⟨RX12, "century", "(II)I"⟩
abbrev cX12_drawn : ByteArray := prog_14_method_155_code
def yX12_drawn : MethodName := ⟨RX12, "drawn", "(I)I"⟩
abbrev cX12_count : ByteArray := prog_14_method_156_code
def yX12_count : MethodName := ⟨RX12, "count", "(I)I"⟩
abbrev cX12_status : ByteArray := prog_14_method_157_code
def yX12_status : MethodName := ⟨RX12, "status", "()I"⟩
def RJ6 : String := "java/lang/Integer"
def TJ6 : u_T := fun k => match k with
  | _ => ("", "", "", false)
def tyJ6 : Nat → FieldType := fun k => match k with
  | _ => .int
abbrev wsJ60 : List Cond := u_ws RJ6 TJ6 0
theorem nmJ6 : ∀ a, a < 0 → ∀ b, b < 0 → a ≠ b → (TJ6 a).2.1 ≠ (TJ6 b).2.1 := by decide +kernel
theorem tyJ6_ok : ∀ k, k < 0 → parseFieldDescriptor (TJ6 k).2.2.1 = some (tyJ6 k) := by decide +kernel
abbrev cJ6_bitCount_0f7a4 : ByteArray := prog_15_method_49_code
def yJ6_bitCount_0f7a4 : MethodName := ⟨RJ6, "bitCount", "(I)I"⟩
def RJ9 : String := "java/lang/Math"
def TJ9 : u_T := fun k => match k with
  | _ => ("", "", "", false)
def tyJ9 : Nat → FieldType := fun k => match k with
  | _ => .int
abbrev wsJ90 : List Cond := u_ws RJ9 TJ9 0
theorem nmJ9 : ∀ a, a < 0 → ∀ b, b < 0 → a ≠ b → (TJ9 a).2.1 ≠ (TJ9 b).2.1 := by decide +kernel
theorem tyJ9_ok : ∀ k, k < 0 → parseFieldDescriptor (TJ9 k).2.2.1 = some (tyJ9 k) := by decide +kernel
abbrev cJ9_abs_0f7a4 : ByteArray := prog_16_method_59_code
def yJ9_abs_0f7a4 : MethodName := ⟨RJ9, "abs", "(I)I"⟩
abbrev cJ9_max_7cf53 : ByteArray := prog_16_method_65_code
def yJ9_max_7cf53 : MethodName := ⟨RJ9, "max", "(II)I"⟩
abbrev cJ9_min_7cf53 : ByteArray := prog_16_method_69_code
def yJ9_min_7cf53 : MethodName := ⟨RJ9, "min", "(II)I"⟩
def RJ0 : String := "java/lang/String"
def TJ0 : u_T := fun k => match k with
  | _ => ("", "", "", false)
def tyJ0 : Nat → FieldType := fun k => match k with
  | _ => .int
abbrev wsJ00 : List Cond := u_ws RJ0 TJ0 0
theorem nmJ0 : ∀ a, a < 0 → ∀ b, b < 0 → a ≠ b → (TJ0 a).2.1 ≠ (TJ0 b).2.1 := by decide +kernel
theorem tyJ0_ok : ∀ k, k < 0 → parseFieldDescriptor (TJ0 k).2.2.1 = some (tyJ0 k) := by decide +kernel
abbrev cJ0_length_8abf5 : ByteArray := prog_17_method_54_code
def yJ0_length_8abf5 : MethodName := ⟨RJ0, "length", "()I"⟩
abbrev cJ0_charAt_5068e : ByteArray := prog_17_method_56_code
def yJ0_charAt_5068e : MethodName := ⟨RJ0, "charAt", "(I)C"⟩
abbrev cJ0_coder_7d493 : ByteArray := prog_17_method_152_code
def yJ0_coder_7d493 : MethodName := ⟨RJ0, "coder", "()B"⟩
abbrev cJ0_isLatin1_aae02 : ByteArray := prog_17_method_154_code
def yJ0_isLatin1_aae02 : MethodName := ⟨RJ0, "isLatin1", "()Z"⟩
abbrev cJ0_checkIndex_df160 : ByteArray := prog_17_method_155_code
def yJ0_checkIndex_df160 : MethodName := ⟨RJ0, "checkIndex", "(II)V"⟩
def RJ1 : String := "java/lang/StringLatin1"
def TJ1 : u_T := fun k => match k with
  | _ => ("", "", "", false)
def tyJ1 : Nat → FieldType := fun k => match k with
  | _ => .int
abbrev wsJ10 : List Cond := u_ws RJ1 TJ1 0
theorem nmJ1 : ∀ a, a < 0 → ∀ b, b < 0 → a ≠ b → (TJ1 a).2.1 ≠ (TJ1 b).2.1 := by decide +kernel
theorem tyJ1_ok : ∀ k, k < 0 → parseFieldDescriptor (TJ1 k).2.2.1 = some (tyJ1 k) := by decide +kernel
abbrev cJ1_charAt_3b067 : ByteArray := prog_18_method_2_code
def yJ1_charAt_3b067 : MethodName := ⟨RJ1, "charAt", "([BI)C"⟩
def RJ2 : String := "java/lang/StringUTF16"
def TJ2 : u_T := fun k => match k with
  | _ => ("", "", "", false)
def tyJ2 : Nat → FieldType := fun k => match k with
  | _ => .int
abbrev wsJ20 : List Cond := u_ws RJ2 TJ2 0
theorem nmJ2 : ∀ a, a < 0 → ∀ b, b < 0 → a ≠ b → (TJ2 a).2.1 ≠ (TJ2 b).2.1 := by decide +kernel
theorem tyJ2_ok : ∀ k, k < 0 → parseFieldDescriptor (TJ2 k).2.2.1 = some (tyJ2 k) := by decide +kernel
abbrev cJ2_getChar_3b067 : ByteArray := prog_19_method_5_code
def yJ2_getChar_3b067 : MethodName := ⟨RJ2, "getChar", "([BI)C"⟩
abbrev cJ2_length_9d52b : ByteArray := prog_19_method_6_code
def yJ2_length_9d52b : MethodName := ⟨RJ2, "length", "([B)I"⟩
abbrev cJ2_charAt_3b067 : ByteArray := prog_19_method_83_code
def yJ2_charAt_3b067 : MethodName := ⟨RJ2, "charAt", "([BI)C"⟩
abbrev cJ2_checkIndex_2214a : ByteArray := prog_19_method_91_code
def yJ2_checkIndex_2214a : MethodName := ⟨RJ2, "checkIndex", "(I[B)V"⟩
def RJ10 : String := "java/lang/System"
def TJ10 : u_T := fun k => match k with
  | _ => ("", "", "", false)
def tyJ10 : Nat → FieldType := fun k => match k with
  | _ => .int
abbrev wsJ100 : List Cond := u_ws RJ10 TJ10 0
theorem nmJ10 : ∀ a, a < 0 → ∀ b, b < 0 → a ≠ b → (TJ10 a).2.1 ≠ (TJ10 b).2.1 := by decide +kernel
theorem tyJ10_ok : ∀ k, k < 0 → parseFieldDescriptor (TJ10 k).2.2.1 = some (tyJ10 k) := by decide +kernel
def RJ3 : String := "jdk/internal/util/Preconditions"
def TJ3 : u_T := fun k => match k with
  | _ => ("", "", "", false)
def tyJ3 : Nat → FieldType := fun k => match k with
  | _ => .int
abbrev wsJ30 : List Cond := u_ws RJ3 TJ3 0
theorem nmJ3 : ∀ a, a < 0 → ∀ b, b < 0 → a ≠ b → (TJ3 a).2.1 ≠ (TJ3 b).2.1 := by decide +kernel
theorem tyJ3_ok : ∀ k, k < 0 → parseFieldDescriptor (TJ3 k).2.2.1 = some (tyJ3 k) := by decide +kernel
abbrev cJ3_checkIndex_8e157 : ByteArray := prog_21_method_11_code
def yJ3_checkIndex_8e157 : MethodName := ⟨RJ3, "checkIndex", "(IILjava/util/function/BiFunction;)I"⟩
def RL : String := "AgingPortraitLaw"
abbrev cL_law : ByteArray := code
def yL_law : MethodName := ⟨RL, "law", "([I)Z"⟩
abbrev vwCl : List vw_C := [(RX0, TX0, 8), (RX1, TX1, 10), (RX2, TX2, 6), (RX3, TX3, 3), (RX4, TX4, 4), (RX5, TX5, 15), (RX6, TX6, 9), (RX7, TX7, 15), (RX8, TX8, 9), (RX9, TX9, 4), (RX10, TX10, 5), (RX11, TX11, 19), (RX12, TX12, 61)]
end
section
/-! AN INTERPRETER OVER RESOLVED INSTRUCTIONS (own work). Values: int, long, reference (0: null, k+1: cell k, -1: the script, -(100+j): String constant j, -(200+j): its bytes, -5: a JDK static that nobody looks into), unset. Memory: shapes of the cells (kind, size, final references), numbers by cell and place. Kinds: 0 int[], 1 long[], 2 boolean[], 3 State[], 4 Text[], 10+c: object of class c of vwCl. -/
abbrev V : Type := Int ⊕ Int ⊕ Int ⊕ Unit
abbrev vI (x : Int) : V := .inl x
abbrev vL (x : Int) : V := .inr (.inl x)
abbrev vR (x : Int) : V := .inr (.inr (.inl x))
abbrev vU : V := .inr (.inr (.inr ()))
abbrev Shp : Type := Nat × Int × List Int
abbrev Mem : Type := List Shp × (Nat → Int → Int)
abbrev Ins : Type := Nat × Nat × Nat × Int
abbrev Res : Type := Option (Option V × Mem)
def w32 (x : Int) : Int := (x + 2147483648) % 4294967296 - 2147483648
def w64 (x : Int) : Int := (x + 9223372036854775808) % 18446744073709551616 - 9223372036854775808
/-- a number is written -/
def up (c : Nat → Int → Int) (k : Nat) (i v : Int) : Nat → Int → Int := fun a j => if a = k then (if j = i then v else c a j) else c a j
/-- a cell begins with zeros -/
def uz (c : Nat → Int → Int) (k : Nat) : Nat → Int → Int := fun a j => if a = k then 0 else c a j
/-- n numbers of cell s from sp on are copied to cell d from dp on -/
def cpy (c : Nat → Int → Int) (s : Nat) (sp : Int) (d : Nat) (dp n : Int) : Nat → Int → Int := fun a j => if a = d then (if dp ≤ j ∧ j < dp + n then c s (sp + (j - dp)) else c a j) else c a j
def drf (L : List Shp) (r : Int) : Option (Nat × Shp) := match r with
  | .ofNat (k + 1) => (L[k]?).elim none (fun s => some (k, s))
  | _ => none
def strOf (r : Int) : Option Nat := match r with
  | .negSucc n => bif Nat.ble 99 n && Nat.ble n 110 then some (n - 99) else none
  | _ => none
def bytOf (r : Int) : Option Nat := match r with
  | .negSucc n => bif Nat.ble 199 n && Nat.ble n 210 then some (n - 199) else none
  | _ => none
def tyV (v : V) : Nat := match v with
  | .inl _ => 0
  | .inr (.inl _) => 1
  | .inr (.inr (.inl _)) => 2
  | .inr (.inr (.inr _)) => 3
def iand (x y : Int) : Int := (Int32.ofInt x &&& Int32.ofInt y).toInt
def ior (x y : Int) : Int := (Int32.ofInt x ||| Int32.ofInt y).toInt
def ixor (x y : Int) : Int := (Int32.ofInt x ^^^ Int32.ofInt y).toInt
def ishl (x y : Int) : Int := (Int32.ofInt x <<< (Int32.ofInt y &&& 31)).toInt
def ishr (x y : Int) : Int := (Int32.ofInt x >>> (Int32.ofInt y &&& 31)).toInt
def iushr (x y : Int) : Int := ((Int32.ofInt x).toUInt32 >>> ((Int32.ofInt y).toUInt32 &&& Int32.toUInt32 31)).toInt32.toInt
def ibin (a : Nat) (x y : Int) : Int := match a with
  | 0 => w32 (x + y)
  | 1 => w32 (x - y)
  | 2 => w32 (x * y)
  | 3 => iand x y
  | 4 => ior x y
  | 5 => ixor x y
  | 6 => ishl x y
  | 7 => ishr x y
  | _ => iushr x y
def lbin (a : Nat) (x y : Int) : Int := match a with
  | 0 => w64 (x + y)
  | 1 => w64 (x - y)
  | _ => w64 (x * y)
def arv (a : Nat) (x : Int) : V := match a with
  | 0 => vI x
  | 1 => vL x
  | 2 => vI x
  | _ => vR x
/-- the locals, where a long ahead of a place ends -/
def kil (ls : List V) (a : Nat) : List V := match a with
  | 0 => ls
  | b + 1 => (ls[b]?).elim ls (fun v => bif Nat.beq (tyV v) 1 then ls.set b vU else ls)
def sto (ls : List V) (a b : Nat) (v : V) : List V := bif Nat.beq b 1 then ((kil ls a).set a v).set (a + 1) vU else (kil ls a).set a v
def pu (r : Option V) (st : List V) : List V := match r with
  | none => st
  | some v => v :: st
def cnd {α : Type} (a : Nat) (x y : Int) (t e : α) : α := match a with
  | 0 => if x = y then t else e
  | 1 => if x = y then e else t
  | 2 => if x < y then t else e
  | 3 => if x < y then e else t
  | 4 => if y < x then t else e
  | _ => if y < x then e else t
def swc {α : Type} (x : Int) (J : Nat → α) (d : Nat) : List (Int × Nat) → α
  | [] => J d
  | (v, t) :: l => if x = v then J t else swc x J d l
def swt (a : Nat) : List (Int × Nat) × Nat := match a with
  | 0 => ([(2, 92), (3, 101), (4, 110), (5, 119), (6, 139), (7, 156)], 173)
  | 1 => ([(0, 100), (1, 102), (2, 105)], 108)
  | 2 => ([(0, 44), (1, 53), (2, 71), (3, 97)], 106)
  | 3 => ([(0, 52), (1, 65), (2, 75), (3, 88)], 98)
  | 4 => ([(0, 116), (1, 124), (2, 132), (3, 140), (4, 148), (5, 156), (6, 164), (7, 177), (8, 177), (9, 177), (10, 177), (11, 177), (12, 169)], 177)
  | 5 => ([(0, 32), (1, 35), (2, 37), (3, 40)], 44)
  | 6 => ([(0, 36), (1, 46), (2, 56), (3, 66), (4, 76)], 86)
  | 7 => ([(20, 40), (21, 45), (22, 50), (23, 55), (24, 87), (25, 100)], 113)
  | 8 => ([(0, 56), (1, 62), (2, 81)], 105)
  | 9 => ([(0, 60), (1, 75), (2, 82)], 97)
  | 10 => ([(2, 65), (3, 32), (4, 54), (5, 59)], 109)
  | 11 => ([(0, 72), (1, 79), (2, 86), (3, 93), (4, 98), (5, 105), (6, 113), (7, 118), (8, 125), (9, 132), (10, 139), (11, 146), (12, 154)], 161)
  | 12 => ([(0, 276), (1, 309), (2, 342), (3, 385), (4, 418), (5, 451), (6, 494), (7, 517), (8, 580), (9, 603), (10, 616), (11, 629), (12, 642), (13, 655), (14, 668), (15, 681), (16, 704), (17, 747), (18, 790), (19, 813), (20, 826), (21, 859), (22, 892), (23, 905), (24, 928), (25, 941), (26, 984), (27, 1027), (28, 1050), (29, 1063), (30, 1106), (31, 1119), (32, 1142), (33, 1175), (34, 1198), (35, 1211), (36, 1244), (37, 1267), (38, 1290), (39, 1333), (40, 1346), (41, 1379), (42, 1402), (43, 1416), (44, 1469), (45, 1512), (46, 1545), (47, 1588), (48, 1611), (49, 1644), (50, 1657), (51, 1690), (52, 1723), (53, 1746), (54, 1769), (55, 1792), (56, 1815)], 1828)
  | _ => ([], 0)
def strb (j : Nat) : List Int := match j with
  | 0 => [108, 111, 111, 107, 115, 32, 108, 101, 116, 115, 32, 97, 115, 107, 115, 32, 114, 97, 110, 107, 115, 32, 98, 97, 114, 115]
  | 1 => [112, 97, 105, 110, 116, 32, 115, 99, 114, 97, 112, 101, 32, 99, 111, 112, 121, 32, 116, 111, 117, 99, 104]
  | 2 => [108, 105, 107, 101, 115, 116, 32, 99, 104, 101, 97, 112, 101, 115, 116, 32, 98, 121]
  | 3 => [97, 116]
  | 4 => [119, 105, 116, 104]
  | 5 => [116, 105, 109, 101, 115]
  | 6 => [105, 102]
  | 7 => [111, 114]
  | 8 => [97, 110, 100]
  | 9 => [110, 111, 116]
  | 10 => [121, 101, 97, 114, 115, 32, 117, 110, 108, 105, 107, 101, 32, 109, 111, 110, 101, 121, 32, 99, 111, 112, 105, 101, 115, 32, 97, 103, 101, 32, 100, 111, 110, 101, 32, 116, 111, 110, 101]
  | 11 => [99, 101, 108, 108, 32, 97, 103, 101, 32, 121, 101, 97, 114, 32, 112, 97, 105, 110, 116, 101, 114, 32, 112, 114, 105, 99, 101, 32, 109, 111, 111, 100, 32, 99, 108, 97, 105, 109, 97, 110, 116, 32, 98, 111, 114, 110, 32, 110, 101, 97, 114, 32, 99, 104, 105, 108, 100, 114, 101, 110]
  | _ => []
/-- words on the stack -/
def catS : List V → Nat
  | [] => 0
  | v :: l => (bif Nat.beq (tyV v) 1 then 2 else 1) + catS l
/-- a call's receiver: kinds of calls 0, 1 static, 2, 3 virtual (kind of the cell rk), 4, 5 constructors, 6 of a String -/
def rcv {α : Type} (Z : α) (kd rk : Nat) (L : List Shp) (args : List V) (y : α) : α := match kd, args with
  | 0, _ => y
  | 1, _ => y
  | 2, .inr (.inr (.inl r)) :: _ => (drf L r).elim Z (fun p => bif Nat.beq p.2.1 rk then y else Z)
  | 3, .inr (.inr (.inl r)) :: _ => (drf L r).elim Z (fun p => bif Nat.beq p.2.1 rk then y else Z)
  | 4, .inr (.inr (.inl r)) :: _ => (drf L r).elim Z (fun _ => y)
  | 5, .inr (.inr (.inl r)) :: _ => (drf L r).elim Z (fun _ => y)
  | 6, .inr (.inr (.inl r)) :: _ => (strOf r).elim Z (fun _ => y)
  | _, _ => Z
def pV {α : Type} (Z : α) (st : List V) (f : V → List V → α) : α := match st with
  | v :: st => f v st
  | [] => Z
def pI {α : Type} (Z : α) (st : List V) (f : Int → List V → α) : α := match st with
  | .inl x :: st => f x st
  | _ => Z
def pL {α : Type} (Z : α) (st : List V) (f : Int → List V → α) : α := match st with
  | .inr (.inl x) :: st => f x st
  | _ => Z
def pR {α : Type} (Z : α) (st : List V) (f : Int → List V → α) : α := match st with
  | .inr (.inr (.inl x)) :: st => f x st
  | _ => Z
def pE {α : Type} (Z : α) (st : List V) (y : α) : α := match st with
  | [] => y
  | _ => Z
/-- the cell of a reference -/
def pD {α : Type} (Z : α) (L : List Shp) (r : Int) (f : Nat → Shp → α) : α := (drf L r).elim Z (fun p => f p.1 p.2)
def one1 (v : V) : Bool := Nat.beq (tyV v) 0 || Nat.beq (tyV v) 2
def stp {α : Type} (Z : α) (J : Nat → List V → List V → Mem → α) (C : Nat → List V → List V → List V → Mem → α) (R : Option V → Mem → α) (k : List V → List V → Mem → α) (i : Ins) (ls st : List V) (M : Mem) : α :=
  match i.1 with
  | 0 => k ls (vI i.2.2.2 :: st) M
  | 1 => k ls (vL i.2.2.2 :: st) M
  | 2 => k ls (vR 0 :: st) M
  | 3 => (ls[i.2.1]?).elim Z (fun v => bif Nat.beq (tyV v) i.2.2.1 then k ls (v :: st) M else Z)
  | 4 => pV Z st (fun v st => bif Nat.beq (tyV v) i.2.2.1 then k (sto ls i.2.1 i.2.2.1 v) st M else Z)
  | 5 => pI Z (ls.drop i.2.1) (fun y _ => k (sto ls i.2.1 0 (vI (w32 (y + i.2.2.2)))) st M)
  | 6 => pI Z st (fun y st => pI Z st (fun x st => k ls (vI (ibin i.2.1 x y) :: st) M))
  | 7 => pI Z st (fun x st => k ls (vI (w32 (-x)) :: st) M)
  | 8 => pL Z st (fun y st => pL Z st (fun x st => k ls (vL (lbin i.2.1 x y) :: st) M))
  | 9 => pL Z st (fun y st => pL Z st (fun x st => if x < y then k ls (vI (-1) :: st) M else if x = y then k ls (vI 0 :: st) M else k ls (vI 1 :: st) M))
  | 10 => pI Z st (fun x st => k ls (vL x :: st) M)
  | 11 => pV Z st (fun v st => bif one1 v then k ls (v :: v :: st) M else Z)
  | 12 => pI Z st (fun x st => cnd i.2.1 x 0 (J i.2.2.1 ls st M) (k ls st M))
  | 13 => pI Z st (fun y st => pI Z st (fun x st => cnd i.2.1 x y (J i.2.2.1 ls st M) (k ls st M)))
  | 14 => pR Z st (fun r st => if r = 0 then k ls st M else pD Z M.1 r (fun _ _ => J i.2.2.1 ls st M))
  | 15 => k ls st M
  | 16 => J i.2.2.1 ls st M
  | 17 => pI Z st (fun x st => swc x (fun t => J t ls st M) (swt i.2.1).2 (swt i.2.1).1)
  | 18 => pR Z st (fun r st => pD Z M.1 r (fun p s => bif Nat.beq s.1 (10 + i.2.1) then k ls (vI (M.2 p (Int.ofNat i.2.2.1)) :: st) M else Z))
  | 19 => pR Z st (fun r st => pD Z M.1 r (fun p s => bif Nat.beq s.1 (10 + i.2.1) then k ls (vL (M.2 p (Int.ofNat i.2.2.1)) :: st) M else Z))
  | 20 => pR Z st (fun r st => pD Z M.1 r (fun p s => bif Nat.beq s.1 (10 + i.2.1) then k ls (vI (M.2 p (Int.ofNat i.2.2.1)) :: st) M else Z))
  | 21 => pR Z st (fun r st => pD Z M.1 r (fun _ s => bif Nat.beq s.1 (10 + i.2.1) then k ls (vR (s.2.2.getD i.2.2.1 0) :: st) M else Z))
  | 22 => pI Z st (fun x st => pR Z st (fun r st => pD Z M.1 r (fun p s => bif Nat.beq s.1 (10 + i.2.1) then k ls st (M.1, up M.2 p (Int.ofNat i.2.2.1) x) else Z)))
  | 23 => pL Z st (fun x st => pR Z st (fun r st => pD Z M.1 r (fun p s => bif Nat.beq s.1 (10 + i.2.1) then k ls st (M.1, up M.2 p (Int.ofNat i.2.2.1) x) else Z)))
  | 24 => pI Z st (fun x st => pR Z st (fun r st => pD Z M.1 r (fun p s => bif Nat.beq s.1 (10 + i.2.1) then (if x = 0 ∨ x = 1 then k ls st (M.1, up M.2 p (Int.ofNat i.2.2.1) x) else Z) else Z)))
  | 25 => pR Z st (fun x st => pR Z st (fun r st => pD Z M.1 r (fun p s => bif Nat.beq s.1 (10 + i.2.1) then pD Z M.1 x (fun _ _ => k ls st (M.1.set p (s.1, s.2.1, s.2.2.set i.2.2.1 x), M.2)) else Z)))
  | 26 => pI Z st (fun j st => pR Z st (fun r st => pD Z M.1 r (fun p s => bif Nat.beq s.1 i.2.1 then (if 0 ≤ j ∧ j < s.2.1 then k ls (arv i.2.1 (M.2 p j) :: st) M else Z) else Z)))
  | 27 => pI Z st (fun x st => pI Z st (fun j st => pR Z st (fun r st => pD Z M.1 r (fun p s => bif Nat.beq s.1 0 then (if 0 ≤ j ∧ j < s.2.1 then k ls st (M.1, up M.2 p j x) else Z) else Z))))
  | 28 => pR Z st (fun r st => pD Z M.1 r (fun _ s => bif Nat.ble s.1 4 then k ls (vI s.2.1 :: st) M else Z))
  | 29 => pI Z st (fun j st => pR Z st (fun r st => if r = -1 then (if 0 ≤ j ∧ j < M.2 1000001 0 then k ls (vI (M.2 1000000 j) :: st) M else Z) else Z))
  | 30 => pR Z st (fun r st => if r = -1 then k ls (vI (M.2 1000001 0) :: st) M else Z)
  | 31 => pR Z st (fun r st => (strOf r).elim Z (fun _ => k ls (vR (r - 100) :: st) M))
  | 32 => pR Z st (fun r st => (strOf r).elim Z (fun _ => k ls (vI 0 :: st) M))
  | 33 => pI Z st (fun j st => pR Z st (fun r st => (bytOf r).elim Z (fun n => if 0 ≤ j ∧ j < ((strb n).length : Int) then k ls (vI ((strb n).getD j.toNat 0) :: st) M else Z)))
  | 34 => pR Z st (fun r st => (bytOf r).elim Z (fun n => k ls (vI ((strb n).length : Int) :: st) M))
  | 35 => k ls (vI 1 :: st) M
  | 36 => k ls (vR ((M.1.length : Int) + 1) :: st) (M.1 ++ [(10 + i.2.1, (i.2.2.1 : Int), List.replicate i.2.2.1 0)], uz M.2 M.1.length)
  | 37 => pI Z st (fun n st => if 0 ≤ n ∧ n ≤ 60000000 then k ls (vR ((M.1.length : Int) + 1) :: st) (M.1 ++ [(i.2.1, n, [])], uz M.2 M.1.length) else Z)
  | 38 => pI Z st (fun n st => if 0 ≤ n ∧ n ≤ 60000000 then k ls (vR ((M.1.length : Int) + 1) :: st) (M.1 ++ [(i.2.1, n, [])], uz M.2 M.1.length) else Z)
  | 39 => bif Nat.ble (i.2.1 / 10 % 100) st.length && Nat.ble (catS (st.drop (i.2.1 / 10 % 100))) 8 then rcv Z (i.2.1 % 10) (i.2.1 / 1000) M.1 (st.take (i.2.1 / 10 % 100)).reverse (C i.2.2.1 (st.take (i.2.1 / 10 % 100)).reverse ls (st.drop (i.2.1 / 10 % 100)) M) else Z
  | 40 => pR Z st (fun r st => pD Z M.1 r (fun _ _ => bif Nat.ble (catS st) 8 then k ls st M else Z))
  | 41 => pI Z st (fun n st => pI Z st (fun dp st => pR Z st (fun d st => pI Z st (fun sp st => pR Z st (fun r st => pD Z M.1 r (fun p s => pD Z M.1 d (fun q t => bif Nat.beq s.1 0 && Nat.beq t.1 0 && !Nat.beq p q && Nat.ble (catS st) 8 then (if (0 ≤ sp ∧ 0 ≤ dp ∧ 0 ≤ n) ∧ sp + n ≤ s.2.1 ∧ dp + n ≤ t.2.1 then k ls st (M.1, cpy M.2 p sp q dp n) else Z) else Z)))))))
  | 42 => pE Z st (R none M)
  | 43 => pI Z st (fun y st => pI Z st (fun x st => if y = 0 then Z else k ls (vI (w32 (Int.tdiv x y)) :: st) M))
  | 44 => pI Z st (fun y st => pI Z st (fun x st => if y = 0 then Z else k ls (vI (w32 (Int.tmod x y)) :: st) M))
  | 45 => pL Z st (fun y st => pL Z st (fun x st => if y = 0 then Z else k ls (vL (w64 (Int.tdiv x y)) :: st) M))
  | 46 => pL Z st (fun y st => pL Z st (fun x st => if y = 0 then Z else k ls (vL (w64 (Int.tmod x y)) :: st) M))
  | 47 => k ls (vR (-100 - (i.2.1 : Int)) :: st) M
  | 48 => pL Z st (fun x st => k ls (vI (w32 x) :: st) M)
  | 49 => pI Z st (fun x st => if 0 ≤ x ∧ x < 65536 then k ls (vI x :: st) M else Z)
  | 50 => pV Z st (fun v st => pV Z st (fun w st => bif one1 v && one1 w then k ls (v :: w :: v :: w :: st) M else Z))
  | 51 => pV Z st (fun v st => bif one1 v then k ls st M else Z)
  | 52 => pL Z st (fun x st => pI Z st (fun j st => pR Z st (fun r st => pD Z M.1 r (fun p s => bif Nat.beq s.1 1 then (if 0 ≤ j ∧ j < s.2.1 then k ls st (M.1, up M.2 p j x) else Z) else Z))))
  | 53 => pI Z st (fun x st => pI Z st (fun j st => pR Z st (fun r st => pD Z M.1 r (fun p s => bif Nat.beq s.1 2 then (if 0 ≤ j ∧ j < s.2.1 then (if x = 0 ∨ x = 1 then k ls st (M.1, up M.2 p j x) else Z) else Z) else Z))))
  | 54 => pR Z st (fun x st => pI Z st (fun j st => pR Z st (fun r st => pD Z M.1 r (fun p s => bif Nat.beq s.1 i.2.1 then (if 0 ≤ j ∧ j < s.2.1 then pD Z M.1 x (fun _ t => bif Nat.beq t.1 i.2.2.1 then k ls st (M.1, up M.2 p j x) else Z) else Z) else Z))))
  | 55 => pI Z st (fun x st => pE Z st (R (some (vI x)) M))
  | 56 => pL Z st (fun x st => pE Z st (R (some (vL x)) M))
  | 57 => pR Z st (fun x st => pE Z st (R (some (vR x)) M))
  | 58 => pI Z st (fun x st => pE Z st (if x = 0 ∨ x = 1 then R (some (vI x)) M else Z))
  | 59 => pI Z st (fun x st => pE Z st (if 0 ≤ x ∧ x < 65536 then R (some (vI x)) M else Z))
  | 60 => pI Z st (fun x st => pE Z st (if -128 ≤ x ∧ x < 128 then R (some (vI x)) M else Z))
  | 61 => k ls (vR (-5) :: st) M
  | 62 => pI Z st (fun x st => bif Nat.ble (catS st) 8 then k ls (vI (if 0 ≤ x then x else w32 (0 - x)) :: st) M else Z)
  | 63 => pI Z st (fun y st => pI Z st (fun x st => bif Nat.ble (catS st) 8 then k ls (vI (if x < y then y else x) :: st) M else Z))
  | 64 => pI Z st (fun y st => pI Z st (fun x st => bif Nat.ble (catS st) 8 then k ls (vI (if y < x then y else x) :: st) M else Z))
  | _ => Z
/-- a row of instructions -/
def runL (J : Nat → List V → List V → Mem → Res) (C : Nat → List V → Mem → Res) : List Ins → List V → List V → Mem → Res
  | [], _, _, _ => none
  | i :: l, ls, st, M => stp (α := Res) none J (fun f args ls st M => (C f args M).elim none (fun q => runL J C l ls (pu q.1 st) q.2)) (fun v M => some (v, M)) (fun ls st M => runL J C l ls st M) i ls st M
/-- the locals that are looked at later -/
def msk : Nat → List V → List V
  | _, [] => []
  | b, v :: l => (bif Nat.beq (b % 2) 1 then v else vU) :: msk (b / 2) l
def fnd (p : Nat) : List (Nat × Nat × List Ins) → Nat × List Ins
  | [] => (0, [])
  | (q, b, l) :: r => bif Nat.beq p q then (b, l) else fnd p r
/-- the locals with which a method begins -/
def mkl (n : Nat) : List V → List V
  | [] => List.replicate n vU
  | v :: l => bif Nat.beq (tyV v) 1 then v :: vU :: mkl (n - 2) l else v :: mkl (n - 1) l
end
section
/-! THE CODE, resolved, by program out of the decode rows: of each method (places in the locals, needed depth, blocks: where it begins, which locals are looked at later, instructions) -/
def k_X0_init : List (Nat × Nat × List Ins) := [(0, 7, [(3, 0, 2, 0), (40, 0, 0, 3), (3, 0, 2, 0), (0, 0, 0, 5), (37, 0, 0, 0), (25, 0, 4, 9), (3, 0, 2, 0), (0, 1, 0, 12), (37, 0, 0, 0), (25, 0, 5, 15), (3, 0, 2, 0), (3, 1, 2, 0), (25, 0, 0, 18), (3, 0, 2, 0), (3, 2, 2, 0), (25, 0, 1, 22), (42, 0, 0, 0)])]
def k_X0_pass : List (Nat × Nat × List Ins) := [(0, 7, [(3, 0, 2, 0), (3, 1, 0, 0), (22, 0, 2, 26), (3, 0, 2, 0), (3, 0, 2, 0), (21, 0, 0, 18), (18, 7, 0, 30), (22, 0, 3, 35), (3, 0, 2, 0), (0, 0, 0, 1), (24, 0, 7, 36), (3, 0, 2, 0), (21, 0, 0, 18), (21, 7, 10, 40), (3, 0, 2, 0), (21, 0, 0, 18), (18, 7, 8, 43), (0, 1, 0, 12), (6, 2, 0, 0), (3, 0, 2, 0), (21, 0, 5, 15), (0, 0, 0, 0), (0, 1, 0, 12), (41, 0, 0, 46), (0, 0, 0, 0), (4, 3, 0, 0), (16, 0, 50, 0)]),
  (50, 13, [(3, 3, 0, 0), (0, 0, 0, 5), (13, 3, 68, 0), (3, 0, 2, 0), (21, 0, 4, 9), (3, 3, 0, 0), (0, 0, 0, 0), (27, 0, 0, 0), (5, 3, 0, 1), (15, 0, 50, 0), (16, 0, 50, 0)]),
  (68, 5, [(3, 0, 2, 0), (21, 0, 0, 18), (18, 7, 8, 43), (3, 2, 0, 0), (6, 0, 0, 0), (4, 3, 0, 0), (3, 0, 2, 0), (21, 0, 0, 18), (18, 7, 8, 43), (0, 0, 0, 1), (6, 0, 0, 0), (4, 4, 0, 0), (16, 0, 89, 0)]),
  (89, 25, [(3, 4, 0, 0), (3, 3, 0, 0), (13, 4, 114, 0), (3, 0, 2, 0), (18, 0, 3, 35), (12, 5, 114, 0), (3, 0, 2, 0), (3, 4, 0, 0), (39, 10022, 3, 52), (5, 4, 0, 1), (15, 0, 89, 0), (16, 0, 89, 0)]),
  (114, 9, [(3, 0, 2, 0), (0, 0, 0, 0), (22, 0, 6, 56), (0, 0, 0, 0), (4, 4, 0, 0), (16, 0, 122, 0)]),
  (122, 25, [(3, 4, 0, 0), (0, 1, 0, 12), (13, 3, 165, 0), (3, 0, 2, 0), (11, 0, 0, 0), (18, 0, 6, 56), (3, 0, 2, 0), (21, 0, 5, 15), (3, 4, 0, 0), (26, 0, 0, 0), (3, 0, 2, 0), (21, 0, 1, 22), (3, 4, 0, 0), (3, 3, 0, 0), (39, 14032, 23, 59), (6, 1, 0, 0), (62, 0, 0, 65), (6, 0, 0, 0), (22, 0, 6, 56), (5, 4, 0, 1), (15, 0, 122, 0), (16, 0, 122, 0)]),
  (165, 0, [(42, 0, 0, 0)])]
def k_X0_yearsOf : List (Nat × Nat × List Ins) := [(0, 3, [(3, 1, 0, 0), (3, 0, 2, 0), (18, 0, 3, 35), (39, 21, 177, 71), (12, 0, 20, 0), (3, 0, 2, 0), (21, 0, 4, 9), (3, 1, 0, 0), (26, 0, 0, 0), (15, 0, 21, 0), (55, 0, 0, 0)]),
  (20, 0, [(0, 0, 0, (-1)), (55, 0, 0, 0)])]
def k_X0_paintOne : List (Nat × Nat × List Ins) := [(0, 3, [(3, 0, 2, 0), (3, 0, 2, 0), (18, 0, 3, 35), (39, 10022, 4, 75), (4, 2, 0, 0), (3, 0, 2, 0), (21, 0, 4, 9), (3, 2, 0, 0), (50, 0, 0, 0), (26, 0, 0, 0), (0, 0, 0, 1), (6, 0, 0, 0), (27, 0, 0, 0), (0, 0, 0, 0), (4, 3, 0, 0), (16, 0, 21, 0)]),
  (21, 15, [(3, 3, 0, 0), (0, 1, 0, 12), (13, 3, 110, 0), (3, 0, 2, 0), (21, 0, 1, 22), (3, 3, 0, 0), (3, 1, 0, 0), (39, 14032, 23, 59), (4, 4, 0, 0), (3, 0, 2, 0), (21, 0, 0, 18), (3, 2, 0, 0), (3, 3, 0, 0), (3, 0, 2, 0), (21, 0, 5, 15), (3, 3, 0, 0), (26, 0, 0, 0), (3, 4, 0, 0), (39, 17052, 76, 78), (4, 5, 0, 0), (3, 0, 2, 0), (0, 1, 0, 8), (39, 10022, 4, 75), (4, 6, 0, 0), (3, 6, 0, 0), (12, 1, 74, 0), (0, 0, 0, (-1)), (15, 0, 85, 0), (16, 0, 85, 0)]),
  (74, 111, [(3, 6, 0, 0), (0, 0, 0, 1), (13, 1, 84, 0), (0, 0, 0, 1), (15, 0, 85, 0), (16, 0, 85, 0)]),
  (84, 47, [(0, 0, 0, 0), (16, 0, 85, 0)]),
  (85, 47, [(4, 7, 0, 0), (3, 0, 2, 0), (21, 0, 5, 15), (3, 3, 0, 0), (3, 5, 0, 0), (3, 7, 0, 0), (6, 0, 0, 0), (0, 0, 0, 0), (0, 1, 0, 9), (39, 31, 184, 82), (27, 0, 0, 0), (5, 3, 0, 1), (15, 0, 21, 0), (16, 0, 21, 0)]),
  (110, 0, [(42, 0, 0, 0)])]
def k_X0_draw : List (Nat × Nat × List Ins) := [(0, 3, [(3, 0, 2, 0), (3, 0, 2, 0), (18, 0, 2, 26), (0, 2, 0, 1103), (6, 2, 0, 0), (0, 2, 0, 12345), (6, 0, 0, 0), (0, 3, 86, 1000003), (44, 0, 0, 0), (22, 0, 2, 26), (3, 1, 0, 0), (12, 5, 32, 0), (3, 0, 2, 0), (18, 0, 2, 26), (3, 1, 0, 0), (44, 0, 0, 0), (15, 0, 33, 0), (55, 0, 0, 0)]),
  (32, 0, [(0, 0, 0, 0), (55, 0, 0, 0)])]
def k_X1_init : List (Nat × Nat × List Ins) := [(0, 31, [(3, 0, 2, 0), (40, 0, 0, 3), (3, 0, 2, 0), (36, 7, 15, 9), (11, 0, 0, 0), (39, 14, 64, 11), (25, 1, 1, 12), (3, 0, 2, 0), (36, 3, 3, 18), (11, 0, 0, 0), (39, 15, 19, 20), (25, 1, 5, 21), (3, 0, 2, 0), (0, 1, 0, 18), (37, 0, 0, 0), (25, 1, 6, 25), (3, 0, 2, 0), (0, 0, 0, 3), (37, 0, 0, 0), (25, 1, 7, 29), (3, 0, 2, 0), (3, 1, 2, 0), (25, 1, 0, 32), (3, 0, 2, 0), (3, 2, 2, 0), (25, 1, 2, 35), (3, 0, 2, 0), (3, 3, 2, 0), (25, 1, 3, 39), (3, 0, 2, 0), (3, 4, 2, 0), (25, 1, 4, 43), (42, 0, 0, 0)])]
def k_X1_runAll : List (Nat × Nat × List Ins) := [(0, 3, [(3, 0, 2, 0), (21, 1, 1, 12), (3, 0, 2, 0), (21, 1, 0, 32), (39, 17022, 65, 47), (3, 0, 2, 0), (0, 0, 0, 0), (22, 1, 9, 51), (3, 0, 2, 0), (0, 0, 0, 0), (22, 1, 8, 55), (16, 0, 21, 0)]),
  (21, 3, [(3, 0, 2, 0), (18, 1, 8, 55), (3, 1, 2, 0), (18, 10, 2, 58), (13, 3, 165, 0), (3, 0, 2, 0), (18, 1, 8, 55), (0, 1, 0, 6), (6, 2, 0, 0), (4, 2, 0, 0), (0, 0, 0, 0), (4, 3, 0, 0), (16, 0, 42, 0)]),
  (42, 15, [(3, 3, 0, 0), (3, 1, 2, 0), (21, 10, 0, 63), (3, 2, 0, 0), (0, 0, 0, 1), (6, 0, 0, 0), (26, 0, 0, 0), (13, 3, 152, 0), (3, 0, 2, 0), (3, 1, 2, 0), (18, 10, 4, 66), (39, 11022, 7, 68), (3, 0, 2, 0), (3, 1, 2, 0), (3, 2, 0, 0), (39, 11032, 8, 72), (12, 0, 146, 0), (0, 1, 0, (-3)), (4, 4, 0, 0), (3, 0, 2, 0), (3, 1, 2, 0), (3, 2, 0, 0), (39, 11032, 9, 76), (12, 0, 117, 0), (3, 1, 2, 0), (21, 10, 0, 63), (3, 2, 0, 0), (0, 0, 0, 0), (6, 0, 0, 0), (26, 0, 0, 0), (4, 5, 0, 0), (3, 5, 0, 0), (0, 0, 0, 2), (13, 4, 109, 0), (3, 0, 2, 0), (3, 5, 0, 0), (39, 11022, 10, 79), (15, 0, 115, 0), (4, 4, 0, 0), (16, 0, 117, 0)]),
  (109, 47, [(3, 0, 2, 0), (3, 5, 0, 0), (39, 11022, 11, 83), (4, 4, 0, 0), (16, 0, 117, 0)]),
  (117, 31, [(3, 4, 0, 0), (12, 0, 136, 0), (3, 0, 2, 0), (21, 1, 0, 32), (3, 0, 2, 0), (21, 1, 1, 12), (39, 17022, 65, 47), (3, 4, 0, 0), (55, 0, 0, 0)]),
  (136, 15, [(3, 0, 2, 0), (11, 0, 0, 0), (18, 1, 9, 51), (0, 0, 0, 1), (6, 0, 0, 0), (22, 1, 9, 51), (16, 0, 146, 0)]),
  (146, 15, [(5, 3, 0, 1), (15, 0, 42, 0), (16, 0, 42, 0)]),
  (152, 3, [(3, 0, 2, 0), (11, 0, 0, 0), (18, 1, 8, 55), (0, 0, 0, 1), (6, 0, 0, 0), (22, 1, 8, 55), (15, 0, 21, 0), (16, 0, 21, 0)]),
  (165, 0, [(0, 0, 0, 0), (55, 0, 0, 0)])]
def k_X1_learnWords : List (Nat × Nat × List Ins) := [(0, 3, [(3, 0, 2, 0), (21, 1, 6, 25), (0, 0, 0, 0), (3, 0, 2, 0), (21, 1, 0, 32), (18, 7, 8, 86), (27, 0, 0, 0), (3, 0, 2, 0), (21, 1, 6, 25), (0, 0, 0, 3), (3, 0, 2, 0), (21, 1, 0, 32), (18, 7, 11, 89), (27, 0, 0, 0), (3, 0, 2, 0), (21, 1, 6, 25), (0, 0, 0, 4), (3, 0, 2, 0), (21, 1, 0, 32), (3, 0, 2, 0), (21, 1, 0, 32), (18, 7, 8, 86), (39, 17022, 69, 92), (27, 0, 0, 0), (3, 0, 2, 0), (21, 1, 6, 25), (0, 0, 0, 5), (3, 0, 2, 0), (18, 1, 9, 51), (27, 0, 0, 0), (0, 0, 0, 0), (4, 2, 0, 0), (16, 0, 58, 0)]),
  (58, 7, [(3, 2, 0, 0), (0, 1, 0, 12), (13, 3, 87, 0), (3, 0, 2, 0), (21, 1, 6, 25), (0, 1, 0, 6), (3, 2, 0, 0), (6, 0, 0, 0), (3, 0, 2, 0), (21, 1, 0, 32), (3, 2, 0, 0), (39, 17022, 71, 95), (27, 0, 0, 0), (5, 2, 0, 1), (15, 0, 58, 0), (16, 0, 58, 0)]),
  (87, 3, [(3, 1, 0, 0), (0, 0, 0, 1), (6, 7, 0, 0), (0, 0, 0, 1), (6, 3, 0, 0), (0, 0, 0, 1), (13, 1, 116, 0), (3, 0, 2, 0), (21, 1, 6, 25), (0, 0, 0, 1), (3, 0, 2, 0), (21, 1, 3, 39), (3, 0, 2, 0), (21, 1, 0, 32), (18, 7, 8, 86), (39, 19022, 96, 98), (27, 0, 0, 0), (16, 0, 116, 0)]),
  (116, 3, [(3, 1, 0, 0), (0, 0, 0, 2), (6, 7, 0, 0), (0, 0, 0, 1), (6, 3, 0, 0), (0, 0, 0, 1), (13, 1, 145, 0), (3, 0, 2, 0), (21, 1, 6, 25), (0, 0, 0, 2), (3, 0, 2, 0), (21, 1, 3, 39), (3, 0, 2, 0), (21, 1, 0, 32), (18, 7, 8, 86), (39, 19022, 98, 103), (27, 0, 0, 0), (16, 0, 145, 0)]),
  (145, 0, [(42, 0, 0, 0)])]
def k_X1_isWanted : List (Nat × Nat × List Ins) := [(0, 7, [(3, 1, 2, 0), (21, 10, 0, 63), (3, 2, 0, 0), (0, 0, 0, 2), (6, 0, 0, 0), (26, 0, 0, 0), (4, 3, 0, 0), (3, 3, 0, 0), (0, 0, 0, (-1)), (13, 0, 41, 0), (3, 0, 2, 0), (21, 1, 5, 21), (3, 1, 2, 0), (3, 3, 0, 0), (3, 0, 2, 0), (21, 1, 6, 25), (39, 13042, 20, 106), (12, 0, 45, 0), (3, 0, 2, 0), (21, 1, 5, 21), (18, 3, 2, 110), (0, 0, 0, 1), (13, 1, 45, 0), (16, 0, 41, 0)]),
  (41, 0, [(0, 0, 0, 1), (15, 0, 46, 0), (58, 0, 0, 0)]),
  (45, 0, [(0, 0, 0, 0), (58, 0, 0, 0)])]
def k_X1_sumsWork : List (Nat × Nat × List Ins) := [(0, 7, [(0, 0, 0, 0), (4, 3, 0, 0), (16, 0, 2, 0)]),
  (2, 15, [(3, 3, 0, 0), (3, 0, 2, 0), (21, 1, 7, 29), (28, 0, 0, 0), (13, 3, 67, 0), (3, 1, 2, 0), (21, 10, 0, 63), (3, 2, 0, 0), (0, 0, 0, 3), (6, 0, 0, 0), (3, 3, 0, 0), (6, 0, 0, 0), (26, 0, 0, 0), (4, 4, 0, 0), (3, 4, 0, 0), (0, 0, 0, (-1)), (13, 0, 61, 0), (3, 0, 2, 0), (21, 1, 5, 21), (3, 1, 2, 0), (3, 4, 0, 0), (3, 0, 2, 0), (21, 1, 6, 25), (39, 13042, 20, 106), (12, 1, 48, 0), (0, 0, 0, 0), (58, 0, 0, 0)]),
  (48, 15, [(3, 0, 2, 0), (21, 1, 7, 29), (3, 3, 0, 0), (3, 0, 2, 0), (21, 1, 5, 21), (18, 3, 2, 110), (27, 0, 0, 0), (16, 0, 61, 0)]),
  (61, 15, [(5, 3, 0, 1), (15, 0, 2, 0), (16, 0, 2, 0)]),
  (67, 0, [(0, 0, 0, 1), (58, 0, 0, 0)])]
def k_X1_paints : List (Nat × Nat × List Ins) := [(0, 3, [(3, 0, 2, 0), (21, 1, 7, 29), (0, 0, 0, 0), (26, 0, 0, 0), (4, 2, 0, 0), (3, 1, 0, 0), (0, 0, 0, 2), (13, 0, 45, 0), (3, 0, 2, 0), (21, 1, 4, 43), (3, 1, 0, 0), (0, 0, 0, 1), (39, 15032, 35, 113), (3, 0, 2, 0), (21, 1, 4, 43), (18, 5, 14, 119), (12, 5, 43, 0), (3, 0, 2, 0), (21, 1, 4, 43), (21, 5, 11, 121), (0, 0, 0, 0), (26, 0, 0, 0), (15, 0, 44, 0), (4, 2, 0, 0), (16, 0, 45, 0)]),
  (43, 1, [(0, 0, 0, (-1)), (4, 2, 0, 0), (16, 0, 45, 0)]),
  (45, 5, [(3, 0, 2, 0), (21, 1, 0, 32), (18, 7, 8, 86), (0, 0, 0, 1), (6, 0, 0, 0), (4, 3, 0, 0), (3, 0, 2, 0), (21, 1, 0, 32), (3, 2, 0, 0), (39, 17022, 66, 124), (12, 0, 90, 0), (3, 0, 2, 0), (21, 1, 2, 35), (3, 2, 0, 0), (3, 3, 0, 0), (39, 14032, 26, 128), (12, 1, 90, 0), (3, 0, 2, 0), (21, 1, 0, 32), (3, 2, 0, 0), (3, 3, 0, 0), (39, 17032, 70, 134), (12, 0, 93, 0), (16, 0, 90, 0)]),
  (90, 0, [(0, 1, 0, (-3)), (55, 0, 0, 0)]),
  (93, 5, [(3, 0, 2, 0), (21, 1, 0, 32), (18, 7, 8, 86), (0, 1, 0, 16), (13, 2, 108, 0), (0, 1, 0, (-5)), (55, 0, 0, 0)]),
  (108, 5, [(3, 0, 2, 0), (21, 1, 3, 39), (3, 2, 0, 0), (39, 19022, 95, 137), (0, 0, 0, 0), (55, 0, 0, 0)])]
def k_X1_changes : List (Nat × Nat × List Ins) := [(0, 3, [(3, 1, 0, 0), (0, 0, 0, 4), (13, 1, 29, 0), (3, 0, 2, 0), (21, 1, 0, 32), (18, 7, 11, 89), (0, 1, 0, 6), (13, 2, 20, 0), (0, 1, 0, (-5)), (55, 0, 0, 0)]),
  (20, 1, [(3, 0, 2, 0), (21, 1, 0, 32), (39, 17012, 72, 140), (0, 0, 0, 0), (55, 0, 0, 0)]),
  (29, 3, [(3, 1, 0, 0), (0, 0, 0, 3), (13, 1, 62, 0), (3, 0, 2, 0), (21, 1, 0, 32), (18, 7, 8, 86), (12, 1, 47, 0), (0, 1, 0, (-3)), (55, 0, 0, 0)]),
  (47, 1, [(3, 0, 2, 0), (21, 1, 0, 32), (11, 0, 0, 0), (18, 7, 8, 86), (0, 0, 0, 1), (6, 1, 0, 0), (22, 7, 8, 86), (0, 0, 0, 0), (55, 0, 0, 0)]),
  (62, 1, [(3, 0, 2, 0), (21, 1, 7, 29), (0, 0, 0, 0), (26, 0, 0, 0), (3, 0, 2, 0), (21, 1, 0, 32), (18, 7, 11, 89), (39, 21, 177, 143), (12, 0, 105, 0), (3, 0, 2, 0), (21, 1, 7, 29), (0, 0, 0, 1), (26, 0, 0, 0), (39, 11, 178, 146), (12, 0, 105, 0), (3, 0, 2, 0), (21, 1, 7, 29), (0, 0, 0, 2), (26, 0, 0, 0), (39, 11, 179, 149), (12, 1, 108, 0), (16, 0, 105, 0)]),
  (105, 0, [(0, 1, 0, (-3)), (55, 0, 0, 0)]),
  (108, 1, [(3, 0, 2, 0), (21, 1, 0, 32), (21, 7, 12, 152), (3, 0, 2, 0), (21, 1, 7, 29), (0, 0, 0, 0), (26, 0, 0, 0), (0, 1, 0, 12), (6, 2, 0, 0), (3, 0, 2, 0), (21, 1, 7, 29), (0, 0, 0, 1), (26, 0, 0, 0), (6, 0, 0, 0), (3, 0, 2, 0), (21, 1, 7, 29), (0, 0, 0, 2), (26, 0, 0, 0), (27, 0, 0, 0), (0, 0, 0, 0), (55, 0, 0, 0)])]
def k_X2_init : List (Nat × Nat × List Ins) := [(0, 7, [(3, 0, 2, 0), (40, 0, 0, 3), (3, 0, 2, 0), (0, 1, 0, 8), (37, 0, 0, 0), (25, 2, 2, 9), (3, 0, 2, 0), (0, 1, 0, 100), (37, 0, 0, 0), (25, 2, 3, 15), (3, 0, 2, 0), (0, 1, 0, 8), (37, 0, 0, 0), (25, 2, 4, 18), (3, 0, 2, 0), (3, 1, 2, 0), (25, 2, 0, 21), (3, 0, 2, 0), (3, 2, 2, 0), (25, 2, 1, 25), (42, 0, 0, 0)])]
def k_X2_crownTill : List (Nat × Nat × List Ins) := [(0, 3, [(0, 0, 0, (-1)), (4, 2, 0, 0), (0, 0, 0, 0), (4, 3, 0, 0), (16, 0, 4, 0)]),
  (4, 15, [(3, 3, 0, 0), (3, 1, 0, 0), (13, 4, 68, 0), (3, 3, 0, 0), (0, 1, 0, 100), (13, 3, 68, 0), (3, 2, 0, 0), (0, 0, 0, (-1)), (13, 0, 32, 0), (3, 0, 2, 0), (21, 2, 0, 21), (3, 2, 0, 0), (3, 3, 0, 0), (39, 17032, 74, 29), (12, 1, 55, 0), (16, 0, 32, 0)]),
  (32, 11, [(3, 0, 2, 0), (3, 3, 0, 0), (39, 12022, 16, 35), (3, 0, 2, 0), (18, 2, 5, 39), (12, 5, 53, 0), (3, 0, 2, 0), (21, 2, 4, 18), (0, 0, 0, 0), (26, 0, 0, 0), (15, 0, 54, 0), (4, 2, 0, 0), (16, 0, 55, 0)]),
  (53, 11, [(0, 0, 0, (-1)), (4, 2, 0, 0), (16, 0, 55, 0)]),
  (55, 15, [(3, 0, 2, 0), (21, 2, 3, 15), (3, 3, 0, 0), (3, 2, 0, 0), (27, 0, 0, 0), (5, 3, 0, 1), (15, 0, 4, 0), (16, 0, 4, 0)]),
  (68, 0, [(42, 0, 0, 0)])]
def k_X2_reigns : List (Nat × Nat × List Ins) := [(0, 1, [(0, 0, 0, 0), (4, 1, 0, 0), (0, 0, 0, 0), (4, 2, 0, 0), (16, 0, 4, 0)]),
  (4, 7, [(3, 2, 0, 0), (0, 1, 0, 100), (13, 3, 27, 0), (3, 0, 2, 0), (3, 2, 0, 0), (39, 12022, 17, 43), (12, 0, 21, 0), (5, 1, 0, 1), (16, 0, 21, 0)]),
  (21, 7, [(5, 2, 0, 1), (15, 0, 4, 0), (16, 0, 4, 0)]),
  (27, 2, [(3, 1, 0, 0), (55, 0, 0, 0)])]
def k_X2_reignOf : List (Nat × Nat × List Ins) := [(0, 7, [(0, 0, 0, 0), (4, 3, 0, 0), (0, 0, 0, 0), (4, 4, 0, 0), (16, 0, 5, 0)]),
  (5, 31, [(3, 4, 0, 0), (0, 1, 0, 100), (13, 3, 66, 0), (3, 0, 2, 0), (3, 4, 0, 0), (39, 12022, 17, 43), (12, 0, 60, 0), (3, 3, 0, 0), (3, 1, 0, 0), (13, 1, 57, 0), (3, 2, 0, 0), (12, 1, 40, 0), (3, 0, 2, 0), (21, 2, 3, 15), (3, 4, 0, 0), (26, 0, 0, 0), (15, 0, 56, 0), (55, 0, 0, 0)]),
  (40, 21, [(3, 2, 0, 0), (0, 0, 0, 1), (13, 1, 50, 0), (3, 4, 0, 0), (15, 0, 56, 0), (55, 0, 0, 0)]),
  (50, 17, [(3, 0, 2, 0), (3, 4, 0, 0), (39, 12022, 18, 47), (55, 0, 0, 0)]),
  (57, 31, [(5, 3, 0, 1), (16, 0, 60, 0)]),
  (60, 31, [(5, 4, 0, 1), (15, 0, 5, 0), (16, 0, 5, 0)]),
  (66, 0, [(0, 0, 0, (-1)), (55, 0, 0, 0)])]
def k_X2_standInLine : List (Nat × Nat × List Ins) := [(0, 3, [(3, 0, 2, 0), (0, 0, 0, 0), (22, 2, 5, 39), (0, 0, 0, 0), (4, 2, 0, 0), (16, 0, 7, 0)]),
  (7, 7, [(3, 2, 0, 0), (3, 0, 2, 0), (21, 2, 0, 21), (18, 7, 13, 51), (13, 3, 146, 0), (3, 0, 2, 0), (21, 2, 0, 21), (3, 2, 0, 0), (3, 1, 0, 0), (39, 17032, 74, 29), (12, 0, 140, 0), (3, 0, 2, 0), (21, 2, 1, 25), (3, 2, 0, 0), (3, 1, 0, 0), (39, 14032, 28, 54), (12, 1, 140, 0), (3, 0, 2, 0), (21, 2, 1, 25), (3, 2, 0, 0), (3, 1, 0, 0), (39, 14032, 27, 59), (4, 3, 0, 0), (3, 0, 2, 0), (18, 2, 5, 39), (4, 4, 0, 0), (16, 0, 58, 0)]),
  (58, 31, [(3, 4, 0, 0), (12, 5, 114, 0), (3, 0, 2, 0), (21, 2, 2, 9), (3, 4, 0, 0), (0, 0, 0, 1), (6, 1, 0, 0), (26, 0, 0, 0), (3, 3, 0, 0), (13, 5, 114, 0), (3, 0, 2, 0), (21, 2, 2, 9), (3, 4, 0, 0), (3, 0, 2, 0), (21, 2, 2, 9), (3, 4, 0, 0), (0, 0, 0, 1), (6, 1, 0, 0), (26, 0, 0, 0), (27, 0, 0, 0), (3, 0, 2, 0), (21, 2, 4, 18), (3, 4, 0, 0), (3, 0, 2, 0), (21, 2, 4, 18), (3, 4, 0, 0), (0, 0, 0, 1), (6, 1, 0, 0), (26, 0, 0, 0), (27, 0, 0, 0), (5, 4, 0, (-1)), (15, 0, 58, 0), (16, 0, 58, 0)]),
  (114, 31, [(3, 0, 2, 0), (21, 2, 2, 9), (3, 4, 0, 0), (3, 3, 0, 0), (27, 0, 0, 0), (3, 0, 2, 0), (21, 2, 4, 18), (3, 4, 0, 0), (3, 2, 0, 0), (27, 0, 0, 0), (3, 0, 2, 0), (11, 0, 0, 0), (18, 2, 5, 39), (0, 0, 0, 1), (6, 0, 0, 0), (22, 2, 5, 39), (16, 0, 140, 0)]),
  (140, 7, [(5, 2, 0, 1), (15, 0, 7, 0), (16, 0, 7, 0)]),
  (146, 0, [(42, 0, 0, 0)])]
def k_X2_begins : List (Nat × Nat × List Ins) := [(0, 3, [(3, 0, 2, 0), (21, 2, 3, 15), (3, 1, 0, 0), (26, 0, 0, 0), (0, 0, 0, (-1)), (13, 0, 35, 0), (3, 1, 0, 0), (12, 0, 31, 0), (3, 0, 2, 0), (21, 2, 3, 15), (3, 1, 0, 0), (0, 0, 0, 1), (6, 1, 0, 0), (26, 0, 0, 0), (3, 0, 2, 0), (21, 2, 3, 15), (3, 1, 0, 0), (26, 0, 0, 0), (13, 0, 35, 0), (16, 0, 31, 0)]),
  (31, 0, [(0, 0, 0, 1), (15, 0, 36, 0), (58, 0, 0, 0)]),
  (35, 0, [(0, 0, 0, 0), (58, 0, 0, 0)])]
def k_X2_lasts : List (Nat × Nat × List Ins) := [(0, 3, [(3, 1, 0, 0), (4, 2, 0, 0), (16, 0, 2, 0)]),
  (2, 7, [(3, 2, 0, 0), (0, 1, 0, 100), (13, 3, 29, 0), (3, 0, 2, 0), (21, 2, 3, 15), (3, 2, 0, 0), (26, 0, 0, 0), (3, 0, 2, 0), (21, 2, 3, 15), (3, 1, 0, 0), (26, 0, 0, 0), (13, 1, 29, 0), (5, 2, 0, 1), (15, 0, 2, 0), (16, 0, 2, 0)]),
  (29, 6, [(3, 2, 0, 0), (3, 1, 0, 0), (6, 1, 0, 0), (55, 0, 0, 0)])]
def k_X3_init : List (Nat × Nat × List Ins) := [(0, 1, [(3, 0, 2, 0), (40, 0, 0, 3), (3, 0, 2, 0), (0, 1, 0, 100), (37, 0, 0, 0), (25, 3, 0, 9), (42, 0, 0, 0)])]
def k_X3_works : List (Nat × Nat × List Ins) := [(0, 15, [(3, 0, 2, 0), (0, 0, 0, 0), (22, 3, 1, 15), (3, 2, 0, 0), (4, 4, 0, 0), (0, 0, 0, 0), (4, 5, 0, 0), (16, 0, 11, 0)]),
  (11, 59, [(3, 5, 0, 0), (0, 2, 0, 450), (13, 3, 271, 0), (3, 4, 0, 0), (3, 1, 2, 0), (18, 10, 3, 19), (39, 21, 177, 24), (12, 0, 271, 0), (3, 1, 2, 0), (21, 10, 1, 28), (3, 4, 0, 0), (26, 0, 0, 0), (0, 1, 0, 15), (6, 3, 0, 0), (4, 6, 0, 0), (3, 1, 2, 0), (21, 10, 1, 28), (3, 4, 0, 0), (26, 0, 0, 0), (0, 0, 0, 4), (6, 7, 0, 0), (4, 7, 0, 0), (5, 4, 0, 1), (3, 6, 0, 0), (12, 0, 68, 0), (3, 6, 0, 0), (0, 0, 0, 1), (13, 1, 131, 0), (16, 0, 68, 0)]),
  (68, 251, [(3, 0, 2, 0), (18, 3, 1, 15), (3, 0, 2, 0), (21, 3, 0, 9), (28, 0, 0, 0), (13, 3, 93, 0), (3, 6, 0, 0), (0, 0, 0, 1), (13, 1, 95, 0), (3, 7, 0, 0), (3, 3, 2, 0), (28, 0, 0, 0), (13, 2, 95, 0), (16, 0, 93, 0)]),
  (93, 0, [(0, 0, 0, 0), (58, 0, 0, 0)]),
  (95, 251, [(3, 0, 2, 0), (21, 3, 0, 9), (3, 0, 2, 0), (18, 3, 1, 15), (3, 6, 0, 0), (12, 1, 113, 0), (3, 7, 0, 0), (15, 0, 117, 0), (16, 0, 117, 0)]),
  (113, 187, [(3, 3, 2, 0), (3, 7, 0, 0), (26, 0, 0, 0), (16, 0, 117, 0)]),
  (117, 59, [(27, 0, 0, 0), (3, 0, 2, 0), (11, 0, 0, 0), (18, 3, 1, 15), (0, 0, 0, 1), (6, 0, 0, 0), (22, 3, 1, 15), (15, 0, 265, 0), (16, 0, 265, 0)]),
  (131, 251, [(3, 0, 2, 0), (18, 3, 1, 15), (0, 0, 0, 1), (13, 3, 141, 0), (0, 0, 0, 0), (58, 0, 0, 0)]),
  (141, 251, [(3, 6, 0, 0), (0, 1, 0, 12), (13, 1, 160, 0), (3, 0, 2, 0), (3, 0, 2, 0), (21, 3, 0, 9), (0, 0, 0, 0), (26, 0, 0, 0), (22, 3, 2, 31), (0, 0, 0, 1), (58, 0, 0, 0)]),
  (160, 251, [(3, 6, 0, 0), (0, 1, 0, 9), (13, 1, 194, 0), (3, 0, 2, 0), (21, 3, 0, 9), (3, 0, 2, 0), (18, 3, 1, 15), (0, 0, 0, 1), (6, 1, 0, 0), (0, 0, 0, 1), (3, 0, 2, 0), (21, 3, 0, 9), (3, 0, 2, 0), (18, 3, 1, 15), (0, 0, 0, 1), (6, 1, 0, 0), (26, 0, 0, 0), (6, 1, 0, 0), (27, 0, 0, 0), (15, 0, 265, 0), (16, 0, 265, 0)]),
  (194, 251, [(3, 6, 0, 0), (0, 1, 0, 10), (13, 0, 208, 0), (3, 6, 0, 0), (0, 1, 0, 11), (13, 1, 254, 0), (16, 0, 208, 0)]),
  (208, 251, [(3, 0, 2, 0), (21, 3, 0, 9), (3, 0, 2, 0), (18, 3, 1, 15), (0, 0, 0, 1), (6, 1, 0, 0), (26, 0, 0, 0), (3, 6, 0, 0), (0, 1, 0, 10), (13, 1, 230, 0), (0, 0, 0, 1), (15, 0, 231, 0), (16, 0, 231, 0)]),
  (230, 187, [(0, 0, 0, 0), (16, 0, 231, 0)]),
  (231, 187, [(13, 1, 241, 0), (3, 7, 0, 0), (4, 4, 0, 0), (15, 0, 265, 0), (16, 0, 265, 0)]),
  (241, 59, [(3, 0, 2, 0), (11, 0, 0, 0), (18, 3, 1, 15), (0, 0, 0, 1), (6, 1, 0, 0), (22, 3, 1, 15), (15, 0, 265, 0), (16, 0, 265, 0)]),
  (254, 123, [(3, 0, 2, 0), (3, 6, 0, 0), (39, 13022, 21, 34), (12, 1, 265, 0), (0, 0, 0, 0), (58, 0, 0, 0)]),
  (265, 59, [(5, 5, 0, 1), (15, 0, 11, 0), (16, 0, 11, 0)]),
  (271, 0, [(0, 0, 0, 0), (58, 0, 0, 0)])]
def k_X3_joins : List (Nat × Nat × List Ins) := [(0, 3, [(3, 0, 2, 0), (18, 3, 1, 15), (0, 0, 0, 2), (13, 3, 10, 0), (0, 0, 0, 0), (58, 0, 0, 0)]),
  (10, 3, [(3, 0, 2, 0), (21, 3, 0, 9), (3, 0, 2, 0), (18, 3, 1, 15), (0, 0, 0, 2), (6, 1, 0, 0), (26, 0, 0, 0), (10, 0, 0, 0), (4, 2, 1, 0), (3, 0, 2, 0), (21, 3, 0, 9), (3, 0, 2, 0), (18, 3, 1, 15), (0, 0, 0, 1), (6, 1, 0, 0), (26, 0, 0, 0), (10, 0, 0, 0), (4, 4, 1, 0), (3, 1, 0, 0), (0, 0, 0, 5), (13, 1, 51, 0), (3, 4, 1, 0), (1, 0, 0, 0), (9, 0, 0, 0), (12, 1, 51, 0), (0, 0, 0, 0), (58, 0, 0, 0)]),
  (51, 23, [(3, 1, 0, 0), (17, 0, 0, 40)]),
  (92, 21, [(3, 2, 1, 0), (3, 4, 1, 0), (8, 0, 0, 0), (4, 6, 1, 0), (15, 0, 187, 0), (16, 0, 187, 0)]),
  (101, 21, [(3, 2, 1, 0), (3, 4, 1, 0), (8, 1, 0, 0), (4, 6, 1, 0), (15, 0, 187, 0), (16, 0, 187, 0)]),
  (110, 21, [(3, 2, 1, 0), (3, 4, 1, 0), (8, 2, 0, 0), (4, 6, 1, 0), (15, 0, 187, 0), (16, 0, 187, 0)]),
  (119, 21, [(3, 4, 1, 0), (1, 0, 0, 0), (9, 0, 0, 0), (12, 1, 130, 0), (1, 0, 0, 0), (15, 0, 134, 0), (4, 6, 1, 0), (15, 0, 187, 0), (16, 0, 187, 0)]),
  (130, 21, [(3, 2, 1, 0), (3, 4, 1, 0), (45, 0, 0, 0), (4, 6, 1, 0), (15, 0, 187, 0), (16, 0, 187, 0)]),
  (139, 21, [(3, 2, 1, 0), (3, 4, 1, 0), (9, 0, 0, 0), (12, 3, 150, 0), (1, 0, 0, 1), (15, 0, 151, 0), (4, 6, 1, 0), (15, 0, 187, 0), (16, 0, 187, 0)]),
  (150, 1, [(1, 0, 0, 0), (4, 6, 1, 0), (15, 0, 187, 0), (16, 0, 187, 0)]),
  (156, 21, [(3, 2, 1, 0), (3, 4, 1, 0), (9, 0, 0, 0), (12, 5, 167, 0), (1, 0, 0, 1), (15, 0, 168, 0), (4, 6, 1, 0), (15, 0, 187, 0), (16, 0, 187, 0)]),
  (167, 1, [(1, 0, 0, 0), (4, 6, 1, 0), (15, 0, 187, 0), (16, 0, 187, 0)]),
  (173, 21, [(3, 2, 1, 0), (3, 4, 1, 0), (9, 0, 0, 0), (12, 1, 184, 0), (1, 0, 0, 1), (15, 0, 185, 0), (4, 6, 1, 0), (16, 0, 187, 0)]),
  (184, 1, [(1, 0, 0, 0), (4, 6, 1, 0), (16, 0, 187, 0)]),
  (187, 65, [(3, 6, 1, 0), (1, 1, 38, 1000000000), (9, 0, 0, 0), (12, 4, 205, 0), (3, 6, 1, 0), (1, 1, 40, (-1000000000)), (9, 0, 0, 0), (12, 3, 207, 0), (16, 0, 205, 0)]),
  (205, 0, [(0, 0, 0, 0), (58, 0, 0, 0)]),
  (207, 65, [(3, 0, 2, 0), (11, 0, 0, 0), (18, 3, 1, 15), (0, 0, 0, 1), (6, 1, 0, 0), (22, 3, 1, 15), (3, 0, 2, 0), (21, 3, 0, 9), (3, 0, 2, 0), (18, 3, 1, 15), (0, 0, 0, 1), (6, 1, 0, 0), (3, 6, 1, 0), (48, 0, 0, 0), (27, 0, 0, 0), (0, 0, 0, 1), (58, 0, 0, 0)])]
def k_X4_init : List (Nat × Nat × List Ins) := [(0, 3, [(3, 0, 2, 0), (40, 0, 0, 3), (3, 0, 2, 0), (36, 3, 3, 9), (11, 0, 0, 0), (39, 15, 19, 11), (25, 4, 1, 12), (3, 0, 2, 0), (0, 1, 0, 10), (37, 0, 0, 0), (25, 4, 2, 18), (3, 0, 2, 0), (3, 1, 2, 0), (25, 4, 0, 22), (42, 0, 0, 0)])]
def k_X4_looksOf : List (Nat × Nat × List Ins) := [(0, 7, [(3, 0, 2, 0), (3, 1, 0, 0), (3, 2, 0, 0), (39, 14032, 29, 26), (4, 3, 0, 0), (3, 3, 0, 0), (0, 0, 0, (-1)), (13, 0, 14, 0), (3, 3, 0, 0), (55, 0, 0, 0)]),
  (14, 7, [(3, 0, 2, 0), (3, 2, 0, 0), (39, 14022, 30, 30), (3, 0, 2, 0), (21, 4, 2, 18), (0, 0, 0, 0), (3, 1, 0, 0), (27, 0, 0, 0), (3, 0, 2, 0), (0, 0, 0, 0), (39, 14022, 33, 34), (12, 0, 45, 0), (3, 0, 2, 0), (18, 4, 3, 38), (0, 0, 0, 0), (0, 1, 0, 9), (39, 31, 184, 42), (55, 0, 0, 0)]),
  (45, 5, [(0, 1, 0, 9), (3, 0, 2, 0), (21, 4, 0, 22), (3, 2, 0, 0), (39, 17022, 69, 46), (0, 1, 0, 10), (43, 0, 0, 0), (64, 0, 0, 52), (55, 0, 0, 0)])]
def k_X4_letsOf : List (Nat × Nat × List Ins) := [(0, 7, [(3, 0, 2, 0), (3, 2, 0, 0), (39, 14022, 30, 30), (3, 0, 2, 0), (21, 4, 2, 18), (0, 0, 0, 0), (3, 1, 0, 0), (27, 0, 0, 0), (3, 0, 2, 0), (0, 0, 0, 1), (39, 14022, 33, 34), (12, 0, 33, 0), (3, 0, 2, 0), (18, 4, 3, 38), (0, 0, 0, 0), (0, 1, 0, 9), (39, 31, 184, 42), (15, 0, 35, 0), (55, 0, 0, 0)]),
  (33, 0, [(0, 1, 0, 9), (55, 0, 0, 0)])]
def k_X4_asksOf : List (Nat × Nat × List Ins) := [(0, 7, [(3, 0, 2, 0), (3, 1, 0, 0), (3, 2, 0, 0), (39, 14032, 31, 57), (3, 0, 2, 0), (0, 0, 0, 2), (39, 14022, 33, 34), (12, 0, 28, 0), (3, 0, 2, 0), (18, 4, 3, 38), (0, 0, 0, 0), (0, 2, 0, 999), (39, 31, 184, 42), (15, 0, 41, 0), (55, 0, 0, 0)]),
  (28, 3, [(3, 0, 2, 0), (21, 4, 0, 22), (21, 7, 1, 61), (3, 1, 0, 0), (0, 0, 0, 5), (6, 2, 0, 0), (0, 0, 0, 1), (6, 0, 0, 0), (26, 0, 0, 0), (55, 0, 0, 0)])]
def k_X4_barsPainter : List (Nat × Nat × List Ins) := [(0, 7, [(3, 0, 2, 0), (3, 1, 0, 0), (3, 2, 0, 0), (39, 14032, 31, 57), (3, 0, 2, 0), (0, 0, 0, 4), (39, 14022, 33, 34), (58, 0, 0, 0)])]
def k_X4_ranksOf : List (Nat × Nat × List Ins) := [(0, 7, [(3, 0, 2, 0), (3, 1, 0, 0), (3, 2, 0, 0), (39, 14032, 32, 64), (3, 0, 2, 0), (0, 0, 0, 3), (39, 14022, 33, 34), (12, 0, 28, 0), (3, 0, 2, 0), (18, 4, 3, 38), (0, 0, 0, 0), (0, 2, 0, 999), (39, 31, 184, 42), (15, 0, 29, 0), (55, 0, 0, 0)]),
  (28, 2, [(3, 1, 0, 0), (55, 0, 0, 0)])]
def k_X4_barsClaimant : List (Nat × Nat × List Ins) := [(0, 7, [(3, 0, 2, 0), (3, 1, 0, 0), (3, 2, 0, 0), (39, 14032, 32, 64), (3, 0, 2, 0), (0, 0, 0, 4), (39, 14022, 33, 34), (58, 0, 0, 0)])]
def k_X4_scarOn : List (Nat × Nat × List Ins) := [(0, 7, [(0, 0, 0, (-1)), (4, 3, 0, 0), (0, 0, 0, (-1)), (4, 4, 0, 0), (0, 0, 0, 0), (4, 5, 0, 0), (16, 0, 8, 0)]),
  (8, 63, [(3, 5, 0, 0), (3, 0, 2, 0), (21, 4, 0, 22), (18, 7, 2, 67), (0, 0, 0, 3), (6, 2, 0, 0), (13, 3, 85, 0), (3, 0, 2, 0), (21, 4, 0, 22), (21, 7, 3, 70), (3, 5, 0, 0), (0, 0, 0, 1), (6, 0, 0, 0), (26, 0, 0, 0), (4, 6, 0, 0), (3, 0, 2, 0), (21, 4, 0, 22), (21, 7, 3, 70), (3, 5, 0, 0), (26, 0, 0, 0), (3, 1, 0, 0), (13, 1, 79, 0), (3, 6, 0, 0), (3, 2, 0, 0), (13, 4, 79, 0), (3, 6, 0, 0), (3, 3, 0, 0), (13, 2, 79, 0), (3, 6, 0, 0), (4, 3, 0, 0), (3, 0, 2, 0), (21, 4, 0, 22), (21, 7, 3, 70), (3, 5, 0, 0), (0, 0, 0, 2), (6, 0, 0, 0), (26, 0, 0, 0), (4, 4, 0, 0), (16, 0, 79, 0)]),
  (79, 63, [(5, 5, 0, 3), (15, 0, 8, 0), (16, 0, 8, 0)]),
  (85, 16, [(3, 4, 0, 0), (55, 0, 0, 0)])]
def k_X4_ask : List (Nat × Nat × List Ins) := [(0, 3, [(0, 0, 0, 0), (4, 2, 0, 0), (16, 0, 2, 0)]),
  (2, 7, [(3, 2, 0, 0), (3, 0, 2, 0), (21, 4, 2, 18), (28, 0, 0, 0), (13, 3, 24, 0), (3, 0, 2, 0), (21, 4, 2, 18), (3, 2, 0, 0), (0, 0, 0, (-1)), (27, 0, 0, 0), (5, 2, 0, 1), (15, 0, 2, 0), (16, 0, 2, 0)]),
  (24, 3, [(3, 0, 2, 0), (21, 4, 2, 18), (0, 0, 0, 1), (3, 0, 2, 0), (21, 4, 0, 22), (3, 1, 0, 0), (39, 17022, 69, 46), (27, 0, 0, 0), (3, 0, 2, 0), (21, 4, 2, 18), (0, 0, 0, 2), (3, 1, 0, 0), (27, 0, 0, 0), (3, 0, 2, 0), (21, 4, 2, 18), (0, 0, 0, 5), (3, 0, 2, 0), (21, 4, 0, 22), (21, 7, 4, 73), (0, 0, 0, 2), (26, 0, 0, 0), (27, 0, 0, 0), (42, 0, 0, 0)])]
def k_X4_askPainter : List (Nat × Nat × List Ins) := [(0, 7, [(3, 0, 2, 0), (3, 2, 0, 0), (39, 14022, 30, 30), (3, 0, 2, 0), (21, 4, 2, 18), (0, 0, 0, 3), (3, 1, 0, 0), (27, 0, 0, 0), (3, 0, 2, 0), (21, 4, 2, 18), (0, 0, 0, 4), (3, 0, 2, 0), (21, 4, 0, 22), (21, 7, 1, 61), (3, 1, 0, 0), (0, 0, 0, 5), (6, 2, 0, 0), (0, 0, 0, 1), (6, 0, 0, 0), (26, 0, 0, 0), (27, 0, 0, 0), (42, 0, 0, 0)])]
def k_X4_askClaimant : List (Nat × Nat × List Ins) := [(0, 7, [(3, 0, 2, 0), (3, 2, 0, 0), (39, 14022, 30, 30), (3, 1, 0, 0), (0, 0, 0, 4), (6, 2, 0, 0), (4, 3, 0, 0), (3, 0, 2, 0), (21, 4, 0, 22), (21, 7, 14, 76), (3, 3, 0, 0), (0, 0, 0, 3), (6, 0, 0, 0), (26, 0, 0, 0), (4, 4, 0, 0), (3, 0, 2, 0), (21, 4, 2, 18), (0, 1, 0, 6), (3, 1, 0, 0), (27, 0, 0, 0), (3, 0, 2, 0), (21, 4, 2, 18), (0, 1, 0, 7), (3, 0, 2, 0), (21, 4, 0, 22), (21, 7, 14, 76), (3, 3, 0, 0), (0, 0, 0, 1), (6, 0, 0, 0), (26, 0, 0, 0), (27, 0, 0, 0), (3, 0, 2, 0), (21, 4, 2, 18), (0, 0, 0, 1), (3, 2, 0, 0), (3, 0, 2, 0), (21, 4, 0, 22), (21, 7, 14, 76), (3, 3, 0, 0), (0, 0, 0, 1), (6, 0, 0, 0), (26, 0, 0, 0), (6, 1, 0, 0), (27, 0, 0, 0), (3, 0, 2, 0), (21, 4, 2, 18), (0, 1, 0, 8), (3, 4, 0, 0), (3, 0, 2, 0), (21, 4, 0, 22), (18, 7, 11, 79), (39, 21, 177, 82), (12, 0, 100, 0), (3, 0, 2, 0), (21, 4, 0, 22), (3, 4, 0, 0), (39, 17022, 73, 86), (15, 0, 101, 0), (16, 0, 101, 0)]),
  (100, 7, [(0, 0, 0, (-1)), (16, 0, 101, 0)]),
  (101, 7, [(27, 0, 0, 0), (3, 0, 2, 0), (21, 4, 2, 18), (0, 1, 0, 9), (3, 0, 2, 0), (21, 4, 0, 22), (3, 1, 0, 0), (3, 2, 0, 0), (39, 17032, 75, 89), (27, 0, 0, 0), (42, 0, 0, 0)])]
def k_X4_tells : List (Nat × Nat × List Ins) := [(0, 3, [(3, 0, 2, 0), (21, 4, 0, 22), (18, 7, 7, 92), (3, 0, 2, 0), (21, 4, 0, 22), (18, 7, 5, 95), (39, 21, 177, 82), (12, 0, 38, 0), (3, 0, 2, 0), (21, 4, 0, 22), (21, 7, 6, 98), (3, 0, 2, 0), (21, 4, 0, 22), (18, 7, 7, 92), (26, 4, 0, 0), (15, 0, 39, 0), (16, 0, 39, 0)]),
  (38, 3, [(2, 0, 0, 0), (16, 0, 39, 0)]),
  (39, 3, [(4, 2, 2, 0), (3, 2, 2, 0), (14, 0, 46, 0), (0, 0, 0, 0), (58, 0, 0, 0)]),
  (46, 7, [(3, 2, 2, 0), (18, 10, 2, 102), (0, 0, 0, 1), (6, 1, 0, 0), (0, 1, 0, 6), (6, 2, 0, 0), (4, 3, 0, 0), (16, 0, 56, 0)]),
  (56, 15, [(3, 3, 0, 0), (12, 2, 180, 0), (3, 2, 2, 0), (21, 10, 0, 107), (3, 3, 0, 0), (0, 0, 0, 0), (6, 0, 0, 0), (26, 0, 0, 0), (3, 1, 0, 0), (13, 1, 174, 0), (3, 2, 2, 0), (21, 10, 0, 107), (3, 3, 0, 0), (0, 0, 0, 2), (6, 0, 0, 0), (26, 0, 0, 0), (4, 4, 0, 0), (3, 2, 2, 0), (21, 10, 0, 107), (3, 3, 0, 0), (0, 0, 0, 3), (6, 0, 0, 0), (26, 0, 0, 0), (4, 5, 0, 0), (3, 4, 0, 0), (0, 0, 0, (-1)), (13, 0, 126, 0), (3, 0, 2, 0), (21, 4, 1, 12), (3, 2, 2, 0), (3, 4, 0, 0), (3, 0, 2, 0), (21, 4, 2, 18), (39, 13042, 20, 110), (12, 0, 130, 0), (3, 0, 2, 0), (21, 4, 1, 12), (18, 3, 2, 114), (0, 0, 0, 1), (13, 1, 130, 0), (16, 0, 126, 0)]),
  (126, 47, [(0, 0, 0, 1), (15, 0, 131, 0), (16, 0, 131, 0)]),
  (130, 47, [(0, 0, 0, 0), (16, 0, 131, 0)]),
  (131, 47, [(4, 6, 0, 0), (3, 6, 0, 0), (12, 0, 174, 0), (3, 5, 0, 0), (0, 0, 0, (-1)), (13, 0, 161, 0), (3, 0, 2, 0), (21, 4, 1, 12), (3, 2, 2, 0), (3, 5, 0, 0), (3, 0, 2, 0), (21, 4, 2, 18), (39, 13042, 20, 110), (12, 0, 174, 0), (16, 0, 161, 0)]),
  (161, 1, [(3, 0, 2, 0), (3, 0, 2, 0), (21, 4, 1, 12), (18, 3, 2, 114), (22, 4, 3, 38), (0, 0, 0, 1), (58, 0, 0, 0)]),
  (174, 15, [(5, 3, 0, (-6)), (15, 0, 56, 0), (16, 0, 56, 0)]),
  (180, 0, [(0, 0, 0, 0), (58, 0, 0, 0)])]
def k_X5_init : List (Nat × Nat × List Ins) := [(0, 7, [(3, 0, 2, 0), (40, 0, 0, 3), (3, 0, 2, 0), (0, 1, 0, 72), (37, 0, 0, 0), (25, 5, 2, 9), (3, 0, 2, 0), (0, 1, 0, 72), (37, 0, 0, 0), (25, 5, 3, 15), (3, 0, 2, 0), (0, 1, 0, 30), (37, 0, 0, 0), (25, 5, 4, 18), (3, 0, 2, 0), (0, 1, 0, 30), (37, 2, 0, 0), (25, 5, 5, 21), (3, 0, 2, 0), (0, 1, 0, 72), (37, 0, 0, 0), (25, 5, 6, 25), (3, 0, 2, 0), (0, 0, 0, 5), (37, 0, 0, 0), (25, 5, 7, 28), (3, 0, 2, 0), (0, 0, 0, 5), (37, 0, 0, 0), (25, 5, 11, 31), (3, 0, 2, 0), (3, 1, 2, 0), (25, 5, 0, 34), (3, 0, 2, 0), (3, 2, 2, 0), (25, 5, 1, 38), (42, 0, 0, 0)])]
def k_X5_seek : List (Nat × Nat × List Ins) := [(0, 7, [(3, 0, 2, 0), (3, 1, 0, 0), (22, 5, 8, 42), (3, 0, 2, 0), (3, 2, 0, 0), (0, 0, 0, 5), (64, 0, 0, 46), (22, 5, 9, 52), (3, 0, 2, 0), (0, 0, 0, 0), (22, 5, 14, 55), (3, 0, 2, 0), (3, 0, 2, 0), (21, 5, 0, 34), (21, 7, 4, 58), (0, 0, 0, 3), (26, 0, 0, 0), (3, 0, 2, 0), (21, 5, 0, 34), (18, 7, 8, 63), (6, 2, 0, 0), (22, 5, 10, 66), (0, 0, 0, 1), (4, 3, 0, 0), (16, 0, 42, 0)]),
  (42, 9, [(3, 3, 0, 0), (3, 0, 2, 0), (21, 5, 0, 34), (18, 7, 8, 63), (13, 4, 85, 0), (3, 0, 2, 0), (11, 0, 0, 0), (18, 5, 10, 66), (3, 0, 2, 0), (21, 5, 1, 38), (3, 0, 2, 0), (21, 5, 0, 34), (21, 7, 9, 69), (3, 3, 0, 0), (26, 0, 0, 0), (3, 3, 0, 0), (39, 14032, 25, 71), (6, 1, 0, 0), (22, 5, 10, 66), (5, 3, 0, 1), (15, 0, 42, 0), (16, 0, 42, 0)]),
  (85, 1, [(0, 0, 0, 0), (4, 3, 0, 0), (16, 0, 87, 0)]),
  (87, 9, [(3, 3, 0, 0), (3, 0, 2, 0), (18, 5, 9, 52), (13, 4, 239, 0), (3, 0, 2, 0), (21, 5, 0, 34), (18, 7, 8, 63), (3, 3, 0, 0), (6, 0, 0, 0), (4, 4, 0, 0), (0, 0, 0, 0), (4, 5, 0, 0), (16, 0, 109, 0)]),
  (109, 57, [(3, 5, 0, 0), (0, 1, 0, 12), (13, 3, 168, 0), (3, 0, 2, 0), (21, 5, 2, 9), (3, 3, 0, 0), (0, 1, 0, 12), (6, 2, 0, 0), (3, 5, 0, 0), (6, 0, 0, 0), (3, 0, 2, 0), (21, 5, 1, 38), (3, 5, 0, 0), (3, 4, 0, 0), (39, 14032, 23, 76), (27, 0, 0, 0), (3, 0, 2, 0), (21, 5, 3, 15), (3, 3, 0, 0), (0, 1, 0, 12), (6, 2, 0, 0), (3, 5, 0, 0), (6, 0, 0, 0), (3, 0, 2, 0), (21, 5, 1, 38), (3, 5, 0, 0), (3, 4, 0, 0), (39, 14032, 24, 79), (27, 0, 0, 0), (5, 5, 0, 1), (15, 0, 109, 0), (16, 0, 109, 0)]),
  (168, 25, [(0, 0, 0, 0), (4, 5, 0, 0), (16, 0, 171, 0)]),
  (171, 57, [(3, 5, 0, 0), (3, 0, 2, 0), (21, 5, 0, 34), (18, 7, 0, 82), (13, 3, 233, 0), (3, 0, 2, 0), (21, 5, 4, 18), (3, 3, 0, 0), (0, 0, 0, 5), (6, 2, 0, 0), (3, 5, 0, 0), (6, 0, 0, 0), (3, 0, 2, 0), (21, 5, 1, 38), (3, 5, 0, 0), (3, 4, 0, 0), (39, 14032, 25, 71), (27, 0, 0, 0), (3, 0, 2, 0), (21, 5, 5, 21), (3, 3, 0, 0), (0, 0, 0, 5), (6, 2, 0, 0), (3, 5, 0, 0), (6, 0, 0, 0), (3, 0, 2, 0), (21, 5, 1, 38), (3, 5, 0, 0), (3, 4, 0, 0), (39, 14032, 26, 85), (53, 0, 0, 0), (5, 5, 0, 1), (15, 0, 171, 0), (16, 0, 171, 0)]),
  (233, 9, [(5, 3, 0, 1), (15, 0, 87, 0), (16, 0, 87, 0)]),
  (239, 1, [(3, 0, 2, 0), (21, 5, 0, 34), (21, 7, 10, 89), (3, 0, 2, 0), (21, 5, 0, 34), (18, 7, 8, 63), (0, 1, 0, 12), (6, 2, 0, 0), (3, 0, 2, 0), (21, 5, 6, 25), (0, 0, 0, 0), (0, 1, 0, 12), (41, 0, 0, 92), (3, 0, 2, 0), (0, 0, 0, 0), (0, 0, 0, 0), (39, 30, 36, 98), (42, 0, 0, 0)])]
def k_X5_walk : List (Nat × Nat × List Ins) := [(0, 7, [(3, 1, 0, 0), (3, 0, 2, 0), (18, 5, 9, 52), (13, 2, 14, 0), (3, 0, 2, 0), (3, 2, 0, 0), (39, 15022, 40, 102), (42, 0, 0, 0)]),
  (14, 7, [(3, 1, 0, 0), (0, 0, 0, 1), (6, 0, 0, 0), (4, 3, 0, 0), (0, 0, 0, 0), (4, 4, 0, 0), (16, 0, 21, 0)]),
  (21, 31, [(3, 4, 0, 0), (3, 0, 2, 0), (21, 5, 0, 34), (18, 7, 0, 82), (13, 3, 96, 0), (3, 0, 2, 0), (3, 4, 0, 0), (3, 1, 0, 0), (39, 15032, 37, 106), (12, 0, 90, 0), (3, 2, 0, 0), (3, 0, 2, 0), (21, 5, 4, 18), (3, 3, 0, 0), (0, 0, 0, 5), (6, 2, 0, 0), (3, 4, 0, 0), (6, 0, 0, 0), (26, 0, 0, 0), (6, 0, 0, 0), (4, 5, 0, 0), (3, 0, 2, 0), (21, 5, 7, 28), (3, 1, 0, 0), (3, 4, 0, 0), (27, 0, 0, 0), (3, 0, 2, 0), (3, 4, 0, 0), (3, 3, 0, 0), (39, 15032, 38, 109), (3, 0, 2, 0), (3, 3, 0, 0), (3, 5, 0, 0), (39, 15032, 39, 113), (12, 0, 90, 0), (3, 0, 2, 0), (3, 3, 0, 0), (3, 5, 0, 0), (39, 30, 36, 98), (16, 0, 90, 0)]),
  (90, 31, [(5, 4, 0, 1), (15, 0, 21, 0), (16, 0, 21, 0)]),
  (96, 0, [(42, 0, 0, 0)])]
def k_X5_mayPaint : List (Nat × Nat × List Ins) := [(0, 7, [(3, 2, 0, 0), (0, 0, 0, 1), (6, 0, 0, 0), (4, 3, 0, 0), (3, 0, 2, 0), (21, 5, 5, 21), (3, 3, 0, 0), (0, 0, 0, 5), (6, 2, 0, 0), (3, 1, 0, 0), (6, 0, 0, 0), (26, 2, 0, 0), (12, 1, 37, 0), (3, 0, 2, 0), (21, 5, 0, 34), (3, 1, 0, 0), (3, 0, 2, 0), (21, 5, 0, 34), (18, 7, 8, 63), (3, 3, 0, 0), (6, 0, 0, 0), (39, 17032, 70, 116), (12, 0, 39, 0), (16, 0, 37, 0)]),
  (37, 0, [(0, 0, 0, 0), (58, 0, 0, 0)]),
  (39, 7, [(0, 0, 0, 0), (3, 2, 0, 0), (3, 0, 2, 0), (21, 5, 0, 34), (21, 7, 4, 58), (0, 0, 0, 4), (26, 0, 0, 0), (6, 1, 0, 0), (63, 0, 0, 119), (4, 4, 0, 0), (16, 0, 56, 0)]),
  (56, 23, [(3, 4, 0, 0), (3, 2, 0, 0), (13, 3, 81, 0), (3, 0, 2, 0), (21, 5, 7, 28), (3, 4, 0, 0), (26, 0, 0, 0), (3, 1, 0, 0), (13, 1, 75, 0), (0, 0, 0, 0), (58, 0, 0, 0)]),
  (75, 23, [(5, 4, 0, 1), (15, 0, 56, 0), (16, 0, 56, 0)]),
  (81, 0, [(0, 0, 0, 1), (58, 0, 0, 0)])]
def k_X5_paintOver : List (Nat × Nat × List Ins) := [(0, 7, [(3, 2, 0, 0), (0, 1, 0, 12), (6, 2, 0, 0), (4, 3, 0, 0), (0, 0, 0, 0), (4, 4, 0, 0), (16, 0, 8, 0)]),
  (8, 27, [(3, 4, 0, 0), (0, 1, 0, 12), (13, 3, 61, 0), (3, 0, 2, 0), (21, 5, 6, 25), (3, 3, 0, 0), (3, 4, 0, 0), (6, 0, 0, 0), (3, 0, 2, 0), (21, 5, 0, 34), (3, 1, 0, 0), (3, 4, 0, 0), (3, 0, 2, 0), (21, 5, 6, 25), (3, 3, 0, 0), (0, 1, 0, 12), (6, 1, 0, 0), (3, 4, 0, 0), (6, 0, 0, 0), (26, 0, 0, 0), (3, 0, 2, 0), (21, 5, 2, 9), (3, 3, 0, 0), (3, 4, 0, 0), (6, 0, 0, 0), (26, 0, 0, 0), (39, 17052, 76, 122), (27, 0, 0, 0), (5, 4, 0, 1), (15, 0, 8, 0), (16, 0, 8, 0)]),
  (61, 0, [(42, 0, 0, 0)])]
def k_X5_isGood : List (Nat × Nat × List Ins) := [(0, 7, [(3, 0, 2, 0), (18, 5, 8, 42), (0, 0, 0, 2), (13, 1, 35, 0), (3, 0, 2, 0), (18, 5, 10, 66), (3, 0, 2, 0), (21, 5, 0, 34), (21, 7, 4, 58), (0, 0, 0, 3), (26, 0, 0, 0), (3, 1, 0, 0), (6, 2, 0, 0), (6, 0, 0, 0), (3, 2, 0, 0), (6, 1, 0, 0), (12, 2, 33, 0), (0, 0, 0, 1), (15, 0, 34, 0), (58, 0, 0, 0)]),
  (33, 0, [(0, 0, 0, 0), (58, 0, 0, 0)]),
  (35, 3, [(3, 0, 2, 0), (18, 5, 8, 42), (0, 0, 0, 1), (13, 1, 100, 0), (3, 1, 0, 0), (0, 1, 0, 12), (6, 2, 0, 0), (4, 3, 0, 0), (0, 0, 0, 0), (4, 4, 0, 0), (16, 0, 51, 0)]),
  (51, 25, [(3, 4, 0, 0), (0, 1, 0, 12), (13, 3, 100, 0), (3, 0, 2, 0), (21, 5, 6, 25), (3, 3, 0, 0), (3, 4, 0, 0), (6, 0, 0, 0), (26, 0, 0, 0), (3, 0, 2, 0), (21, 5, 2, 9), (3, 3, 0, 0), (3, 4, 0, 0), (6, 0, 0, 0), (26, 0, 0, 0), (6, 1, 0, 0), (62, 0, 0, 126), (3, 0, 2, 0), (21, 5, 3, 15), (3, 3, 0, 0), (3, 4, 0, 0), (6, 0, 0, 0), (26, 0, 0, 0), (13, 5, 94, 0), (0, 0, 0, 0), (58, 0, 0, 0)]),
  (94, 25, [(5, 4, 0, 1), (15, 0, 51, 0), (16, 0, 51, 0)]),
  (100, 0, [(0, 0, 0, 1), (58, 0, 0, 0)])]
def k_X5_weigh : List (Nat × Nat × List Ins) := [(0, 3, [(3, 0, 2, 0), (18, 5, 9, 52), (0, 1, 0, 12), (6, 2, 0, 0), (4, 2, 0, 0), (0, 0, 0, 0), (4, 3, 0, 0), (0, 0, 0, 0), (4, 4, 0, 0), (16, 0, 13, 0)]),
  (13, 31, [(3, 4, 0, 0), (0, 1, 0, 12), (13, 3, 51, 0), (3, 3, 0, 0), (3, 0, 2, 0), (21, 5, 6, 25), (3, 2, 0, 0), (3, 4, 0, 0), (6, 0, 0, 0), (26, 0, 0, 0), (3, 0, 2, 0), (21, 5, 2, 9), (3, 2, 0, 0), (3, 4, 0, 0), (6, 0, 0, 0), (26, 0, 0, 0), (6, 1, 0, 0), (62, 0, 0, 126), (6, 0, 0, 0), (4, 3, 0, 0), (5, 4, 0, 1), (15, 0, 13, 0), (16, 0, 13, 0)]),
  (51, 11, [(3, 0, 2, 0), (18, 5, 14, 55), (12, 5, 87, 0), (3, 3, 0, 0), (3, 0, 2, 0), (18, 5, 12, 130), (13, 1, 87, 0), (3, 1, 0, 0), (3, 0, 2, 0), (18, 5, 13, 133), (13, 1, 87, 0), (3, 0, 2, 0), (11, 0, 0, 0), (18, 5, 14, 55), (0, 0, 0, 1), (6, 0, 0, 0), (22, 5, 14, 55), (15, 0, 135, 0), (16, 0, 135, 0)]),
  (87, 11, [(3, 0, 2, 0), (18, 5, 14, 55), (12, 0, 103, 0), (3, 0, 2, 0), (3, 3, 0, 0), (3, 1, 0, 0), (39, 15032, 41, 136), (12, 0, 135, 0), (16, 0, 103, 0)]),
  (103, 11, [(3, 0, 2, 0), (0, 0, 0, 1), (22, 5, 14, 55), (3, 0, 2, 0), (3, 3, 0, 0), (22, 5, 12, 130), (3, 0, 2, 0), (3, 1, 0, 0), (22, 5, 13, 133), (3, 0, 2, 0), (21, 5, 7, 28), (0, 0, 0, 0), (3, 0, 2, 0), (21, 5, 11, 31), (0, 0, 0, 0), (3, 0, 2, 0), (18, 5, 9, 52), (41, 0, 0, 92), (16, 0, 135, 0)]),
  (135, 0, [(42, 0, 0, 0)])]
def k_X5_isBetter : List (Nat × Nat × List Ins) := [(0, 7, [(3, 0, 2, 0), (18, 5, 8, 42), (0, 0, 0, 1), (13, 1, 38, 0), (3, 2, 0, 0), (3, 0, 2, 0), (18, 5, 13, 133), (13, 2, 32, 0), (3, 2, 0, 0), (3, 0, 2, 0), (18, 5, 13, 133), (13, 1, 36, 0), (3, 1, 0, 0), (3, 0, 2, 0), (18, 5, 12, 130), (13, 3, 36, 0), (16, 0, 32, 0)]),
  (32, 0, [(0, 0, 0, 1), (15, 0, 37, 0), (58, 0, 0, 0)]),
  (36, 0, [(0, 0, 0, 0), (58, 0, 0, 0)]),
  (38, 7, [(3, 1, 0, 0), (3, 0, 2, 0), (18, 5, 12, 130), (13, 2, 62, 0), (3, 1, 0, 0), (3, 0, 2, 0), (18, 5, 12, 130), (13, 1, 66, 0), (3, 2, 0, 0), (3, 0, 2, 0), (18, 5, 13, 133), (13, 3, 66, 0), (16, 0, 62, 0)]),
  (62, 0, [(0, 0, 0, 1), (15, 0, 67, 0), (58, 0, 0, 0)]),
  (66, 0, [(0, 0, 0, 0), (58, 0, 0, 0)])]
def k_X6_init : List (Nat × Nat × List Ins) := [(0, 7, [(3, 0, 2, 0), (40, 0, 0, 3), (3, 0, 2, 0), (3, 1, 2, 0), (25, 6, 0, 9), (3, 0, 2, 0), (3, 2, 2, 0), (25, 6, 2, 15), (42, 0, 0, 0)])]
def k_X6_faultIn : List (Nat × Nat × List Ins) := [(0, 7, [(3, 0, 2, 0), (3, 1, 0, 0), (3, 0, 2, 0), (21, 6, 0, 9), (28, 0, 0, 0), (64, 0, 0, 19), (22, 6, 1, 25), (3, 0, 2, 0), (3, 2, 0, 0), (24, 6, 3, 29), (3, 0, 2, 0), (21, 6, 2, 15), (39, 20012, 109, 33), (3, 0, 2, 0), (0, 0, 0, 0), (22, 6, 6, 38), (3, 0, 2, 0), (0, 0, 0, 0), (22, 6, 8, 41), (3, 0, 2, 0), (39, 16012, 62, 44), (0, 0, 0, 0), (4, 3, 0, 0), (16, 0, 41, 0)]),
  (41, 9, [(3, 3, 0, 0), (0, 1, 0, 12), (13, 3, 141, 0), (3, 3, 0, 0), (0, 1, 0, 6), (6, 2, 0, 0), (4, 4, 0, 0), (3, 0, 2, 0), (3, 4, 0, 0), (39, 16022, 44, 47), (3, 0, 2, 0), (20, 6, 3, 29), (12, 0, 78, 0), (3, 0, 2, 0), (3, 4, 0, 0), (39, 16022, 46, 51), (12, 0, 96, 0), (15, 0, 87, 0), (16, 0, 87, 0)]),
  (78, 25, [(3, 0, 2, 0), (3, 4, 0, 0), (39, 16022, 45, 55), (12, 0, 96, 0), (16, 0, 87, 0)]),
  (87, 25, [(3, 0, 2, 0), (3, 4, 0, 0), (39, 16022, 48, 58), (12, 1, 101, 0), (16, 0, 96, 0)]),
  (96, 1, [(3, 0, 2, 0), (18, 6, 5, 61), (55, 0, 0, 0)]),
  (101, 9, [(3, 0, 2, 0), (21, 6, 2, 15), (3, 3, 0, 0), (0, 0, 0, 1), (6, 0, 0, 0), (22, 10, 2, 64), (3, 0, 2, 0), (18, 6, 4, 67), (0, 0, 0, 3), (13, 1, 121, 0), (0, 0, 0, (-1)), (55, 0, 0, 0)]),
  (121, 9, [(3, 0, 2, 0), (0, 1, 0, 59), (39, 16022, 58, 70), (12, 1, 135, 0), (3, 0, 2, 0), (18, 6, 5, 61), (55, 0, 0, 0)]),
  (135, 9, [(5, 3, 0, 1), (15, 0, 41, 0), (16, 0, 41, 0)]),
  (141, 1, [(3, 0, 2, 0), (18, 6, 5, 61), (55, 0, 0, 0)])]
def k_X6_clearRow : List (Nat × Nat × List Ins) := [(0, 3, [(0, 0, 0, 0), (4, 2, 0, 0), (16, 0, 2, 0)]),
  (2, 7, [(3, 2, 0, 0), (0, 1, 0, 6), (13, 3, 26, 0), (3, 0, 2, 0), (21, 6, 2, 15), (21, 10, 0, 74), (3, 1, 0, 0), (3, 2, 0, 0), (6, 0, 0, 0), (0, 0, 0, (-1)), (27, 0, 0, 0), (5, 2, 0, 1), (15, 0, 2, 0), (16, 0, 2, 0)]),
  (26, 3, [(3, 0, 2, 0), (21, 6, 2, 15), (21, 10, 0, 74), (3, 1, 0, 0), (0, 0, 0, 1), (6, 0, 0, 0), (0, 0, 0, 1), (27, 0, 0, 0), (42, 0, 0, 0)])]
def k_X6_readClause : List (Nat × Nat × List Ins) := [(0, 3, [(3, 0, 2, 0), (47, 0, 77, 0), (39, 16022, 60, 79), (4, 2, 0, 0), (3, 2, 0, 0), (0, 0, 0, (-1)), (13, 1, 14, 0), (0, 0, 0, 0), (58, 0, 0, 0)]),
  (14, 7, [(3, 0, 2, 0), (21, 6, 2, 15), (21, 10, 0, 74), (3, 1, 0, 0), (0, 0, 0, 0), (6, 0, 0, 0), (3, 2, 0, 0), (27, 0, 0, 0), (3, 0, 2, 0), (39, 16012, 62, 44), (3, 2, 0, 0), (0, 0, 0, 4), (13, 0, 44, 0), (3, 0, 2, 0), (3, 1, 0, 0), (0, 0, 0, 0), (39, 16032, 49, 83), (12, 0, 48, 0), (16, 0, 44, 0)]),
  (44, 0, [(0, 0, 0, 1), (15, 0, 49, 0), (58, 0, 0, 0)]),
  (48, 0, [(0, 0, 0, 0), (58, 0, 0, 0)])]
def k_X6_readOrder : List (Nat × Nat × List Ins) := [(0, 3, [(3, 0, 2, 0), (47, 1, 87, 0), (39, 16022, 60, 79), (4, 2, 0, 0), (3, 2, 0, 0), (0, 0, 0, (-1)), (13, 1, 14, 0), (0, 0, 0, 0), (58, 0, 0, 0)]),
  (14, 7, [(3, 0, 2, 0), (39, 16012, 62, 44), (3, 2, 0, 0), (12, 1, 43, 0), (3, 0, 2, 0), (47, 2, 89, 0), (39, 16022, 60, 79), (4, 2, 0, 0), (3, 2, 0, 0), (0, 0, 0, (-1)), (13, 1, 36, 0), (0, 0, 0, 0), (58, 0, 0, 0)]),
  (36, 7, [(3, 0, 2, 0), (39, 16012, 62, 44), (15, 0, 46, 0), (16, 0, 46, 0)]),
  (43, 7, [(5, 2, 0, 2), (16, 0, 46, 0)]),
  (46, 7, [(3, 0, 2, 0), (21, 6, 2, 15), (21, 10, 0, 74), (3, 1, 0, 0), (0, 0, 0, 0), (6, 0, 0, 0), (3, 2, 0, 0), (27, 0, 0, 0), (3, 2, 0, 0), (0, 0, 0, 2), (13, 1, 74, 0), (3, 0, 2, 0), (3, 1, 0, 0), (0, 0, 0, 0), (39, 16032, 49, 83), (12, 1, 74, 0), (0, 0, 0, 0), (58, 0, 0, 0)]),
  (74, 7, [(3, 2, 0, 0), (0, 0, 0, 5), (13, 1, 126, 0), (3, 0, 2, 0), (3, 1, 0, 0), (0, 0, 0, 0), (39, 16032, 49, 83), (12, 0, 124, 0), (3, 0, 2, 0), (47, 3, 91, 0), (39, 16022, 59, 93), (12, 0, 124, 0), (3, 0, 2, 0), (3, 1, 0, 0), (0, 0, 0, 1), (39, 16032, 49, 83), (12, 0, 124, 0), (3, 0, 2, 0), (47, 4, 97, 0), (39, 16022, 59, 93), (12, 0, 124, 0), (3, 0, 2, 0), (3, 1, 0, 0), (0, 0, 0, 2), (39, 16032, 49, 83), (12, 1, 126, 0), (16, 0, 124, 0)]),
  (124, 0, [(0, 0, 0, 0), (58, 0, 0, 0)]),
  (126, 3, [(3, 0, 2, 0), (3, 1, 0, 0), (39, 16022, 47, 99), (58, 0, 0, 0)])]
def k_X6_readTimes : List (Nat × Nat × List Ins) := [(0, 3, [(3, 0, 2, 0), (47, 5, 102, 0), (39, 16022, 59, 93), (12, 1, 11, 0), (0, 0, 0, 1), (58, 0, 0, 0)]),
  (11, 3, [(3, 0, 2, 0), (18, 6, 4, 67), (0, 0, 0, 1), (13, 1, 36, 0), (3, 0, 2, 0), (18, 6, 7, 104), (0, 0, 0, 1), (13, 2, 36, 0), (3, 0, 2, 0), (18, 6, 7, 104), (0, 1, 0, 20), (13, 5, 38, 0), (16, 0, 36, 0)]),
  (36, 0, [(0, 0, 0, 0), (58, 0, 0, 0)]),
  (38, 3, [(3, 0, 2, 0), (21, 6, 2, 15), (21, 10, 0, 74), (3, 1, 0, 0), (0, 0, 0, 1), (6, 0, 0, 0), (3, 0, 2, 0), (18, 6, 7, 104), (27, 0, 0, 0), (3, 0, 2, 0), (39, 16012, 62, 44), (0, 0, 0, 1), (58, 0, 0, 0)])]
def k_X6_readIf : List (Nat × Nat × List Ins) := [(0, 3, [(3, 0, 2, 0), (47, 6, 107, 0), (39, 16022, 59, 93), (12, 1, 11, 0), (0, 0, 0, 1), (58, 0, 0, 0)]),
  (11, 3, [(3, 0, 2, 0), (21, 6, 2, 15), (21, 10, 0, 74), (3, 1, 0, 0), (0, 0, 0, 2), (6, 0, 0, 0), (3, 0, 2, 0), (21, 6, 2, 15), (18, 10, 3, 109), (27, 0, 0, 0), (3, 0, 2, 0), (0, 0, 0, 0), (39, 16022, 50, 110), (4, 2, 0, 0), (3, 0, 2, 0), (21, 6, 2, 15), (0, 1, 0, 12), (0, 0, 0, 0), (39, 20032, 110, 113), (3, 2, 0, 0), (58, 0, 0, 0)])]
def k_X6_readSumOf : List (Nat × Nat × List Ins) := [(0, 7, [(3, 0, 2, 0), (21, 6, 2, 15), (21, 10, 0, 74), (3, 1, 0, 0), (0, 0, 0, 3), (6, 0, 0, 0), (3, 2, 0, 0), (6, 0, 0, 0), (3, 0, 2, 0), (21, 6, 2, 15), (18, 10, 3, 109), (27, 0, 0, 0), (3, 0, 2, 0), (0, 0, 0, 0), (39, 16022, 53, 117), (4, 3, 0, 0), (3, 0, 2, 0), (21, 6, 2, 15), (0, 1, 0, 12), (0, 0, 0, 0), (39, 20032, 110, 113), (3, 3, 0, 0), (58, 0, 0, 0)])]
def k_X6_readTest : List (Nat × Nat × List Ins) := [(0, 3, [(3, 0, 2, 0), (3, 1, 0, 0), (39, 16022, 51, 120), (4, 2, 0, 0), (0, 0, 0, 0), (4, 3, 0, 0), (16, 0, 8, 0)]),
  (8, 15, [(3, 2, 0, 0), (12, 0, 68, 0), (3, 3, 0, 0), (0, 2, 0, 400), (13, 3, 68, 0), (3, 0, 2, 0), (47, 7, 123, 0), (39, 16022, 59, 93), (12, 0, 68, 0), (3, 0, 2, 0), (21, 6, 2, 15), (18, 10, 3, 109), (4, 4, 0, 0), (3, 0, 2, 0), (21, 6, 2, 15), (0, 1, 0, 10), (0, 0, 0, 0), (39, 20032, 110, 113), (3, 0, 2, 0), (3, 1, 0, 0), (39, 16022, 51, 120), (4, 2, 0, 0), (3, 0, 2, 0), (21, 6, 2, 15), (3, 4, 0, 0), (39, 20022, 111, 125), (5, 3, 0, 1), (15, 0, 8, 0), (16, 0, 8, 0)]),
  (68, 4, [(3, 2, 0, 0), (58, 0, 0, 0)])]
def k_X6_readBoth : List (Nat × Nat × List Ins) := [(0, 3, [(3, 0, 2, 0), (3, 1, 0, 0), (39, 16022, 52, 128), (4, 2, 0, 0), (0, 0, 0, 0), (4, 3, 0, 0), (16, 0, 8, 0)]),
  (8, 15, [(3, 2, 0, 0), (12, 0, 68, 0), (3, 3, 0, 0), (0, 2, 0, 400), (13, 3, 68, 0), (3, 0, 2, 0), (47, 8, 131, 0), (39, 16022, 59, 93), (12, 0, 68, 0), (3, 0, 2, 0), (21, 6, 2, 15), (18, 10, 3, 109), (4, 4, 0, 0), (3, 0, 2, 0), (21, 6, 2, 15), (0, 1, 0, 11), (0, 0, 0, 0), (39, 20032, 110, 113), (3, 0, 2, 0), (3, 1, 0, 0), (39, 16022, 52, 128), (4, 2, 0, 0), (3, 0, 2, 0), (21, 6, 2, 15), (3, 4, 0, 0), (39, 20022, 111, 125), (5, 3, 0, 1), (15, 0, 8, 0), (16, 0, 8, 0)]),
  (68, 4, [(3, 2, 0, 0), (58, 0, 0, 0)])]
def k_X6_readPlain : List (Nat × Nat × List Ins) := [(0, 3, [(0, 0, 0, 0), (4, 2, 0, 0), (0, 0, 0, 0), (4, 3, 0, 0), (16, 0, 4, 0)]),
  (4, 15, [(3, 3, 0, 0), (0, 2, 0, 400), (13, 3, 36, 0), (3, 0, 2, 0), (47, 9, 133, 0), (39, 16022, 59, 93), (12, 0, 36, 0), (3, 2, 0, 0), (12, 1, 28, 0), (0, 0, 0, 1), (15, 0, 29, 0), (4, 2, 0, 0), (5, 3, 0, 1), (15, 0, 4, 0), (16, 0, 4, 0)]),
  (28, 11, [(0, 0, 0, 0), (4, 2, 0, 0), (5, 3, 0, 1), (15, 0, 4, 0), (16, 0, 4, 0)]),
  (36, 7, [(3, 0, 2, 0), (0, 1, 0, 40), (39, 16022, 57, 135), (12, 0, 81, 0), (3, 0, 2, 0), (3, 1, 0, 0), (39, 16022, 56, 138), (12, 0, 76, 0), (3, 0, 2, 0), (3, 1, 0, 0), (0, 0, 0, 1), (6, 0, 0, 0), (39, 16022, 50, 110), (12, 0, 76, 0), (3, 0, 2, 0), (0, 1, 0, 41), (39, 16022, 58, 70), (12, 0, 76, 0), (0, 0, 0, 1), (15, 0, 77, 0), (16, 0, 77, 0)]),
  (76, 5, [(0, 0, 0, 0), (16, 0, 77, 0)]),
  (77, 5, [(4, 3, 0, 0), (15, 0, 174, 0), (16, 0, 174, 0)]),
  (81, 7, [(3, 0, 2, 0), (3, 1, 0, 0), (39, 16022, 53, 117), (4, 3, 0, 0), (3, 0, 2, 0), (0, 1, 0, 60), (39, 16022, 57, 135), (12, 0, 101, 0), (0, 1, 0, 6), (15, 0, 117, 0), (16, 0, 117, 0)]),
  (101, 15, [(3, 0, 2, 0), (0, 1, 0, 62), (39, 16022, 57, 135), (12, 0, 115, 0), (0, 1, 0, 7), (15, 0, 117, 0), (16, 0, 117, 0)]),
  (115, 15, [(0, 1, 0, 8), (16, 0, 117, 0)]),
  (117, 15, [(4, 4, 0, 0), (3, 3, 0, 0), (12, 0, 162, 0), (3, 0, 2, 0), (0, 1, 0, 60), (39, 16022, 58, 70), (12, 1, 150, 0), (3, 0, 2, 0), (0, 1, 0, 62), (39, 16022, 58, 70), (12, 1, 150, 0), (3, 0, 2, 0), (0, 1, 0, 61), (39, 16022, 58, 70), (12, 0, 162, 0), (16, 0, 150, 0)]),
  (150, 23, [(3, 0, 2, 0), (3, 1, 0, 0), (39, 16022, 53, 117), (12, 0, 162, 0), (0, 0, 0, 1), (15, 0, 163, 0), (16, 0, 163, 0)]),
  (162, 21, [(0, 0, 0, 0), (16, 0, 163, 0)]),
  (163, 21, [(4, 3, 0, 0), (3, 0, 2, 0), (21, 6, 2, 15), (3, 4, 0, 0), (0, 0, 0, 0), (39, 20032, 110, 113), (16, 0, 174, 0)]),
  (174, 13, [(3, 2, 0, 0), (12, 0, 188, 0), (3, 0, 2, 0), (21, 6, 2, 15), (0, 1, 0, 9), (0, 0, 0, 0), (39, 20032, 110, 113), (16, 0, 188, 0)]),
  (188, 8, [(3, 3, 0, 0), (58, 0, 0, 0)])]
def k_X6_readSum : List (Nat × Nat × List Ins) := [(0, 3, [(3, 0, 2, 0), (3, 1, 0, 0), (39, 16022, 54, 141), (4, 2, 0, 0), (0, 0, 0, 0), (4, 3, 0, 0), (16, 0, 8, 0)]),
  (8, 15, [(3, 2, 0, 0), (12, 0, 79, 0), (3, 3, 0, 0), (0, 2, 0, 400), (13, 3, 79, 0), (3, 0, 2, 0), (0, 1, 0, 43), (39, 16022, 57, 135), (12, 1, 37, 0), (3, 0, 2, 0), (0, 1, 0, 45), (39, 16022, 57, 135), (12, 0, 79, 0), (16, 0, 37, 0)]),
  (37, 11, [(3, 0, 2, 0), (0, 1, 0, 43), (39, 16022, 57, 135), (12, 0, 50, 0), (0, 0, 0, 2), (15, 0, 51, 0), (16, 0, 51, 0)]),
  (50, 11, [(0, 0, 0, 3), (16, 0, 51, 0)]),
  (51, 11, [(4, 4, 0, 0), (3, 0, 2, 0), (39, 16012, 62, 44), (3, 0, 2, 0), (3, 1, 0, 0), (39, 16022, 54, 141), (4, 2, 0, 0), (3, 0, 2, 0), (21, 6, 2, 15), (3, 4, 0, 0), (0, 0, 0, 0), (39, 20032, 110, 113), (5, 3, 0, 1), (15, 0, 8, 0), (16, 0, 8, 0)]),
  (79, 4, [(3, 2, 0, 0), (58, 0, 0, 0)])]
def k_X6_readTerm : List (Nat × Nat × List Ins) := [(0, 3, [(3, 0, 2, 0), (3, 1, 0, 0), (39, 16022, 55, 144), (4, 2, 0, 0), (0, 0, 0, 0), (4, 3, 0, 0), (16, 0, 8, 0)]),
  (8, 15, [(3, 2, 0, 0), (12, 0, 79, 0), (3, 3, 0, 0), (0, 2, 0, 400), (13, 3, 79, 0), (3, 0, 2, 0), (0, 1, 0, 42), (39, 16022, 57, 135), (12, 1, 37, 0), (3, 0, 2, 0), (0, 1, 0, 47), (39, 16022, 57, 135), (12, 0, 79, 0), (16, 0, 37, 0)]),
  (37, 11, [(3, 0, 2, 0), (0, 1, 0, 42), (39, 16022, 57, 135), (12, 0, 50, 0), (0, 0, 0, 4), (15, 0, 51, 0), (16, 0, 51, 0)]),
  (50, 11, [(0, 0, 0, 5), (16, 0, 51, 0)]),
  (51, 11, [(4, 4, 0, 0), (3, 0, 2, 0), (39, 16012, 62, 44), (3, 0, 2, 0), (3, 1, 0, 0), (39, 16022, 55, 144), (4, 2, 0, 0), (3, 0, 2, 0), (21, 6, 2, 15), (3, 4, 0, 0), (0, 0, 0, 0), (39, 20032, 110, 113), (5, 3, 0, 1), (15, 0, 8, 0), (16, 0, 8, 0)]),
  (79, 4, [(3, 2, 0, 0), (58, 0, 0, 0)])]
def k_X6_readPart : List (Nat × Nat × List Ins) := [(0, 3, [(3, 0, 2, 0), (0, 1, 0, 91), (39, 16022, 57, 135), (12, 0, 42, 0), (3, 0, 2, 0), (3, 1, 0, 0), (39, 16022, 56, 138), (12, 0, 40, 0), (3, 0, 2, 0), (3, 1, 0, 0), (0, 0, 0, 1), (6, 0, 0, 0), (39, 16022, 53, 117), (12, 0, 40, 0), (3, 0, 2, 0), (0, 1, 0, 93), (39, 16022, 58, 70), (12, 0, 40, 0), (0, 0, 0, 1), (15, 0, 41, 0), (58, 0, 0, 0)]),
  (40, 0, [(0, 0, 0, 0), (58, 0, 0, 0)]),
  (42, 1, [(3, 0, 2, 0), (18, 6, 4, 67), (0, 0, 0, 1), (13, 1, 99, 0), (3, 0, 2, 0), (18, 6, 7, 104), (0, 2, 0, 1000), (13, 4, 69, 0), (3, 0, 2, 0), (18, 6, 8, 41), (0, 1, 0, 50), (13, 2, 71, 0), (16, 0, 69, 0)]),
  (69, 0, [(0, 0, 0, 0), (58, 0, 0, 0)]),
  (71, 1, [(3, 0, 2, 0), (21, 6, 2, 15), (0, 0, 0, 0), (3, 0, 2, 0), (18, 6, 7, 104), (39, 20032, 110, 113), (3, 0, 2, 0), (11, 0, 0, 0), (18, 6, 8, 41), (0, 0, 0, 1), (6, 0, 0, 0), (22, 6, 8, 41), (3, 0, 2, 0), (39, 16012, 62, 44), (0, 0, 0, 1), (58, 0, 0, 0)]),
  (99, 1, [(3, 0, 2, 0), (3, 0, 2, 0), (20, 6, 3, 29), (12, 0, 112, 0), (47, 10, 147, 0), (15, 0, 114, 0), (16, 0, 114, 0)]),
  (112, 1, [(47, 11, 149, 0), (16, 0, 114, 0)]),
  (114, 1, [(39, 16022, 60, 79), (4, 2, 0, 0), (3, 2, 0, 0), (0, 0, 0, (-1)), (13, 0, 132, 0), (3, 0, 2, 0), (18, 6, 8, 41), (0, 1, 0, 50), (13, 2, 134, 0), (16, 0, 132, 0)]),
  (132, 0, [(0, 0, 0, 0), (58, 0, 0, 0)]),
  (134, 5, [(3, 0, 2, 0), (11, 0, 0, 0), (18, 6, 8, 41), (0, 0, 0, 1), (6, 0, 0, 0), (22, 6, 8, 41), (3, 0, 2, 0), (39, 16012, 62, 44), (3, 0, 2, 0), (20, 6, 3, 29), (12, 0, 191, 0), (3, 2, 0, 0), (0, 1, 0, 6), (13, 1, 191, 0), (3, 0, 2, 0), (18, 6, 4, 67), (0, 0, 0, 1), (13, 1, 178, 0), (3, 0, 2, 0), (18, 6, 7, 104), (0, 1, 0, 12), (13, 2, 180, 0), (16, 0, 178, 0)]),
  (178, 0, [(0, 0, 0, 0), (58, 0, 0, 0)]),
  (180, 5, [(3, 2, 0, 0), (3, 0, 2, 0), (18, 6, 7, 104), (6, 0, 0, 0), (4, 2, 0, 0), (3, 0, 2, 0), (39, 16012, 62, 44), (16, 0, 191, 0)]),
  (191, 5, [(3, 0, 2, 0), (21, 6, 2, 15), (0, 0, 0, 1), (3, 2, 0, 0), (39, 20032, 110, 113), (3, 0, 2, 0), (21, 6, 2, 15), (11, 0, 0, 0), (18, 10, 4, 151), (0, 0, 0, 1), (3, 2, 0, 0), (6, 6, 0, 0), (6, 4, 0, 0), (22, 10, 4, 151), (0, 0, 0, 1), (58, 0, 0, 0)])]
def k_X6_opens : List (Nat × Nat × List Ins) := [(0, 3, [(3, 1, 0, 0), (0, 1, 0, 8), (13, 2, 8, 0), (0, 0, 0, 0), (58, 0, 0, 0)]),
  (8, 1, [(3, 0, 2, 0), (39, 16012, 62, 44), (0, 0, 0, 1), (58, 0, 0, 0)])]
def k_X6_isSign : List (Nat × Nat × List Ins) := [(0, 3, [(3, 0, 2, 0), (18, 6, 4, 67), (0, 0, 0, 2), (13, 1, 36, 0), (3, 0, 2, 0), (18, 6, 5, 61), (3, 0, 2, 0), (18, 6, 1, 25), (13, 3, 36, 0), (3, 0, 2, 0), (21, 6, 0, 9), (3, 0, 2, 0), (18, 6, 5, 61), (26, 0, 0, 0), (3, 1, 0, 0), (13, 1, 36, 0), (0, 0, 0, 1), (15, 0, 37, 0), (58, 0, 0, 0)]),
  (36, 0, [(0, 0, 0, 0), (58, 0, 0, 0)])]
def k_X6_takes : List (Nat × Nat × List Ins) := [(0, 3, [(3, 0, 2, 0), (3, 1, 0, 0), (39, 16022, 57, 135), (4, 2, 0, 0), (3, 2, 0, 0), (12, 0, 14, 0), (3, 0, 2, 0), (39, 16012, 62, 44), (16, 0, 14, 0)]),
  (14, 4, [(3, 2, 0, 0), (58, 0, 0, 0)])]
def k_X6_takesWord : List (Nat × Nat × List Ins) := [(0, 3, [(3, 0, 2, 0), (3, 1, 2, 0), (0, 0, 0, 0), (3, 1, 2, 0), (39, 16, 345, 154), (39, 16042, 61, 159), (4, 2, 0, 0), (3, 2, 0, 0), (12, 0, 19, 0), (3, 0, 2, 0), (39, 16012, 62, 44), (16, 0, 19, 0)]),
  (19, 4, [(3, 2, 0, 0), (58, 0, 0, 0)])]
def k_X6_placeIn : List (Nat × Nat × List Ins) := [(0, 3, [(0, 0, 0, 0), (4, 2, 0, 0), (0, 0, 0, 0), (4, 3, 0, 0), (0, 0, 0, 0), (4, 4, 0, 0), (16, 0, 7, 0)]),
  (7, 31, [(3, 4, 0, 0), (3, 1, 2, 0), (39, 16, 345, 154), (13, 4, 63, 0), (3, 4, 0, 0), (3, 1, 2, 0), (39, 16, 345, 154), (13, 0, 36, 0), (3, 1, 2, 0), (3, 4, 0, 0), (39, 26, 346, 163), (0, 1, 0, 32), (13, 1, 57, 0), (16, 0, 36, 0)]),
  (36, 31, [(3, 0, 2, 0), (3, 1, 2, 0), (3, 3, 0, 0), (3, 4, 0, 0), (39, 16042, 61, 159), (12, 0, 49, 0), (3, 2, 0, 0), (55, 0, 0, 0)]),
  (49, 23, [(5, 2, 0, 1), (3, 4, 0, 0), (0, 0, 0, 1), (6, 0, 0, 0), (4, 3, 0, 0), (16, 0, 57, 0)]),
  (57, 31, [(5, 4, 0, 1), (15, 0, 7, 0), (16, 0, 7, 0)]),
  (63, 0, [(0, 0, 0, (-1)), (55, 0, 0, 0)])]
def k_X6_isSame : List (Nat × Nat × List Ins) := [(0, 15, [(3, 0, 2, 0), (18, 6, 4, 67), (12, 1, 22, 0), (3, 3, 0, 0), (3, 2, 0, 0), (6, 1, 0, 0), (3, 0, 2, 0), (18, 6, 6, 38), (3, 0, 2, 0), (18, 6, 5, 61), (6, 1, 0, 0), (13, 0, 24, 0), (16, 0, 22, 0)]),
  (22, 0, [(0, 0, 0, 0), (58, 0, 0, 0)]),
  (24, 15, [(0, 0, 0, 0), (4, 4, 0, 0), (16, 0, 27, 0)]),
  (27, 31, [(3, 4, 0, 0), (3, 3, 0, 0), (3, 2, 0, 0), (6, 1, 0, 0), (13, 3, 66, 0), (3, 1, 2, 0), (3, 2, 0, 0), (3, 4, 0, 0), (6, 0, 0, 0), (39, 26, 346, 163), (3, 0, 2, 0), (21, 6, 0, 9), (3, 0, 2, 0), (18, 6, 5, 61), (3, 4, 0, 0), (6, 0, 0, 0), (26, 0, 0, 0), (13, 0, 60, 0), (0, 0, 0, 0), (58, 0, 0, 0)]),
  (60, 31, [(5, 4, 0, 1), (15, 0, 27, 0), (16, 0, 27, 0)]),
  (66, 0, [(0, 0, 0, 1), (58, 0, 0, 0)])]
def k_X6_next : List (Nat × Nat × List Ins) := [(0, 1, [(3, 0, 2, 0), (3, 0, 2, 0), (18, 6, 6, 38), (22, 6, 5, 61), (16, 0, 8, 0)]),
  (8, 1, [(3, 0, 2, 0), (18, 6, 5, 61), (3, 0, 2, 0), (18, 6, 1, 25), (13, 3, 46, 0), (3, 0, 2, 0), (21, 6, 0, 9), (3, 0, 2, 0), (18, 6, 5, 61), (26, 0, 0, 0), (0, 1, 0, 32), (13, 1, 46, 0), (3, 0, 2, 0), (11, 0, 0, 0), (18, 6, 5, 61), (0, 0, 0, 1), (6, 0, 0, 0), (22, 6, 5, 61), (15, 0, 8, 0), (16, 0, 8, 0)]),
  (46, 1, [(3, 0, 2, 0), (3, 0, 2, 0), (18, 6, 5, 61), (22, 6, 6, 38), (3, 0, 2, 0), (0, 0, 0, 0), (22, 6, 7, 104), (3, 0, 2, 0), (18, 6, 5, 61), (3, 0, 2, 0), (18, 6, 1, 25), (13, 2, 76, 0), (3, 0, 2, 0), (0, 0, 0, 3), (22, 6, 4, 67), (42, 0, 0, 0)]),
  (76, 1, [(3, 0, 2, 0), (3, 0, 2, 0), (21, 6, 0, 9), (3, 0, 2, 0), (18, 6, 5, 61), (26, 0, 0, 0), (39, 10, 63, 167), (22, 6, 4, 67), (3, 0, 2, 0), (18, 6, 4, 67), (0, 0, 0, 2), (13, 1, 111, 0), (3, 0, 2, 0), (11, 0, 0, 0), (18, 6, 6, 38), (0, 0, 0, 1), (6, 0, 0, 0), (22, 6, 6, 38), (42, 0, 0, 0)]),
  (111, 1, [(3, 0, 2, 0), (18, 6, 6, 38), (3, 0, 2, 0), (18, 6, 1, 25), (13, 3, 192, 0), (3, 0, 2, 0), (21, 6, 0, 9), (3, 0, 2, 0), (18, 6, 6, 38), (26, 0, 0, 0), (39, 10, 63, 167), (3, 0, 2, 0), (18, 6, 4, 67), (13, 1, 192, 0), (3, 0, 2, 0), (18, 6, 4, 67), (0, 0, 0, 1), (13, 1, 179, 0), (3, 0, 2, 0), (0, 2, 0, 10000), (3, 0, 2, 0), (18, 6, 7, 104), (0, 1, 0, 10), (6, 2, 0, 0), (3, 0, 2, 0), (21, 6, 0, 9), (3, 0, 2, 0), (18, 6, 6, 38), (26, 0, 0, 0), (6, 0, 0, 0), (0, 1, 0, 48), (6, 1, 0, 0), (64, 0, 0, 19), (22, 6, 7, 104), (16, 0, 179, 0)]),
  (179, 1, [(3, 0, 2, 0), (11, 0, 0, 0), (18, 6, 6, 38), (0, 0, 0, 1), (6, 0, 0, 0), (22, 6, 6, 38), (15, 0, 111, 0), (16, 0, 111, 0)]),
  (192, 0, [(42, 0, 0, 0)])]
def k_X6_kindOf : List (Nat × Nat × List Ins) := [(0, 1, [(3, 0, 0, 0), (0, 1, 0, 97), (13, 2, 14, 0), (3, 0, 0, 0), (0, 1, 0, 122), (13, 4, 14, 0), (0, 0, 0, 0), (55, 0, 0, 0)]),
  (14, 1, [(3, 0, 0, 0), (0, 1, 0, 48), (13, 2, 30, 0), (3, 0, 0, 0), (0, 1, 0, 57), (13, 4, 30, 0), (0, 0, 0, 1), (15, 0, 31, 0), (55, 0, 0, 0)]),
  (30, 0, [(0, 0, 0, 2), (55, 0, 0, 0)])]
def k_X7_init : List (Nat × Nat × List Ins) := [(0, 1, [(3, 0, 2, 0), (40, 0, 0, 3), (3, 0, 2, 0), (0, 1, 0, 25), (37, 0, 0, 0), (25, 7, 1, 9), (3, 0, 2, 0), (0, 1, 0, 18), (37, 0, 0, 0), (25, 7, 3, 15), (3, 0, 2, 0), (0, 0, 0, 5), (37, 0, 0, 0), (25, 7, 4, 18), (3, 0, 2, 0), (0, 1, 0, 6), (38, 4, 0, 21), (25, 7, 6, 23), (3, 0, 2, 0), (0, 0, 0, (-1)), (22, 7, 7, 27), (3, 0, 2, 0), (0, 1, 0, 17), (37, 0, 0, 0), (25, 7, 9, 31), (3, 0, 2, 0), (0, 2, 0, 204), (37, 0, 0, 0), (25, 7, 10, 34), (3, 0, 2, 0), (0, 1, 0, 72), (37, 0, 0, 0), (25, 7, 12, 37), (3, 0, 2, 0), (0, 1, 0, 32), (37, 0, 0, 0), (25, 7, 14, 40), (3, 0, 2, 0), (21, 7, 4, 18), (0, 0, 0, 0), (0, 1, 0, 20), (27, 0, 0, 0), (3, 0, 2, 0), (21, 7, 4, 18), (0, 0, 0, 1), (0, 0, 0, 3), (27, 0, 0, 0), (3, 0, 2, 0), (21, 7, 4, 18), (0, 0, 0, 3), (0, 1, 0, 100), (27, 0, 0, 0), (42, 0, 0, 0)])]
def k_X7_takeFrom : List (Nat × Nat × List Ins) := [(0, 3, [(3, 0, 2, 0), (3, 1, 2, 0), (18, 7, 0, 43), (22, 7, 0, 43), (3, 1, 2, 0), (21, 7, 1, 9), (0, 0, 0, 0), (3, 0, 2, 0), (21, 7, 1, 9), (0, 0, 0, 0), (3, 0, 2, 0), (21, 7, 1, 9), (28, 0, 0, 0), (41, 0, 0, 46), (3, 0, 2, 0), (3, 1, 2, 0), (18, 7, 2, 52), (22, 7, 2, 52), (3, 1, 2, 0), (21, 7, 3, 15), (0, 0, 0, 0), (3, 0, 2, 0), (21, 7, 3, 15), (0, 0, 0, 0), (3, 0, 2, 0), (21, 7, 3, 15), (28, 0, 0, 0), (41, 0, 0, 46), (3, 1, 2, 0), (21, 7, 4, 18), (0, 0, 0, 0), (3, 0, 2, 0), (21, 7, 4, 18), (0, 0, 0, 0), (3, 0, 2, 0), (21, 7, 4, 18), (28, 0, 0, 0), (41, 0, 0, 46), (3, 0, 2, 0), (3, 1, 2, 0), (18, 7, 5, 55), (22, 7, 5, 55), (0, 0, 0, 0), (4, 2, 0, 0), (16, 0, 80, 0)]),
  (80, 7, [(3, 2, 0, 0), (3, 0, 2, 0), (21, 7, 6, 23), (28, 0, 0, 0), (13, 3, 107, 0), (3, 0, 2, 0), (21, 7, 6, 23), (3, 2, 0, 0), (3, 1, 2, 0), (21, 7, 6, 23), (3, 2, 0, 0), (26, 4, 0, 0), (54, 4, 20, 0), (5, 2, 0, 1), (15, 0, 80, 0), (16, 0, 80, 0)]),
  (107, 3, [(3, 0, 2, 0), (3, 1, 2, 0), (18, 7, 7, 27), (22, 7, 7, 27), (3, 0, 2, 0), (3, 1, 2, 0), (18, 7, 8, 58), (22, 7, 8, 58), (3, 1, 2, 0), (21, 7, 9, 31), (0, 0, 0, 0), (3, 0, 2, 0), (21, 7, 9, 31), (0, 0, 0, 0), (3, 0, 2, 0), (21, 7, 9, 31), (28, 0, 0, 0), (41, 0, 0, 46), (3, 1, 2, 0), (21, 7, 10, 34), (0, 0, 0, 0), (3, 0, 2, 0), (21, 7, 10, 34), (0, 0, 0, 0), (3, 0, 2, 0), (21, 7, 10, 34), (28, 0, 0, 0), (41, 0, 0, 46), (3, 0, 2, 0), (3, 1, 2, 0), (18, 7, 11, 61), (22, 7, 11, 61), (3, 1, 2, 0), (21, 7, 12, 37), (0, 0, 0, 0), (3, 0, 2, 0), (21, 7, 12, 37), (0, 0, 0, 0), (3, 0, 2, 0), (21, 7, 12, 37), (28, 0, 0, 0), (41, 0, 0, 46), (3, 0, 2, 0), (3, 1, 2, 0), (18, 7, 13, 64), (22, 7, 13, 64), (3, 1, 2, 0), (21, 7, 14, 40), (0, 0, 0, 0), (3, 0, 2, 0), (21, 7, 14, 40), (0, 0, 0, 0), (3, 0, 2, 0), (21, 7, 14, 40), (28, 0, 0, 0), (41, 0, 0, 46), (42, 0, 0, 0)])]
def k_X7_hasPainter : List (Nat × Nat × List Ins) := [(0, 3, [(3, 1, 0, 0), (3, 0, 2, 0), (18, 7, 0, 43), (39, 21, 177, 67), (58, 0, 0, 0)])]
def k_X7_hasLayer : List (Nat × Nat × List Ins) := [(0, 3, [(3, 1, 0, 0), (3, 0, 2, 0), (18, 7, 8, 58), (0, 0, 0, 1), (6, 0, 0, 0), (39, 21, 177, 67), (58, 0, 0, 0)])]
def k_X7_hasClaimant : List (Nat × Nat × List Ins) := [(0, 3, [(3, 1, 0, 0), (3, 0, 2, 0), (18, 7, 13, 64), (39, 21, 177, 67), (58, 0, 0, 0)])]
def k_X7_ageIn : List (Nat × Nat × List Ins) := [(0, 3, [(3, 0, 2, 0), (21, 7, 4, 18), (0, 0, 0, 0), (26, 0, 0, 0), (3, 0, 2, 0), (21, 7, 4, 18), (0, 0, 0, 1), (26, 0, 0, 0), (0, 0, 0, 2), (6, 1, 0, 0), (3, 1, 0, 0), (6, 2, 0, 0), (6, 0, 0, 0), (4, 2, 0, 0), (3, 2, 0, 0), (12, 3, 26, 0), (0, 0, 0, 0), (15, 0, 40, 0), (55, 0, 0, 0)]),
  (26, 4, [(3, 2, 0, 0), (0, 2, 0, 199), (13, 5, 39, 0), (0, 2, 0, 199), (15, 0, 40, 0), (55, 0, 0, 0)]),
  (39, 4, [(3, 2, 0, 0), (55, 0, 0, 0)])]
def k_X7_rests : List (Nat × Nat × List Ins) := [(0, 7, [(0, 0, 0, 1), (4, 3, 0, 0), (16, 0, 2, 0)]),
  (2, 15, [(3, 3, 0, 0), (3, 0, 2, 0), (21, 7, 4, 18), (0, 0, 0, 4), (26, 0, 0, 0), (13, 4, 51, 0), (3, 2, 0, 0), (3, 3, 0, 0), (6, 1, 0, 0), (4, 4, 0, 0), (3, 4, 0, 0), (0, 0, 0, 1), (13, 2, 45, 0), (3, 4, 0, 0), (3, 0, 2, 0), (18, 7, 8, 58), (13, 4, 45, 0), (3, 0, 2, 0), (21, 7, 9, 31), (3, 4, 0, 0), (26, 0, 0, 0), (3, 1, 0, 0), (13, 1, 45, 0), (0, 0, 0, 1), (58, 0, 0, 0)]),
  (45, 15, [(5, 3, 0, 1), (15, 0, 2, 0), (16, 0, 2, 0)]),
  (51, 0, [(0, 0, 0, 0), (58, 0, 0, 0)])]
def k_X7_seenAt : List (Nat × Nat × List Ins) := [(0, 3, [(3, 0, 2, 0), (21, 7, 10, 34), (3, 0, 2, 0), (18, 7, 8, 58), (0, 1, 0, 12), (6, 2, 0, 0), (3, 1, 0, 0), (6, 0, 0, 0), (26, 0, 0, 0), (55, 0, 0, 0)])]
def k_X7_addCopy : List (Nat × Nat × List Ins) := [(0, 1, [(3, 0, 2, 0), (21, 7, 10, 34), (3, 0, 2, 0), (18, 7, 8, 58), (0, 1, 0, 12), (6, 2, 0, 0), (3, 0, 2, 0), (21, 7, 12, 37), (3, 0, 2, 0), (18, 7, 11, 61), (0, 1, 0, 12), (6, 2, 0, 0), (0, 1, 0, 12), (41, 0, 0, 46), (3, 0, 2, 0), (11, 0, 0, 0), (18, 7, 11, 61), (0, 0, 0, 1), (6, 0, 0, 0), (22, 7, 11, 61), (42, 0, 0, 0)])]
def k_X7_nearOf : List (Nat × Nat × List Ins) := [(0, 3, [(0, 0, 0, 0), (4, 2, 0, 0), (0, 0, 0, 0), (4, 3, 0, 0), (16, 0, 4, 0)]),
  (4, 15, [(3, 3, 0, 0), (0, 1, 0, 12), (13, 3, 47, 0), (3, 0, 2, 0), (21, 7, 12, 37), (3, 1, 0, 0), (0, 1, 0, 12), (6, 2, 0, 0), (3, 3, 0, 0), (6, 0, 0, 0), (26, 0, 0, 0), (3, 0, 2, 0), (21, 7, 10, 34), (3, 0, 2, 0), (18, 7, 8, 58), (0, 1, 0, 12), (6, 2, 0, 0), (3, 3, 0, 0), (6, 0, 0, 0), (26, 0, 0, 0), (13, 0, 41, 0), (5, 2, 0, 1), (16, 0, 41, 0)]),
  (41, 15, [(5, 3, 0, 1), (15, 0, 4, 0), (16, 0, 4, 0)]),
  (47, 4, [(3, 2, 0, 0), (55, 0, 0, 0)])]
def k_X7_isAlive : List (Nat × Nat × List Ins) := [(0, 7, [(3, 1, 0, 0), (0, 0, 0, 4), (6, 2, 0, 0), (4, 3, 0, 0), (3, 0, 2, 0), (21, 7, 14, 40), (3, 3, 0, 0), (0, 0, 0, 1), (6, 0, 0, 0), (26, 0, 0, 0), (3, 2, 0, 0), (13, 4, 32, 0), (3, 2, 0, 0), (3, 0, 2, 0), (21, 7, 14, 40), (3, 3, 0, 0), (0, 0, 0, 2), (6, 0, 0, 0), (26, 0, 0, 0), (13, 3, 32, 0), (0, 0, 0, 1), (15, 0, 33, 0), (58, 0, 0, 0)]),
  (32, 0, [(0, 0, 0, 0), (58, 0, 0, 0)])]
def k_X7_childrenOf : List (Nat × Nat × List Ins) := [(0, 7, [(0, 0, 0, 0), (4, 3, 0, 0), (0, 0, 0, 0), (4, 4, 0, 0), (16, 0, 5, 0)]),
  (5, 31, [(3, 4, 0, 0), (3, 0, 2, 0), (18, 7, 13, 64), (13, 3, 46, 0), (3, 0, 2, 0), (21, 7, 14, 40), (3, 4, 0, 0), (0, 0, 0, 4), (6, 2, 0, 0), (26, 0, 0, 0), (3, 1, 0, 0), (13, 1, 40, 0), (3, 0, 2, 0), (3, 4, 0, 0), (3, 2, 0, 0), (39, 17032, 74, 71), (12, 0, 40, 0), (5, 3, 0, 1), (16, 0, 40, 0)]),
  (40, 31, [(5, 4, 0, 1), (15, 0, 5, 0), (16, 0, 5, 0)]),
  (46, 8, [(3, 3, 0, 0), (55, 0, 0, 0)])]
def k_X7_brushed : List (Nat × Nat × List Ins) := [(0, 31, [(3, 1, 0, 0), (0, 0, 0, 5), (6, 2, 0, 0), (4, 5, 0, 0), (3, 0, 2, 0), (21, 7, 1, 9), (3, 5, 0, 0), (26, 0, 0, 0), (4, 6, 0, 0), (3, 3, 0, 0), (3, 4, 0, 0), (3, 3, 0, 0), (6, 1, 0, 0), (3, 6, 0, 0), (7, 0, 0, 0), (3, 6, 0, 0), (39, 31, 184, 74), (6, 0, 0, 0), (4, 7, 0, 0), (3, 7, 0, 0), (3, 0, 2, 0), (21, 7, 1, 9), (3, 5, 0, 0), (0, 0, 0, 2), (6, 0, 0, 0), (3, 2, 0, 0), (0, 0, 0, 3), (44, 0, 0, 0), (6, 0, 0, 0), (26, 0, 0, 0), (6, 0, 0, 0), (0, 0, 0, 3), (6, 1, 0, 0), (0, 0, 0, 0), (0, 1, 0, 9), (39, 31, 184, 74), (55, 0, 0, 0)])]
def k_X8_init : List (Nat × Nat × List Ins) := [(0, 3, [(3, 0, 2, 0), (40, 0, 0, 3), (3, 0, 2, 0), (0, 1, 0, 49), (37, 0, 0, 0), (25, 8, 2, 11), (3, 0, 2, 0), (0, 2, 0, 128), (37, 0, 0, 0), (25, 8, 3, 15), (3, 0, 2, 0), (0, 2, 0, 128), (37, 0, 0, 0), (25, 8, 4, 18), (3, 0, 2, 0), (0, 1, 0, 7), (37, 0, 0, 0), (25, 8, 5, 21), (3, 0, 2, 0), (0, 1, 0, 64), (37, 0, 0, 0), (25, 8, 6, 24), (3, 0, 2, 0), (3, 1, 2, 0), (25, 8, 0, 27), (42, 0, 0, 0)])]
def k_X8_between : List (Nat × Nat × List Ins) := [(0, 7, [(0, 0, 0, 0), (4, 3, 0, 0), (0, 0, 0, 0), (4, 4, 0, 0), (16, 0, 5, 0)]),
  (5, 31, [(3, 4, 0, 0), (0, 1, 0, 12), (13, 3, 38, 0), (3, 0, 2, 0), (3, 1, 0, 0), (3, 4, 0, 0), (39, 18032, 87, 31), (3, 0, 2, 0), (3, 2, 0, 0), (3, 4, 0, 0), (39, 18032, 87, 31), (13, 0, 32, 0), (5, 3, 0, 1), (16, 0, 32, 0)]),
  (32, 31, [(5, 4, 0, 1), (15, 0, 5, 0), (16, 0, 5, 0)]),
  (38, 8, [(3, 3, 0, 0), (55, 0, 0, 0)])]
def k_X8_weigh : List (Nat × Nat × List Ins) := [(0, 1, [(3, 0, 2, 0), (3, 0, 2, 0), (21, 8, 0, 27), (18, 7, 11, 35), (0, 0, 0, 1), (6, 0, 0, 0), (22, 8, 1, 41), (0, 0, 0, 0), (4, 1, 0, 0), (16, 0, 15, 0)]),
  (15, 3, [(3, 1, 0, 0), (3, 0, 2, 0), (18, 8, 1, 41), (13, 3, 62, 0), (0, 0, 0, 0), (4, 2, 0, 0), (16, 0, 25, 0)]),
  (25, 7, [(3, 2, 0, 0), (3, 0, 2, 0), (18, 8, 1, 41), (13, 3, 56, 0), (3, 0, 2, 0), (21, 8, 2, 11), (3, 1, 0, 0), (0, 1, 0, 7), (6, 2, 0, 0), (3, 2, 0, 0), (6, 0, 0, 0), (3, 0, 2, 0), (3, 1, 0, 0), (3, 2, 0, 0), (39, 18032, 78, 44), (27, 0, 0, 0), (5, 2, 0, 1), (15, 0, 25, 0), (16, 0, 25, 0)]),
  (56, 3, [(5, 1, 0, 1), (15, 0, 15, 0), (16, 0, 15, 0)]),
  (62, 1, [(0, 0, 0, 1), (4, 1, 0, 0), (16, 0, 64, 0)]),
  (64, 3, [(3, 1, 0, 0), (0, 0, 0, 1), (3, 0, 2, 0), (18, 8, 1, 41), (6, 6, 0, 0), (13, 3, 85, 0), (3, 0, 2, 0), (3, 1, 0, 0), (39, 18022, 89, 47), (5, 1, 0, 1), (15, 0, 64, 0), (16, 0, 64, 0)]),
  (85, 0, [(42, 0, 0, 0)])]
def k_X8_changed : List (Nat × Nat × List Ins) := [(0, 1, [(3, 0, 2, 0), (21, 8, 3, 15), (0, 0, 0, 1), (3, 0, 2, 0), (18, 8, 1, 41), (6, 6, 0, 0), (0, 0, 0, 1), (6, 1, 0, 0), (26, 0, 0, 0), (55, 0, 0, 0)])]
def k_X8_waysInAll : List (Nat × Nat × List Ins) := [(0, 1, [(3, 0, 2, 0), (21, 8, 4, 18), (0, 0, 0, 1), (3, 0, 2, 0), (18, 8, 1, 41), (6, 6, 0, 0), (0, 0, 0, 1), (6, 1, 0, 0), (26, 0, 0, 0), (55, 0, 0, 0)])]
def k_X8_parentOf : List (Nat × Nat × List Ins) := [(0, 3, [(0, 0, 0, 0), (4, 2, 0, 0), (16, 0, 2, 0)]),
  (2, 7, [(3, 2, 0, 0), (0, 1, 0, 7), (13, 3, 21, 0), (3, 0, 2, 0), (21, 8, 5, 21), (3, 2, 0, 0), (0, 0, 0, (-1)), (27, 0, 0, 0), (5, 2, 0, 1), (15, 0, 2, 0), (16, 0, 2, 0)]),
  (21, 3, [(3, 0, 2, 0), (0, 0, 0, 1), (0, 0, 0, 0), (39, 30, 91, 51), (12, 0, 39, 0), (3, 0, 2, 0), (21, 8, 5, 21), (3, 1, 0, 0), (26, 0, 0, 0), (15, 0, 40, 0), (55, 0, 0, 0)]),
  (39, 0, [(0, 0, 0, 0), (55, 0, 0, 0)])]
def k_X8_datedBy : List (Nat × Nat × List Ins) := [(0, 7, [(0, 1, 0, 13), (4, 3, 0, 0), (0, 0, 0, 0), (4, 4, 0, 0), (0, 0, 0, 0), (4, 5, 0, 0), (0, 0, 0, 0), (4, 6, 0, 0), (0, 0, 0, 0), (4, 7, 0, 0), (16, 0, 15, 0)]),
  (15, 255, [(3, 7, 0, 0), (3, 0, 2, 0), (21, 8, 0, 27), (18, 7, 8, 55), (13, 4, 71, 0), (3, 0, 2, 0), (3, 1, 0, 0), (3, 7, 0, 0), (39, 18032, 88, 58), (4, 8, 0, 0), (3, 8, 0, 0), (3, 3, 0, 0), (13, 3, 52, 0), (3, 8, 0, 0), (4, 3, 0, 0), (3, 7, 0, 0), (4, 4, 0, 0), (0, 0, 0, 0), (4, 6, 0, 0), (16, 0, 52, 0)]),
  (52, 511, [(3, 8, 0, 0), (3, 3, 0, 0), (13, 1, 65, 0), (3, 7, 0, 0), (4, 5, 0, 0), (5, 6, 0, 1), (16, 0, 65, 0)]),
  (65, 255, [(5, 7, 0, 1), (15, 0, 15, 0), (16, 0, 15, 0)]),
  (71, 124, [(3, 2, 0, 0), (17, 1, 0, 28)]),
  (100, 8, [(3, 3, 0, 0), (55, 0, 0, 0)]),
  (102, 16, [(3, 4, 0, 0), (55, 0, 0, 0)]),
  (105, 32, [(3, 5, 0, 0), (55, 0, 0, 0)]),
  (108, 64, [(3, 6, 0, 0), (55, 0, 0, 0)])]
def k_X8_learn : List (Nat × Nat × List Ins) := [(0, 1, [(0, 0, 0, 1), (3, 0, 2, 0), (21, 8, 0, 27), (18, 7, 11, 35), (6, 6, 0, 0), (0, 0, 0, 1), (6, 1, 0, 0), (4, 1, 0, 0), (3, 0, 2, 0), (0, 0, 0, 0), (22, 8, 7, 61), (3, 0, 2, 0), (0, 0, 0, (-1)), (22, 8, 8, 64), (0, 0, 0, 1), (4, 2, 0, 0), (16, 0, 24, 0)]),
  (24, 7, [(3, 2, 0, 0), (3, 1, 0, 0), (13, 4, 108, 0), (0, 0, 0, 0), (4, 3, 0, 0), (0, 0, 0, (-1)), (4, 4, 0, 0), (0, 0, 0, 0), (4, 5, 0, 0), (16, 0, 37, 0)]),
  (37, 63, [(3, 5, 0, 0), (0, 1, 0, 12), (13, 3, 84, 0), (3, 0, 2, 0), (3, 2, 0, 0), (3, 5, 0, 0), (39, 18032, 85, 67), (4, 6, 0, 0), (3, 6, 0, 0), (0, 0, 0, (-1)), (13, 0, 78, 0), (3, 4, 0, 0), (0, 0, 0, (-1)), (13, 0, 71, 0), (3, 6, 0, 0), (3, 3, 0, 0), (13, 3, 78, 0), (16, 0, 71, 0)]),
  (71, 103, [(3, 6, 0, 0), (4, 3, 0, 0), (3, 5, 0, 0), (4, 4, 0, 0), (16, 0, 78, 0)]),
  (78, 63, [(5, 5, 0, 1), (15, 0, 37, 0), (16, 0, 37, 0)]),
  (84, 31, [(3, 0, 2, 0), (21, 8, 6, 24), (3, 2, 0, 0), (3, 3, 0, 0), (27, 0, 0, 0), (3, 0, 2, 0), (3, 3, 0, 0), (22, 8, 7, 61), (3, 0, 2, 0), (3, 4, 0, 0), (22, 8, 8, 64), (5, 2, 0, 1), (15, 0, 24, 0), (16, 0, 24, 0)]),
  (108, 0, [(42, 0, 0, 0)])]
def k_X8_needBehind : List (Nat × Nat × List Ins) := [(0, 7, [(0, 0, 0, 0), (4, 3, 0, 0), (3, 1, 0, 0), (4, 4, 0, 0), (0, 0, 0, 0), (4, 5, 0, 0), (16, 0, 8, 0)]),
  (8, 63, [(3, 5, 0, 0), (3, 0, 2, 0), (21, 8, 0, 27), (18, 7, 11, 35), (13, 3, 80, 0), (3, 4, 0, 0), (12, 0, 80, 0), (3, 4, 0, 0), (3, 5, 0, 0), (6, 7, 0, 0), (0, 0, 0, 1), (6, 3, 0, 0), (0, 0, 0, 1), (13, 1, 74, 0), (3, 0, 2, 0), (3, 4, 0, 0), (3, 5, 0, 0), (3, 2, 0, 0), (39, 18042, 86, 70), (4, 6, 0, 0), (3, 6, 0, 0), (3, 1, 0, 0), (13, 1, 55, 0), (0, 0, 0, (-1)), (55, 0, 0, 0)]),
  (55, 127, [(3, 3, 0, 0), (3, 0, 2, 0), (21, 8, 6, 24), (3, 6, 0, 0), (26, 0, 0, 0), (63, 0, 0, 74), (4, 3, 0, 0), (3, 4, 0, 0), (3, 6, 0, 0), (6, 5, 0, 0), (4, 4, 0, 0), (16, 0, 74, 0)]),
  (74, 63, [(5, 5, 0, 1), (15, 0, 8, 0), (16, 0, 8, 0)]),
  (80, 8, [(3, 3, 0, 0), (0, 0, 0, 1), (6, 0, 0, 0), (55, 0, 0, 0)])]
def k_X8_sameIn : List (Nat × Nat × List Ins) := [(0, 15, [(0, 0, 0, 0), (4, 4, 0, 0), (3, 2, 0, 0), (4, 5, 0, 0), (16, 0, 6, 0)]),
  (6, 63, [(3, 5, 0, 0), (3, 0, 2, 0), (21, 8, 0, 27), (18, 7, 11, 35), (13, 3, 75, 0), (3, 1, 0, 0), (3, 5, 0, 0), (6, 7, 0, 0), (0, 0, 0, 1), (6, 3, 0, 0), (0, 0, 0, 1), (13, 1, 69, 0), (3, 0, 2, 0), (21, 8, 0, 27), (21, 7, 12, 79), (3, 5, 0, 0), (0, 1, 0, 12), (6, 2, 0, 0), (3, 3, 0, 0), (6, 0, 0, 0), (26, 0, 0, 0), (3, 0, 2, 0), (21, 8, 0, 27), (21, 7, 12, 79), (3, 2, 0, 0), (0, 1, 0, 12), (6, 2, 0, 0), (3, 3, 0, 0), (6, 0, 0, 0), (26, 0, 0, 0), (13, 1, 69, 0), (3, 4, 0, 0), (0, 0, 0, 1), (3, 5, 0, 0), (6, 6, 0, 0), (6, 4, 0, 0), (4, 4, 0, 0), (16, 0, 69, 0)]),
  (69, 63, [(5, 5, 0, 1), (15, 0, 6, 0), (16, 0, 6, 0)]),
  (75, 16, [(3, 4, 0, 0), (55, 0, 0, 0)])]
def k_X8_toneIn : List (Nat × Nat × List Ins) := [(0, 7, [(3, 1, 0, 0), (12, 1, 16, 0), (3, 0, 2, 0), (21, 8, 0, 27), (21, 7, 10, 82), (3, 2, 0, 0), (26, 0, 0, 0), (15, 0, 32, 0), (55, 0, 0, 0)]),
  (16, 7, [(3, 0, 2, 0), (21, 8, 0, 27), (21, 7, 12, 79), (3, 1, 0, 0), (0, 0, 0, 1), (6, 1, 0, 0), (0, 1, 0, 12), (6, 2, 0, 0), (3, 2, 0, 0), (6, 0, 0, 0), (26, 0, 0, 0), (55, 0, 0, 0)])]
def k_X8_fromLayer : List (Nat × Nat × List Ins) := [(0, 7, [(0, 0, 0, 0), (4, 3, 0, 0), (0, 0, 0, 0), (4, 4, 0, 0), (16, 0, 5, 0)]),
  (5, 31, [(3, 4, 0, 0), (0, 1, 0, 12), (13, 3, 54, 0), (3, 0, 2, 0), (21, 8, 0, 27), (21, 7, 12, 79), (3, 1, 0, 0), (0, 1, 0, 12), (6, 2, 0, 0), (3, 4, 0, 0), (6, 0, 0, 0), (26, 0, 0, 0), (3, 0, 2, 0), (21, 8, 0, 27), (21, 7, 10, 82), (3, 2, 0, 0), (0, 1, 0, 12), (6, 2, 0, 0), (3, 4, 0, 0), (6, 0, 0, 0), (26, 0, 0, 0), (13, 0, 48, 0), (5, 3, 0, 1), (16, 0, 48, 0)]),
  (48, 31, [(5, 4, 0, 1), (15, 0, 5, 0), (16, 0, 5, 0)]),
  (54, 8, [(3, 3, 0, 0), (55, 0, 0, 0)])]
def k_X8_weighSet : List (Nat × Nat × List Ins) := [(0, 3, [(3, 1, 0, 0), (3, 1, 0, 0), (0, 0, 0, 1), (6, 1, 0, 0), (6, 3, 0, 0), (4, 2, 0, 0), (3, 2, 0, 0), (12, 1, 25, 0), (3, 0, 2, 0), (21, 8, 3, 15), (3, 1, 0, 0), (0, 0, 0, 0), (27, 0, 0, 0), (3, 0, 2, 0), (21, 8, 4, 18), (3, 1, 0, 0), (0, 0, 0, 1), (27, 0, 0, 0), (42, 0, 0, 0)]),
  (25, 7, [(3, 0, 2, 0), (21, 8, 3, 15), (3, 1, 0, 0), (0, 1, 0, 84), (27, 0, 0, 0), (3, 0, 2, 0), (21, 8, 4, 18), (3, 1, 0, 0), (0, 0, 0, 0), (27, 0, 0, 0), (3, 2, 0, 0), (3, 2, 0, 0), (7, 0, 0, 0), (6, 3, 0, 0), (4, 3, 0, 0), (3, 2, 0, 0), (3, 3, 0, 0), (6, 5, 0, 0), (4, 4, 0, 0), (0, 0, 0, 0), (4, 5, 0, 0), (16, 0, 53, 0)]),
  (53, 59, [(3, 5, 0, 0), (3, 4, 0, 0), (13, 4, 85, 0), (3, 5, 0, 0), (3, 4, 0, 0), (6, 3, 0, 0), (3, 5, 0, 0), (13, 1, 79, 0), (3, 0, 2, 0), (3, 1, 0, 0), (3, 5, 0, 0), (3, 3, 0, 0), (6, 4, 0, 0), (39, 18032, 90, 85), (16, 0, 79, 0)]),
  (79, 59, [(5, 5, 0, 1), (15, 0, 53, 0), (16, 0, 53, 0)]),
  (85, 0, [(42, 0, 0, 0)])]
def k_X8_joinBranch : List (Nat × Nat × List Ins) := [(0, 7, [(0, 0, 0, 0), (3, 1, 0, 0), (39, 11, 182, 89), (63, 0, 0, 74), (4, 3, 0, 0), (3, 1, 0, 0), (3, 2, 0, 0), (6, 5, 0, 0), (4, 4, 0, 0), (3, 0, 2, 0), (21, 8, 4, 18), (3, 2, 0, 0), (26, 0, 0, 0), (3, 0, 2, 0), (21, 8, 4, 18), (3, 4, 0, 0), (26, 0, 0, 0), (6, 2, 0, 0), (4, 5, 0, 0), (0, 0, 0, 0), (4, 6, 0, 0), (16, 0, 33, 0)]),
  (33, 127, [(3, 6, 0, 0), (3, 0, 2, 0), (18, 8, 1, 41), (13, 3, 135, 0), (3, 2, 0, 0), (3, 6, 0, 0), (6, 7, 0, 0), (0, 0, 0, 1), (6, 3, 0, 0), (0, 0, 0, 1), (13, 1, 129, 0), (3, 0, 2, 0), (21, 8, 3, 15), (3, 2, 0, 0), (26, 0, 0, 0), (3, 0, 2, 0), (21, 8, 3, 15), (3, 4, 0, 0), (26, 0, 0, 0), (6, 0, 0, 0), (3, 0, 2, 0), (21, 8, 2, 11), (3, 3, 0, 0), (0, 1, 0, 7), (6, 2, 0, 0), (3, 6, 0, 0), (6, 0, 0, 0), (26, 0, 0, 0), (6, 0, 0, 0), (4, 7, 0, 0), (3, 7, 0, 0), (3, 0, 2, 0), (21, 8, 3, 15), (3, 1, 0, 0), (26, 0, 0, 0), (13, 3, 107, 0), (3, 0, 2, 0), (21, 8, 3, 15), (3, 1, 0, 0), (3, 7, 0, 0), (27, 0, 0, 0), (3, 0, 2, 0), (21, 8, 4, 18), (3, 1, 0, 0), (0, 0, 0, 0), (27, 0, 0, 0), (16, 0, 107, 0)]),
  (107, 255, [(3, 7, 0, 0), (3, 0, 2, 0), (21, 8, 3, 15), (3, 1, 0, 0), (26, 0, 0, 0), (13, 1, 129, 0), (3, 0, 2, 0), (21, 8, 4, 18), (3, 1, 0, 0), (50, 0, 0, 0), (26, 0, 0, 0), (3, 5, 0, 0), (6, 0, 0, 0), (27, 0, 0, 0), (16, 0, 129, 0)]),
  (129, 127, [(5, 6, 0, 1), (15, 0, 33, 0), (16, 0, 33, 0)]),
  (135, 0, [(42, 0, 0, 0)])]
def k_X8_fits : List (Nat × Nat × List Ins) := [(0, 7, [(3, 1, 0, 0), (3, 0, 2, 0), (18, 8, 1, 41), (13, 2, 22, 0), (3, 2, 0, 0), (3, 0, 2, 0), (39, 18012, 80, 93), (13, 1, 20, 0), (0, 0, 0, 1), (15, 0, 21, 0), (58, 0, 0, 0)]),
  (20, 0, [(0, 0, 0, 0), (58, 0, 0, 0)]),
  (22, 7, [(3, 2, 0, 0), (3, 0, 2, 0), (3, 1, 0, 0), (39, 18022, 92, 97), (6, 0, 0, 0), (3, 0, 2, 0), (39, 18012, 80, 93), (13, 5, 38, 0), (0, 0, 0, 0), (58, 0, 0, 0)]),
  (38, 7, [(0, 0, 0, 0), (4, 3, 0, 0), (16, 0, 40, 0)]),
  (40, 15, [(3, 3, 0, 0), (3, 0, 2, 0), (18, 8, 1, 41), (13, 3, 102, 0), (3, 0, 2, 0), (3, 3, 0, 0), (3, 1, 0, 0), (39, 18032, 93, 100), (12, 1, 96, 0), (3, 0, 2, 0), (21, 8, 5, 21), (3, 1, 0, 0), (3, 3, 0, 0), (27, 0, 0, 0), (3, 0, 2, 0), (3, 1, 0, 0), (0, 0, 0, 1), (6, 0, 0, 0), (3, 2, 0, 0), (3, 0, 2, 0), (21, 8, 2, 11), (3, 1, 0, 0), (0, 1, 0, 7), (6, 2, 0, 0), (3, 3, 0, 0), (6, 0, 0, 0), (26, 0, 0, 0), (6, 0, 0, 0), (39, 30, 91, 51), (12, 0, 89, 0), (0, 0, 0, 1), (58, 0, 0, 0)]),
  (89, 15, [(3, 0, 2, 0), (21, 8, 5, 21), (3, 1, 0, 0), (0, 0, 0, (-1)), (27, 0, 0, 0), (16, 0, 96, 0)]),
  (96, 15, [(5, 3, 0, 1), (15, 0, 40, 0), (16, 0, 40, 0)]),
  (102, 0, [(0, 0, 0, 0), (58, 0, 0, 0)])]
def k_X8_leastFrom : List (Nat × Nat × List Ins) := [(0, 3, [(0, 0, 0, 0), (4, 2, 0, 0), (3, 1, 0, 0), (4, 3, 0, 0), (16, 0, 4, 0)]),
  (4, 13, [(3, 3, 0, 0), (3, 0, 2, 0), (18, 8, 1, 41), (13, 3, 70, 0), (0, 1, 0, 12), (4, 4, 0, 0), (0, 0, 0, 0), (4, 5, 0, 0), (16, 0, 19, 0)]),
  (19, 61, [(3, 5, 0, 0), (3, 0, 2, 0), (18, 8, 1, 41), (13, 3, 59, 0), (3, 5, 0, 0), (3, 3, 0, 0), (13, 0, 53, 0), (3, 4, 0, 0), (3, 0, 2, 0), (21, 8, 2, 11), (3, 3, 0, 0), (0, 1, 0, 7), (6, 2, 0, 0), (3, 5, 0, 0), (6, 0, 0, 0), (26, 0, 0, 0), (64, 0, 0, 104), (4, 4, 0, 0), (16, 0, 53, 0)]),
  (53, 61, [(5, 5, 0, 1), (15, 0, 19, 0), (16, 0, 19, 0)]),
  (59, 29, [(3, 2, 0, 0), (3, 4, 0, 0), (6, 0, 0, 0), (4, 2, 0, 0), (5, 3, 0, 1), (15, 0, 4, 0), (16, 0, 4, 0)]),
  (70, 4, [(3, 2, 0, 0), (55, 0, 0, 0)])]
def k_X8_comesFrom : List (Nat × Nat × List Ins) := [(0, 7, [(3, 1, 0, 0), (4, 3, 0, 0), (0, 0, 0, 0), (4, 4, 0, 0), (16, 0, 5, 0)]),
  (5, 29, [(3, 4, 0, 0), (0, 1, 0, 7), (13, 3, 42, 0), (3, 3, 0, 0), (12, 5, 42, 0), (3, 3, 0, 0), (0, 1, 0, 7), (13, 3, 42, 0), (3, 3, 0, 0), (3, 2, 0, 0), (13, 1, 29, 0), (0, 0, 0, 1), (58, 0, 0, 0)]),
  (29, 29, [(3, 0, 2, 0), (21, 8, 5, 21), (3, 3, 0, 0), (26, 0, 0, 0), (4, 3, 0, 0), (5, 4, 0, 1), (15, 0, 5, 0), (16, 0, 5, 0)]),
  (42, 0, [(0, 0, 0, 0), (58, 0, 0, 0)])]
def k_X9_init : List (Nat × Nat × List Ins) := [(0, 7, [(3, 0, 2, 0), (40, 0, 0, 3), (3, 0, 2, 0), (0, 1, 0, 12), (37, 0, 0, 0), (25, 9, 2, 9), (3, 0, 2, 0), (0, 1, 0, 12), (37, 0, 0, 0), (25, 9, 3, 15), (3, 0, 2, 0), (3, 1, 2, 0), (25, 9, 0, 18), (3, 0, 2, 0), (3, 2, 2, 0), (25, 9, 1, 22), (42, 0, 0, 0)])]
def k_X9_paintNext : List (Nat × Nat × List Ins) := [(0, 3, [(3, 0, 2, 0), (21, 9, 0, 18), (18, 7, 8, 26), (0, 0, 0, 1), (6, 0, 0, 0), (4, 2, 0, 0), (3, 2, 0, 0), (0, 1, 0, 16), (13, 5, 17, 0), (42, 0, 0, 0)]),
  (17, 7, [(0, 0, 0, 0), (4, 3, 0, 0), (16, 0, 19, 0)]),
  (19, 15, [(3, 3, 0, 0), (0, 1, 0, 12), (13, 3, 75, 0), (3, 0, 2, 0), (21, 9, 1, 22), (3, 3, 0, 0), (3, 2, 0, 0), (39, 14032, 23, 32), (4, 4, 0, 0), (3, 0, 2, 0), (21, 9, 0, 18), (21, 7, 10, 38), (3, 2, 0, 0), (0, 1, 0, 12), (6, 2, 0, 0), (3, 3, 0, 0), (6, 0, 0, 0), (3, 0, 2, 0), (21, 9, 0, 18), (3, 1, 0, 0), (3, 3, 0, 0), (3, 0, 2, 0), (21, 9, 0, 18), (3, 3, 0, 0), (39, 17022, 71, 41), (3, 4, 0, 0), (39, 17052, 76, 45), (27, 0, 0, 0), (5, 3, 0, 1), (15, 0, 19, 0), (16, 0, 19, 0)]),
  (75, 7, [(3, 0, 2, 0), (21, 9, 0, 18), (21, 7, 9, 49), (3, 2, 0, 0), (3, 1, 0, 0), (27, 0, 0, 0), (3, 0, 2, 0), (21, 9, 0, 18), (3, 2, 0, 0), (22, 7, 8, 26), (42, 0, 0, 0)])]
def k_X9_unlikeOf : List (Nat × Nat × List Ins) := [(0, 3, [(0, 0, 0, 0), (4, 2, 0, 0), (0, 0, 0, 0), (4, 3, 0, 0), (16, 0, 4, 0)]),
  (4, 15, [(3, 3, 0, 0), (0, 1, 0, 12), (13, 3, 46, 0), (3, 2, 0, 0), (3, 0, 2, 0), (21, 9, 0, 18), (21, 7, 10, 38), (3, 1, 0, 0), (0, 1, 0, 12), (6, 2, 0, 0), (3, 3, 0, 0), (6, 0, 0, 0), (26, 0, 0, 0), (3, 0, 2, 0), (21, 9, 1, 22), (3, 3, 0, 0), (3, 1, 0, 0), (39, 14032, 23, 32), (6, 1, 0, 0), (62, 0, 0, 52), (6, 0, 0, 0), (4, 2, 0, 0), (5, 3, 0, 1), (15, 0, 4, 0), (16, 0, 4, 0)]),
  (46, 4, [(3, 2, 0, 0), (55, 0, 0, 0)])]
def k_X9_farCell : List (Nat × Nat × List Ins) := [(0, 3, [(0, 0, 0, 0), (4, 2, 0, 0), (16, 0, 2, 0)]),
  (2, 7, [(3, 2, 0, 0), (0, 1, 0, 12), (13, 3, 57, 0), (3, 0, 2, 0), (21, 9, 0, 18), (21, 7, 10, 38), (3, 1, 0, 0), (0, 1, 0, 12), (6, 2, 0, 0), (3, 2, 0, 0), (6, 0, 0, 0), (26, 0, 0, 0), (3, 0, 2, 0), (21, 9, 1, 22), (3, 2, 0, 0), (3, 1, 0, 0), (39, 14032, 23, 32), (6, 1, 0, 0), (62, 0, 0, 52), (4, 3, 0, 0), (3, 3, 0, 0), (3, 0, 2, 0), (21, 9, 1, 22), (3, 2, 0, 0), (3, 1, 0, 0), (39, 14032, 24, 57), (13, 5, 51, 0), (3, 2, 0, 0), (55, 0, 0, 0)]),
  (51, 7, [(5, 2, 0, 1), (15, 0, 2, 0), (16, 0, 2, 0)]),
  (57, 0, [(0, 0, 0, (-1)), (55, 0, 0, 0)])]
def k_X9_moneyBehind : List (Nat × Nat × List Ins) := [(0, 3, [(3, 0, 2, 0), (21, 9, 0, 18), (21, 7, 4, 60), (0, 0, 0, 3), (26, 0, 0, 0), (3, 1, 0, 0), (6, 2, 0, 0), (4, 2, 0, 0), (0, 0, 0, 1), (4, 3, 0, 0), (16, 0, 14, 0)]),
  (14, 15, [(3, 3, 0, 0), (3, 1, 0, 0), (13, 4, 45, 0), (3, 2, 0, 0), (3, 0, 2, 0), (21, 9, 1, 22), (3, 0, 2, 0), (21, 9, 0, 18), (21, 7, 9, 49), (3, 3, 0, 0), (26, 0, 0, 0), (3, 3, 0, 0), (39, 14032, 25, 63), (6, 1, 0, 0), (4, 2, 0, 0), (5, 3, 0, 1), (15, 0, 14, 0), (16, 0, 14, 0)]),
  (45, 4, [(3, 2, 0, 0), (55, 0, 0, 0)])]
def k_X9_whoCan : List (Nat × Nat × List Ins) := [(0, 3, [(3, 0, 2, 0), (3, 1, 0, 0), (3, 0, 2, 0), (21, 9, 2, 9), (39, 19032, 104, 66), (0, 0, 0, 0), (4, 2, 0, 0), (0, 0, 0, 0), (4, 3, 0, 0), (16, 0, 13, 0)]),
  (13, 15, [(3, 3, 0, 0), (3, 0, 2, 0), (21, 9, 0, 18), (18, 7, 0, 70), (13, 3, 46, 0), (3, 0, 2, 0), (3, 1, 0, 0), (3, 3, 0, 0), (0, 0, 0, 1), (39, 19042, 105, 73), (12, 0, 40, 0), (3, 2, 0, 0), (0, 0, 0, 1), (3, 3, 0, 0), (6, 6, 0, 0), (6, 4, 0, 0), (4, 2, 0, 0), (16, 0, 40, 0)]),
  (40, 15, [(5, 3, 0, 1), (15, 0, 13, 0), (16, 0, 13, 0)]),
  (46, 4, [(3, 2, 0, 0), (55, 0, 0, 0)])]
def k_X9_rowsInto : List (Nat × Nat × List Ins) := [(0, 7, [(3, 0, 2, 0), (3, 1, 0, 0), (3, 0, 2, 0), (21, 9, 2, 9), (39, 19032, 104, 66), (0, 0, 0, 1), (4, 3, 0, 0), (0, 0, 0, 0), (4, 4, 0, 0), (16, 0, 14, 0)]),
  (14, 31, [(3, 4, 0, 0), (3, 2, 0, 0), (13, 3, 36, 0), (3, 3, 0, 0), (3, 0, 2, 0), (21, 9, 0, 18), (18, 7, 0, 70), (6, 2, 0, 0), (4, 3, 0, 0), (5, 4, 0, 1), (15, 0, 14, 0), (16, 0, 14, 0)]),
  (36, 15, [(0, 0, 0, 0), (4, 4, 0, 0), (0, 0, 0, 0), (4, 5, 0, 0), (16, 0, 42, 0)]),
  (42, 63, [(3, 5, 0, 0), (3, 3, 0, 0), (13, 3, 68, 0), (3, 0, 2, 0), (3, 1, 0, 0), (3, 5, 0, 0), (3, 2, 0, 0), (39, 19042, 105, 73), (12, 0, 62, 0), (5, 4, 0, 1), (16, 0, 62, 0)]),
  (62, 63, [(5, 5, 0, 1), (15, 0, 42, 0), (16, 0, 42, 0)]),
  (68, 16, [(3, 4, 0, 0), (55, 0, 0, 0)])]
def k_X9_driftOf : List (Nat × Nat × List Ins) := [(0, 7, [(0, 0, 0, 1), (3, 0, 2, 0), (21, 9, 0, 18), (3, 1, 0, 0), (39, 17022, 71, 41), (6, 6, 0, 0), (4, 3, 0, 0), (3, 0, 2, 0), (21, 9, 0, 18), (18, 7, 8, 26), (0, 0, 0, 1), (6, 0, 0, 0), (4, 4, 0, 0), (16, 0, 22, 0)]),
  (22, 31, [(3, 4, 0, 0), (3, 0, 2, 0), (21, 9, 0, 18), (18, 7, 8, 26), (3, 2, 0, 0), (6, 0, 0, 0), (13, 4, 110, 0), (3, 0, 2, 0), (21, 9, 1, 22), (3, 1, 0, 0), (3, 4, 0, 0), (39, 14032, 23, 32), (4, 5, 0, 0), (0, 0, 0, 0), (4, 6, 0, 0), (0, 0, 0, 0), (4, 7, 0, 0), (16, 0, 54, 0)]),
  (54, 255, [(3, 7, 0, 0), (3, 0, 2, 0), (21, 9, 0, 18), (18, 7, 0, 70), (13, 3, 101, 0), (3, 0, 2, 0), (21, 9, 1, 22), (3, 7, 0, 0), (3, 4, 0, 0), (39, 14032, 26, 77), (12, 1, 95, 0), (3, 6, 0, 0), (3, 0, 2, 0), (3, 3, 0, 0), (3, 7, 0, 0), (3, 1, 0, 0), (3, 5, 0, 0), (39, 19052, 106, 81), (6, 4, 0, 0), (4, 6, 0, 0), (16, 0, 95, 0)]),
  (95, 255, [(5, 7, 0, 1), (15, 0, 54, 0), (16, 0, 54, 0)]),
  (101, 87, [(3, 6, 0, 0), (4, 3, 0, 0), (5, 4, 0, 1), (15, 0, 22, 0), (16, 0, 22, 0)]),
  (110, 8, [(3, 3, 0, 0), (55, 0, 0, 0)])]
def k_X9_undoingPair : List (Nat × Nat × List Ins) := [(0, 3, [(3, 0, 2, 0), (3, 0, 2, 0), (21, 9, 0, 18), (18, 7, 8, 26), (0, 0, 0, 1), (6, 0, 0, 0), (3, 0, 2, 0), (21, 9, 2, 9), (39, 19032, 104, 66), (3, 0, 2, 0), (3, 0, 2, 0), (21, 9, 0, 18), (18, 7, 8, 26), (0, 0, 0, 2), (6, 0, 0, 0), (3, 0, 2, 0), (21, 9, 3, 15), (39, 19032, 104, 66), (0, 0, 0, 0), (4, 2, 0, 0), (0, 0, 0, 0), (4, 3, 0, 0), (16, 0, 38, 0)]),
  (38, 15, [(3, 3, 0, 0), (3, 0, 2, 0), (21, 9, 0, 18), (18, 7, 0, 70), (13, 3, 101, 0), (0, 0, 0, 0), (4, 4, 0, 0), (16, 0, 52, 0)]),
  (52, 31, [(3, 4, 0, 0), (3, 0, 2, 0), (21, 9, 0, 18), (18, 7, 0, 70), (13, 3, 95, 0), (3, 0, 2, 0), (3, 3, 0, 0), (3, 4, 0, 0), (39, 19032, 107, 84), (12, 0, 89, 0), (3, 2, 0, 0), (3, 1, 0, 0), (13, 1, 86, 0), (0, 0, 0, 5), (3, 3, 0, 0), (6, 2, 0, 0), (3, 4, 0, 0), (6, 0, 0, 0), (55, 0, 0, 0)]),
  (86, 31, [(5, 2, 0, 1), (16, 0, 89, 0)]),
  (89, 31, [(5, 4, 0, 1), (15, 0, 52, 0), (16, 0, 52, 0)]),
  (95, 15, [(5, 3, 0, 1), (15, 0, 38, 0), (16, 0, 38, 0)]),
  (101, 6, [(3, 1, 0, 0), (0, 0, 0, (-1)), (13, 1, 110, 0), (3, 2, 0, 0), (15, 0, 111, 0), (55, 0, 0, 0)]),
  (110, 0, [(0, 0, 0, (-1)), (55, 0, 0, 0)])]
def k_X9_firstTones : List (Nat × Nat × List Ins) := [(0, 3, [(0, 0, 0, 1), (3, 0, 2, 0), (21, 9, 0, 18), (3, 1, 0, 0), (39, 17022, 71, 41), (6, 6, 0, 0), (4, 2, 0, 0), (3, 0, 2, 0), (21, 9, 0, 18), (18, 7, 8, 26), (4, 3, 0, 0), (16, 0, 19, 0)]),
  (19, 15, [(3, 3, 0, 0), (0, 0, 0, 1), (13, 2, 100, 0), (3, 0, 2, 0), (21, 9, 1, 22), (3, 1, 0, 0), (3, 3, 0, 0), (39, 14032, 23, 32), (4, 4, 0, 0), (0, 0, 0, 0), (4, 5, 0, 0), (0, 0, 0, 0), (4, 6, 0, 0), (16, 0, 41, 0)]),
  (41, 127, [(3, 6, 0, 0), (0, 1, 0, 10), (13, 3, 91, 0), (3, 0, 2, 0), (21, 9, 0, 18), (3, 0, 2, 0), (21, 9, 0, 18), (21, 7, 9, 49), (3, 3, 0, 0), (26, 0, 0, 0), (3, 1, 0, 0), (3, 6, 0, 0), (3, 4, 0, 0), (39, 17052, 76, 45), (4, 7, 0, 0), (3, 5, 0, 0), (3, 2, 0, 0), (3, 7, 0, 0), (6, 7, 0, 0), (0, 0, 0, 1), (6, 3, 0, 0), (3, 6, 0, 0), (6, 6, 0, 0), (6, 4, 0, 0), (4, 5, 0, 0), (5, 6, 0, 1), (15, 0, 41, 0), (16, 0, 41, 0)]),
  (91, 43, [(3, 5, 0, 0), (4, 2, 0, 0), (5, 3, 0, (-1)), (15, 0, 19, 0), (16, 0, 19, 0)]),
  (100, 4, [(3, 2, 0, 0), (55, 0, 0, 0)])]
def k_X9_aimAt : List (Nat × Nat × List Ins) := [(0, 7, [(0, 0, 0, 0), (4, 3, 0, 0), (16, 0, 2, 0)]),
  (2, 15, [(3, 3, 0, 0), (0, 1, 0, 12), (13, 3, 26, 0), (3, 2, 2, 0), (3, 3, 0, 0), (3, 0, 2, 0), (21, 9, 1, 22), (3, 3, 0, 0), (3, 1, 0, 0), (39, 14032, 23, 32), (27, 0, 0, 0), (5, 3, 0, 1), (15, 0, 2, 0), (16, 0, 2, 0)]),
  (26, 0, [(42, 0, 0, 0)])]
def k_X9_comesOut : List (Nat × Nat × List Ins) := [(0, 15, [(3, 0, 2, 0), (21, 9, 0, 18), (18, 7, 0, 70), (12, 1, 12, 0), (0, 0, 0, 0), (58, 0, 0, 0)]),
  (12, 15, [(0, 0, 0, 0), (4, 4, 0, 0), (16, 0, 15, 0)]),
  (15, 31, [(3, 4, 0, 0), (0, 1, 0, 12), (13, 3, 129, 0), (3, 0, 2, 0), (21, 9, 0, 18), (21, 7, 10, 38), (3, 1, 0, 0), (0, 0, 0, 1), (6, 1, 0, 0), (0, 1, 0, 12), (6, 2, 0, 0), (3, 4, 0, 0), (6, 0, 0, 0), (26, 0, 0, 0), (4, 5, 0, 0), (3, 2, 0, 0), (4, 6, 0, 0), (0, 0, 0, 0), (4, 7, 0, 0), (16, 0, 47, 0)]),
  (47, 255, [(3, 7, 0, 0), (3, 3, 0, 0), (13, 3, 101, 0), (3, 0, 2, 0), (21, 9, 0, 18), (3, 6, 0, 0), (3, 0, 2, 0), (21, 9, 0, 18), (18, 7, 0, 70), (44, 0, 0, 0), (3, 4, 0, 0), (3, 5, 0, 0), (3, 0, 2, 0), (21, 9, 2, 9), (3, 4, 0, 0), (26, 0, 0, 0), (39, 17052, 76, 45), (4, 5, 0, 0), (3, 6, 0, 0), (3, 0, 2, 0), (21, 9, 0, 18), (18, 7, 0, 70), (43, 0, 0, 0), (4, 6, 0, 0), (5, 7, 0, 1), (15, 0, 47, 0), (16, 0, 47, 0)]),
  (101, 63, [(3, 5, 0, 0), (3, 0, 2, 0), (21, 9, 0, 18), (21, 7, 10, 38), (3, 1, 0, 0), (0, 1, 0, 12), (6, 2, 0, 0), (3, 4, 0, 0), (6, 0, 0, 0), (26, 0, 0, 0), (13, 0, 123, 0), (0, 0, 0, 0), (58, 0, 0, 0)]),
  (123, 31, [(5, 4, 0, 1), (15, 0, 15, 0), (16, 0, 15, 0)]),
  (129, 0, [(0, 0, 0, 1), (58, 0, 0, 0)])]
def k_X9_carried : List (Nat × Nat × List Ins) := [(0, 31, [(0, 0, 0, 0), (4, 5, 0, 0), (0, 0, 0, 0), (4, 6, 0, 0), (16, 0, 6, 0)]),
  (6, 127, [(3, 6, 0, 0), (0, 1, 0, 10), (13, 3, 49, 0), (3, 1, 0, 0), (3, 6, 0, 0), (6, 7, 0, 0), (0, 0, 0, 1), (6, 3, 0, 0), (0, 0, 0, 1), (13, 1, 43, 0), (3, 5, 0, 0), (0, 0, 0, 1), (3, 0, 2, 0), (21, 9, 0, 18), (3, 2, 0, 0), (3, 3, 0, 0), (3, 6, 0, 0), (3, 4, 0, 0), (39, 17052, 76, 45), (6, 6, 0, 0), (6, 4, 0, 0), (4, 5, 0, 0), (16, 0, 43, 0)]),
  (43, 127, [(5, 6, 0, 1), (15, 0, 6, 0), (16, 0, 6, 0)]),
  (49, 32, [(3, 5, 0, 0), (55, 0, 0, 0)])]
def k_X9_undo : List (Nat × Nat × List Ins) := [(0, 7, [(0, 0, 0, 0), (4, 3, 0, 0), (16, 0, 2, 0)]),
  (2, 15, [(3, 3, 0, 0), (0, 1, 0, 12), (13, 3, 67, 0), (3, 0, 2, 0), (21, 9, 0, 18), (3, 3, 0, 0), (39, 17022, 71, 41), (4, 4, 0, 0), (3, 0, 2, 0), (21, 9, 0, 18), (3, 1, 0, 0), (3, 3, 0, 0), (3, 4, 0, 0), (3, 0, 2, 0), (21, 9, 2, 9), (3, 3, 0, 0), (26, 0, 0, 0), (39, 17052, 76, 45), (4, 5, 0, 0), (3, 0, 2, 0), (21, 9, 0, 18), (3, 2, 0, 0), (3, 3, 0, 0), (3, 5, 0, 0), (3, 0, 2, 0), (21, 9, 3, 15), (3, 3, 0, 0), (26, 0, 0, 0), (39, 17052, 76, 45), (3, 4, 0, 0), (13, 0, 61, 0), (0, 0, 0, 0), (58, 0, 0, 0)]),
  (61, 15, [(5, 3, 0, 1), (15, 0, 2, 0), (16, 0, 2, 0)]),
  (67, 0, [(0, 0, 0, 1), (58, 0, 0, 0)])]
def k_X10_init : List (Nat × Nat × List Ins) := [(0, 7, [(3, 0, 2, 0), (40, 0, 0, 3), (3, 0, 2, 0), (3, 1, 0, 0), (0, 1, 0, 6), (6, 2, 0, 0), (37, 0, 0, 0), (25, 10, 0, 9), (3, 0, 2, 0), (3, 2, 0, 0), (37, 0, 0, 0), (25, 10, 1, 15), (42, 0, 0, 0)])]
def k_X10_clear : List (Nat × Nat × List Ins) := [(0, 1, [(3, 0, 2, 0), (0, 0, 0, 0), (22, 10, 2, 18), (3, 0, 2, 0), (0, 0, 0, 0), (22, 10, 3, 22), (3, 0, 2, 0), (0, 0, 0, 0), (22, 10, 4, 25), (42, 0, 0, 0)])]
def k_X10_add : List (Nat × Nat × List Ins) := [(0, 7, [(3, 0, 2, 0), (18, 10, 3, 22), (3, 0, 2, 0), (21, 10, 1, 15), (28, 0, 0, 0), (13, 3, 37, 0), (3, 0, 2, 0), (21, 10, 1, 15), (3, 0, 2, 0), (18, 10, 3, 22), (3, 1, 0, 0), (0, 1, 0, 16), (3, 2, 0, 0), (6, 2, 0, 0), (6, 0, 0, 0), (27, 0, 0, 0), (3, 0, 2, 0), (11, 0, 0, 0), (18, 10, 3, 22), (0, 0, 0, 1), (6, 0, 0, 0), (22, 10, 3, 22), (16, 0, 37, 0)]),
  (37, 0, [(42, 0, 0, 0)])]
def k_X10_jumpHere : List (Nat × Nat × List Ins) := [(0, 3, [(3, 1, 0, 0), (12, 2, 35, 0), (3, 1, 0, 0), (3, 0, 2, 0), (18, 10, 3, 22), (13, 3, 35, 0), (3, 0, 2, 0), (21, 10, 1, 15), (3, 1, 0, 0), (3, 0, 2, 0), (21, 10, 1, 15), (3, 1, 0, 0), (26, 0, 0, 0), (0, 1, 0, 15), (6, 3, 0, 0), (0, 1, 0, 16), (3, 0, 2, 0), (18, 10, 3, 22), (6, 2, 0, 0), (6, 0, 0, 0), (27, 0, 0, 0), (16, 0, 35, 0)]),
  (35, 0, [(42, 0, 0, 0)])]
def k_X10_trimmed : List (Nat × Nat × List Ins) := [(0, 1, [(36, 10, 5, 10), (11, 0, 0, 0), (3, 0, 2, 0), (18, 10, 2, 18), (3, 0, 2, 0), (18, 10, 3, 22), (39, 34, 108, 28), (4, 1, 2, 0), (3, 0, 2, 0), (21, 10, 0, 9), (0, 0, 0, 0), (3, 1, 2, 0), (21, 10, 0, 9), (0, 0, 0, 0), (3, 0, 2, 0), (18, 10, 2, 18), (0, 1, 0, 6), (6, 2, 0, 0), (41, 0, 0, 31), (3, 0, 2, 0), (21, 10, 1, 15), (0, 0, 0, 0), (3, 1, 2, 0), (21, 10, 1, 15), (0, 0, 0, 0), (3, 0, 2, 0), (18, 10, 3, 22), (41, 0, 0, 31), (3, 1, 2, 0), (3, 0, 2, 0), (18, 10, 2, 18), (22, 10, 2, 18), (3, 1, 2, 0), (3, 0, 2, 0), (18, 10, 3, 22), (22, 10, 3, 22), (3, 1, 2, 0), (3, 0, 2, 0), (18, 10, 4, 25), (22, 10, 4, 25), (3, 1, 2, 0), (57, 0, 0, 0)])]
def k_X11_init : List (Nat × Nat × List Ins) := [(0, 1, [(3, 0, 2, 0), (40, 0, 0, 3), (36, 7, 15, 9), (11, 0, 0, 0), (39, 14, 64, 11), (4, 1, 2, 0), (0, 2, 0, 400), (37, 0, 0, 0), (4, 2, 2, 0), (36, 10, 5, 12), (11, 0, 0, 0), (0, 1, 0, 12), (0, 2, 0, 450), (39, 34, 108, 14), (4, 3, 2, 0), (36, 4, 4, 17), (11, 0, 0, 0), (3, 1, 2, 0), (39, 24, 22, 19), (4, 4, 2, 0), (36, 9, 4, 22), (11, 0, 0, 0), (3, 1, 2, 0), (3, 4, 2, 0), (39, 34, 94, 24), (4, 5, 2, 0), (36, 5, 15, 27), (11, 0, 0, 0), (3, 1, 2, 0), (3, 4, 2, 0), (39, 34, 34, 29), (4, 6, 2, 0), (3, 0, 2, 0), (3, 1, 2, 0), (25, 11, 0, 30), (3, 0, 2, 0), (0, 0, 0, 2), (38, 3, 0, 9), (25, 11, 1, 34), (3, 0, 2, 0), (21, 11, 1, 34), (0, 0, 0, 0), (36, 7, 15, 9), (11, 0, 0, 0), (39, 14, 64, 11), (54, 3, 17, 0), (3, 0, 2, 0), (21, 11, 1, 34), (0, 0, 0, 1), (36, 7, 15, 9), (11, 0, 0, 0), (39, 14, 64, 11), (54, 3, 17, 0), (3, 0, 2, 0), (3, 2, 2, 0), (25, 11, 3, 38), (3, 0, 2, 0), (3, 3, 2, 0), (25, 11, 6, 42), (3, 0, 2, 0), (36, 6, 9, 46), (11, 0, 0, 0), (3, 2, 2, 0), (3, 3, 2, 0), (39, 34, 42, 48), (25, 11, 5, 51), (3, 0, 2, 0), (3, 4, 2, 0), (25, 11, 7, 55), (3, 0, 2, 0), (3, 5, 2, 0), (25, 11, 8, 59), (3, 0, 2, 0), (3, 6, 2, 0), (25, 11, 9, 63), (3, 0, 2, 0), (36, 8, 9, 67), (11, 0, 0, 0), (3, 1, 2, 0), (39, 24, 77, 69), (25, 11, 10, 70), (3, 0, 2, 0), (36, 2, 6, 74), (11, 0, 0, 0), (3, 1, 2, 0), (3, 4, 2, 0), (39, 34, 12, 76), (25, 11, 11, 77), (3, 0, 2, 0), (36, 1, 10, 81), (11, 0, 0, 0), (3, 1, 2, 0), (3, 4, 2, 0), (3, 5, 2, 0), (3, 6, 2, 0), (39, 54, 5, 83), (25, 11, 12, 86), (3, 0, 2, 0), (36, 0, 8, 90), (11, 0, 0, 0), (3, 1, 2, 0), (3, 4, 2, 0), (39, 34, 0, 92), (25, 11, 13, 93), (3, 0, 2, 0), (0, 0, 0, 5), (37, 0, 0, 0), (25, 11, 18, 97), (3, 0, 2, 0), (0, 0, 0, (-1)), (22, 11, 14, 100), (3, 0, 2, 0), (0, 0, 0, (-1)), (22, 11, 16, 104), (42, 0, 0, 0)])]
def k_X11_first : List (Nat × Nat × List Ins) := [(0, 7, [(3, 1, 0, 0), (39, 10, 178, 107), (12, 0, 14, 0), (3, 2, 0, 0), (39, 10, 179, 111), (12, 1, 20, 0), (16, 0, 14, 0)]),
  (14, 1, [(3, 0, 2, 0), (0, 0, 0, (-1)), (39, 21022, 172, 114), (55, 0, 0, 0)]),
  (20, 7, [(3, 0, 2, 0), (21, 11, 0, 30), (21, 7, 10, 118), (3, 1, 0, 0), (26, 0, 0, 0), (4, 3, 0, 0), (3, 0, 2, 0), (21, 11, 0, 30), (21, 7, 10, 118), (3, 1, 0, 0), (3, 2, 0, 0), (27, 0, 0, 0), (3, 0, 2, 0), (21, 11, 0, 30), (0, 0, 0, 0), (22, 7, 8, 121), (3, 0, 2, 0), (3, 3, 0, 0), (39, 21022, 171, 124), (55, 0, 0, 0)])]
def k_X11_painter : List (Nat × Nat × List Ins) := [(0, 7, [(3, 1, 0, 0), (0, 0, 0, 1), (13, 2, 20, 0), (3, 1, 0, 0), (0, 1, 0, 9), (13, 4, 20, 0), (3, 2, 0, 0), (0, 1, 0, 100), (39, 20, 177, 127), (12, 1, 26, 0), (16, 0, 20, 0)]),
  (20, 1, [(3, 0, 2, 0), (0, 0, 0, (-1)), (39, 21022, 172, 114), (55, 0, 0, 0)]),
  (26, 7, [(3, 0, 2, 0), (21, 11, 0, 30), (18, 7, 0, 131), (0, 0, 0, 5), (13, 2, 44, 0), (3, 0, 2, 0), (0, 1, 0, (-5)), (39, 21022, 172, 114), (55, 0, 0, 0)]),
  (44, 7, [(3, 0, 2, 0), (21, 11, 0, 30), (18, 7, 0, 131), (0, 0, 0, 5), (6, 2, 0, 0), (4, 3, 0, 0), (3, 0, 2, 0), (21, 11, 0, 30), (21, 7, 1, 134), (3, 3, 0, 0), (3, 1, 0, 0), (27, 0, 0, 0), (3, 0, 2, 0), (21, 11, 0, 30), (21, 7, 1, 134), (3, 3, 0, 0), (0, 0, 0, 1), (6, 0, 0, 0), (3, 2, 0, 0), (27, 0, 0, 0), (0, 0, 0, 0), (4, 4, 0, 0), (16, 0, 79, 0)]),
  (79, 25, [(3, 4, 0, 0), (0, 0, 0, 3), (13, 3, 106, 0), (3, 0, 2, 0), (21, 11, 0, 30), (21, 7, 1, 134), (3, 3, 0, 0), (0, 0, 0, 2), (6, 0, 0, 0), (3, 4, 0, 0), (6, 0, 0, 0), (0, 0, 0, 3), (27, 0, 0, 0), (5, 4, 0, 1), (15, 0, 79, 0), (16, 0, 79, 0)]),
  (106, 1, [(3, 0, 2, 0), (21, 11, 0, 30), (11, 0, 0, 0), (18, 7, 0, 131), (0, 0, 0, 1), (6, 0, 0, 0), (22, 7, 0, 131), (3, 0, 2, 0), (3, 0, 2, 0), (21, 11, 0, 30), (18, 7, 0, 131), (0, 0, 0, 1), (6, 1, 0, 0), (39, 21022, 171, 124), (55, 0, 0, 0)])]
def k_X11_err : List (Nat × Nat × List Ins) := [(0, 15, [(3, 2, 0, 0), (0, 0, 0, 3), (39, 20, 177, 127), (12, 0, 17, 0), (3, 3, 0, 0), (0, 1, 0, 7), (39, 20, 177, 127), (12, 1, 23, 0), (16, 0, 17, 0)]),
  (17, 1, [(3, 0, 2, 0), (0, 0, 0, (-1)), (39, 21022, 172, 114), (55, 0, 0, 0)]),
  (23, 15, [(3, 0, 2, 0), (21, 11, 0, 30), (3, 1, 0, 0), (39, 17022, 66, 137), (12, 1, 41, 0), (3, 0, 2, 0), (0, 1, 0, (-2)), (39, 21022, 172, 114), (55, 0, 0, 0)]),
  (41, 15, [(3, 1, 0, 0), (0, 0, 0, 5), (6, 2, 0, 0), (0, 0, 0, 2), (6, 0, 0, 0), (3, 2, 0, 0), (6, 0, 0, 0), (4, 4, 0, 0), (3, 0, 2, 0), (21, 11, 0, 30), (21, 7, 1, 134), (3, 4, 0, 0), (26, 0, 0, 0), (4, 5, 0, 0), (3, 0, 2, 0), (21, 11, 0, 30), (21, 7, 1, 134), (3, 4, 0, 0), (3, 3, 0, 0), (27, 0, 0, 0), (3, 0, 2, 0), (3, 5, 0, 0), (39, 21022, 171, 124), (55, 0, 0, 0)])]
def k_X11_of : List (Nat × Nat × List Ins) := [(0, 7, [(3, 0, 2, 0), (21, 11, 0, 30), (3, 1, 0, 0), (39, 17022, 66, 137), (12, 0, 19, 0), (3, 2, 0, 0), (0, 0, 0, 5), (39, 20, 177, 127), (12, 1, 21, 0), (16, 0, 19, 0)]),
  (19, 0, [(0, 0, 0, (-1)), (55, 0, 0, 0)]),
  (21, 7, [(3, 0, 2, 0), (21, 11, 0, 30), (21, 7, 1, 134), (3, 1, 0, 0), (0, 0, 0, 5), (6, 2, 0, 0), (3, 2, 0, 0), (6, 0, 0, 0), (26, 0, 0, 0), (55, 0, 0, 0)])]
def k_X11_terms : List (Nat × Nat × List Ins) := [(0, 7, [(3, 1, 0, 0), (0, 0, 0, 5), (39, 20, 177, 127), (12, 0, 20, 0), (3, 2, 0, 0), (12, 2, 20, 0), (3, 2, 0, 0), (3, 1, 0, 0), (39, 10, 176, 140), (13, 5, 26, 0), (16, 0, 20, 0)]),
  (20, 1, [(3, 0, 2, 0), (0, 0, 0, (-1)), (39, 21022, 172, 114), (55, 0, 0, 0)]),
  (26, 7, [(3, 0, 2, 0), (21, 11, 0, 30), (21, 7, 4, 143), (3, 1, 0, 0), (26, 0, 0, 0), (4, 3, 0, 0), (3, 0, 2, 0), (21, 11, 0, 30), (21, 7, 4, 143), (3, 1, 0, 0), (3, 2, 0, 0), (27, 0, 0, 0), (3, 0, 2, 0), (3, 3, 0, 0), (39, 21022, 171, 124), (55, 0, 0, 0)])]
def k_X11_scar : List (Nat × Nat × List Ins) := [(0, 15, [(3, 1, 0, 0), (39, 10, 178, 107), (12, 0, 23, 0), (3, 2, 0, 0), (0, 1, 0, 100), (39, 20, 177, 127), (12, 0, 23, 0), (3, 3, 0, 0), (39, 10, 179, 111), (12, 1, 29, 0), (16, 0, 23, 0)]),
  (23, 1, [(3, 0, 2, 0), (0, 0, 0, (-1)), (39, 21022, 172, 114), (55, 0, 0, 0)]),
  (29, 15, [(3, 0, 2, 0), (21, 11, 0, 30), (18, 7, 2, 146), (0, 1, 0, 6), (13, 2, 48, 0), (3, 0, 2, 0), (0, 1, 0, (-5)), (39, 21022, 172, 114), (55, 0, 0, 0)]),
  (48, 15, [(3, 0, 2, 0), (21, 11, 0, 30), (18, 7, 2, 146), (0, 0, 0, 3), (6, 2, 0, 0), (4, 4, 0, 0), (3, 0, 2, 0), (21, 11, 0, 30), (21, 7, 3, 149), (3, 4, 0, 0), (3, 1, 0, 0), (27, 0, 0, 0), (3, 0, 2, 0), (21, 11, 0, 30), (21, 7, 3, 149), (3, 4, 0, 0), (0, 0, 0, 1), (6, 0, 0, 0), (3, 2, 0, 0), (27, 0, 0, 0), (3, 0, 2, 0), (21, 11, 0, 30), (21, 7, 3, 149), (3, 4, 0, 0), (0, 0, 0, 2), (6, 0, 0, 0), (3, 3, 0, 0), (27, 0, 0, 0), (3, 0, 2, 0), (21, 11, 0, 30), (11, 0, 0, 0), (18, 7, 2, 146), (0, 0, 0, 1), (6, 0, 0, 0), (22, 7, 2, 146), (3, 0, 2, 0), (3, 0, 2, 0), (21, 11, 0, 30), (18, 7, 2, 146), (0, 0, 0, 1), (6, 1, 0, 0), (39, 21022, 171, 124), (55, 0, 0, 0)])]
def k_X11_heal : List (Nat × Nat × List Ins) := [(0, 3, [(3, 1, 0, 0), (3, 0, 2, 0), (21, 11, 0, 30), (18, 7, 2, 146), (39, 20, 177, 127), (12, 1, 21, 0), (3, 0, 2, 0), (0, 1, 0, (-2)), (39, 21022, 172, 114), (55, 0, 0, 0)]),
  (21, 3, [(3, 1, 0, 0), (0, 0, 0, 1), (6, 0, 0, 0), (0, 0, 0, 3), (6, 2, 0, 0), (4, 2, 0, 0), (16, 0, 27, 0)]),
  (27, 5, [(3, 2, 0, 0), (3, 0, 2, 0), (21, 11, 0, 30), (18, 7, 2, 146), (0, 0, 0, 3), (6, 2, 0, 0), (13, 3, 66, 0), (3, 0, 2, 0), (21, 11, 0, 30), (21, 7, 3, 149), (3, 2, 0, 0), (0, 0, 0, 3), (6, 1, 0, 0), (3, 0, 2, 0), (21, 11, 0, 30), (21, 7, 3, 149), (3, 2, 0, 0), (26, 0, 0, 0), (27, 0, 0, 0), (5, 2, 0, 1), (15, 0, 27, 0), (16, 0, 27, 0)]),
  (66, 1, [(3, 0, 2, 0), (21, 11, 0, 30), (11, 0, 0, 0), (18, 7, 2, 146), (0, 0, 0, 1), (6, 1, 0, 0), (22, 7, 2, 146), (3, 0, 2, 0), (3, 0, 2, 0), (21, 11, 0, 30), (18, 7, 2, 146), (39, 21022, 171, 124), (55, 0, 0, 0)])]
def k_X11_feed : List (Nat × Nat × List Ins) := [(0, 63, [(3, 0, 2, 0), (18, 11, 4, 152), (0, 1, 0, 20), (6, 0, 0, 0), (0, 2, 0, 400), (13, 5, 15, 0), (0, 0, 0, (-1)), (55, 0, 0, 0)]),
  (15, 63, [(3, 0, 2, 0), (3, 1, 0, 0), (39, 21022, 173, 155), (3, 0, 2, 0), (3, 2, 0, 0), (39, 21022, 173, 155), (3, 0, 2, 0), (3, 3, 0, 0), (39, 21022, 173, 155), (3, 0, 2, 0), (3, 4, 0, 0), (39, 21022, 173, 155), (3, 0, 2, 0), (3, 5, 0, 0), (39, 21022, 173, 155), (3, 0, 2, 0), (18, 11, 4, 152), (55, 0, 0, 0)])]
def k_X11_end : List (Nat × Nat × List Ins) := [(0, 3, [(3, 1, 0, 0), (12, 2, 12, 0), (3, 1, 0, 0), (3, 0, 2, 0), (18, 11, 4, 152), (13, 5, 14, 0), (16, 0, 12, 0)]),
  (12, 0, [(0, 0, 0, (-1)), (55, 0, 0, 0)]),
  (14, 3, [(3, 0, 2, 0), (3, 1, 0, 0), (22, 11, 4, 152), (3, 1, 0, 0), (55, 0, 0, 0)])]
def k_X11_row : List (Nat × Nat × List Ins) := [(0, 1, [(3, 0, 2, 0), (18, 11, 4, 152), (12, 1, 14, 0), (3, 0, 2, 0), (0, 1, 0, (-6)), (39, 21022, 172, 114), (55, 0, 0, 0)]),
  (14, 1, [(0, 0, 0, 0), (4, 1, 0, 0), (0, 0, 0, 0), (4, 2, 0, 0), (16, 0, 18, 0)]),
  (18, 7, [(3, 2, 0, 0), (3, 0, 2, 0), (18, 11, 4, 152), (13, 3, 67, 0), (3, 2, 0, 0), (0, 1, 0, 12), (13, 3, 67, 0), (3, 0, 2, 0), (21, 11, 3, 38), (3, 2, 0, 0), (26, 0, 0, 0), (0, 1, 0, 10), (13, 3, 61, 0), (3, 0, 2, 0), (21, 11, 0, 30), (21, 7, 10, 118), (3, 2, 0, 0), (3, 0, 2, 0), (21, 11, 3, 38), (3, 2, 0, 0), (26, 0, 0, 0), (27, 0, 0, 0), (5, 1, 0, 1), (16, 0, 61, 0)]),
  (61, 7, [(5, 2, 0, 1), (15, 0, 18, 0), (16, 0, 18, 0)]),
  (67, 3, [(3, 0, 2, 0), (3, 0, 2, 0), (18, 11, 4, 152), (3, 1, 0, 0), (6, 1, 0, 0), (22, 11, 15, 159), (3, 0, 2, 0), (21, 11, 0, 30), (0, 0, 0, 0), (22, 7, 8, 121), (3, 0, 2, 0), (0, 0, 0, 0), (22, 11, 4, 152), (3, 0, 2, 0), (3, 1, 0, 0), (39, 21022, 171, 124), (55, 0, 0, 0)])]
def k_X11_flakes : List (Nat × Nat × List Ins) := [(0, 1, [(3, 0, 2, 0), (18, 11, 15, 159), (55, 0, 0, 0)])]
def k_X11_law : List (Nat × Nat × List Ins) := [(0, 1, [(3, 0, 2, 0), (18, 11, 4, 152), (4, 1, 0, 0), (3, 0, 2, 0), (0, 0, 0, 0), (22, 11, 4, 152), (3, 0, 2, 0), (21, 11, 0, 30), (18, 7, 5, 162), (0, 1, 0, 6), (13, 2, 29, 0), (3, 0, 2, 0), (0, 1, 0, (-5)), (39, 21022, 172, 114), (55, 0, 0, 0)]),
  (29, 3, [(3, 0, 2, 0), (3, 0, 2, 0), (21, 11, 5, 51), (3, 1, 0, 0), (0, 0, 0, 0), (39, 16032, 43, 165), (22, 11, 14, 100), (3, 0, 2, 0), (18, 11, 14, 100), (0, 0, 0, (-1)), (13, 0, 57, 0), (3, 0, 2, 0), (0, 1, 0, (-6)), (39, 21022, 172, 114), (55, 0, 0, 0)]),
  (57, 1, [(3, 0, 2, 0), (21, 11, 0, 30), (21, 7, 6, 169), (3, 0, 2, 0), (21, 11, 0, 30), (18, 7, 5, 162), (3, 0, 2, 0), (21, 11, 6, 42), (39, 20012, 112, 173), (54, 4, 20, 0), (3, 0, 2, 0), (21, 11, 0, 30), (11, 0, 0, 0), (18, 7, 5, 162), (0, 0, 0, 1), (6, 0, 0, 0), (22, 7, 5, 162), (3, 0, 2, 0), (3, 0, 2, 0), (21, 11, 0, 30), (18, 7, 5, 162), (0, 0, 0, 1), (6, 1, 0, 0), (39, 21022, 171, 124), (55, 0, 0, 0)])]
def k_X11_orders : List (Nat × Nat × List Ins) := [(0, 1, [(3, 0, 2, 0), (18, 11, 4, 152), (4, 1, 0, 0), (3, 0, 2, 0), (0, 0, 0, 0), (22, 11, 4, 152), (3, 0, 2, 0), (0, 0, 0, (-1)), (22, 11, 16, 104), (3, 0, 2, 0), (3, 0, 2, 0), (21, 11, 5, 51), (3, 1, 0, 0), (0, 0, 0, 1), (39, 16032, 43, 165), (22, 11, 14, 100), (3, 0, 2, 0), (18, 11, 14, 100), (0, 0, 0, (-1)), (13, 0, 43, 0), (3, 0, 2, 0), (0, 1, 0, (-6)), (39, 21022, 172, 114), (55, 0, 0, 0)]),
  (43, 1, [(3, 0, 2, 0), (21, 11, 12, 86), (3, 0, 2, 0), (21, 11, 6, 42), (39, 11022, 6, 177), (4, 2, 0, 0), (3, 2, 0, 0), (12, 0, 76, 0), (3, 0, 2, 0), (3, 0, 2, 0), (21, 11, 12, 86), (18, 1, 8, 181), (22, 11, 16, 104), (3, 0, 2, 0), (3, 2, 0, 0), (39, 21022, 172, 114), (55, 0, 0, 0)]),
  (76, 1, [(3, 0, 2, 0), (3, 0, 2, 0), (21, 11, 12, 86), (18, 1, 9, 184), (39, 21022, 171, 124), (55, 0, 0, 0)])]
def k_X11_fault : List (Nat × Nat × List Ins) := [(0, 1, [(3, 0, 2, 0), (18, 11, 14, 100), (55, 0, 0, 0)])]
def k_X11_stopped : List (Nat × Nat × List Ins) := [(0, 1, [(3, 0, 2, 0), (18, 11, 16, 104), (55, 0, 0, 0)])]
def k_X11_force : List (Nat × Nat × List Ins) := [(0, 3, [(3, 1, 0, 0), (0, 0, 0, (-1)), (13, 0, 26, 0), (3, 1, 0, 0), (3, 0, 2, 0), (21, 11, 0, 30), (18, 7, 5, 162), (39, 20, 177, 127), (12, 1, 26, 0), (3, 0, 2, 0), (0, 1, 0, (-2)), (39, 21022, 172, 114), (55, 0, 0, 0)]),
  (26, 3, [(3, 0, 2, 0), (21, 11, 0, 30), (18, 7, 7, 187), (4, 2, 0, 0), (3, 0, 2, 0), (21, 11, 0, 30), (3, 1, 0, 0), (22, 7, 7, 187), (3, 0, 2, 0), (3, 2, 0, 0), (39, 21022, 171, 124), (55, 0, 0, 0)])]
def k_X11_looks : List (Nat × Nat × List Ins) := [(0, 15, [(3, 2, 0, 0), (0, 1, 0, 100), (39, 20, 177, 127), (12, 1, 11, 0), (0, 0, 0, (-1)), (55, 0, 0, 0)]),
  (11, 15, [(3, 1, 0, 0), (0, 0, 0, (-1)), (13, 1, 25, 0), (3, 0, 2, 0), (21, 11, 0, 30), (3, 2, 0, 0), (39, 17022, 69, 190), (55, 0, 0, 0)]),
  (25, 15, [(3, 1, 0, 0), (39, 10, 178, 107), (12, 0, 40, 0), (3, 3, 0, 0), (0, 0, 0, 2), (39, 20, 177, 127), (12, 1, 42, 0), (16, 0, 40, 0)]),
  (40, 0, [(0, 0, 0, (-1)), (55, 0, 0, 0)]),
  (42, 15, [(3, 3, 0, 0), (12, 1, 58, 0), (3, 0, 2, 0), (21, 11, 7, 55), (3, 1, 0, 0), (3, 2, 0, 0), (39, 14032, 23, 193), (15, 0, 67, 0), (55, 0, 0, 0)]),
  (58, 7, [(3, 0, 2, 0), (21, 11, 7, 55), (3, 1, 0, 0), (3, 2, 0, 0), (39, 14032, 24, 197), (55, 0, 0, 0)])]
def k_X11_asks : List (Nat × Nat × List Ins) := [(0, 15, [(3, 0, 2, 0), (21, 11, 0, 30), (3, 1, 0, 0), (39, 17022, 66, 137), (12, 0, 28, 0), (3, 2, 0, 0), (0, 1, 0, 100), (39, 20, 177, 127), (12, 0, 28, 0), (3, 3, 0, 0), (0, 0, 0, 2), (39, 20, 177, 127), (12, 1, 30, 0), (16, 0, 28, 0)]),
  (28, 0, [(0, 0, 0, (-1)), (55, 0, 0, 0)]),
  (30, 15, [(3, 3, 0, 0), (12, 1, 46, 0), (3, 0, 2, 0), (21, 11, 7, 55), (3, 1, 0, 0), (3, 2, 0, 0), (39, 14032, 25, 200), (15, 0, 58, 0), (55, 0, 0, 0)]),
  (46, 7, [(3, 0, 2, 0), (21, 11, 7, 55), (3, 1, 0, 0), (3, 2, 0, 0), (39, 14032, 26, 203), (39, 10, 181, 206), (55, 0, 0, 0)])]
def k_X11_paint : List (Nat × Nat × List Ins) := [(0, 3, [(3, 0, 2, 0), (21, 11, 0, 30), (3, 1, 0, 0), (39, 17022, 66, 137), (12, 1, 18, 0), (3, 0, 2, 0), (0, 1, 0, (-2)), (39, 21022, 172, 114), (55, 0, 0, 0)]),
  (18, 3, [(3, 0, 2, 0), (21, 11, 0, 30), (18, 7, 8, 121), (0, 0, 0, 1), (6, 0, 0, 0), (4, 2, 0, 0), (3, 0, 2, 0), (21, 11, 7, 55), (3, 1, 0, 0), (3, 2, 0, 0), (39, 14032, 26, 203), (12, 1, 52, 0), (3, 0, 2, 0), (21, 11, 0, 30), (3, 1, 0, 0), (3, 2, 0, 0), (39, 17032, 70, 210), (12, 0, 59, 0), (16, 0, 52, 0)]),
  (52, 1, [(3, 0, 2, 0), (0, 1, 0, (-3)), (39, 21022, 172, 114), (55, 0, 0, 0)]),
  (59, 3, [(3, 0, 2, 0), (21, 11, 0, 30), (18, 7, 8, 121), (0, 1, 0, 16), (13, 2, 78, 0), (3, 0, 2, 0), (0, 1, 0, (-5)), (39, 21022, 172, 114), (55, 0, 0, 0)]),
  (78, 3, [(3, 0, 2, 0), (21, 11, 8, 59), (3, 1, 0, 0), (39, 19022, 95, 213), (3, 0, 2, 0), (3, 0, 2, 0), (21, 11, 8, 59), (3, 0, 2, 0), (21, 11, 0, 30), (18, 7, 8, 121), (39, 19022, 96, 216), (39, 21022, 171, 124), (55, 0, 0, 0)])]
def k_X11_scrape : List (Nat × Nat × List Ins) := [(0, 1, [(3, 0, 2, 0), (21, 11, 0, 30), (18, 7, 8, 121), (12, 1, 17, 0), (3, 0, 2, 0), (0, 1, 0, (-3)), (39, 21022, 172, 114), (55, 0, 0, 0)]),
  (17, 1, [(3, 0, 2, 0), (21, 11, 0, 30), (11, 0, 0, 0), (18, 7, 8, 121), (0, 0, 0, 1), (6, 1, 0, 0), (22, 7, 8, 121), (3, 0, 2, 0), (3, 0, 2, 0), (21, 11, 0, 30), (21, 7, 9, 219), (3, 0, 2, 0), (21, 11, 0, 30), (18, 7, 8, 121), (0, 0, 0, 1), (6, 0, 0, 0), (26, 0, 0, 0), (39, 21022, 171, 124), (55, 0, 0, 0)])]
def k_X11_tone : List (Nat × Nat × List Ins) := [(0, 7, [(3, 0, 2, 0), (21, 11, 0, 30), (3, 1, 0, 0), (39, 17022, 67, 222), (12, 0, 18, 0), (3, 2, 0, 0), (39, 10, 178, 107), (12, 1, 20, 0), (16, 0, 18, 0)]),
  (18, 0, [(0, 0, 0, (-1)), (55, 0, 0, 0)]),
  (20, 7, [(3, 0, 2, 0), (21, 11, 0, 30), (21, 7, 10, 118), (3, 1, 0, 0), (0, 1, 0, 12), (6, 2, 0, 0), (3, 2, 0, 0), (6, 0, 0, 0), (26, 0, 0, 0), (55, 0, 0, 0)])]
def k_X11_layer : List (Nat × Nat × List Ins) := [(0, 7, [(3, 0, 2, 0), (21, 11, 0, 30), (3, 1, 0, 0), (39, 17022, 67, 222), (12, 1, 13, 0), (0, 0, 0, (-1)), (55, 0, 0, 0)]),
  (13, 7, [(3, 2, 0, 0), (17, 2, 0, 30)]),
  (44, 3, [(3, 0, 2, 0), (21, 11, 8, 59), (3, 1, 0, 0), (39, 19022, 96, 216), (55, 0, 0, 0)]),
  (53, 3, [(3, 1, 0, 0), (12, 1, 61, 0), (0, 0, 0, (-1)), (15, 0, 70, 0), (55, 0, 0, 0)]),
  (61, 3, [(3, 0, 2, 0), (21, 11, 0, 30), (21, 7, 9, 219), (3, 1, 0, 0), (26, 0, 0, 0), (55, 0, 0, 0)]),
  (71, 3, [(3, 1, 0, 0), (12, 1, 79, 0), (0, 0, 0, 0), (15, 0, 96, 0), (55, 0, 0, 0)]),
  (79, 3, [(3, 0, 2, 0), (21, 11, 7, 55), (3, 0, 2, 0), (21, 11, 0, 30), (21, 7, 9, 219), (3, 1, 0, 0), (26, 0, 0, 0), (3, 1, 0, 0), (39, 14032, 25, 200), (55, 0, 0, 0)]),
  (97, 3, [(3, 0, 2, 0), (21, 11, 8, 59), (3, 1, 0, 0), (39, 19022, 97, 225), (55, 0, 0, 0)]),
  (106, 0, [(0, 0, 0, (-1)), (55, 0, 0, 0)])]
def k_X11_unlawful : List (Nat × Nat × List Ins) := [(0, 1, [(0, 0, 0, 0), (4, 1, 0, 0), (16, 0, 2, 0)]),
  (2, 3, [(3, 1, 0, 0), (3, 0, 2, 0), (21, 11, 0, 30), (18, 7, 8, 121), (13, 4, 33, 0), (3, 0, 2, 0), (21, 11, 8, 59), (3, 1, 0, 0), (39, 19022, 97, 225), (0, 0, 0, (-1)), (13, 0, 27, 0), (3, 1, 0, 0), (55, 0, 0, 0)]),
  (27, 3, [(5, 1, 0, 1), (15, 0, 2, 0), (16, 0, 2, 0)]),
  (33, 0, [(0, 0, 0, (-1)), (55, 0, 0, 0)])]
def k_X11_money : List (Nat × Nat × List Ins) := [(0, 3, [(3, 0, 2, 0), (21, 11, 0, 30), (3, 1, 0, 0), (39, 17022, 67, 222), (12, 0, 22, 0), (3, 0, 2, 0), (21, 11, 8, 59), (3, 1, 0, 0), (39, 19022, 98, 228), (15, 0, 24, 0), (55, 0, 0, 0)]),
  (22, 0, [(0, 3, 231, (-1000000)), (55, 0, 0, 0)])]
def k_X11_broke : List (Nat × Nat × List Ins) := [(0, 1, [(0, 0, 0, 0), (4, 1, 0, 0), (16, 0, 2, 0)]),
  (2, 3, [(3, 1, 0, 0), (3, 0, 2, 0), (21, 11, 0, 30), (18, 7, 8, 121), (13, 4, 32, 0), (3, 0, 2, 0), (21, 11, 8, 59), (3, 1, 0, 0), (39, 19022, 98, 228), (12, 3, 26, 0), (3, 1, 0, 0), (55, 0, 0, 0)]),
  (26, 3, [(5, 1, 0, 1), (15, 0, 2, 0), (16, 0, 2, 0)]),
  (32, 0, [(0, 0, 0, (-1)), (55, 0, 0, 0)])]
def k_X11_plan : List (Nat × Nat × List Ins) := [(0, 15, [(3, 1, 0, 0), (12, 2, 18, 0), (3, 1, 0, 0), (0, 0, 0, 2), (13, 4, 18, 0), (3, 2, 0, 0), (0, 1, 0, 6), (39, 20, 177, 127), (12, 1, 20, 0), (16, 0, 18, 0)]),
  (18, 0, [(0, 0, 0, (-1)), (55, 0, 0, 0)]),
  (20, 15, [(3, 3, 0, 0), (12, 2, 31, 0), (3, 3, 0, 0), (0, 0, 0, 3), (3, 2, 0, 0), (6, 0, 0, 0), (13, 2, 33, 0), (16, 0, 31, 0)]),
  (31, 0, [(0, 0, 0, (-1)), (55, 0, 0, 0)]),
  (33, 15, [(3, 0, 2, 0), (21, 11, 9, 63), (3, 1, 0, 0), (3, 2, 0, 0), (39, 15032, 35, 232), (3, 3, 0, 0), (0, 0, 0, 2), (13, 1, 55, 0), (3, 0, 2, 0), (21, 11, 9, 63), (18, 5, 14, 235), (55, 0, 0, 0)]),
  (55, 9, [(3, 0, 2, 0), (21, 11, 9, 63), (18, 5, 14, 235), (12, 1, 67, 0), (0, 0, 0, (-1)), (55, 0, 0, 0)]),
  (67, 9, [(3, 3, 0, 0), (12, 1, 79, 0), (3, 0, 2, 0), (21, 11, 9, 63), (18, 5, 12, 238), (55, 0, 0, 0)]),
  (79, 9, [(3, 3, 0, 0), (0, 0, 0, 1), (13, 1, 94, 0), (3, 0, 2, 0), (21, 11, 9, 63), (18, 5, 13, 241), (15, 0, 105, 0), (55, 0, 0, 0)]),
  (94, 9, [(3, 0, 2, 0), (21, 11, 9, 63), (21, 5, 11, 244), (3, 3, 0, 0), (0, 0, 0, 3), (6, 1, 0, 0), (26, 0, 0, 0), (55, 0, 0, 0)])]
def k_X11_drift : List (Nat × Nat × List Ins) := [(0, 15, [(3, 1, 0, 0), (39, 10, 178, 107), (12, 0, 24, 0), (3, 2, 0, 0), (0, 1, 0, 11), (39, 20, 177, 127), (12, 0, 24, 0), (3, 3, 0, 0), (0, 0, 0, 3), (39, 20, 177, 127), (12, 1, 26, 0), (16, 0, 24, 0)]),
  (24, 0, [(0, 0, 0, (-1)), (55, 0, 0, 0)]),
  (26, 15, [(3, 0, 2, 0), (21, 11, 8, 59), (3, 1, 0, 0), (3, 2, 0, 0), (39, 19032, 101, 247), (4, 4, 0, 0), (3, 3, 0, 0), (0, 0, 0, 2), (13, 1, 45, 0), (3, 4, 0, 0), (55, 0, 0, 0)]),
  (45, 24, [(3, 4, 0, 0), (12, 1, 52, 0), (0, 0, 0, (-1)), (55, 0, 0, 0)]),
  (52, 24, [(3, 3, 0, 0), (12, 1, 64, 0), (3, 4, 0, 0), (39, 10, 182, 250), (15, 0, 69, 0), (55, 0, 0, 0)]),
  (64, 16, [(3, 4, 0, 0), (39, 10, 183, 253), (55, 0, 0, 0)])]
def k_X11_undoing : List (Nat × Nat × List Ins) := [(0, 3, [(3, 1, 0, 0), (0, 0, 0, (-1)), (13, 3, 7, 0), (0, 0, 0, (-1)), (55, 0, 0, 0)]),
  (7, 3, [(3, 0, 2, 0), (21, 11, 8, 59), (3, 1, 0, 0), (39, 19022, 102, 256), (55, 0, 0, 0)])]
def k_X11_copy : List (Nat × Nat × List Ins) := [(0, 1, [(3, 0, 2, 0), (21, 11, 0, 30), (18, 7, 11, 259), (0, 1, 0, 6), (13, 2, 19, 0), (3, 0, 2, 0), (0, 1, 0, (-5)), (39, 21022, 172, 114), (55, 0, 0, 0)]),
  (19, 1, [(3, 0, 2, 0), (21, 11, 0, 30), (39, 17012, 72, 262), (3, 0, 2, 0), (3, 0, 2, 0), (21, 11, 0, 30), (18, 7, 11, 259), (0, 0, 0, 1), (6, 1, 0, 0), (39, 21022, 171, 124), (55, 0, 0, 0)])]
def k_X11_touch : List (Nat × Nat × List Ins) := [(0, 15, [(3, 2, 0, 0), (39, 10, 178, 107), (12, 0, 14, 0), (3, 3, 0, 0), (39, 10, 179, 111), (12, 1, 20, 0), (16, 0, 14, 0)]),
  (14, 1, [(3, 0, 2, 0), (0, 0, 0, (-1)), (39, 21022, 172, 114), (55, 0, 0, 0)]),
  (20, 15, [(3, 1, 0, 0), (3, 0, 2, 0), (21, 11, 0, 30), (18, 7, 11, 259), (39, 20, 177, 127), (12, 1, 41, 0), (3, 0, 2, 0), (0, 1, 0, (-2)), (39, 21022, 172, 114), (55, 0, 0, 0)]),
  (41, 15, [(3, 0, 2, 0), (21, 11, 0, 30), (21, 7, 12, 265), (3, 1, 0, 0), (0, 1, 0, 12), (6, 2, 0, 0), (3, 2, 0, 0), (6, 0, 0, 0), (26, 0, 0, 0), (4, 4, 0, 0), (3, 0, 2, 0), (21, 11, 0, 30), (21, 7, 12, 265), (3, 1, 0, 0), (0, 1, 0, 12), (6, 2, 0, 0), (3, 2, 0, 0), (6, 0, 0, 0), (3, 3, 0, 0), (27, 0, 0, 0), (3, 0, 2, 0), (3, 4, 0, 0), (39, 21022, 171, 124), (55, 0, 0, 0)])]
def k_X11_burn : List (Nat × Nat × List Ins) := [(0, 1, [(3, 0, 2, 0), (21, 11, 0, 30), (18, 7, 11, 259), (4, 1, 0, 0), (3, 0, 2, 0), (21, 11, 0, 30), (0, 0, 0, 0), (22, 7, 11, 259), (3, 1, 0, 0), (55, 0, 0, 0)])]
def k_X11_near : List (Nat × Nat × List Ins) := [(0, 3, [(3, 1, 0, 0), (0, 0, 0, (-1)), (13, 1, 10, 0), (3, 0, 2, 0), (39, 21012, 174, 268), (55, 0, 0, 0)]),
  (10, 3, [(3, 1, 0, 0), (3, 0, 2, 0), (21, 11, 0, 30), (18, 7, 11, 259), (39, 20, 177, 127), (12, 0, 35, 0), (3, 0, 2, 0), (21, 11, 0, 30), (3, 1, 0, 0), (39, 17022, 73, 272), (15, 0, 36, 0), (55, 0, 0, 0)]),
  (35, 0, [(0, 0, 0, (-1)), (55, 0, 0, 0)])]
def k_X11_like : List (Nat × Nat × List Ins) := [(0, 7, [(3, 0, 2, 0), (3, 1, 0, 0), (39, 21022, 175, 275), (12, 0, 16, 0), (3, 0, 2, 0), (3, 2, 0, 0), (39, 21022, 175, 275), (12, 1, 18, 0), (16, 0, 16, 0)]),
  (16, 0, [(0, 0, 0, (-1)), (55, 0, 0, 0)]),
  (18, 7, [(3, 0, 2, 0), (21, 11, 10, 70), (3, 1, 0, 0), (0, 0, 0, 1), (6, 0, 0, 0), (3, 2, 0, 0), (0, 0, 0, 1), (6, 0, 0, 0), (39, 18032, 78, 278), (55, 0, 0, 0)])]
def k_X11_tree : List (Nat × Nat × List Ins) := [(0, 3, [(3, 1, 0, 0), (12, 2, 15, 0), (3, 1, 0, 0), (3, 0, 2, 0), (21, 11, 0, 30), (18, 7, 11, 259), (13, 5, 17, 0), (16, 0, 15, 0)]),
  (15, 0, [(0, 0, 0, (-1)), (55, 0, 0, 0)]),
  (17, 3, [(3, 0, 2, 0), (21, 11, 10, 70), (39, 18012, 79, 281), (3, 1, 0, 0), (12, 1, 36, 0), (3, 0, 2, 0), (21, 11, 10, 70), (39, 18012, 80, 284), (55, 0, 0, 0)]),
  (36, 3, [(3, 0, 2, 0), (21, 11, 10, 70), (3, 1, 0, 0), (39, 18022, 82, 287), (4, 2, 0, 0), (3, 2, 0, 0), (12, 1, 54, 0), (0, 1, 0, 100), (15, 0, 57, 0), (55, 0, 0, 0)]),
  (54, 4, [(3, 2, 0, 0), (0, 0, 0, 1), (6, 1, 0, 0), (55, 0, 0, 0)])]
def k_X11_trees : List (Nat × Nat × List Ins) := [(0, 1, [(3, 0, 2, 0), (21, 11, 10, 70), (39, 18012, 79, 281), (3, 0, 2, 0), (21, 11, 10, 70), (39, 18012, 81, 290), (55, 0, 0, 0)])]
def k_X11_dated : List (Nat × Nat × List Ins) := [(0, 7, [(3, 1, 0, 0), (3, 0, 2, 0), (21, 11, 0, 30), (18, 7, 11, 259), (39, 20, 177, 127), (12, 0, 22, 0), (3, 2, 0, 0), (0, 0, 0, 4), (39, 20, 177, 127), (12, 1, 24, 0), (16, 0, 22, 0)]),
  (22, 0, [(0, 0, 0, (-1)), (55, 0, 0, 0)]),
  (24, 7, [(3, 0, 2, 0), (21, 11, 10, 70), (3, 1, 0, 0), (3, 2, 0, 0), (39, 18032, 83, 293), (55, 0, 0, 0)])]
def k_X11_know : List (Nat × Nat × List Ins) := [(0, 3, [(3, 1, 0, 0), (0, 0, 0, 2), (39, 20, 177, 127), (12, 0, 18, 0), (3, 0, 2, 0), (21, 11, 0, 30), (18, 7, 11, 259), (12, 1, 20, 0), (16, 0, 18, 0)]),
  (18, 0, [(0, 0, 0, (-1)), (55, 0, 0, 0)]),
  (20, 3, [(3, 0, 2, 0), (21, 11, 10, 70), (39, 18012, 84, 296), (3, 1, 0, 0), (12, 1, 41, 0), (3, 0, 2, 0), (21, 11, 10, 70), (18, 8, 7, 299), (15, 0, 48, 0), (55, 0, 0, 0)]),
  (41, 1, [(3, 0, 2, 0), (21, 11, 10, 70), (18, 8, 8, 302), (55, 0, 0, 0)])]
def k_X11_who : List (Nat × Nat × List Ins) := [(0, 3, [(3, 1, 0, 0), (12, 5, 26, 0), (3, 0, 2, 0), (21, 11, 0, 30), (3, 1, 0, 0), (39, 17022, 67, 222), (12, 0, 26, 0), (3, 0, 2, 0), (21, 11, 8, 59), (3, 1, 0, 0), (39, 19022, 99, 305), (15, 0, 27, 0), (55, 0, 0, 0)]),
  (26, 0, [(0, 0, 0, (-1)), (55, 0, 0, 0)])]
def k_X11_forge : List (Nat × Nat × List Ins) := [(0, 15, [(3, 2, 0, 0), (39, 10, 178, 107), (12, 0, 14, 0), (3, 3, 0, 0), (39, 10, 179, 111), (12, 1, 20, 0), (16, 0, 14, 0)]),
  (14, 1, [(3, 0, 2, 0), (0, 0, 0, (-1)), (39, 21022, 172, 114), (55, 0, 0, 0)]),
  (20, 15, [(3, 1, 0, 0), (0, 0, 0, 1), (13, 2, 36, 0), (3, 0, 2, 0), (21, 11, 0, 30), (3, 1, 0, 0), (39, 17022, 67, 222), (12, 1, 43, 0), (16, 0, 36, 0)]),
  (36, 1, [(3, 0, 2, 0), (0, 1, 0, (-2)), (39, 21022, 172, 114), (55, 0, 0, 0)]),
  (43, 15, [(3, 0, 2, 0), (21, 11, 0, 30), (21, 7, 10, 118), (3, 1, 0, 0), (0, 1, 0, 12), (6, 2, 0, 0), (3, 2, 0, 0), (6, 0, 0, 0), (26, 0, 0, 0), (4, 4, 0, 0), (3, 0, 2, 0), (21, 11, 0, 30), (21, 7, 10, 118), (3, 1, 0, 0), (0, 1, 0, 12), (6, 2, 0, 0), (3, 2, 0, 0), (6, 0, 0, 0), (3, 3, 0, 0), (27, 0, 0, 0), (3, 0, 2, 0), (3, 4, 0, 0), (39, 21022, 171, 124), (55, 0, 0, 0)])]
def k_X11_skipped : List (Nat × Nat × List Ins) := [(0, 1, [(0, 0, 0, 1), (4, 1, 0, 0), (16, 0, 2, 0)]),
  (2, 3, [(3, 1, 0, 0), (3, 0, 2, 0), (21, 11, 0, 30), (18, 7, 8, 121), (13, 4, 32, 0), (3, 0, 2, 0), (21, 11, 8, 59), (3, 1, 0, 0), (39, 19022, 99, 305), (12, 1, 26, 0), (3, 1, 0, 0), (55, 0, 0, 0)]),
  (26, 3, [(5, 1, 0, 1), (15, 0, 2, 0), (16, 0, 2, 0)]),
  (32, 0, [(0, 0, 0, (-1)), (55, 0, 0, 0)])]
def k_X11_missing : List (Nat × Nat × List Ins) := [(0, 7, [(3, 1, 0, 0), (0, 0, 0, 1), (13, 2, 26, 0), (3, 0, 2, 0), (21, 11, 0, 30), (3, 1, 0, 0), (39, 17022, 67, 222), (12, 0, 26, 0), (3, 2, 0, 0), (0, 0, 0, 1), (13, 2, 26, 0), (3, 2, 0, 0), (0, 0, 0, 2), (13, 5, 28, 0), (16, 0, 26, 0)]),
  (26, 0, [(0, 0, 0, (-1)), (55, 0, 0, 0)]),
  (28, 7, [(3, 0, 2, 0), (21, 11, 8, 59), (3, 1, 0, 0), (3, 2, 0, 0), (0, 0, 0, 1), (6, 0, 0, 0), (39, 19032, 100, 308), (55, 0, 0, 0)])]
def k_X11_was : List (Nat × Nat × List Ins) := [(0, 3, [(3, 1, 0, 0), (39, 10, 178, 107), (12, 0, 18, 0), (3, 0, 2, 0), (21, 11, 8, 59), (3, 1, 0, 0), (39, 19022, 103, 311), (15, 0, 19, 0), (55, 0, 0, 0)]),
  (18, 0, [(0, 0, 0, (-1)), (55, 0, 0, 0)])]
def k_X11_ways : List (Nat × Nat × List Ins) := [(0, 1, [(1, 0, 0, 1), (4, 1, 1, 0), (0, 0, 0, 0), (4, 3, 0, 0), (16, 0, 4, 0)]),
  (4, 11, [(3, 3, 0, 0), (0, 1, 0, 12), (13, 3, 31, 0), (3, 1, 1, 0), (3, 0, 2, 0), (21, 11, 8, 59), (3, 3, 0, 0), (39, 19022, 103, 311), (39, 10, 341, 314), (10, 0, 0, 0), (8, 2, 0, 0), (4, 1, 1, 0), (5, 3, 0, 1), (15, 0, 4, 0), (16, 0, 4, 0)]),
  (31, 2, [(3, 1, 1, 0), (56, 0, 0, 0)])]
def k_X11_claimant : List (Nat × Nat × List Ins) := [(0, 31, [(3, 1, 0, 0), (0, 0, 0, (-1)), (13, 2, 22, 0), (3, 2, 0, 0), (0, 1, 0, 100), (39, 20, 177, 127), (12, 0, 22, 0), (3, 4, 0, 0), (39, 10, 180, 319), (12, 1, 28, 0), (16, 0, 22, 0)]),
  (22, 1, [(3, 0, 2, 0), (0, 0, 0, (-1)), (39, 21022, 172, 114), (55, 0, 0, 0)]),
  (28, 31, [(3, 3, 0, 0), (3, 2, 0, 0), (13, 5, 40, 0), (3, 3, 0, 0), (0, 2, 0, 150), (13, 5, 46, 0), (16, 0, 40, 0)]),
  (40, 1, [(3, 0, 2, 0), (0, 0, 0, (-1)), (39, 21022, 172, 114), (55, 0, 0, 0)]),
  (46, 31, [(3, 1, 0, 0), (3, 0, 2, 0), (21, 11, 0, 30), (18, 7, 13, 322), (13, 2, 64, 0), (3, 0, 2, 0), (0, 1, 0, (-2)), (39, 21022, 172, 114), (55, 0, 0, 0)]),
  (64, 31, [(3, 0, 2, 0), (21, 11, 0, 30), (18, 7, 13, 322), (0, 1, 0, 8), (13, 2, 83, 0), (3, 0, 2, 0), (0, 1, 0, (-5)), (39, 21022, 172, 114), (55, 0, 0, 0)]),
  (83, 31, [(3, 0, 2, 0), (21, 11, 0, 30), (18, 7, 13, 322), (0, 0, 0, 4), (6, 2, 0, 0), (4, 5, 0, 0), (3, 0, 2, 0), (21, 11, 0, 30), (21, 7, 14, 325), (3, 5, 0, 0), (3, 1, 0, 0), (27, 0, 0, 0), (3, 0, 2, 0), (21, 11, 0, 30), (21, 7, 14, 325), (3, 5, 0, 0), (0, 0, 0, 1), (6, 0, 0, 0), (3, 2, 0, 0), (27, 0, 0, 0), (3, 0, 2, 0), (21, 11, 0, 30), (21, 7, 14, 325), (3, 5, 0, 0), (0, 0, 0, 2), (6, 0, 0, 0), (3, 3, 0, 0), (27, 0, 0, 0), (3, 0, 2, 0), (21, 11, 0, 30), (21, 7, 14, 325), (3, 5, 0, 0), (0, 0, 0, 3), (6, 0, 0, 0), (3, 4, 0, 0), (27, 0, 0, 0), (3, 0, 2, 0), (21, 11, 0, 30), (11, 0, 0, 0), (18, 7, 13, 322), (0, 0, 0, 1), (6, 0, 0, 0), (22, 7, 13, 322), (3, 0, 2, 0), (3, 0, 2, 0), (21, 11, 0, 30), (18, 7, 13, 322), (0, 0, 0, 1), (6, 1, 0, 0), (39, 21022, 171, 124), (55, 0, 0, 0)])]
def k_X11_claim : List (Nat × Nat × List Ins) := [(0, 15, [(3, 2, 0, 0), (0, 0, 0, 2), (39, 20, 177, 127), (12, 1, 14, 0), (3, 0, 2, 0), (0, 0, 0, (-1)), (39, 21022, 172, 114), (55, 0, 0, 0)]),
  (14, 15, [(3, 2, 0, 0), (12, 1, 31, 0), (3, 3, 0, 0), (0, 2, 0, 151), (39, 20, 177, 127), (12, 1, 44, 0), (15, 0, 38, 0), (3, 0, 2, 0), (0, 0, 0, (-1)), (39, 21022, 172, 114), (55, 0, 0, 0)]),
  (31, 15, [(3, 3, 0, 0), (39, 10, 180, 319), (12, 1, 44, 0), (3, 0, 2, 0), (0, 0, 0, (-1)), (39, 21022, 172, 114), (55, 0, 0, 0)]),
  (44, 15, [(3, 0, 2, 0), (21, 11, 0, 30), (3, 1, 0, 0), (39, 17022, 68, 328), (12, 1, 62, 0), (3, 0, 2, 0), (0, 1, 0, (-2)), (39, 21022, 172, 114), (55, 0, 0, 0)]),
  (62, 15, [(3, 1, 0, 0), (0, 0, 0, 4), (6, 2, 0, 0), (4, 4, 0, 0), (3, 2, 0, 0), (12, 1, 93, 0), (3, 3, 0, 0), (3, 0, 2, 0), (21, 11, 0, 30), (21, 7, 14, 325), (3, 4, 0, 0), (0, 0, 0, 1), (6, 0, 0, 0), (26, 0, 0, 0), (13, 4, 93, 0), (3, 0, 2, 0), (0, 0, 0, (-1)), (39, 21022, 172, 114), (55, 0, 0, 0)]),
  (93, 29, [(3, 0, 2, 0), (21, 11, 0, 30), (21, 7, 14, 325), (3, 4, 0, 0), (0, 0, 0, 2), (6, 0, 0, 0), (3, 2, 0, 0), (6, 0, 0, 0), (26, 0, 0, 0), (4, 5, 0, 0), (3, 0, 2, 0), (21, 11, 0, 30), (21, 7, 14, 325), (3, 4, 0, 0), (0, 0, 0, 2), (6, 0, 0, 0), (3, 2, 0, 0), (6, 0, 0, 0), (3, 3, 0, 0), (27, 0, 0, 0), (3, 0, 2, 0), (3, 5, 0, 0), (39, 21022, 171, 124), (55, 0, 0, 0)])]
def k_X11_born : List (Nat × Nat × List Ins) := [(0, 7, [(3, 0, 2, 0), (21, 11, 0, 30), (3, 1, 0, 0), (39, 17022, 68, 328), (12, 0, 19, 0), (3, 2, 0, 0), (0, 0, 0, 4), (39, 20, 177, 127), (12, 1, 21, 0), (16, 0, 19, 0)]),
  (19, 0, [(0, 0, 0, (-1)), (55, 0, 0, 0)]),
  (21, 7, [(3, 0, 2, 0), (21, 11, 0, 30), (21, 7, 14, 325), (3, 1, 0, 0), (0, 0, 0, 4), (6, 2, 0, 0), (3, 2, 0, 0), (6, 0, 0, 0), (26, 0, 0, 0), (55, 0, 0, 0)])]
def k_X11_stands : List (Nat × Nat × List Ins) := [(0, 15, [(3, 0, 2, 0), (21, 11, 0, 30), (3, 1, 0, 0), (39, 17022, 68, 328), (12, 0, 20, 0), (3, 2, 0, 0), (0, 1, 0, 100), (39, 20, 177, 127), (12, 1, 22, 0), (16, 0, 20, 0)]),
  (20, 0, [(0, 0, 0, (-1)), (55, 0, 0, 0)]),
  (22, 15, [(3, 3, 0, 0), (17, 3, 0, 29)]),
  (52, 7, [(3, 0, 2, 0), (21, 11, 0, 30), (3, 1, 0, 0), (3, 2, 0, 0), (39, 17032, 74, 331), (39, 10, 181, 206), (55, 0, 0, 0)]),
  (65, 7, [(3, 0, 2, 0), (21, 11, 7, 55), (3, 1, 0, 0), (3, 2, 0, 0), (39, 14032, 27, 334), (55, 0, 0, 0)]),
  (75, 7, [(3, 0, 2, 0), (21, 11, 7, 55), (3, 1, 0, 0), (3, 2, 0, 0), (39, 14032, 28, 337), (39, 10, 181, 206), (55, 0, 0, 0)]),
  (88, 7, [(3, 0, 2, 0), (21, 11, 0, 30), (3, 1, 0, 0), (3, 2, 0, 0), (39, 17032, 75, 340), (55, 0, 0, 0)]),
  (98, 0, [(0, 0, 0, (-1)), (55, 0, 0, 0)])]
def k_X11_ruler : List (Nat × Nat × List Ins) := [(0, 3, [(3, 1, 0, 0), (0, 1, 0, 100), (39, 20, 177, 127), (12, 1, 11, 0), (0, 0, 0, (-1)), (55, 0, 0, 0)]),
  (11, 3, [(3, 0, 2, 0), (21, 11, 11, 77), (3, 1, 0, 0), (39, 12022, 13, 343), (3, 0, 2, 0), (21, 11, 11, 77), (21, 2, 3, 346), (3, 1, 0, 0), (26, 0, 0, 0), (55, 0, 0, 0)])]
def k_X11_reign : List (Nat × Nat × List Ins) := [(0, 7, [(3, 1, 0, 0), (0, 0, 0, (-1)), (13, 2, 18, 0), (3, 1, 0, 0), (0, 0, 0, (-1)), (13, 0, 20, 0), (3, 2, 0, 0), (0, 0, 0, 3), (39, 20, 177, 127), (12, 1, 20, 0), (16, 0, 18, 0)]),
  (18, 0, [(0, 0, 0, (-1)), (55, 0, 0, 0)]),
  (20, 7, [(3, 0, 2, 0), (21, 11, 11, 77), (0, 1, 0, 99), (39, 12022, 13, 343), (3, 1, 0, 0), (0, 0, 0, (-1)), (13, 1, 44, 0), (3, 0, 2, 0), (21, 11, 11, 77), (39, 12012, 14, 349), (15, 0, 53, 0), (55, 0, 0, 0)]),
  (44, 7, [(3, 0, 2, 0), (21, 11, 11, 77), (3, 1, 0, 0), (3, 2, 0, 0), (39, 12032, 15, 352), (55, 0, 0, 0)])]
def k_X11_vacant : List (Nat × Nat × List Ins) := [(0, 1, [(3, 0, 2, 0), (21, 11, 11, 77), (0, 1, 0, 99), (39, 12022, 13, 343), (0, 0, 0, 0), (4, 1, 0, 0), (0, 0, 0, 0), (4, 2, 0, 0), (16, 0, 13, 0)]),
  (13, 7, [(3, 2, 0, 0), (0, 1, 0, 100), (13, 3, 41, 0), (3, 0, 2, 0), (21, 11, 11, 77), (21, 2, 3, 346), (3, 2, 0, 0), (26, 0, 0, 0), (0, 0, 0, (-1)), (13, 1, 35, 0), (5, 1, 0, 1), (16, 0, 35, 0)]),
  (35, 7, [(5, 2, 0, 1), (15, 0, 13, 0), (16, 0, 13, 0)]),
  (41, 2, [(3, 1, 0, 0), (55, 0, 0, 0)])]
def k_X11_line : List (Nat × Nat × List Ins) := [(0, 7, [(3, 1, 0, 0), (0, 1, 0, 100), (39, 20, 177, 127), (12, 0, 14, 0), (3, 2, 0, 0), (0, 0, 0, (-1)), (13, 3, 16, 0), (16, 0, 14, 0)]),
  (14, 0, [(0, 0, 0, (-1)), (55, 0, 0, 0)]),
  (16, 7, [(3, 0, 2, 0), (21, 11, 11, 77), (3, 1, 0, 0), (39, 12022, 16, 355), (3, 2, 0, 0), (0, 0, 0, (-1)), (13, 1, 37, 0), (3, 0, 2, 0), (21, 11, 11, 77), (18, 2, 5, 358), (55, 0, 0, 0)]),
  (37, 5, [(3, 2, 0, 0), (3, 0, 2, 0), (21, 11, 11, 77), (18, 2, 5, 358), (13, 3, 60, 0), (3, 0, 2, 0), (21, 11, 11, 77), (21, 2, 4, 361), (3, 2, 0, 0), (26, 0, 0, 0), (15, 0, 61, 0), (55, 0, 0, 0)]),
  (60, 0, [(0, 0, 0, (-1)), (55, 0, 0, 0)])]
def k_X11_century : List (Nat × Nat × List Ins) := [(0, 7, [(3, 1, 0, 0), (12, 2, 34, 0), (3, 1, 0, 0), (0, 4, 364, 1000000), (13, 4, 34, 0), (3, 2, 0, 0), (0, 1, 0, 41), (39, 20, 177, 127), (12, 0, 34, 0), (3, 0, 2, 0), (21, 11, 0, 30), (18, 7, 8, 121), (3, 2, 0, 0), (6, 0, 0, 0), (0, 1, 0, 100), (13, 2, 40, 0), (16, 0, 34, 0)]),
  (34, 1, [(3, 0, 2, 0), (0, 0, 0, (-1)), (39, 21022, 172, 114), (55, 0, 0, 0)]),
  (40, 7, [(3, 0, 2, 0), (21, 11, 13, 93), (3, 1, 0, 0), (3, 2, 0, 0), (39, 10032, 1, 365), (3, 0, 2, 0), (3, 0, 2, 0), (21, 11, 13, 93), (18, 0, 6, 368), (39, 21022, 171, 124), (55, 0, 0, 0)])]
def k_X11_drawn : List (Nat × Nat × List Ins) := [(0, 3, [(3, 0, 2, 0), (21, 11, 13, 93), (20, 0, 7, 371), (12, 1, 12, 0), (0, 0, 0, (-1)), (55, 0, 0, 0)]),
  (12, 3, [(3, 1, 0, 0), (39, 10, 178, 107), (12, 0, 29, 0), (3, 0, 2, 0), (21, 11, 13, 93), (21, 0, 5, 375), (3, 1, 0, 0), (26, 0, 0, 0), (55, 0, 0, 0)]),
  (29, 3, [(3, 1, 0, 0), (0, 1, 0, 100), (13, 2, 49, 0), (3, 0, 2, 0), (21, 11, 13, 93), (3, 1, 0, 0), (0, 1, 0, 100), (6, 1, 0, 0), (39, 10022, 2, 378), (15, 0, 50, 0), (55, 0, 0, 0)]),
  (49, 0, [(0, 0, 0, (-1)), (55, 0, 0, 0)])]
def k_X11_image : List (Nat × Nat × List Ins) := [(0, 3, [(3, 1, 0, 0), (0, 0, 0, 2), (39, 20, 177, 127), (12, 1, 14, 0), (3, 0, 2, 0), (0, 0, 0, (-1)), (39, 21022, 172, 114), (55, 0, 0, 0)]),
  (14, 3, [(3, 0, 2, 0), (21, 11, 1, 34), (3, 1, 0, 0), (26, 3, 0, 0), (3, 0, 2, 0), (21, 11, 0, 30), (39, 17022, 65, 381), (3, 0, 2, 0), (11, 0, 0, 0), (18, 11, 2, 384), (0, 0, 0, 1), (3, 1, 0, 0), (6, 6, 0, 0), (6, 4, 0, 0), (22, 11, 2, 384), (3, 0, 2, 0), (0, 0, 0, 0), (39, 21022, 171, 124), (55, 0, 0, 0)])]
def k_X11_back : List (Nat × Nat × List Ins) := [(0, 3, [(3, 1, 0, 0), (0, 0, 0, 2), (39, 20, 177, 127), (12, 1, 14, 0), (3, 0, 2, 0), (0, 0, 0, (-1)), (39, 21022, 172, 114), (55, 0, 0, 0)]),
  (14, 3, [(3, 0, 2, 0), (18, 11, 2, 384), (3, 1, 0, 0), (6, 7, 0, 0), (0, 0, 0, 1), (6, 3, 0, 0), (12, 1, 32, 0), (3, 0, 2, 0), (0, 1, 0, (-2)), (39, 21022, 172, 114), (55, 0, 0, 0)]),
  (32, 3, [(3, 0, 2, 0), (21, 11, 0, 30), (3, 0, 2, 0), (21, 11, 1, 34), (3, 1, 0, 0), (26, 3, 0, 0), (39, 17022, 65, 381), (3, 0, 2, 0), (0, 0, 0, 0), (39, 21022, 171, 124), (55, 0, 0, 0)])]
def k_X11_count : List (Nat × Nat × List Ins) := [(0, 3, [(3, 1, 0, 0), (0, 1, 0, 7), (13, 2, 22, 0), (3, 1, 0, 0), (0, 1, 0, 11), (13, 4, 22, 0), (3, 0, 2, 0), (21, 11, 18, 97), (3, 1, 0, 0), (0, 1, 0, 7), (6, 1, 0, 0), (26, 0, 0, 0), (55, 0, 0, 0)]),
  (22, 3, [(3, 1, 0, 0), (0, 1, 0, 13), (13, 2, 47, 0), (3, 1, 0, 0), (0, 1, 0, 17), (13, 4, 47, 0), (3, 0, 2, 0), (21, 11, 0, 30), (21, 7, 4, 143), (3, 1, 0, 0), (0, 1, 0, 13), (6, 1, 0, 0), (26, 0, 0, 0), (55, 0, 0, 0)]),
  (47, 3, [(3, 1, 0, 0), (17, 4, 0, 68)]),
  (116, 1, [(3, 0, 2, 0), (21, 11, 0, 30), (18, 7, 0, 131), (55, 0, 0, 0)]),
  (124, 1, [(3, 0, 2, 0), (21, 11, 0, 30), (18, 7, 5, 162), (55, 0, 0, 0)]),
  (132, 1, [(3, 0, 2, 0), (21, 11, 0, 30), (18, 7, 2, 146), (55, 0, 0, 0)]),
  (140, 1, [(3, 0, 2, 0), (21, 11, 0, 30), (18, 7, 8, 121), (55, 0, 0, 0)]),
  (148, 1, [(3, 0, 2, 0), (21, 11, 0, 30), (18, 7, 11, 259), (55, 0, 0, 0)]),
  (156, 1, [(3, 0, 2, 0), (21, 11, 0, 30), (18, 7, 13, 322), (55, 0, 0, 0)]),
  (164, 1, [(3, 0, 2, 0), (18, 11, 4, 152), (55, 0, 0, 0)]),
  (169, 1, [(3, 0, 2, 0), (21, 11, 0, 30), (18, 7, 7, 187), (55, 0, 0, 0)]),
  (177, 0, [(0, 0, 0, (-1)), (55, 0, 0, 0)])]
def k_X11_status : List (Nat × Nat × List Ins) := [(0, 1, [(3, 0, 2, 0), (18, 11, 17, 387), (55, 0, 0, 0)])]
def k_X11_answer : List (Nat × Nat × List Ins) := [(0, 3, [(3, 0, 2, 0), (0, 0, 0, 0), (22, 11, 17, 387), (3, 1, 0, 0), (55, 0, 0, 0)])]
def k_X11_refuse : List (Nat × Nat × List Ins) := [(0, 3, [(3, 0, 2, 0), (3, 1, 0, 0), (22, 11, 17, 387), (3, 1, 0, 0), (0, 1, 0, (-3)), (13, 2, 18, 0), (3, 1, 0, 0), (7, 0, 0, 0), (0, 0, 0, 1), (6, 1, 0, 0), (15, 0, 22, 0), (16, 0, 22, 0)]),
  (18, 3, [(3, 1, 0, 0), (7, 0, 0, 0), (0, 0, 0, 2), (6, 1, 0, 0), (16, 0, 22, 0)]),
  (22, 3, [(4, 2, 0, 0), (3, 2, 0, 0), (3, 0, 2, 0), (21, 11, 18, 97), (28, 0, 0, 0), (39, 20, 177, 127), (12, 0, 45, 0), (3, 0, 2, 0), (21, 11, 18, 97), (3, 2, 0, 0), (50, 0, 0, 0), (26, 0, 0, 0), (0, 0, 0, 1), (6, 0, 0, 0), (27, 0, 0, 0), (16, 0, 45, 0)]),
  (45, 2, [(3, 1, 0, 0), (55, 0, 0, 0)])]
def k_X11_putBytes : List (Nat × Nat × List Ins) := [(0, 3, [(0, 1, 0, 24), (4, 2, 0, 0), (16, 0, 3, 0)]),
  (3, 7, [(3, 2, 0, 0), (12, 2, 49, 0), (3, 0, 2, 0), (18, 11, 4, 152), (0, 2, 0, 400), (13, 3, 49, 0), (3, 0, 2, 0), (21, 11, 3, 38), (3, 0, 2, 0), (18, 11, 4, 152), (3, 1, 0, 0), (3, 2, 0, 0), (6, 7, 0, 0), (0, 2, 0, 255), (6, 3, 0, 0), (27, 0, 0, 0), (3, 0, 2, 0), (11, 0, 0, 0), (18, 11, 4, 152), (0, 0, 0, 1), (6, 0, 0, 0), (22, 11, 4, 152), (5, 2, 0, (-8)), (15, 0, 3, 0), (16, 0, 3, 0)]),
  (49, 0, [(42, 0, 0, 0)])]
def k_X11_heirs : List (Nat × Nat × List Ins) := [(0, 1, [(0, 1, 0, 13), (4, 1, 0, 0), (0, 0, 0, 0), (4, 2, 0, 0), (0, 0, 0, 0), (4, 3, 0, 0), (16, 0, 7, 0)]),
  (7, 15, [(3, 3, 0, 0), (3, 0, 2, 0), (21, 11, 0, 30), (18, 7, 11, 259), (13, 3, 57, 0), (3, 0, 2, 0), (21, 11, 0, 30), (3, 3, 0, 0), (39, 17022, 73, 272), (4, 4, 0, 0), (3, 4, 0, 0), (3, 1, 0, 0), (13, 3, 39, 0), (3, 4, 0, 0), (4, 1, 0, 0), (0, 0, 0, 0), (4, 2, 0, 0), (16, 0, 39, 0)]),
  (39, 31, [(3, 4, 0, 0), (3, 1, 0, 0), (13, 1, 51, 0), (3, 2, 0, 0), (0, 0, 0, 1), (3, 3, 0, 0), (6, 6, 0, 0), (6, 4, 0, 0), (4, 2, 0, 0), (16, 0, 51, 0)]),
  (51, 15, [(5, 3, 0, 1), (15, 0, 7, 0), (16, 0, 7, 0)]),
  (57, 4, [(3, 2, 0, 0), (55, 0, 0, 0)])]
def k_X11_isRootOrCopy : List (Nat × Nat × List Ins) := [(0, 3, [(3, 1, 0, 0), (0, 0, 0, (-1)), (13, 0, 19, 0), (3, 1, 0, 0), (3, 0, 2, 0), (21, 11, 0, 30), (18, 7, 11, 259), (39, 20, 177, 127), (12, 0, 23, 0), (16, 0, 19, 0)]),
  (19, 0, [(0, 0, 0, 1), (15, 0, 24, 0), (58, 0, 0, 0)]),
  (23, 0, [(0, 0, 0, 0), (58, 0, 0, 0)])]
def k_X11_highestTerm : List (Nat × Nat × List Ins) := [(0, 1, [(3, 0, 0, 0), (17, 5, 0, 31)]),
  (32, 0, [(0, 1, 0, 99), (55, 0, 0, 0)]),
  (35, 0, [(0, 0, 0, 5), (55, 0, 0, 0)]),
  (37, 0, [(0, 1, 0, 9), (55, 0, 0, 0)]),
  (40, 0, [(0, 2, 0, 999), (55, 0, 0, 0)]),
  (44, 0, [(0, 0, 0, 3), (55, 0, 0, 0)])]
def k_X11_inside : List (Nat × Nat × List Ins) := [(0, 3, [(3, 0, 0, 0), (12, 2, 13, 0), (3, 0, 0, 0), (3, 1, 0, 0), (13, 3, 13, 0), (0, 0, 0, 1), (15, 0, 14, 0), (58, 0, 0, 0)]),
  (13, 0, [(0, 0, 0, 0), (58, 0, 0, 0)])]
def k_X11_isCell : List (Nat × Nat × List Ins) := [(0, 1, [(3, 0, 0, 0), (12, 2, 14, 0), (3, 0, 0, 0), (0, 1, 0, 12), (13, 3, 14, 0), (0, 0, 0, 1), (15, 0, 15, 0), (58, 0, 0, 0)]),
  (14, 0, [(0, 0, 0, 0), (58, 0, 0, 0)])]
def k_X11_isTone : List (Nat × Nat × List Ins) := [(0, 1, [(3, 0, 0, 0), (12, 2, 14, 0), (3, 0, 0, 0), (0, 1, 0, 10), (13, 3, 14, 0), (0, 0, 0, 1), (15, 0, 15, 0), (58, 0, 0, 0)]),
  (14, 0, [(0, 0, 0, 0), (58, 0, 0, 0)])]
def k_X11_canBeCopy : List (Nat × Nat × List Ins) := [(0, 1, [(3, 0, 0, 0), (0, 0, 0, (-1)), (13, 2, 15, 0), (3, 0, 0, 0), (0, 1, 0, 6), (13, 3, 15, 0), (0, 0, 0, 1), (15, 0, 16, 0), (58, 0, 0, 0)]),
  (15, 0, [(0, 0, 0, 0), (58, 0, 0, 0)])]
def k_X11_bit : List (Nat × Nat × List Ins) := [(0, 1, [(3, 0, 0, 0), (12, 0, 8, 0), (0, 0, 0, 1), (15, 0, 9, 0), (55, 0, 0, 0)]),
  (8, 0, [(0, 0, 0, 0), (55, 0, 0, 0)])]
def k_X11_lowestIn : List (Nat × Nat × List Ins) := [(0, 1, [(0, 0, 0, 0), (4, 1, 0, 0), (16, 0, 2, 0)]),
  (2, 3, [(3, 1, 0, 0), (0, 1, 0, 31), (13, 3, 25, 0), (3, 0, 0, 0), (3, 1, 0, 0), (6, 7, 0, 0), (0, 0, 0, 1), (6, 3, 0, 0), (0, 0, 0, 1), (13, 1, 19, 0), (3, 1, 0, 0), (55, 0, 0, 0)]),
  (19, 3, [(5, 1, 0, 1), (15, 0, 2, 0), (16, 0, 2, 0)]),
  (25, 0, [(0, 0, 0, (-1)), (55, 0, 0, 0)])]
def k_X11_highestIn : List (Nat × Nat × List Ins) := [(0, 1, [(0, 1, 0, 30), (4, 1, 0, 0), (16, 0, 3, 0)]),
  (3, 3, [(3, 1, 0, 0), (12, 2, 24, 0), (3, 0, 0, 0), (3, 1, 0, 0), (6, 7, 0, 0), (0, 0, 0, 1), (6, 3, 0, 0), (0, 0, 0, 1), (13, 1, 18, 0), (3, 1, 0, 0), (55, 0, 0, 0)]),
  (18, 3, [(5, 1, 0, (-1)), (15, 0, 3, 0), (16, 0, 3, 0)]),
  (24, 0, [(0, 0, 0, (-1)), (55, 0, 0, 0)])]
def k_X11_nearest : List (Nat × Nat × List Ins) := [(0, 7, [(3, 0, 0, 0), (3, 1, 0, 0), (13, 3, 9, 0), (3, 1, 0, 0), (15, 0, 19, 0), (55, 0, 0, 0)]),
  (9, 5, [(3, 0, 0, 0), (3, 2, 0, 0), (13, 5, 18, 0), (3, 2, 0, 0), (15, 0, 19, 0), (55, 0, 0, 0)]),
  (18, 1, [(3, 0, 0, 0), (55, 0, 0, 0)])]
def k_X12_init : List (Nat × Nat × List Ins) := [(0, 1, [(3, 0, 2, 0), (40, 0, 0, 1), (3, 0, 2, 0), (0, 1, 0, 7), (37, 0, 0, 0), (25, 12, 2, 7), (3, 0, 2, 0), (0, 2, 0, 5780), (37, 0, 0, 0), (25, 12, 3, 13), (3, 0, 2, 0), (0, 2, 0, 11560), (37, 0, 0, 0), (25, 12, 4, 16), (3, 0, 2, 0), (0, 2, 0, 5780), (37, 0, 0, 0), (25, 12, 5, 19), (3, 0, 2, 0), (0, 0, 0, 2), (37, 2, 0, 0), (25, 12, 6, 22), (3, 0, 2, 0), (0, 2, 0, 400), (37, 0, 0, 0), (25, 12, 8, 26), (3, 0, 2, 0), (0, 0, 0, (-1)), (22, 12, 14, 29), (3, 0, 2, 0), (0, 1, 0, 96), (37, 0, 0, 0), (25, 12, 18, 33), (3, 0, 2, 0), (0, 2, 0, 400), (37, 0, 0, 0), (25, 12, 20, 36), (3, 0, 2, 0), (0, 2, 0, 400), (37, 0, 0, 0), (25, 12, 21, 39), (3, 0, 2, 0), (0, 2, 0, 400), (37, 0, 0, 0), (25, 12, 23, 42), (3, 0, 2, 0), (0, 2, 0, 400), (37, 0, 0, 0), (25, 12, 24, 45), (3, 0, 2, 0), (0, 1, 0, 10), (37, 1, 0, 0), (11, 0, 0, 0), (0, 0, 0, 0), (1, 1, 48, 103820), (52, 0, 0, 0), (11, 0, 0, 0), (0, 0, 0, 1), (1, 1, 50, 1253), (52, 0, 0, 0), (11, 0, 0, 0), (0, 0, 0, 2), (1, 1, 52, 824370), (52, 0, 0, 0), (11, 0, 0, 0), (0, 0, 0, 3), (1, 1, 54, 17223340210), (52, 0, 0, 0), (11, 0, 0, 0), (0, 0, 0, 4), (1, 1, 56, 17376357), (52, 0, 0, 0), (11, 0, 0, 0), (0, 0, 0, 5), (1, 1, 58, 441828), (52, 0, 0, 0), (11, 0, 0, 0), (0, 1, 0, 6), (1, 1, 60, 116007536084), (52, 0, 0, 0), (11, 0, 0, 0), (0, 1, 0, 7), (1, 1, 62, 81486), (52, 0, 0, 0), (11, 0, 0, 0), (0, 1, 0, 8), (1, 1, 64, 463922), (52, 0, 0, 0), (11, 0, 0, 0), (0, 1, 0, 9), (1, 1, 66, 111983872174), (52, 0, 0, 0), (25, 12, 27, 68), (3, 0, 2, 0), (0, 1, 0, 7), (37, 1, 0, 0), (11, 0, 0, 0), (0, 0, 0, 0), (1, 1, 72, 26379859), (52, 0, 0, 0), (11, 0, 0, 0), (0, 0, 0, 1), (1, 1, 74, 719725925), (52, 0, 0, 0), (11, 0, 0, 0), (0, 0, 0, 2), (1, 1, 76, 14137529), (52, 0, 0, 0), (11, 0, 0, 0), (0, 0, 0, 3), (1, 1, 78, 116925619), (52, 0, 0, 0), (11, 0, 0, 0), (0, 0, 0, 4), (1, 1, 50, 1253), (52, 0, 0, 0), (11, 0, 0, 0), (0, 0, 0, 5), (1, 1, 80, 146885), (52, 0, 0, 0), (11, 0, 0, 0), (0, 1, 0, 6), (1, 1, 82, 671173), (52, 0, 0, 0), (25, 12, 28, 84), (3, 0, 2, 0), (0, 0, 0, 5), (37, 1, 0, 0), (11, 0, 0, 0), (0, 0, 0, 0), (1, 1, 87, 13090163), (52, 0, 0, 0), (11, 0, 0, 0), (0, 0, 0, 1), (1, 1, 89, 398995), (52, 0, 0, 0), (11, 0, 0, 0), (0, 0, 0, 2), (1, 1, 91, 52595), (52, 0, 0, 0), (11, 0, 0, 0), (0, 0, 0, 3), (1, 1, 93, 18921843), (52, 0, 0, 0), (11, 0, 0, 0), (0, 0, 0, 4), (1, 1, 95, 67155), (52, 0, 0, 0), (25, 12, 29, 97), (3, 0, 2, 0), (0, 1, 0, 13), (37, 1, 0, 0), (25, 12, 31, 100), (3, 0, 2, 0), (0, 1, 0, 13), (37, 1, 0, 0), (25, 12, 32, 103), (3, 0, 2, 0), (0, 2, 0, 400), (37, 1, 0, 0), (25, 12, 33, 106), (3, 0, 2, 0), (0, 2, 0, 1200), (37, 0, 0, 0), (25, 12, 37, 109), (3, 0, 2, 0), (0, 2, 0, 600), (37, 0, 0, 0), (25, 12, 38, 112), (3, 0, 2, 0), (0, 0, 0, 5), (37, 0, 0, 0), (25, 12, 39, 115), (3, 0, 2, 0), (0, 0, 0, 5), (37, 0, 0, 0), (25, 12, 40, 118), (3, 0, 2, 0), (0, 1, 0, 25), (37, 0, 0, 0), (25, 12, 41, 121), (3, 0, 2, 0), (0, 1, 0, 25), (37, 2, 0, 0), (25, 12, 42, 124), (3, 0, 2, 0), (0, 1, 0, 6), (37, 2, 0, 0), (25, 12, 43, 127), (3, 0, 2, 0), (0, 1, 0, 6), (37, 0, 0, 0), (25, 12, 47, 130), (3, 0, 2, 0), (0, 1, 0, 6), (37, 0, 0, 0), (25, 12, 48, 133), (3, 0, 2, 0), (0, 1, 0, 64), (37, 0, 0, 0), (25, 12, 51, 136), (3, 0, 2, 0), (0, 1, 0, 100), (37, 0, 0, 0), (25, 12, 52, 139), (3, 0, 2, 0), (0, 1, 0, 8), (37, 0, 0, 0), (25, 12, 53, 142), (3, 0, 2, 0), (0, 1, 0, 120), (37, 0, 0, 0), (25, 12, 54, 145), (3, 0, 2, 0), (0, 0, 0, (-1)), (22, 12, 56, 148), (3, 0, 2, 0), (0, 1, 0, 17), (37, 0, 0, 0), (25, 12, 58, 151), (3, 0, 2, 0), (21, 12, 3, 13), (0, 0, 0, 2), (0, 0, 0, (-1)), (27, 0, 0, 0), (3, 0, 2, 0), (21, 12, 3, 13), (0, 1, 0, 7), (0, 1, 0, 20), (27, 0, 0, 0), (3, 0, 2, 0), (21, 12, 3, 13), (0, 1, 0, 8), (0, 0, 0, 3), (27, 0, 0, 0), (3, 0, 2, 0), (21, 12, 3, 13), (0, 1, 0, 10), (0, 1, 0, 100), (27, 0, 0, 0), (42, 0, 0, 0)])]
def k_X12_in : List (Nat × Nat × List Ins) := [(0, 21, [(3, 0, 1, 0), (3, 2, 1, 0), (9, 0, 0, 0), (12, 2, 17, 0), (3, 0, 1, 0), (3, 4, 1, 0), (9, 0, 0, 0), (12, 4, 17, 0), (0, 0, 0, 1), (15, 0, 18, 0), (58, 0, 0, 0)]),
  (17, 0, [(0, 0, 0, 0), (58, 0, 0, 0)])]
def k_X12_is : List (Nat × Nat × List Ins) := [(0, 3, [(3, 0, 0, 0), (3, 1, 0, 0), (6, 7, 0, 0), (0, 0, 0, 1), (6, 3, 0, 0), (0, 0, 0, 1), (13, 1, 13, 0), (0, 0, 0, 1), (15, 0, 14, 0), (58, 0, 0, 0)]),
  (13, 0, [(0, 0, 0, 0), (58, 0, 0, 0)])]
def k_X12_size : List (Nat × Nat × List Ins) := [(0, 1, [(3, 0, 0, 0), (12, 3, 9, 0), (3, 0, 0, 0), (7, 0, 0, 0), (15, 0, 10, 0), (55, 0, 0, 0)]),
  (9, 1, [(3, 0, 0, 0), (55, 0, 0, 0)])]
def k_X12_within : List (Nat × Nat × List Ins) := [(0, 13, [(3, 0, 1, 0), (3, 2, 0, 0), (10, 0, 0, 0), (9, 0, 0, 0), (12, 3, 11, 0), (3, 2, 0, 0), (15, 0, 24, 0), (55, 0, 0, 0)]),
  (11, 9, [(3, 0, 1, 0), (3, 3, 0, 0), (10, 0, 0, 0), (9, 0, 0, 0), (12, 5, 22, 0), (3, 3, 0, 0), (15, 0, 24, 0), (55, 0, 0, 0)]),
  (22, 1, [(3, 0, 1, 0), (48, 0, 0, 0), (55, 0, 0, 0)])]
def k_X12_tell : List (Nat × Nat × List Ins) := [(0, 3, [(3, 0, 2, 0), (3, 1, 0, 0), (12, 3, 9, 0), (3, 1, 0, 0), (15, 0, 10, 0), (16, 0, 10, 0)]),
  (9, 3, [(0, 0, 0, 0), (16, 0, 10, 0)]),
  (10, 3, [(22, 12, 1, 157), (3, 1, 0, 0), (12, 3, 28, 0), (3, 0, 2, 0), (21, 12, 2, 7), (3, 1, 0, 0), (7, 0, 0, 0), (50, 0, 0, 0), (26, 0, 0, 0), (0, 0, 0, 1), (6, 0, 0, 0), (27, 0, 0, 0), (16, 0, 28, 0)]),
  (28, 2, [(3, 1, 0, 0), (55, 0, 0, 0)])]
def k_X12_change : List (Nat × Nat × List Ins) := [(0, 7, [(3, 0, 2, 0), (21, 12, 3, 13), (3, 1, 0, 0), (26, 0, 0, 0), (4, 3, 0, 0), (3, 0, 2, 0), (21, 12, 3, 13), (3, 1, 0, 0), (3, 2, 0, 0), (27, 0, 0, 0), (3, 0, 2, 0), (0, 0, 0, 0), (22, 12, 1, 157), (3, 3, 0, 0), (55, 0, 0, 0)])]
def k_X12_image : List (Nat × Nat × List Ins) := [(0, 3, [(3, 0, 2, 0), (0, 0, 0, 0), (22, 12, 0, 154), (3, 1, 0, 0), (10, 0, 0, 0), (1, 0, 0, 0), (1, 0, 0, 1), (39, 30, 186, 160), (12, 1, 21, 0), (3, 0, 2, 0), (0, 0, 0, (-1)), (39, 22022, 190, 164), (55, 0, 0, 0)]),
  (21, 3, [(0, 0, 0, 0), (4, 2, 0, 0), (16, 0, 23, 0)]),
  (23, 7, [(3, 2, 0, 0), (0, 2, 0, 5780), (13, 3, 54, 0), (3, 0, 2, 0), (21, 12, 4, 16), (0, 2, 0, 5780), (3, 1, 0, 0), (6, 2, 0, 0), (3, 2, 0, 0), (6, 0, 0, 0), (3, 0, 2, 0), (21, 12, 3, 13), (3, 2, 0, 0), (26, 0, 0, 0), (27, 0, 0, 0), (5, 2, 0, 1), (15, 0, 23, 0), (16, 0, 23, 0)]),
  (54, 3, [(3, 0, 2, 0), (21, 12, 6, 22), (3, 1, 0, 0), (0, 0, 0, 1), (53, 0, 0, 0), (3, 0, 2, 0), (0, 0, 0, 0), (39, 22022, 190, 164), (55, 0, 0, 0)])]
def k_X12_back : List (Nat × Nat × List Ins) := [(0, 3, [(3, 0, 2, 0), (0, 0, 0, 0), (22, 12, 0, 154), (3, 1, 0, 0), (10, 0, 0, 0), (1, 0, 0, 0), (1, 0, 0, 1), (39, 30, 186, 160), (12, 1, 21, 0), (3, 0, 2, 0), (0, 0, 0, (-1)), (39, 22022, 190, 164), (55, 0, 0, 0)]),
  (21, 3, [(3, 0, 2, 0), (21, 12, 6, 22), (3, 1, 0, 0), (26, 2, 0, 0), (12, 1, 37, 0), (3, 0, 2, 0), (0, 1, 0, (-2)), (39, 22022, 190, 164), (55, 0, 0, 0)]),
  (37, 3, [(0, 0, 0, 0), (4, 2, 0, 0), (16, 0, 39, 0)]),
  (39, 7, [(3, 2, 0, 0), (0, 2, 0, 5780), (13, 3, 70, 0), (3, 0, 2, 0), (21, 12, 3, 13), (3, 2, 0, 0), (3, 0, 2, 0), (21, 12, 4, 16), (0, 2, 0, 5780), (3, 1, 0, 0), (6, 2, 0, 0), (3, 2, 0, 0), (6, 0, 0, 0), (26, 0, 0, 0), (27, 0, 0, 0), (5, 2, 0, 1), (15, 0, 39, 0), (16, 0, 39, 0)]),
  (70, 1, [(3, 0, 2, 0), (0, 0, 0, 0), (39, 22022, 190, 164), (55, 0, 0, 0)])]
def k_X12_isCell : List (Nat × Nat × List Ins) := [(0, 1, [(3, 0, 0, 0), (10, 0, 0, 0), (1, 0, 0, 0), (1, 1, 168, 11), (39, 30, 186, 160), (58, 0, 0, 0)])]
def k_X12_isTone : List (Nat × Nat × List Ins) := [(0, 1, [(3, 0, 0, 0), (10, 0, 0, 0), (1, 0, 0, 0), (1, 1, 170, 9), (39, 30, 186, 160), (58, 0, 0, 0)])]
def k_X12_isYear : List (Nat × Nat × List Ins) := [(0, 1, [(3, 0, 0, 0), (10, 0, 0, 0), (1, 0, 0, 0), (1, 1, 172, 99), (39, 30, 186, 160), (58, 0, 0, 0)])]
def k_X12_years : List (Nat × Nat × List Ins) := [(0, 1, [(3, 0, 2, 0), (21, 12, 3, 13), (0, 0, 0, 4), (26, 0, 0, 0), (55, 0, 0, 0)])]
def k_X12_isLayer : List (Nat × Nat × List Ins) := [(0, 3, [(3, 1, 0, 0), (10, 0, 0, 0), (1, 0, 0, 0), (3, 0, 2, 0), (39, 22012, 197, 174), (10, 0, 0, 0), (39, 30, 186, 160), (58, 0, 0, 0)])]
def k_X12_isPainter : List (Nat × Nat × List Ins) := [(0, 3, [(3, 1, 0, 0), (10, 0, 0, 0), (1, 0, 0, 0), (3, 0, 2, 0), (21, 12, 3, 13), (0, 0, 0, 0), (26, 0, 0, 0), (10, 0, 0, 0), (1, 0, 0, 1), (8, 1, 0, 0), (39, 30, 186, 160), (58, 0, 0, 0)])]
def k_X12_isCopy : List (Nat × Nat × List Ins) := [(0, 3, [(3, 1, 0, 0), (10, 0, 0, 0), (1, 0, 0, 0), (3, 0, 2, 0), (21, 12, 3, 13), (0, 0, 0, 5), (26, 0, 0, 0), (10, 0, 0, 0), (1, 0, 0, 1), (8, 1, 0, 0), (39, 30, 186, 160), (58, 0, 0, 0)])]
def k_X12_isClaimant : List (Nat × Nat × List Ins) := [(0, 3, [(3, 1, 0, 0), (10, 0, 0, 0), (1, 0, 0, 0), (3, 0, 2, 0), (21, 12, 3, 13), (0, 1, 0, 6), (26, 0, 0, 0), (10, 0, 0, 0), (1, 0, 0, 1), (8, 1, 0, 0), (39, 30, 186, 160), (58, 0, 0, 0)])]
def k_X12_toneAt : List (Nat × Nat × List Ins) := [(0, 7, [(3, 0, 2, 0), (21, 12, 3, 13), (0, 1, 0, 12), (0, 1, 0, 12), (3, 1, 0, 0), (6, 2, 0, 0), (6, 0, 0, 0), (3, 2, 0, 0), (6, 0, 0, 0), (26, 0, 0, 0), (55, 0, 0, 0)])]
def k_X12_seen : List (Nat × Nat × List Ins) := [(0, 3, [(3, 0, 2, 0), (3, 0, 2, 0), (39, 22012, 197, 174), (3, 1, 0, 0), (39, 22032, 202, 178), (55, 0, 0, 0)])]
def k_X12_first : List (Nat × Nat × List Ins) := [(0, 7, [(3, 0, 2, 0), (0, 0, 0, 0), (22, 12, 0, 154), (3, 1, 0, 0), (39, 10, 194, 182), (12, 0, 19, 0), (3, 2, 0, 0), (39, 10, 195, 186), (12, 1, 25, 0), (16, 0, 19, 0)]),
  (19, 1, [(3, 0, 2, 0), (0, 0, 0, (-1)), (39, 22022, 190, 164), (55, 0, 0, 0)]),
  (25, 7, [(3, 0, 2, 0), (21, 12, 3, 13), (0, 0, 0, 4), (0, 0, 0, 0), (27, 0, 0, 0), (3, 0, 2, 0), (0, 1, 0, 12), (3, 1, 0, 0), (6, 0, 0, 0), (3, 2, 0, 0), (39, 22032, 191, 189), (55, 0, 0, 0)])]
def k_X12_painter : List (Nat × Nat × List Ins) := [(0, 7, [(3, 0, 2, 0), (0, 0, 0, 0), (22, 12, 0, 154), (3, 1, 0, 0), (10, 0, 0, 0), (1, 0, 0, 1), (1, 1, 170, 9), (39, 30, 186, 160), (12, 0, 29, 0), (3, 2, 0, 0), (10, 0, 0, 0), (1, 0, 0, 0), (1, 1, 172, 99), (39, 30, 186, 160), (12, 1, 35, 0), (16, 0, 29, 0)]),
  (29, 1, [(3, 0, 2, 0), (0, 0, 0, (-1)), (39, 22022, 190, 164), (55, 0, 0, 0)]),
  (35, 7, [(3, 0, 2, 0), (21, 12, 3, 13), (0, 0, 0, 0), (26, 0, 0, 0), (4, 3, 0, 0), (3, 3, 0, 0), (0, 0, 0, 5), (13, 1, 54, 0), (3, 0, 2, 0), (0, 1, 0, (-5)), (39, 22022, 190, 164), (55, 0, 0, 0)]),
  (54, 15, [(0, 2, 0, 233), (0, 0, 0, 5), (3, 3, 0, 0), (6, 2, 0, 0), (6, 0, 0, 0), (4, 4, 0, 0), (3, 0, 2, 0), (21, 12, 3, 13), (3, 4, 0, 0), (3, 1, 0, 0), (27, 0, 0, 0), (3, 0, 2, 0), (21, 12, 3, 13), (3, 4, 0, 0), (0, 0, 0, 1), (6, 0, 0, 0), (3, 2, 0, 0), (27, 0, 0, 0), (0, 0, 0, 2), (4, 5, 0, 0), (16, 0, 84, 0)]),
  (84, 57, [(3, 5, 0, 0), (0, 0, 0, 5), (13, 3, 107, 0), (3, 0, 2, 0), (21, 12, 3, 13), (3, 4, 0, 0), (3, 5, 0, 0), (6, 0, 0, 0), (0, 0, 0, 3), (27, 0, 0, 0), (5, 5, 0, 1), (15, 0, 84, 0), (16, 0, 84, 0)]),
  (107, 9, [(3, 0, 2, 0), (21, 12, 3, 13), (0, 0, 0, 0), (50, 0, 0, 0), (26, 0, 0, 0), (0, 0, 0, 1), (6, 0, 0, 0), (27, 0, 0, 0), (3, 0, 2, 0), (3, 3, 0, 0), (39, 22022, 190, 164), (55, 0, 0, 0)])]
def k_X12_err : List (Nat × Nat × List Ins) := [(0, 15, [(3, 0, 2, 0), (0, 0, 0, 0), (22, 12, 0, 154), (3, 2, 0, 0), (10, 0, 0, 0), (1, 0, 0, 0), (1, 1, 192, 2), (39, 30, 186, 160), (12, 0, 29, 0), (3, 3, 0, 0), (10, 0, 0, 0), (1, 0, 0, 0), (1, 1, 194, 6), (39, 30, 186, 160), (12, 1, 35, 0), (16, 0, 29, 0)]),
  (29, 1, [(3, 0, 2, 0), (0, 0, 0, (-1)), (39, 22022, 190, 164), (55, 0, 0, 0)]),
  (35, 15, [(3, 0, 2, 0), (3, 1, 0, 0), (39, 22022, 199, 196), (12, 0, 62, 0), (3, 0, 2, 0), (0, 2, 0, 233), (0, 0, 0, 5), (3, 1, 0, 0), (6, 2, 0, 0), (6, 0, 0, 0), (0, 0, 0, 2), (6, 0, 0, 0), (3, 2, 0, 0), (6, 0, 0, 0), (3, 3, 0, 0), (39, 22032, 191, 189), (15, 0, 68, 0), (55, 0, 0, 0)]),
  (62, 1, [(3, 0, 2, 0), (0, 1, 0, (-2)), (39, 22022, 190, 164), (55, 0, 0, 0)])]
def k_X12_of : List (Nat × Nat × List Ins) := [(0, 7, [(3, 0, 2, 0), (0, 0, 0, 0), (22, 12, 0, 154), (3, 0, 2, 0), (3, 1, 0, 0), (39, 22022, 199, 196), (12, 0, 42, 0), (3, 2, 0, 0), (10, 0, 0, 0), (1, 0, 0, 0), (1, 1, 199, 4), (39, 30, 186, 160), (12, 0, 42, 0), (3, 0, 2, 0), (21, 12, 3, 13), (0, 2, 0, 233), (0, 0, 0, 5), (3, 1, 0, 0), (6, 2, 0, 0), (6, 0, 0, 0), (3, 2, 0, 0), (6, 0, 0, 0), (26, 0, 0, 0), (15, 0, 43, 0), (55, 0, 0, 0)]),
  (42, 0, [(0, 0, 0, (-1)), (55, 0, 0, 0)])]
def k_X12_isTerm : List (Nat × Nat × List Ins) := [(0, 3, [(3, 0, 0, 0), (17, 6, 0, 35)]),
  (36, 2, [(3, 1, 0, 0), (10, 0, 0, 0), (1, 0, 0, 0), (1, 1, 172, 99), (39, 30, 186, 160), (58, 0, 0, 0)]),
  (46, 2, [(3, 1, 0, 0), (10, 0, 0, 0), (1, 0, 0, 0), (1, 1, 201, 5), (39, 30, 186, 160), (58, 0, 0, 0)]),
  (56, 2, [(3, 1, 0, 0), (10, 0, 0, 0), (1, 0, 0, 0), (1, 1, 170, 9), (39, 30, 186, 160), (58, 0, 0, 0)]),
  (66, 2, [(3, 1, 0, 0), (10, 0, 0, 0), (1, 0, 0, 0), (1, 1, 203, 999), (39, 30, 186, 160), (58, 0, 0, 0)]),
  (76, 2, [(3, 1, 0, 0), (10, 0, 0, 0), (1, 0, 0, 0), (1, 1, 205, 3), (39, 30, 186, 160), (58, 0, 0, 0)]),
  (86, 0, [(0, 0, 0, 0), (58, 0, 0, 0)])]
def k_X12_terms : List (Nat × Nat × List Ins) := [(0, 7, [(3, 0, 2, 0), (0, 0, 0, 0), (22, 12, 0, 154), (3, 1, 0, 0), (3, 2, 0, 0), (39, 20, 208, 207), (12, 0, 25, 0), (3, 0, 2, 0), (0, 1, 0, 7), (3, 1, 0, 0), (6, 0, 0, 0), (3, 2, 0, 0), (39, 22032, 191, 189), (15, 0, 30, 0), (55, 0, 0, 0)]),
  (25, 1, [(3, 0, 2, 0), (0, 0, 0, (-1)), (39, 22022, 190, 164), (55, 0, 0, 0)])]
def k_X12_scar : List (Nat × Nat × List Ins) := [(0, 15, [(3, 0, 2, 0), (0, 0, 0, 0), (22, 12, 0, 154), (3, 1, 0, 0), (39, 10, 194, 182), (12, 0, 26, 0), (3, 2, 0, 0), (39, 10, 196, 211), (12, 0, 26, 0), (3, 3, 0, 0), (39, 10, 195, 186), (12, 1, 32, 0), (16, 0, 26, 0)]),
  (26, 1, [(3, 0, 2, 0), (0, 0, 0, (-1)), (39, 22022, 190, 164), (55, 0, 0, 0)]),
  (32, 15, [(3, 0, 2, 0), (21, 12, 3, 13), (0, 0, 0, 3), (26, 0, 0, 0), (4, 4, 0, 0), (3, 4, 0, 0), (0, 1, 0, 6), (13, 1, 54, 0), (3, 0, 2, 0), (0, 1, 0, (-5)), (39, 22022, 190, 164), (55, 0, 0, 0)]),
  (54, 31, [(3, 0, 2, 0), (21, 12, 3, 13), (0, 2, 0, 258), (0, 0, 0, 3), (3, 4, 0, 0), (6, 2, 0, 0), (6, 0, 0, 0), (3, 1, 0, 0), (27, 0, 0, 0), (3, 0, 2, 0), (21, 12, 3, 13), (0, 2, 0, 258), (0, 0, 0, 3), (3, 4, 0, 0), (6, 2, 0, 0), (6, 0, 0, 0), (0, 0, 0, 1), (6, 0, 0, 0), (3, 2, 0, 0), (27, 0, 0, 0), (3, 0, 2, 0), (21, 12, 3, 13), (0, 2, 0, 258), (0, 0, 0, 3), (3, 4, 0, 0), (6, 2, 0, 0), (6, 0, 0, 0), (0, 0, 0, 2), (6, 0, 0, 0), (3, 3, 0, 0), (27, 0, 0, 0), (3, 0, 2, 0), (21, 12, 3, 13), (0, 0, 0, 3), (50, 0, 0, 0), (26, 0, 0, 0), (0, 0, 0, 1), (6, 0, 0, 0), (27, 0, 0, 0), (3, 0, 2, 0), (3, 4, 0, 0), (39, 22022, 190, 164), (55, 0, 0, 0)])]
def k_X12_heal : List (Nat × Nat × List Ins) := [(0, 3, [(3, 0, 2, 0), (0, 0, 0, 0), (22, 12, 0, 154), (3, 1, 0, 0), (10, 0, 0, 0), (1, 0, 0, 0), (3, 0, 2, 0), (21, 12, 3, 13), (0, 0, 0, 3), (26, 0, 0, 0), (10, 0, 0, 0), (1, 0, 0, 1), (8, 1, 0, 0), (39, 30, 186, 160), (12, 1, 30, 0), (3, 0, 2, 0), (0, 1, 0, (-2)), (39, 22022, 190, 164), (55, 0, 0, 0)]),
  (30, 3, [(0, 2, 0, 258), (0, 0, 0, 3), (3, 1, 0, 0), (6, 2, 0, 0), (6, 0, 0, 0), (4, 2, 0, 0), (16, 0, 38, 0)]),
  (38, 5, [(3, 2, 0, 0), (0, 2, 0, 273), (13, 3, 65, 0), (3, 0, 2, 0), (21, 12, 3, 13), (3, 2, 0, 0), (3, 0, 2, 0), (21, 12, 3, 13), (3, 2, 0, 0), (0, 0, 0, 3), (6, 0, 0, 0), (26, 0, 0, 0), (27, 0, 0, 0), (5, 2, 0, 1), (15, 0, 38, 0), (16, 0, 38, 0)]),
  (65, 1, [(3, 0, 2, 0), (21, 12, 3, 13), (0, 0, 0, 3), (50, 0, 0, 0), (26, 0, 0, 0), (0, 0, 0, 1), (6, 1, 0, 0), (27, 0, 0, 0), (3, 0, 2, 0), (3, 0, 2, 0), (21, 12, 3, 13), (0, 0, 0, 3), (26, 0, 0, 0), (39, 22022, 190, 164), (55, 0, 0, 0)])]
def k_X12_row : List (Nat × Nat × List Ins) := [(0, 1, [(3, 0, 2, 0), (0, 0, 0, 0), (22, 12, 0, 154), (3, 0, 2, 0), (18, 12, 9, 214), (4, 1, 0, 0), (3, 0, 2, 0), (0, 0, 0, 0), (22, 12, 9, 214), (3, 1, 0, 0), (12, 1, 26, 0), (3, 0, 2, 0), (0, 1, 0, (-6)), (39, 22022, 190, 164), (55, 0, 0, 0)]),
  (26, 3, [(3, 0, 2, 0), (0, 0, 0, 0), (22, 12, 7, 217), (3, 0, 2, 0), (21, 12, 3, 13), (0, 0, 0, 4), (0, 0, 0, 0), (27, 0, 0, 0), (0, 0, 0, 0), (4, 2, 0, 0), (0, 0, 0, 0), (4, 3, 0, 0), (16, 0, 42, 0)]),
  (42, 15, [(3, 3, 0, 0), (3, 1, 0, 0), (13, 3, 102, 0), (3, 3, 0, 0), (0, 1, 0, 12), (13, 3, 86, 0), (3, 0, 2, 0), (21, 12, 8, 26), (3, 3, 0, 0), (26, 0, 0, 0), (39, 10, 195, 186), (12, 0, 86, 0), (3, 0, 2, 0), (21, 12, 3, 13), (0, 1, 0, 12), (3, 3, 0, 0), (6, 0, 0, 0), (3, 0, 2, 0), (21, 12, 8, 26), (3, 3, 0, 0), (26, 0, 0, 0), (27, 0, 0, 0), (5, 2, 0, 1), (15, 0, 96, 0), (5, 3, 0, 1), (15, 0, 42, 0), (16, 0, 42, 0)]),
  (86, 15, [(3, 0, 2, 0), (11, 0, 0, 0), (18, 12, 7, 217), (0, 0, 0, 1), (6, 0, 0, 0), (22, 12, 7, 217), (5, 3, 0, 1), (15, 0, 42, 0), (16, 0, 42, 0)]),
  (102, 5, [(3, 0, 2, 0), (3, 2, 0, 0), (39, 22022, 190, 164), (55, 0, 0, 0)])]
def k_X12_flakes : List (Nat × Nat × List Ins) := [(0, 1, [(3, 0, 2, 0), (0, 0, 0, 0), (22, 12, 0, 154), (3, 0, 2, 0), (18, 12, 7, 217), (55, 0, 0, 0)])]
def k_X12_four : List (Nat × Nat × List Ins) := [(0, 3, [(0, 1, 0, 24), (4, 2, 0, 0), (16, 0, 3, 0)]),
  (3, 7, [(3, 2, 0, 0), (12, 2, 39, 0), (3, 0, 2, 0), (21, 12, 8, 26), (3, 0, 2, 0), (18, 12, 9, 214), (3, 1, 0, 0), (3, 2, 0, 0), (6, 7, 0, 0), (0, 2, 0, 255), (6, 3, 0, 0), (27, 0, 0, 0), (3, 0, 2, 0), (11, 0, 0, 0), (18, 12, 9, 214), (0, 0, 0, 1), (6, 0, 0, 0), (22, 12, 9, 214), (5, 2, 0, (-8)), (15, 0, 3, 0), (16, 0, 3, 0)]),
  (39, 0, [(42, 0, 0, 0)])]
def k_X12_feed : List (Nat × Nat × List Ins) := [(0, 63, [(3, 0, 2, 0), (0, 0, 0, 0), (22, 12, 0, 154), (3, 0, 2, 0), (18, 12, 9, 214), (0, 1, 0, 20), (6, 0, 0, 0), (0, 2, 0, 400), (13, 5, 20, 0), (0, 0, 0, (-1)), (55, 0, 0, 0)]),
  (20, 63, [(3, 0, 2, 0), (3, 1, 0, 0), (39, 22022, 214, 220), (3, 0, 2, 0), (3, 2, 0, 0), (39, 22022, 214, 220), (3, 0, 2, 0), (3, 3, 0, 0), (39, 22022, 214, 220), (3, 0, 2, 0), (3, 4, 0, 0), (39, 22022, 214, 220), (3, 0, 2, 0), (3, 5, 0, 0), (39, 22022, 214, 220), (3, 0, 2, 0), (18, 12, 9, 214), (55, 0, 0, 0)])]
def k_X12_end : List (Nat × Nat × List Ins) := [(0, 3, [(3, 0, 2, 0), (0, 0, 0, 0), (22, 12, 0, 154), (3, 1, 0, 0), (12, 2, 17, 0), (3, 1, 0, 0), (3, 0, 2, 0), (18, 12, 9, 214), (13, 5, 19, 0), (16, 0, 17, 0)]),
  (17, 0, [(0, 0, 0, (-1)), (55, 0, 0, 0)]),
  (19, 3, [(3, 0, 2, 0), (3, 1, 0, 0), (22, 12, 9, 214), (3, 1, 0, 0), (55, 0, 0, 0)])]
def k_X12_isSmall : List (Nat × Nat × List Ins) := [(0, 1, [(3, 0, 0, 0), (0, 1, 0, 97), (13, 2, 16, 0), (3, 0, 0, 0), (0, 1, 0, 122), (13, 4, 16, 0), (0, 0, 0, 1), (15, 0, 17, 0), (58, 0, 0, 0)]),
  (16, 0, [(0, 0, 0, 0), (58, 0, 0, 0)])]
def k_X12_isDigit : List (Nat × Nat × List Ins) := [(0, 1, [(3, 0, 0, 0), (0, 1, 0, 48), (13, 2, 16, 0), (3, 0, 0, 0), (0, 1, 0, 57), (13, 4, 16, 0), (0, 0, 0, 1), (15, 0, 17, 0), (58, 0, 0, 0)]),
  (16, 0, [(0, 0, 0, 0), (58, 0, 0, 0)])]
def k_X12_begin : List (Nat × Nat × List Ins) := [(0, 1, [(3, 0, 2, 0), (0, 0, 0, 0), (22, 12, 11, 224), (3, 0, 2, 0), (0, 0, 0, 0), (24, 12, 15, 227), (3, 0, 2, 0), (0, 0, 0, (-1)), (22, 12, 14, 29), (3, 0, 2, 0), (39, 22012, 220, 231), (42, 0, 0, 0)])]
def k_X12_next : List (Nat × Nat × List Ins) := [(0, 1, [(3, 0, 2, 0), (3, 0, 2, 0), (18, 12, 11, 224), (22, 12, 10, 234), (16, 0, 8, 0)]),
  (8, 1, [(3, 0, 2, 0), (18, 12, 10, 234), (3, 0, 2, 0), (18, 12, 9, 214), (13, 3, 46, 0), (3, 0, 2, 0), (21, 12, 8, 26), (3, 0, 2, 0), (18, 12, 10, 234), (26, 0, 0, 0), (0, 1, 0, 32), (13, 1, 46, 0), (3, 0, 2, 0), (11, 0, 0, 0), (18, 12, 10, 234), (0, 0, 0, 1), (6, 0, 0, 0), (22, 12, 10, 234), (15, 0, 8, 0), (16, 0, 8, 0)]),
  (46, 1, [(3, 0, 2, 0), (3, 0, 2, 0), (18, 12, 10, 234), (22, 12, 11, 224), (3, 0, 2, 0), (1, 0, 0, 0), (23, 12, 13, 237), (3, 0, 2, 0), (3, 0, 2, 0), (18, 12, 10, 234), (3, 0, 2, 0), (18, 12, 9, 214), (13, 1, 75, 0), (0, 0, 0, 0), (15, 0, 114, 0), (16, 0, 114, 0)]),
  (75, 1, [(3, 0, 2, 0), (21, 12, 8, 26), (3, 0, 2, 0), (18, 12, 10, 234), (26, 0, 0, 0), (39, 10, 217, 241), (12, 0, 94, 0), (0, 0, 0, 1), (15, 0, 114, 0), (16, 0, 114, 0)]),
  (94, 1, [(3, 0, 2, 0), (21, 12, 8, 26), (3, 0, 2, 0), (18, 12, 10, 234), (26, 0, 0, 0), (39, 10, 218, 244), (12, 0, 113, 0), (0, 0, 0, 2), (15, 0, 114, 0), (16, 0, 114, 0)]),
  (113, 1, [(0, 0, 0, 3), (16, 0, 114, 0)]),
  (114, 1, [(22, 12, 12, 247), (3, 0, 2, 0), (18, 12, 12, 247), (0, 0, 0, 3), (13, 1, 149, 0), (3, 0, 2, 0), (3, 0, 2, 0), (21, 12, 8, 26), (3, 0, 2, 0), (18, 12, 10, 234), (26, 0, 0, 0), (10, 0, 0, 0), (23, 12, 13, 237), (3, 0, 2, 0), (11, 0, 0, 0), (18, 12, 11, 224), (0, 0, 0, 1), (6, 0, 0, 0), (22, 12, 11, 224), (16, 0, 149, 0)]),
  (149, 1, [(3, 0, 2, 0), (18, 12, 12, 247), (0, 0, 0, 1), (13, 1, 243, 0), (3, 0, 2, 0), (18, 12, 11, 224), (3, 0, 2, 0), (18, 12, 9, 214), (13, 3, 243, 0), (3, 0, 2, 0), (21, 12, 8, 26), (3, 0, 2, 0), (18, 12, 11, 224), (26, 0, 0, 0), (39, 10, 217, 241), (12, 0, 243, 0), (3, 0, 2, 0), (3, 0, 2, 0), (18, 12, 11, 224), (3, 0, 2, 0), (18, 12, 10, 234), (6, 1, 0, 0), (0, 1, 0, 10), (13, 3, 224, 0), (3, 0, 2, 0), (19, 12, 13, 237), (1, 1, 250, 32), (8, 2, 0, 0), (3, 0, 2, 0), (21, 12, 8, 26), (3, 0, 2, 0), (18, 12, 11, 224), (26, 0, 0, 0), (10, 0, 0, 0), (8, 0, 0, 0), (1, 1, 252, 96), (8, 1, 0, 0), (15, 0, 227, 0), (16, 0, 227, 0)]),
  (224, 1, [(1, 1, 254, (-1)), (16, 0, 227, 0)]),
  (227, 1, [(23, 12, 13, 237), (3, 0, 2, 0), (11, 0, 0, 0), (18, 12, 11, 224), (0, 0, 0, 1), (6, 0, 0, 0), (22, 12, 11, 224), (15, 0, 149, 0), (16, 0, 149, 0)]),
  (243, 1, [(3, 0, 2, 0), (18, 12, 12, 247), (0, 0, 0, 2), (13, 1, 335, 0), (3, 0, 2, 0), (18, 12, 11, 224), (3, 0, 2, 0), (18, 12, 9, 214), (13, 3, 335, 0), (3, 0, 2, 0), (21, 12, 8, 26), (3, 0, 2, 0), (18, 12, 11, 224), (26, 0, 0, 0), (39, 10, 218, 244), (12, 0, 335, 0), (3, 0, 2, 0), (3, 0, 2, 0), (19, 12, 13, 237), (1, 1, 256, 1000000), (9, 0, 0, 0), (12, 5, 296, 0), (3, 0, 2, 0), (19, 12, 13, 237), (15, 0, 319, 0), (16, 0, 319, 0)]),
  (296, 1, [(3, 0, 2, 0), (19, 12, 13, 237), (1, 1, 258, 10), (8, 2, 0, 0), (3, 0, 2, 0), (21, 12, 8, 26), (3, 0, 2, 0), (18, 12, 11, 224), (26, 0, 0, 0), (10, 0, 0, 0), (8, 0, 0, 0), (1, 1, 260, 48), (8, 1, 0, 0), (16, 0, 319, 0)]),
  (319, 1, [(23, 12, 13, 237), (3, 0, 2, 0), (11, 0, 0, 0), (18, 12, 11, 224), (0, 0, 0, 1), (6, 0, 0, 0), (22, 12, 11, 224), (15, 0, 243, 0), (16, 0, 243, 0)]),
  (335, 0, [(42, 0, 0, 0)])]
def k_X12_isWord : List (Nat × Nat × List Ins) := [(0, 3, [(3, 0, 2, 0), (18, 12, 12, 247), (0, 0, 0, 1), (13, 1, 21, 0), (3, 0, 2, 0), (19, 12, 13, 237), (3, 1, 1, 0), (9, 0, 0, 0), (12, 1, 21, 0), (0, 0, 0, 1), (15, 0, 22, 0), (58, 0, 0, 0)]),
  (21, 0, [(0, 0, 0, 0), (58, 0, 0, 0)])]
def k_X12_isSign : List (Nat × Nat × List Ins) := [(0, 3, [(3, 0, 2, 0), (18, 12, 12, 247), (0, 0, 0, 3), (13, 1, 22, 0), (3, 0, 2, 0), (19, 12, 13, 237), (3, 1, 0, 0), (10, 0, 0, 0), (9, 0, 0, 0), (12, 1, 22, 0), (0, 0, 0, 1), (15, 0, 23, 0), (58, 0, 0, 0)]),
  (22, 0, [(0, 0, 0, 0), (58, 0, 0, 0)])]
def k_X12_must : List (Nat × Nat × List Ins) := [(0, 3, [(3, 0, 2, 0), (20, 12, 15, 227), (12, 1, 24, 0), (3, 1, 0, 0), (12, 1, 24, 0), (3, 0, 2, 0), (0, 0, 0, 1), (24, 12, 15, 227), (3, 0, 2, 0), (3, 0, 2, 0), (18, 12, 10, 234), (22, 12, 14, 29), (16, 0, 24, 0)]),
  (24, 1, [(3, 0, 2, 0), (20, 12, 15, 227), (12, 1, 35, 0), (3, 0, 2, 0), (39, 22012, 220, 231), (16, 0, 35, 0)]),
  (35, 0, [(42, 0, 0, 0)])]
def k_X12_number : List (Nat × Nat × List Ins) := [(0, 11, [(3, 0, 2, 0), (19, 12, 13, 237), (48, 0, 0, 0), (4, 5, 0, 0), (3, 0, 2, 0), (3, 0, 2, 0), (18, 12, 12, 247), (0, 0, 0, 2), (13, 1, 32, 0), (3, 0, 2, 0), (19, 12, 13, 237), (3, 1, 1, 0), (3, 3, 1, 0), (39, 30, 186, 160), (12, 0, 32, 0), (0, 0, 0, 1), (15, 0, 33, 0), (39, 22022, 223, 262), (3, 5, 0, 0), (55, 0, 0, 0)]),
  (32, 32, [(0, 0, 0, 0), (39, 22022, 223, 262), (3, 5, 0, 0), (55, 0, 0, 0)])]
def k_X12_fault : List (Nat × Nat × List Ins) := [(0, 1, [(3, 0, 2, 0), (0, 0, 0, 0), (22, 12, 0, 154), (3, 0, 2, 0), (18, 12, 14, 29), (55, 0, 0, 0)])]
def k_X12_emit : List (Nat × Nat × List Ins) := [(0, 7, [(3, 0, 2, 0), (21, 12, 20, 36), (3, 0, 2, 0), (18, 12, 19, 266), (3, 1, 0, 0), (27, 0, 0, 0), (3, 0, 2, 0), (21, 12, 21, 39), (3, 0, 2, 0), (18, 12, 19, 266), (3, 2, 0, 0), (27, 0, 0, 0), (3, 0, 2, 0), (11, 0, 0, 0), (18, 12, 19, 266), (0, 0, 0, 1), (6, 0, 0, 0), (22, 12, 19, 266), (42, 0, 0, 0)])]
def k_X12_push : List (Nat × Nat × List Ins) := [(0, 7, [(3, 0, 2, 0), (21, 12, 23, 42), (3, 0, 2, 0), (18, 12, 25, 269), (3, 1, 0, 0), (27, 0, 0, 0), (3, 0, 2, 0), (21, 12, 24, 45), (3, 0, 2, 0), (18, 12, 25, 269), (3, 2, 0, 0), (27, 0, 0, 0), (3, 0, 2, 0), (11, 0, 0, 0), (18, 12, 25, 269), (0, 0, 0, 1), (6, 0, 0, 0), (22, 12, 25, 269), (42, 0, 0, 0)])]
def k_X12_binds : List (Nat × Nat × List Ins) := [(0, 1, [(3, 0, 0, 0), (0, 1, 0, 30), (13, 2, 10, 0), (0, 0, 0, 0), (15, 0, 62, 0), (55, 0, 0, 0)]),
  (10, 1, [(3, 0, 0, 0), (0, 1, 0, 29), (13, 1, 20, 0), (0, 0, 0, 1), (15, 0, 62, 0), (55, 0, 0, 0)]),
  (20, 1, [(3, 0, 0, 0), (0, 1, 0, 28), (13, 1, 30, 0), (0, 0, 0, 2), (15, 0, 62, 0), (55, 0, 0, 0)]),
  (30, 1, [(3, 0, 0, 0), (0, 1, 0, 27), (13, 1, 40, 0), (0, 0, 0, 3), (15, 0, 62, 0), (55, 0, 0, 0)]),
  (40, 1, [(3, 0, 0, 0), (0, 1, 0, 24), (13, 2, 50, 0), (0, 0, 0, 4), (15, 0, 62, 0), (55, 0, 0, 0)]),
  (50, 1, [(3, 0, 0, 0), (0, 1, 0, 22), (13, 2, 61, 0), (0, 1, 0, 6), (15, 0, 62, 0), (55, 0, 0, 0)]),
  (61, 0, [(0, 0, 0, 5), (55, 0, 0, 0)])]
def k_X12_settle : List (Nat × Nat × List Ins) := [(0, 3, [(3, 0, 2, 0), (18, 12, 25, 269), (12, 5, 101, 0), (3, 0, 2, 0), (21, 12, 23, 42), (3, 0, 2, 0), (18, 12, 25, 269), (0, 0, 0, 1), (6, 1, 0, 0), (26, 0, 0, 0), (39, 10, 228, 272), (3, 1, 0, 0), (13, 2, 101, 0), (3, 0, 2, 0), (11, 0, 0, 0), (18, 12, 25, 269), (0, 0, 0, 1), (6, 1, 0, 0), (22, 12, 25, 269), (3, 0, 2, 0), (21, 12, 23, 42), (3, 0, 2, 0), (18, 12, 25, 269), (26, 0, 0, 0), (0, 1, 0, 28), (13, 0, 63, 0), (3, 0, 2, 0), (21, 12, 23, 42), (3, 0, 2, 0), (18, 12, 25, 269), (26, 0, 0, 0), (0, 1, 0, 29), (13, 1, 84, 0), (16, 0, 63, 0)]),
  (63, 3, [(3, 0, 2, 0), (21, 12, 21, 39), (3, 0, 2, 0), (21, 12, 24, 45), (3, 0, 2, 0), (18, 12, 25, 269), (26, 0, 0, 0), (3, 0, 2, 0), (18, 12, 19, 266), (27, 0, 0, 0), (15, 0, 0, 0), (16, 0, 0, 0)]),
  (84, 3, [(3, 0, 2, 0), (3, 0, 2, 0), (21, 12, 23, 42), (3, 0, 2, 0), (18, 12, 25, 269), (26, 0, 0, 0), (0, 0, 0, 0), (39, 22032, 226, 275), (15, 0, 0, 0), (16, 0, 0, 0)]),
  (101, 0, [(42, 0, 0, 0)])]
def k_X12_inner : List (Nat × Nat × List Ins) := [(0, 1, [(0, 0, 0, (-1)), (4, 1, 0, 0), (0, 0, 0, 0), (4, 2, 0, 0), (16, 0, 4, 0)]),
  (4, 7, [(3, 2, 0, 0), (3, 0, 2, 0), (18, 12, 25, 269), (13, 3, 40, 0), (3, 0, 2, 0), (21, 12, 23, 42), (3, 2, 0, 0), (26, 0, 0, 0), (0, 1, 0, 30), (13, 2, 32, 0), (3, 0, 2, 0), (21, 12, 23, 42), (3, 2, 0, 0), (26, 0, 0, 0), (15, 0, 33, 0), (4, 1, 0, 0), (5, 2, 0, 1), (15, 0, 4, 0), (16, 0, 4, 0)]),
  (32, 7, [(3, 1, 0, 0), (4, 1, 0, 0), (5, 2, 0, 1), (15, 0, 4, 0), (16, 0, 4, 0)]),
  (40, 2, [(3, 1, 0, 0), (55, 0, 0, 0)])]
def k_X12_isCompared : List (Nat × Nat × List Ins) := [(0, 1, [(3, 0, 2, 0), (18, 12, 25, 269), (0, 0, 0, 1), (6, 1, 0, 0), (4, 1, 0, 0), (16, 0, 7, 0)]),
  (7, 3, [(3, 1, 0, 0), (12, 2, 36, 0), (3, 0, 2, 0), (21, 12, 23, 42), (3, 1, 0, 0), (26, 0, 0, 0), (10, 0, 0, 0), (1, 1, 279, 20), (1, 1, 281, 23), (39, 30, 186, 160), (12, 0, 36, 0), (5, 1, 0, (-1)), (15, 0, 7, 0), (16, 0, 7, 0)]),
  (36, 3, [(3, 1, 0, 0), (12, 2, 63, 0), (3, 0, 2, 0), (21, 12, 23, 42), (3, 1, 0, 0), (26, 0, 0, 0), (10, 0, 0, 0), (1, 1, 283, 24), (1, 1, 285, 26), (39, 30, 186, 160), (12, 0, 63, 0), (0, 0, 0, 1), (15, 0, 64, 0), (58, 0, 0, 0)]),
  (63, 0, [(0, 0, 0, 0), (58, 0, 0, 0)])]
def k_X12_partAt : List (Nat × Nat × List Ins) := [(0, 1, [(0, 0, 0, (-1)), (4, 1, 0, 0), (0, 0, 0, 0), (4, 2, 0, 0), (16, 0, 4, 0)]),
  (4, 7, [(3, 2, 0, 0), (0, 1, 0, 10), (13, 3, 37, 0), (3, 0, 2, 0), (3, 0, 2, 0), (21, 12, 27, 68), (3, 2, 0, 0), (26, 1, 0, 0), (39, 22022, 221, 287), (12, 0, 29, 0), (3, 2, 0, 0), (0, 0, 0, 1), (6, 0, 0, 0), (15, 0, 30, 0), (4, 1, 0, 0), (5, 2, 0, 1), (15, 0, 4, 0), (16, 0, 4, 0)]),
  (29, 7, [(3, 1, 0, 0), (4, 1, 0, 0), (5, 2, 0, 1), (15, 0, 4, 0), (16, 0, 4, 0)]),
  (37, 2, [(3, 1, 0, 0), (55, 0, 0, 0)])]
def k_X12_orderPartAt : List (Nat × Nat × List Ins) := [(0, 1, [(0, 0, 0, (-1)), (4, 1, 0, 0), (0, 0, 0, 0), (4, 2, 0, 0), (16, 0, 4, 0)]),
  (4, 7, [(3, 2, 0, 0), (0, 1, 0, 7), (13, 3, 37, 0), (3, 0, 2, 0), (3, 0, 2, 0), (21, 12, 28, 84), (3, 2, 0, 0), (26, 1, 0, 0), (39, 22022, 221, 287), (12, 0, 29, 0), (3, 2, 0, 0), (0, 0, 0, 1), (6, 0, 0, 0), (15, 0, 30, 0), (4, 1, 0, 0), (5, 2, 0, 1), (15, 0, 4, 0), (16, 0, 4, 0)]),
  (29, 7, [(3, 1, 0, 0), (4, 1, 0, 0), (5, 2, 0, 1), (15, 0, 4, 0), (16, 0, 4, 0)]),
  (37, 2, [(3, 1, 0, 0), (55, 0, 0, 0)])]
def k_X12_openBracket : List (Nat × Nat × List Ins) := [(0, 3, [(3, 0, 2, 0), (3, 0, 2, 0), (18, 12, 26, 291), (0, 1, 0, 8), (13, 3, 14, 0), (0, 0, 0, 1), (15, 0, 15, 0), (16, 0, 15, 0)]),
  (14, 3, [(0, 0, 0, 0), (16, 0, 15, 0)]),
  (15, 3, [(39, 22022, 223, 262), (3, 0, 2, 0), (20, 12, 15, 227), (12, 1, 41, 0), (3, 0, 2, 0), (11, 0, 0, 0), (18, 12, 26, 291), (0, 0, 0, 1), (6, 0, 0, 0), (22, 12, 26, 291), (3, 0, 2, 0), (3, 1, 0, 0), (0, 0, 0, 0), (39, 22032, 227, 294), (16, 0, 41, 0)]),
  (41, 0, [(42, 0, 0, 0)])]
def k_X12_leaf : List (Nat × Nat × List Ins) := [(0, 15, [(3, 0, 2, 0), (3, 1, 0, 0), (12, 0, 18, 0), (3, 0, 2, 0), (18, 12, 22, 297), (0, 1, 0, 50), (13, 3, 18, 0), (0, 0, 0, 1), (15, 0, 19, 0), (16, 0, 19, 0)]),
  (18, 13, [(0, 0, 0, 0), (16, 0, 19, 0)]),
  (19, 13, [(39, 22022, 223, 262), (3, 0, 2, 0), (20, 12, 15, 227), (12, 1, 45, 0), (3, 0, 2, 0), (3, 2, 0, 0), (3, 3, 0, 0), (39, 22032, 226, 275), (3, 0, 2, 0), (11, 0, 0, 0), (18, 12, 22, 297), (0, 0, 0, 1), (6, 0, 0, 0), (22, 12, 22, 297), (16, 0, 45, 0)]),
  (45, 0, [(42, 0, 0, 0)])]
def k_X12_readPart : List (Nat × Nat × List Ins) := [(0, 1, [(3, 0, 2, 0), (0, 1, 0, 91), (39, 22022, 222, 300), (12, 0, 17, 0), (3, 0, 2, 0), (0, 1, 0, 31), (39, 22022, 234, 303), (0, 0, 0, 1), (55, 0, 0, 0)]),
  (17, 1, [(3, 0, 2, 0), (20, 12, 16, 306), (12, 0, 31, 0), (3, 0, 2, 0), (39, 22012, 233, 309), (15, 0, 35, 0), (16, 0, 35, 0)]),
  (31, 1, [(3, 0, 2, 0), (39, 22012, 232, 312), (16, 0, 35, 0)]),
  (35, 1, [(4, 1, 0, 0), (3, 0, 2, 0), (18, 12, 12, 247), (0, 0, 0, 2), (13, 1, 59, 0), (3, 0, 2, 0), (19, 12, 13, 237), (1, 1, 315, 1000), (9, 0, 0, 0), (12, 4, 59, 0), (0, 0, 0, 1), (15, 0, 60, 0), (16, 0, 60, 0)]),
  (59, 3, [(0, 0, 0, 0), (16, 0, 60, 0)]),
  (60, 3, [(4, 2, 0, 0), (3, 0, 2, 0), (3, 1, 0, 0), (0, 0, 0, (-1)), (13, 1, 71, 0), (3, 2, 0, 0), (12, 0, 75, 0), (16, 0, 71, 0)]),
  (71, 7, [(0, 0, 0, 1), (15, 0, 76, 0), (16, 0, 76, 0)]),
  (75, 7, [(0, 0, 0, 0), (16, 0, 76, 0)]),
  (76, 7, [(3, 1, 0, 0), (0, 0, 0, (-1)), (13, 1, 85, 0), (0, 0, 0, 0), (15, 0, 86, 0), (16, 0, 86, 0)]),
  (85, 7, [(3, 1, 0, 0), (16, 0, 86, 0)]),
  (86, 7, [(3, 2, 0, 0), (12, 0, 98, 0), (3, 0, 2, 0), (19, 12, 13, 237), (48, 0, 0, 0), (15, 0, 99, 0), (16, 0, 99, 0)]),
  (98, 3, [(0, 0, 0, 0), (16, 0, 99, 0)]),
  (99, 3, [(39, 22042, 235, 317), (3, 0, 2, 0), (20, 12, 16, 306), (12, 0, 143, 0), (3, 1, 0, 0), (0, 1, 0, 7), (13, 1, 143, 0), (3, 0, 2, 0), (20, 12, 15, 227), (12, 1, 143, 0), (3, 0, 2, 0), (18, 12, 19, 266), (0, 0, 0, 1), (6, 1, 0, 0), (4, 3, 0, 0), (3, 0, 2, 0), (21, 12, 21, 39), (3, 3, 0, 0), (3, 0, 2, 0), (1, 0, 0, 0), (1, 1, 168, 11), (39, 22032, 224, 321), (27, 0, 0, 0), (16, 0, 143, 0)]),
  (143, 0, [(0, 0, 0, 3), (55, 0, 0, 0)])]
def k_X12_readPlain : List (Nat × Nat × List Ins) := [(0, 1, [(3, 0, 2, 0), (1, 1, 325, 14836), (39, 22022, 221, 287), (12, 0, 23, 0), (3, 0, 2, 0), (0, 1, 0, 27), (0, 0, 0, 0), (39, 22032, 227, 294), (3, 0, 2, 0), (39, 22012, 220, 231), (0, 0, 0, 0), (55, 0, 0, 0)]),
  (23, 1, [(3, 0, 2, 0), (0, 1, 0, 40), (39, 22022, 222, 300), (12, 0, 40, 0), (3, 0, 2, 0), (0, 1, 0, 30), (39, 22022, 234, 303), (0, 0, 0, 0), (55, 0, 0, 0)]),
  (40, 1, [(3, 0, 2, 0), (39, 22012, 236, 327), (55, 0, 0, 0)])]
def k_X12_behindSum : List (Nat × Nat × List Ins) := [(0, 3, [(3, 0, 2, 0), (0, 1, 0, 43), (39, 22022, 222, 300), (12, 0, 14, 0), (0, 1, 0, 20), (15, 0, 57, 0), (16, 0, 57, 0)]),
  (14, 3, [(3, 0, 2, 0), (0, 1, 0, 45), (39, 22022, 222, 300), (12, 0, 28, 0), (0, 1, 0, 21), (15, 0, 57, 0), (16, 0, 57, 0)]),
  (28, 3, [(3, 0, 2, 0), (0, 1, 0, 42), (39, 22022, 222, 300), (12, 0, 42, 0), (0, 1, 0, 22), (15, 0, 57, 0), (16, 0, 57, 0)]),
  (42, 3, [(3, 0, 2, 0), (0, 1, 0, 47), (39, 22022, 222, 300), (12, 0, 56, 0), (0, 1, 0, 23), (15, 0, 57, 0), (16, 0, 57, 0)]),
  (56, 3, [(0, 0, 0, (-1)), (16, 0, 57, 0)]),
  (57, 3, [(4, 2, 0, 0), (3, 2, 0, 0), (0, 0, 0, (-1)), (13, 0, 83, 0), (3, 0, 2, 0), (3, 2, 0, 0), (39, 10, 228, 272), (39, 22022, 229, 330), (3, 0, 2, 0), (3, 2, 0, 0), (0, 0, 0, 0), (39, 22032, 227, 294), (3, 0, 2, 0), (39, 22012, 220, 231), (0, 0, 0, 1), (55, 0, 0, 0)]),
  (83, 3, [(3, 0, 2, 0), (39, 22012, 230, 333), (4, 3, 0, 0), (3, 3, 0, 0), (0, 1, 0, 31), (13, 1, 138, 0), (3, 0, 2, 0), (3, 0, 2, 0), (0, 1, 0, 93), (39, 22022, 222, 300), (39, 22022, 223, 262), (3, 0, 2, 0), (20, 12, 15, 227), (12, 1, 136, 0), (3, 0, 2, 0), (0, 0, 0, 5), (39, 22022, 229, 330), (3, 0, 2, 0), (11, 0, 0, 0), (18, 12, 25, 269), (0, 0, 0, 1), (6, 1, 0, 0), (22, 12, 25, 269), (3, 0, 2, 0), (11, 0, 0, 0), (18, 12, 26, 291), (0, 0, 0, 1), (6, 1, 0, 0), (22, 12, 26, 291), (16, 0, 136, 0)]),
  (136, 0, [(0, 0, 0, 3), (55, 0, 0, 0)]),
  (138, 11, [(3, 3, 0, 0), (0, 0, 0, (-1)), (13, 1, 149, 0), (3, 1, 0, 0), (12, 1, 149, 0), (0, 0, 0, 4), (55, 0, 0, 0)]),
  (149, 1, [(3, 0, 2, 0), (39, 22012, 231, 336), (12, 0, 158, 0), (0, 0, 0, 2), (55, 0, 0, 0)]),
  (158, 1, [(3, 0, 2, 0), (0, 1, 0, 60), (39, 22022, 222, 300), (12, 0, 172, 0), (0, 1, 0, 24), (15, 0, 188, 0), (16, 0, 188, 0)]),
  (172, 1, [(3, 0, 2, 0), (0, 1, 0, 62), (39, 22022, 222, 300), (12, 0, 186, 0), (0, 1, 0, 25), (15, 0, 188, 0), (16, 0, 188, 0)]),
  (186, 1, [(0, 1, 0, 26), (16, 0, 188, 0)]),
  (188, 1, [(4, 2, 0, 0), (3, 0, 2, 0), (3, 2, 0, 0), (0, 1, 0, 26), (13, 1, 205, 0), (3, 0, 2, 0), (0, 1, 0, 61), (39, 22022, 222, 300), (12, 0, 209, 0), (16, 0, 205, 0)]),
  (205, 5, [(0, 0, 0, 1), (15, 0, 210, 0), (16, 0, 210, 0)]),
  (209, 5, [(0, 0, 0, 0), (16, 0, 210, 0)]),
  (210, 5, [(39, 22022, 223, 262), (3, 0, 2, 0), (20, 12, 15, 227), (12, 1, 231, 0), (3, 0, 2, 0), (0, 0, 0, 5), (39, 22022, 229, 330), (3, 0, 2, 0), (3, 2, 0, 0), (0, 0, 0, 0), (39, 22032, 227, 294), (16, 0, 231, 0)]),
  (231, 0, [(0, 0, 0, 1), (55, 0, 0, 0)])]
def k_X12_behindTest : List (Nat × Nat × List Ins) := [(0, 1, [(3, 0, 2, 0), (1, 1, 340, 1476), (39, 22022, 221, 287), (4, 1, 0, 0), (3, 1, 0, 0), (12, 1, 22, 0), (3, 0, 2, 0), (1, 1, 342, 498), (39, 22022, 221, 287), (12, 0, 76, 0), (16, 0, 22, 0)]),
  (22, 3, [(3, 0, 2, 0), (3, 1, 0, 0), (12, 0, 31, 0), (0, 0, 0, 2), (15, 0, 32, 0), (16, 0, 32, 0)]),
  (31, 3, [(0, 0, 0, 1), (16, 0, 32, 0)]),
  (32, 3, [(39, 22022, 229, 330), (3, 0, 2, 0), (3, 1, 0, 0), (12, 0, 45, 0), (0, 1, 0, 28), (15, 0, 47, 0), (16, 0, 47, 0)]),
  (45, 3, [(0, 1, 0, 29), (16, 0, 47, 0)]),
  (47, 3, [(3, 0, 2, 0), (18, 12, 19, 266), (39, 22032, 227, 294), (3, 0, 2, 0), (3, 1, 0, 0), (12, 0, 64, 0), (0, 1, 0, 28), (15, 0, 66, 0), (0, 0, 0, 0), (39, 22032, 226, 275), (3, 0, 2, 0), (39, 22012, 220, 231), (0, 0, 0, 0), (55, 0, 0, 0)]),
  (64, 1, [(0, 1, 0, 29), (0, 0, 0, 0), (39, 22032, 226, 275), (3, 0, 2, 0), (39, 22012, 220, 231), (0, 0, 0, 0), (55, 0, 0, 0)]),
  (76, 1, [(3, 0, 2, 0), (39, 22012, 230, 333), (0, 0, 0, (-1)), (13, 1, 86, 0), (0, 0, 0, 4), (55, 0, 0, 0)]),
  (86, 1, [(3, 0, 2, 0), (3, 0, 2, 0), (0, 1, 0, 41), (39, 22022, 222, 300), (39, 22022, 223, 262), (3, 0, 2, 0), (20, 12, 15, 227), (12, 1, 128, 0), (3, 0, 2, 0), (0, 0, 0, 1), (39, 22022, 229, 330), (3, 0, 2, 0), (11, 0, 0, 0), (18, 12, 25, 269), (0, 0, 0, 1), (6, 1, 0, 0), (22, 12, 25, 269), (3, 0, 2, 0), (11, 0, 0, 0), (18, 12, 26, 291), (0, 0, 0, 1), (6, 1, 0, 0), (22, 12, 26, 291), (16, 0, 128, 0)]),
  (128, 0, [(0, 0, 0, 2), (55, 0, 0, 0)])]
def k_X12_readExpression : List (Nat × Nat × List Ins) := [(0, 3, [(3, 0, 2, 0), (0, 0, 0, 0), (22, 12, 25, 269), (3, 0, 2, 0), (0, 0, 0, 0), (22, 12, 26, 291), (3, 1, 0, 0), (12, 0, 18, 0), (0, 0, 0, 0), (15, 0, 19, 0), (4, 2, 0, 0), (16, 0, 20, 0)]),
  (18, 3, [(0, 0, 0, 1), (4, 2, 0, 0), (16, 0, 20, 0)]),
  (20, 7, [(3, 0, 2, 0), (20, 12, 15, 227), (12, 1, 76, 0), (3, 2, 0, 0), (0, 0, 0, 4), (13, 0, 76, 0), (3, 2, 0, 0), (12, 1, 43, 0), (3, 0, 2, 0), (39, 22012, 237, 344), (15, 0, 72, 0), (4, 2, 0, 0), (15, 0, 20, 0), (16, 0, 20, 0)]),
  (43, 7, [(3, 2, 0, 0), (0, 0, 0, 1), (13, 1, 55, 0), (3, 0, 2, 0), (39, 22012, 236, 327), (15, 0, 72, 0), (4, 2, 0, 0), (15, 0, 20, 0), (16, 0, 20, 0)]),
  (55, 7, [(3, 2, 0, 0), (0, 0, 0, 3), (13, 1, 68, 0), (3, 0, 2, 0), (3, 1, 0, 0), (39, 22022, 238, 347), (15, 0, 72, 0), (4, 2, 0, 0), (15, 0, 20, 0), (16, 0, 20, 0)]),
  (68, 3, [(3, 0, 2, 0), (39, 22012, 239, 351), (4, 2, 0, 0), (15, 0, 20, 0), (16, 0, 20, 0)]),
  (76, 1, [(3, 0, 2, 0), (0, 0, 0, 1), (39, 22022, 229, 330), (42, 0, 0, 0)])]
def k_X12_readClause : List (Nat × Nat × List Ins) := [(0, 1, [(0, 0, 0, (-1)), (4, 1, 0, 0), (0, 0, 0, 0), (4, 2, 0, 0), (16, 0, 4, 0)]),
  (4, 7, [(3, 2, 0, 0), (0, 0, 0, 5), (13, 3, 34, 0), (3, 0, 2, 0), (3, 0, 2, 0), (21, 12, 29, 97), (3, 2, 0, 0), (26, 1, 0, 0), (39, 22022, 221, 287), (12, 0, 26, 0), (3, 2, 0, 0), (15, 0, 27, 0), (4, 1, 0, 0), (5, 2, 0, 1), (15, 0, 4, 0), (16, 0, 4, 0)]),
  (26, 7, [(3, 1, 0, 0), (4, 1, 0, 0), (5, 2, 0, 1), (15, 0, 4, 0), (16, 0, 4, 0)]),
  (34, 3, [(3, 0, 2, 0), (3, 1, 0, 0), (0, 0, 0, (-1)), (13, 0, 53, 0), (3, 0, 2, 0), (18, 12, 17, 354), (0, 1, 0, 12), (13, 3, 53, 0), (0, 0, 0, 1), (15, 0, 54, 0), (16, 0, 54, 0)]),
  (53, 3, [(0, 0, 0, 0), (16, 0, 54, 0)]),
  (54, 3, [(39, 22022, 223, 262), (3, 0, 2, 0), (20, 12, 15, 227), (12, 0, 65, 0), (42, 0, 0, 0)]),
  (65, 3, [(0, 1, 0, 8), (3, 0, 2, 0), (18, 12, 17, 354), (6, 2, 0, 0), (4, 2, 0, 0), (0, 0, 0, 0), (4, 3, 0, 0), (16, 0, 75, 0)]),
  (75, 15, [(3, 3, 0, 0), (0, 1, 0, 8), (13, 3, 96, 0), (3, 0, 2, 0), (21, 12, 18, 33), (3, 2, 0, 0), (3, 3, 0, 0), (6, 0, 0, 0), (0, 0, 0, 0), (27, 0, 0, 0), (5, 3, 0, 1), (15, 0, 75, 0), (16, 0, 75, 0)]),
  (96, 7, [(3, 0, 2, 0), (21, 12, 18, 33), (3, 2, 0, 0), (3, 1, 0, 0), (27, 0, 0, 0), (3, 0, 2, 0), (11, 0, 0, 0), (18, 12, 17, 354), (0, 0, 0, 1), (6, 0, 0, 0), (22, 12, 17, 354), (3, 0, 2, 0), (21, 12, 18, 33), (3, 2, 0, 0), (0, 0, 0, 3), (6, 0, 0, 0), (3, 0, 2, 0), (18, 12, 19, 266), (27, 0, 0, 0), (3, 1, 0, 0), (0, 0, 0, 4), (13, 0, 135, 0), (3, 0, 2, 0), (0, 0, 0, 0), (39, 22022, 240, 357), (16, 0, 135, 0)]),
  (135, 5, [(3, 0, 2, 0), (21, 12, 18, 33), (3, 2, 0, 0), (0, 0, 0, 4), (6, 0, 0, 0), (3, 0, 2, 0), (18, 12, 19, 266), (27, 0, 0, 0), (3, 0, 2, 0), (21, 12, 18, 33), (3, 2, 0, 0), (0, 0, 0, 5), (6, 0, 0, 0), (3, 0, 2, 0), (18, 12, 19, 266), (27, 0, 0, 0), (3, 0, 2, 0), (20, 12, 15, 227), (12, 1, 185, 0), (3, 0, 2, 0), (1, 1, 360, 294), (39, 22022, 221, 287), (12, 0, 185, 0), (3, 0, 2, 0), (39, 22012, 220, 231), (3, 0, 2, 0), (0, 0, 0, 1), (39, 22022, 240, 357), (16, 0, 185, 0)]),
  (185, 5, [(3, 0, 2, 0), (21, 12, 18, 33), (3, 2, 0, 0), (0, 1, 0, 6), (6, 0, 0, 0), (3, 0, 2, 0), (18, 12, 19, 266), (27, 0, 0, 0), (42, 0, 0, 0)])]
def k_X12_beginText : List (Nat × Nat × List Ins) := [(0, 3, [(3, 0, 2, 0), (3, 1, 0, 0), (24, 12, 16, 306), (3, 0, 2, 0), (39, 22012, 219, 362), (3, 0, 2, 0), (0, 0, 0, 0), (22, 12, 17, 354), (3, 0, 2, 0), (0, 0, 0, 0), (22, 12, 19, 266), (3, 0, 2, 0), (0, 0, 0, 0), (22, 12, 22, 297), (42, 0, 0, 0)])]
def k_X12_endText : List (Nat × Nat × List Ins) := [(0, 1, [(3, 0, 2, 0), (20, 12, 15, 227), (12, 1, 19, 0), (3, 0, 2, 0), (18, 12, 12, 247), (12, 0, 19, 0), (3, 0, 2, 0), (0, 0, 0, 0), (39, 22022, 223, 262), (16, 0, 19, 0)]),
  (19, 1, [(3, 0, 2, 0), (0, 0, 0, 0), (24, 12, 16, 306), (3, 0, 2, 0), (0, 0, 0, 0), (22, 12, 9, 214), (42, 0, 0, 0)])]
def k_X12_law : List (Nat × Nat × List Ins) := [(0, 1, [(3, 0, 2, 0), (0, 0, 0, 0), (22, 12, 0, 154), (3, 0, 2, 0), (21, 12, 3, 13), (0, 0, 0, 1), (26, 0, 0, 0), (0, 1, 0, 6), (13, 1, 28, 0), (3, 0, 2, 0), (0, 0, 0, 0), (22, 12, 9, 214), (3, 0, 2, 0), (0, 1, 0, (-5)), (39, 22022, 190, 164), (55, 0, 0, 0)]),
  (28, 1, [(3, 0, 2, 0), (0, 0, 0, 0), (39, 22022, 242, 365), (3, 0, 2, 0), (39, 22012, 241, 368), (16, 0, 37, 0)]),
  (37, 1, [(3, 0, 2, 0), (20, 12, 15, 227), (12, 1, 64, 0), (3, 0, 2, 0), (0, 1, 0, 59), (39, 22022, 222, 300), (12, 0, 64, 0), (3, 0, 2, 0), (39, 22012, 220, 231), (3, 0, 2, 0), (39, 22012, 241, 368), (15, 0, 37, 0), (16, 0, 37, 0)]),
  (64, 1, [(3, 0, 2, 0), (39, 22012, 243, 371), (3, 0, 2, 0), (20, 12, 15, 227), (12, 0, 82, 0), (3, 0, 2, 0), (0, 1, 0, (-6)), (39, 22022, 190, 164), (55, 0, 0, 0)]),
  (82, 1, [(0, 2, 0, 380), (0, 2, 0, 900), (3, 0, 2, 0), (21, 12, 3, 13), (0, 0, 0, 1), (26, 0, 0, 0), (6, 2, 0, 0), (6, 0, 0, 0), (4, 1, 0, 0), (3, 0, 2, 0), (21, 12, 3, 13), (3, 1, 0, 0), (0, 0, 0, 1), (6, 0, 0, 0), (3, 0, 2, 0), (18, 12, 17, 354), (27, 0, 0, 0), (0, 0, 0, 0), (4, 2, 0, 0), (16, 0, 111, 0)]),
  (111, 7, [(3, 2, 0, 0), (0, 1, 0, 8), (3, 0, 2, 0), (18, 12, 17, 354), (6, 2, 0, 0), (13, 3, 144, 0), (3, 0, 2, 0), (21, 12, 3, 13), (3, 1, 0, 0), (0, 0, 0, 2), (6, 0, 0, 0), (3, 2, 0, 0), (6, 0, 0, 0), (3, 0, 2, 0), (21, 12, 18, 33), (3, 2, 0, 0), (26, 0, 0, 0), (27, 0, 0, 0), (5, 2, 0, 1), (15, 0, 111, 0), (16, 0, 111, 0)]),
  (144, 3, [(0, 0, 0, 0), (4, 2, 0, 0), (16, 0, 146, 0)]),
  (146, 7, [(3, 2, 0, 0), (3, 0, 2, 0), (18, 12, 19, 266), (13, 3, 200, 0), (3, 0, 2, 0), (21, 12, 3, 13), (3, 1, 0, 0), (0, 1, 0, 98), (6, 0, 0, 0), (0, 0, 0, 2), (3, 2, 0, 0), (6, 2, 0, 0), (6, 0, 0, 0), (3, 0, 2, 0), (21, 12, 20, 36), (3, 2, 0, 0), (26, 0, 0, 0), (27, 0, 0, 0), (3, 0, 2, 0), (21, 12, 3, 13), (3, 1, 0, 0), (0, 1, 0, 98), (6, 0, 0, 0), (0, 0, 0, 2), (3, 2, 0, 0), (6, 2, 0, 0), (6, 0, 0, 0), (0, 0, 0, 1), (6, 0, 0, 0), (3, 0, 2, 0), (21, 12, 21, 39), (3, 2, 0, 0), (26, 0, 0, 0), (27, 0, 0, 0), (5, 2, 0, 1), (15, 0, 146, 0), (16, 0, 146, 0)]),
  (200, 1, [(3, 0, 2, 0), (21, 12, 3, 13), (0, 0, 0, 1), (50, 0, 0, 0), (26, 0, 0, 0), (0, 0, 0, 1), (6, 0, 0, 0), (27, 0, 0, 0), (3, 0, 2, 0), (3, 0, 2, 0), (21, 12, 3, 13), (0, 0, 0, 1), (26, 0, 0, 0), (0, 0, 0, 1), (6, 1, 0, 0), (39, 22022, 190, 164), (55, 0, 0, 0)])]
def k_X12_force : List (Nat × Nat × List Ins) := [(0, 3, [(3, 0, 2, 0), (0, 0, 0, 0), (22, 12, 0, 154), (3, 1, 0, 0), (0, 0, 0, (-1)), (13, 0, 28, 0), (3, 1, 0, 0), (10, 0, 0, 0), (1, 0, 0, 0), (3, 0, 2, 0), (21, 12, 3, 13), (0, 0, 0, 1), (26, 0, 0, 0), (10, 0, 0, 0), (1, 0, 0, 1), (8, 1, 0, 0), (39, 30, 186, 160), (12, 0, 37, 0), (16, 0, 28, 0)]),
  (28, 3, [(3, 0, 2, 0), (0, 0, 0, 2), (3, 1, 0, 0), (39, 22032, 191, 189), (15, 0, 43, 0), (55, 0, 0, 0)]),
  (37, 1, [(3, 0, 2, 0), (0, 1, 0, (-2)), (39, 22022, 190, 164), (55, 0, 0, 0)])]
def k_X12_reckon : List (Nat × Nat × List Ins) := [(0, 23, [(3, 1, 0, 0), (17, 7, 0, 39)]),
  (40, 20, [(3, 2, 1, 0), (3, 4, 1, 0), (8, 0, 0, 0), (56, 0, 0, 0)]),
  (45, 20, [(3, 2, 1, 0), (3, 4, 1, 0), (8, 1, 0, 0), (56, 0, 0, 0)]),
  (50, 20, [(3, 2, 1, 0), (3, 4, 1, 0), (8, 2, 0, 0), (56, 0, 0, 0)]),
  (55, 21, [(3, 0, 2, 0), (3, 4, 1, 0), (1, 0, 0, 0), (9, 0, 0, 0), (12, 1, 67, 0), (0, 0, 0, 1), (15, 0, 68, 0), (16, 0, 68, 0)]),
  (67, 21, [(0, 0, 0, 0), (16, 0, 68, 0)]),
  (68, 21, [(24, 12, 34, 374), (3, 0, 2, 0), (20, 12, 34, 374), (12, 0, 82, 0), (1, 0, 0, 0), (15, 0, 86, 0), (56, 0, 0, 0)]),
  (82, 20, [(3, 2, 1, 0), (3, 4, 1, 0), (45, 0, 0, 0), (56, 0, 0, 0)]),
  (87, 20, [(3, 2, 1, 0), (3, 4, 1, 0), (9, 0, 0, 0), (12, 3, 98, 0), (1, 0, 0, 1), (15, 0, 99, 0), (56, 0, 0, 0)]),
  (98, 0, [(1, 0, 0, 0), (56, 0, 0, 0)]),
  (100, 20, [(3, 2, 1, 0), (3, 4, 1, 0), (9, 0, 0, 0), (12, 5, 111, 0), (1, 0, 0, 1), (15, 0, 112, 0), (56, 0, 0, 0)]),
  (111, 0, [(1, 0, 0, 0), (56, 0, 0, 0)]),
  (113, 20, [(3, 2, 1, 0), (3, 4, 1, 0), (9, 0, 0, 0), (12, 1, 124, 0), (1, 0, 0, 1), (15, 0, 125, 0), (56, 0, 0, 0)]),
  (124, 0, [(1, 0, 0, 0), (56, 0, 0, 0)])]
def k_X12_reckonAll : List (Nat × Nat × List Ins) := [(0, 7, [(3, 0, 2, 0), (0, 0, 0, 0), (24, 12, 34, 374), (0, 0, 0, 0), (4, 3, 0, 0), (3, 1, 0, 0), (4, 4, 0, 0), (16, 0, 10, 0)]),
  (10, 29, [(3, 4, 0, 0), (3, 2, 0, 0), (13, 3, 313, 0), (3, 0, 2, 0), (20, 12, 34, 374), (12, 1, 313, 0), (3, 0, 2, 0), (20, 12, 16, 306), (12, 0, 40, 0), (3, 0, 2, 0), (21, 12, 20, 36), (3, 4, 0, 0), (26, 0, 0, 0), (15, 0, 57, 0), (16, 0, 57, 0)]),
  (40, 29, [(3, 0, 2, 0), (21, 12, 3, 13), (3, 0, 2, 0), (18, 12, 30, 377), (0, 1, 0, 98), (6, 0, 0, 0), (0, 0, 0, 2), (3, 4, 0, 0), (6, 2, 0, 0), (6, 0, 0, 0), (26, 0, 0, 0), (16, 0, 57, 0)]),
  (57, 29, [(4, 5, 0, 0), (3, 0, 2, 0), (20, 12, 16, 306), (12, 0, 76, 0), (3, 0, 2, 0), (21, 12, 21, 39), (3, 4, 0, 0), (26, 0, 0, 0), (15, 0, 95, 0), (16, 0, 95, 0)]),
  (76, 61, [(3, 0, 2, 0), (21, 12, 3, 13), (3, 0, 2, 0), (18, 12, 30, 377), (0, 1, 0, 98), (6, 0, 0, 0), (0, 0, 0, 2), (3, 4, 0, 0), (6, 2, 0, 0), (6, 0, 0, 0), (0, 0, 0, 1), (6, 0, 0, 0), (26, 0, 0, 0), (16, 0, 95, 0)]),
  (95, 61, [(4, 6, 0, 0), (5, 4, 0, 1), (3, 5, 0, 0), (0, 1, 0, 20), (13, 3, 171, 0), (3, 0, 2, 0), (21, 12, 33, 106), (3, 3, 0, 0), (3, 5, 0, 0), (12, 1, 123, 0), (3, 6, 0, 0), (10, 0, 0, 0), (15, 0, 164, 0), (52, 0, 0, 0), (5, 3, 0, 1), (15, 0, 310, 0), (15, 0, 10, 0), (16, 0, 10, 0)]),
  (123, 125, [(3, 0, 2, 0), (20, 12, 16, 306), (12, 1, 140, 0), (3, 0, 2, 0), (21, 12, 31, 100), (3, 5, 0, 0), (26, 1, 0, 0), (15, 0, 164, 0), (52, 0, 0, 0), (5, 3, 0, 1), (15, 0, 310, 0), (15, 0, 10, 0), (16, 0, 10, 0)]),
  (140, 125, [(3, 5, 0, 0), (0, 1, 0, 7), (13, 1, 157, 0), (3, 0, 2, 0), (3, 6, 0, 0), (39, 22022, 203, 380), (10, 0, 0, 0), (15, 0, 164, 0), (52, 0, 0, 0), (5, 3, 0, 1), (15, 0, 310, 0), (15, 0, 10, 0), (16, 0, 10, 0)]),
  (157, 61, [(3, 0, 2, 0), (21, 12, 32, 103), (3, 5, 0, 0), (26, 1, 0, 0), (52, 0, 0, 0), (5, 3, 0, 1), (15, 0, 310, 0), (15, 0, 10, 0), (16, 0, 10, 0)]),
  (171, 125, [(3, 5, 0, 0), (0, 1, 0, 27), (13, 3, 248, 0), (5, 3, 0, (-1)), (3, 0, 2, 0), (21, 12, 33, 106), (3, 3, 0, 0), (0, 0, 0, 1), (6, 1, 0, 0), (3, 0, 2, 0), (3, 5, 0, 0), (3, 0, 2, 0), (21, 12, 33, 106), (3, 3, 0, 0), (0, 0, 0, 1), (6, 1, 0, 0), (26, 1, 0, 0), (3, 0, 2, 0), (21, 12, 33, 106), (3, 3, 0, 0), (26, 1, 0, 0), (39, 22042, 246, 383), (52, 0, 0, 0), (3, 0, 2, 0), (3, 0, 2, 0), (20, 12, 34, 374), (12, 1, 237, 0), (3, 0, 2, 0), (21, 12, 33, 106), (3, 3, 0, 0), (0, 0, 0, 1), (6, 1, 0, 0), (26, 1, 0, 0), (1, 1, 387, (-1000000000)), (1, 1, 389, 1000000000), (39, 30, 186, 160), (12, 1, 241, 0), (16, 0, 237, 0)]),
  (237, 29, [(0, 0, 0, 1), (15, 0, 242, 0), (24, 12, 34, 374), (15, 0, 310, 0), (15, 0, 10, 0), (16, 0, 10, 0)]),
  (241, 29, [(0, 0, 0, 0), (24, 12, 34, 374), (15, 0, 310, 0), (15, 0, 10, 0), (16, 0, 10, 0)]),
  (248, 125, [(3, 5, 0, 0), (0, 1, 0, 27), (13, 1, 276, 0), (3, 0, 2, 0), (21, 12, 33, 106), (3, 3, 0, 0), (0, 0, 0, 1), (6, 1, 0, 0), (1, 0, 0, 1), (3, 0, 2, 0), (21, 12, 33, 106), (3, 3, 0, 0), (0, 0, 0, 1), (6, 1, 0, 0), (26, 1, 0, 0), (8, 1, 0, 0), (52, 0, 0, 0), (15, 0, 310, 0), (15, 0, 10, 0), (16, 0, 10, 0)]),
  (276, 125, [(3, 0, 2, 0), (21, 12, 33, 106), (3, 3, 0, 0), (0, 0, 0, 1), (6, 1, 0, 0), (26, 1, 0, 0), (3, 5, 0, 0), (0, 1, 0, 28), (13, 1, 295, 0), (1, 0, 0, 0), (15, 0, 296, 0), (16, 0, 296, 0)]),
  (295, 93, [(1, 0, 0, 1), (16, 0, 296, 0)]),
  (296, 93, [(9, 0, 0, 0), (12, 1, 307, 0), (3, 6, 0, 0), (4, 4, 0, 0), (15, 0, 310, 0), (15, 0, 10, 0), (16, 0, 10, 0)]),
  (307, 29, [(5, 3, 0, (-1)), (15, 0, 10, 0), (16, 0, 10, 0)]),
  (313, 9, [(3, 0, 2, 0), (3, 3, 0, 0), (12, 5, 327, 0), (3, 0, 2, 0), (21, 12, 33, 106), (0, 0, 0, 0), (26, 1, 0, 0), (15, 0, 328, 0), (23, 12, 35, 391), (42, 0, 0, 0)]),
  (327, 0, [(1, 0, 0, 0), (23, 12, 35, 391), (42, 0, 0, 0)])]
def k_X12_isSo : List (Nat × Nat × List Ins) := [(0, 3, [(3, 0, 2, 0), (21, 12, 3, 13), (3, 1, 0, 0), (0, 0, 0, 5), (6, 0, 0, 0), (26, 0, 0, 0), (3, 0, 2, 0), (21, 12, 3, 13), (3, 1, 0, 0), (0, 1, 0, 6), (6, 0, 0, 0), (26, 0, 0, 0), (13, 3, 59, 0), (3, 0, 2, 0), (3, 0, 2, 0), (21, 12, 3, 13), (3, 1, 0, 0), (0, 0, 0, 5), (6, 0, 0, 0), (26, 0, 0, 0), (3, 0, 2, 0), (21, 12, 3, 13), (3, 1, 0, 0), (0, 1, 0, 6), (6, 0, 0, 0), (26, 0, 0, 0), (39, 22032, 247, 394), (3, 0, 2, 0), (20, 12, 34, 374), (12, 1, 57, 0), (3, 0, 2, 0), (19, 12, 35, 391), (1, 0, 0, 0), (9, 0, 0, 0), (12, 1, 59, 0), (16, 0, 57, 0)]),
  (57, 0, [(0, 0, 0, 0), (58, 0, 0, 0)]),
  (59, 3, [(3, 0, 2, 0), (21, 12, 3, 13), (3, 1, 0, 0), (26, 0, 0, 0), (0, 0, 0, 4), (13, 0, 110, 0), (3, 0, 2, 0), (3, 0, 2, 0), (21, 12, 3, 13), (3, 1, 0, 0), (0, 0, 0, 3), (6, 0, 0, 0), (26, 0, 0, 0), (3, 0, 2, 0), (21, 12, 3, 13), (3, 1, 0, 0), (0, 0, 0, 4), (6, 0, 0, 0), (26, 0, 0, 0), (39, 22032, 247, 394), (3, 0, 2, 0), (3, 0, 2, 0), (19, 12, 35, 391), (23, 12, 36, 397), (3, 0, 2, 0), (20, 12, 34, 374), (12, 1, 108, 0), (0, 0, 0, 1), (15, 0, 109, 0), (58, 0, 0, 0)]),
  (108, 0, [(0, 0, 0, 0), (58, 0, 0, 0)]),
  (110, 0, [(0, 0, 0, 1), (58, 0, 0, 0)])]
def k_X12_tells : List (Nat × Nat × List Ins) := [(0, 7, [(3, 0, 2, 0), (21, 12, 3, 13), (0, 0, 0, 2), (26, 0, 0, 0), (0, 0, 0, (-1)), (13, 1, 12, 0), (3, 2, 1, 0), (56, 0, 0, 0)]),
  (12, 7, [(3, 0, 2, 0), (0, 2, 0, 380), (0, 2, 0, 900), (3, 0, 2, 0), (21, 12, 3, 13), (0, 0, 0, 2), (26, 0, 0, 0), (6, 2, 0, 0), (6, 0, 0, 0), (22, 12, 30, 377), (3, 2, 1, 0), (4, 4, 1, 0), (0, 0, 0, 0), (4, 6, 0, 0), (16, 0, 36, 0)]),
  (36, 83, [(3, 6, 0, 0), (3, 0, 2, 0), (21, 12, 3, 13), (3, 0, 2, 0), (18, 12, 30, 377), (0, 0, 0, 1), (6, 0, 0, 0), (26, 0, 0, 0), (13, 3, 107, 0), (3, 0, 2, 0), (18, 12, 30, 377), (0, 0, 0, 2), (6, 0, 0, 0), (0, 1, 0, 8), (3, 6, 0, 0), (6, 2, 0, 0), (6, 0, 0, 0), (4, 7, 0, 0), (3, 0, 2, 0), (21, 12, 3, 13), (3, 7, 0, 0), (26, 0, 0, 0), (3, 1, 0, 0), (13, 1, 101, 0), (3, 0, 2, 0), (3, 7, 0, 0), (39, 22022, 248, 400), (12, 0, 101, 0), (3, 1, 0, 0), (0, 0, 0, 4), (13, 1, 95, 0), (1, 0, 0, 1), (15, 0, 99, 0), (4, 4, 1, 0), (16, 0, 101, 0)]),
  (95, 67, [(3, 0, 2, 0), (19, 12, 36, 397), (4, 4, 1, 0), (16, 0, 101, 0)]),
  (101, 83, [(5, 6, 0, 1), (15, 0, 36, 0), (16, 0, 36, 0)]),
  (107, 16, [(3, 4, 1, 0), (56, 0, 0, 0)])]
def k_X12_setNone : List (Nat × Nat × List Ins) := [(0, 3, [(0, 0, 0, 0), (4, 2, 0, 0), (16, 0, 2, 0)]),
  (2, 7, [(3, 2, 0, 0), (0, 1, 0, 13), (13, 3, 23, 0), (3, 0, 2, 0), (21, 12, 31, 100), (3, 2, 0, 0), (1, 1, 254, (-1)), (52, 0, 0, 0), (5, 2, 0, 1), (15, 0, 2, 0), (16, 0, 2, 0)]),
  (23, 3, [(3, 0, 2, 0), (21, 12, 31, 100), (0, 0, 0, 3), (3, 1, 0, 0), (10, 0, 0, 0), (52, 0, 0, 0), (3, 0, 2, 0), (21, 12, 31, 100), (0, 1, 0, 6), (3, 0, 2, 0), (21, 12, 3, 13), (0, 1, 0, 9), (26, 0, 0, 0), (10, 0, 0, 0), (52, 0, 0, 0), (42, 0, 0, 0)])]
def k_X12_ageIn : List (Nat × Nat × List Ins) := [(0, 3, [(3, 0, 2, 0), (21, 12, 3, 13), (0, 1, 0, 7), (26, 0, 0, 0), (3, 0, 2, 0), (21, 12, 3, 13), (0, 1, 0, 8), (26, 0, 0, 0), (0, 0, 0, 2), (6, 1, 0, 0), (3, 1, 0, 0), (6, 2, 0, 0), (6, 0, 0, 0), (10, 0, 0, 0), (0, 0, 0, 0), (0, 2, 0, 199), (39, 30, 189, 403), (55, 0, 0, 0)])]
def k_X12_looksOf : List (Nat × Nat × List Ins) := [(0, 7, [(0, 0, 0, (-1)), (4, 3, 0, 0), (0, 0, 0, (-1)), (4, 4, 0, 0), (0, 0, 0, 0), (4, 5, 0, 0), (16, 0, 8, 0)]),
  (8, 63, [(3, 5, 0, 0), (3, 0, 2, 0), (21, 12, 3, 13), (0, 0, 0, 3), (26, 0, 0, 0), (13, 3, 94, 0), (0, 2, 0, 258), (0, 0, 0, 3), (3, 5, 0, 0), (6, 2, 0, 0), (6, 0, 0, 0), (4, 6, 0, 0), (3, 0, 2, 0), (21, 12, 3, 13), (3, 6, 0, 0), (26, 0, 0, 0), (3, 1, 0, 0), (13, 1, 88, 0), (3, 0, 2, 0), (21, 12, 3, 13), (3, 6, 0, 0), (0, 0, 0, 1), (6, 0, 0, 0), (26, 0, 0, 0), (3, 2, 0, 0), (13, 4, 88, 0), (3, 0, 2, 0), (21, 12, 3, 13), (3, 6, 0, 0), (0, 0, 0, 1), (6, 0, 0, 0), (26, 0, 0, 0), (3, 4, 0, 0), (13, 2, 88, 0), (3, 0, 2, 0), (21, 12, 3, 13), (3, 6, 0, 0), (0, 0, 0, 1), (6, 0, 0, 0), (26, 0, 0, 0), (4, 4, 0, 0), (3, 0, 2, 0), (21, 12, 3, 13), (3, 6, 0, 0), (0, 0, 0, 2), (6, 0, 0, 0), (26, 0, 0, 0), (4, 3, 0, 0), (16, 0, 88, 0)]),
  (88, 63, [(5, 5, 0, 1), (15, 0, 8, 0), (16, 0, 8, 0)]),
  (94, 15, [(3, 3, 0, 0), (0, 0, 0, (-1)), (13, 0, 101, 0), (3, 3, 0, 0), (55, 0, 0, 0)]),
  (101, 7, [(3, 0, 2, 0), (3, 2, 0, 0), (39, 22022, 250, 407), (3, 0, 2, 0), (21, 12, 31, 100), (0, 0, 0, 1), (3, 1, 0, 0), (10, 0, 0, 0), (52, 0, 0, 0), (3, 0, 2, 0), (21, 12, 31, 100), (0, 0, 0, 2), (3, 0, 2, 0), (3, 2, 0, 0), (39, 22022, 251, 410), (10, 0, 0, 0), (52, 0, 0, 0), (3, 0, 2, 0), (0, 0, 0, 0), (3, 0, 2, 0), (3, 2, 0, 0), (39, 22022, 251, 410), (0, 1, 0, 10), (43, 0, 0, 0), (10, 0, 0, 0), (0, 0, 0, 0), (0, 1, 0, 9), (39, 30, 189, 403), (10, 0, 0, 0), (39, 22032, 249, 413), (0, 0, 0, 0), (0, 1, 0, 9), (39, 30, 189, 403), (55, 0, 0, 0)])]
def k_X12_letsOf : List (Nat × Nat × List Ins) := [(0, 7, [(3, 0, 2, 0), (3, 2, 0, 0), (39, 22022, 250, 407), (3, 0, 2, 0), (21, 12, 31, 100), (0, 0, 0, 1), (3, 1, 0, 0), (10, 0, 0, 0), (52, 0, 0, 0), (3, 0, 2, 0), (21, 12, 31, 100), (0, 0, 0, 2), (3, 0, 2, 0), (3, 2, 0, 0), (39, 22022, 251, 410), (10, 0, 0, 0), (52, 0, 0, 0), (3, 0, 2, 0), (0, 0, 0, 1), (1, 1, 170, 9), (39, 22032, 249, 413), (0, 0, 0, 0), (0, 1, 0, 9), (39, 30, 189, 403), (55, 0, 0, 0)])]
def k_X12_setPainter : List (Nat × Nat × List Ins) := [(0, 7, [(3, 0, 2, 0), (3, 2, 0, 0), (39, 22022, 250, 407), (3, 0, 2, 0), (21, 12, 31, 100), (0, 0, 0, 2), (3, 0, 2, 0), (3, 2, 0, 0), (39, 22022, 251, 410), (10, 0, 0, 0), (52, 0, 0, 0), (3, 0, 2, 0), (21, 12, 31, 100), (0, 0, 0, 4), (3, 1, 0, 0), (10, 0, 0, 0), (52, 0, 0, 0), (3, 0, 2, 0), (21, 12, 31, 100), (0, 0, 0, 5), (3, 0, 2, 0), (21, 12, 3, 13), (0, 2, 0, 233), (0, 0, 0, 5), (3, 1, 0, 0), (6, 2, 0, 0), (6, 0, 0, 0), (0, 0, 0, 1), (6, 0, 0, 0), (26, 0, 0, 0), (10, 0, 0, 0), (52, 0, 0, 0), (42, 0, 0, 0)])]
def k_X12_asksOf : List (Nat × Nat × List Ins) := [(0, 7, [(3, 0, 2, 0), (3, 1, 0, 0), (3, 2, 0, 0), (39, 22032, 254, 417), (3, 0, 2, 0), (0, 0, 0, 2), (3, 0, 2, 0), (21, 12, 3, 13), (0, 2, 0, 233), (0, 0, 0, 5), (3, 1, 0, 0), (6, 2, 0, 0), (6, 0, 0, 0), (0, 0, 0, 1), (6, 0, 0, 0), (26, 0, 0, 0), (10, 0, 0, 0), (39, 22032, 249, 413), (0, 0, 0, 0), (0, 2, 0, 999), (39, 30, 189, 403), (55, 0, 0, 0)])]
def k_X12_isBarred : List (Nat × Nat × List Ins) := [(0, 7, [(3, 0, 2, 0), (3, 1, 0, 0), (3, 2, 0, 0), (39, 22032, 254, 417), (3, 0, 2, 0), (0, 0, 0, 4), (1, 0, 0, 0), (39, 22032, 249, 413), (1, 0, 0, 1), (9, 0, 0, 0), (12, 1, 21, 0), (0, 0, 0, 1), (15, 0, 22, 0), (58, 0, 0, 0)]),
  (21, 0, [(0, 0, 0, 0), (58, 0, 0, 0)])]
def k_X12_looks : List (Nat × Nat × List Ins) := [(0, 15, [(3, 0, 2, 0), (0, 0, 0, 0), (22, 12, 0, 154), (3, 2, 0, 0), (39, 10, 196, 211), (12, 0, 34, 0), (3, 1, 0, 0), (0, 0, 0, (-1)), (13, 0, 36, 0), (3, 1, 0, 0), (39, 10, 194, 182), (12, 0, 34, 0), (3, 3, 0, 0), (10, 0, 0, 0), (1, 0, 0, 0), (1, 0, 0, 1), (39, 30, 186, 160), (12, 1, 36, 0), (16, 0, 34, 0)]),
  (34, 0, [(0, 0, 0, (-1)), (55, 0, 0, 0)]),
  (36, 15, [(3, 1, 0, 0), (0, 0, 0, (-1)), (13, 1, 49, 0), (3, 0, 2, 0), (3, 2, 0, 0), (39, 22022, 251, 410), (15, 0, 68, 0), (55, 0, 0, 0)]),
  (49, 15, [(3, 3, 0, 0), (12, 1, 62, 0), (3, 0, 2, 0), (3, 1, 0, 0), (3, 2, 0, 0), (39, 22032, 252, 420), (15, 0, 68, 0), (55, 0, 0, 0)]),
  (62, 7, [(3, 0, 2, 0), (3, 1, 0, 0), (3, 2, 0, 0), (39, 22032, 253, 423), (55, 0, 0, 0)])]
def k_X12_asks : List (Nat × Nat × List Ins) := [(0, 15, [(3, 0, 2, 0), (0, 0, 0, 0), (22, 12, 0, 154), (3, 0, 2, 0), (3, 1, 0, 0), (39, 22022, 199, 196), (12, 0, 30, 0), (3, 2, 0, 0), (39, 10, 196, 211), (12, 0, 30, 0), (3, 3, 0, 0), (10, 0, 0, 0), (1, 0, 0, 0), (1, 0, 0, 1), (39, 30, 186, 160), (12, 1, 32, 0), (16, 0, 30, 0)]),
  (30, 0, [(0, 0, 0, (-1)), (55, 0, 0, 0)]),
  (32, 15, [(3, 3, 0, 0), (12, 1, 45, 0), (3, 0, 2, 0), (3, 1, 0, 0), (3, 2, 0, 0), (39, 22032, 255, 426), (15, 0, 59, 0), (55, 0, 0, 0)]),
  (45, 7, [(3, 0, 2, 0), (3, 1, 0, 0), (3, 2, 0, 0), (39, 22032, 256, 429), (12, 0, 58, 0), (0, 0, 0, 1), (15, 0, 59, 0), (55, 0, 0, 0)]),
  (58, 0, [(0, 0, 0, 0), (55, 0, 0, 0)])]
def k_X12_layLooks : List (Nat × Nat × List Ins) := [(0, 3, [(0, 0, 0, 0), (4, 2, 0, 0), (16, 0, 2, 0)]),
  (2, 7, [(3, 2, 0, 0), (0, 1, 0, 12), (13, 3, 31, 0), (3, 0, 2, 0), (21, 12, 37, 109), (0, 1, 0, 12), (3, 1, 0, 0), (6, 2, 0, 0), (3, 2, 0, 0), (6, 0, 0, 0), (3, 0, 2, 0), (3, 2, 0, 0), (3, 1, 0, 0), (39, 22032, 252, 420), (27, 0, 0, 0), (5, 2, 0, 1), (15, 0, 2, 0), (16, 0, 2, 0)]),
  (31, 0, [(42, 0, 0, 0)])]
def k_X12_painted : List (Nat × Nat × List Ins) := [(0, 31, [(0, 2, 0, 233), (0, 0, 0, 5), (3, 1, 0, 0), (6, 2, 0, 0), (6, 0, 0, 0), (4, 5, 0, 0), (3, 0, 2, 0), (21, 12, 37, 109), (0, 1, 0, 12), (3, 3, 0, 0), (6, 2, 0, 0), (3, 2, 0, 0), (6, 0, 0, 0), (26, 0, 0, 0), (3, 4, 0, 0), (6, 1, 0, 0), (10, 0, 0, 0), (3, 0, 2, 0), (21, 12, 3, 13), (3, 5, 0, 0), (26, 0, 0, 0), (7, 0, 0, 0), (3, 0, 2, 0), (21, 12, 3, 13), (3, 5, 0, 0), (26, 0, 0, 0), (39, 30, 189, 403), (4, 6, 0, 0), (3, 4, 0, 0), (3, 6, 0, 0), (6, 0, 0, 0), (3, 0, 2, 0), (21, 12, 3, 13), (3, 5, 0, 0), (0, 0, 0, 2), (6, 0, 0, 0), (3, 2, 0, 0), (0, 0, 0, 3), (44, 0, 0, 0), (6, 0, 0, 0), (26, 0, 0, 0), (6, 0, 0, 0), (0, 0, 0, 3), (6, 1, 0, 0), (10, 0, 0, 0), (0, 0, 0, 0), (0, 1, 0, 9), (39, 30, 189, 403), (55, 0, 0, 0)])]
def k_X12_paintPaper : List (Nat × Nat × List Ins) := [(0, 31, [(0, 0, 0, 0), (4, 5, 0, 0), (16, 0, 3, 0)]),
  (3, 63, [(3, 5, 0, 0), (0, 1, 0, 12), (13, 3, 49, 0), (3, 0, 2, 0), (21, 12, 38, 112), (0, 1, 0, 12), (3, 2, 0, 0), (6, 2, 0, 0), (3, 5, 0, 0), (6, 0, 0, 0), (3, 0, 2, 0), (3, 3, 0, 0), (3, 5, 0, 0), (3, 4, 0, 0), (3, 0, 2, 0), (21, 12, 38, 112), (0, 1, 0, 12), (3, 1, 0, 0), (6, 2, 0, 0), (3, 5, 0, 0), (6, 0, 0, 0), (26, 0, 0, 0), (39, 22052, 260, 432), (27, 0, 0, 0), (5, 5, 0, 1), (15, 0, 3, 0), (16, 0, 3, 0)]),
  (49, 0, [(42, 0, 0, 0)])]
def k_X12_loadPaper : List (Nat × Nat × List Ins) := [(0, 7, [(0, 0, 0, 0), (4, 3, 0, 0), (16, 0, 2, 0)]),
  (2, 15, [(3, 3, 0, 0), (0, 1, 0, 12), (13, 3, 31, 0), (3, 0, 2, 0), (21, 12, 38, 112), (0, 1, 0, 12), (3, 1, 0, 0), (6, 2, 0, 0), (3, 3, 0, 0), (6, 0, 0, 0), (3, 0, 2, 0), (3, 2, 0, 0), (3, 3, 0, 0), (39, 22032, 202, 178), (27, 0, 0, 0), (5, 3, 0, 1), (15, 0, 2, 0), (16, 0, 2, 0)]),
  (31, 0, [(42, 0, 0, 0)])]
def k_X12_unlikePaper : List (Nat × Nat × List Ins) := [(0, 7, [(0, 0, 0, 0), (4, 3, 0, 0), (0, 0, 0, 0), (4, 4, 0, 0), (16, 0, 5, 0)]),
  (5, 31, [(3, 4, 0, 0), (0, 1, 0, 12), (13, 3, 49, 0), (3, 3, 0, 0), (3, 0, 2, 0), (21, 12, 38, 112), (0, 1, 0, 12), (3, 1, 0, 0), (6, 2, 0, 0), (3, 4, 0, 0), (6, 0, 0, 0), (26, 0, 0, 0), (3, 0, 2, 0), (21, 12, 37, 109), (0, 1, 0, 12), (3, 2, 0, 0), (6, 2, 0, 0), (3, 4, 0, 0), (6, 0, 0, 0), (26, 0, 0, 0), (6, 1, 0, 0), (39, 10, 188, 436), (6, 0, 0, 0), (4, 3, 0, 0), (5, 4, 0, 1), (15, 0, 5, 0), (16, 0, 5, 0)]),
  (49, 8, [(3, 3, 0, 0), (55, 0, 0, 0)])]
def k_X12_unlikeOf : List (Nat × Nat × List Ins) := [(0, 3, [(3, 0, 2, 0), (3, 1, 0, 0), (39, 22022, 259, 439), (3, 0, 2, 0), (0, 0, 0, 0), (3, 1, 0, 0), (39, 22032, 262, 442), (3, 0, 2, 0), (0, 0, 0, 0), (3, 1, 0, 0), (39, 22032, 263, 445), (55, 0, 0, 0)])]
def k_X12_rests : List (Nat × Nat × List Ins) := [(0, 7, [(0, 0, 0, 0), (4, 3, 0, 0), (0, 0, 0, 1), (4, 4, 0, 0), (16, 0, 5, 0)]),
  (5, 31, [(3, 4, 0, 0), (3, 0, 2, 0), (21, 12, 3, 13), (0, 1, 0, 11), (26, 0, 0, 0), (13, 4, 67, 0), (3, 3, 0, 0), (12, 1, 55, 0), (3, 2, 0, 0), (3, 4, 0, 0), (6, 1, 0, 0), (10, 0, 0, 0), (1, 0, 0, 1), (3, 0, 2, 0), (39, 22012, 197, 174), (10, 0, 0, 0), (39, 30, 186, 160), (12, 0, 59, 0), (3, 0, 2, 0), (21, 12, 3, 13), (0, 2, 0, 216), (3, 2, 0, 0), (6, 0, 0, 0), (3, 4, 0, 0), (6, 1, 0, 0), (26, 0, 0, 0), (3, 1, 0, 0), (13, 1, 59, 0), (16, 0, 55, 0)]),
  (55, 23, [(0, 0, 0, 1), (15, 0, 60, 0), (4, 3, 0, 0), (5, 4, 0, 1), (15, 0, 5, 0), (16, 0, 5, 0)]),
  (59, 23, [(0, 0, 0, 0), (4, 3, 0, 0), (5, 4, 0, 1), (15, 0, 5, 0), (16, 0, 5, 0)]),
  (67, 8, [(3, 3, 0, 0), (58, 0, 0, 0)])]
def k_X12_paintNow : List (Nat × Nat × List Ins) := [(0, 3, [(3, 0, 2, 0), (39, 22012, 197, 174), (0, 0, 0, 1), (6, 0, 0, 0), (4, 2, 0, 0), (3, 0, 2, 0), (3, 1, 0, 0), (3, 2, 0, 0), (39, 22032, 256, 429), (12, 1, 25, 0), (3, 0, 2, 0), (3, 1, 0, 0), (3, 2, 0, 0), (39, 22032, 265, 448), (12, 0, 28, 0), (16, 0, 25, 0)]),
  (25, 0, [(0, 1, 0, (-3)), (55, 0, 0, 0)]),
  (28, 7, [(3, 2, 0, 0), (0, 1, 0, 16), (13, 5, 37, 0), (0, 1, 0, (-5)), (55, 0, 0, 0)]),
  (37, 7, [(3, 0, 2, 0), (3, 2, 0, 0), (39, 22022, 259, 439), (3, 0, 2, 0), (0, 0, 0, 0), (3, 2, 0, 0), (0, 0, 0, 1), (6, 1, 0, 0), (39, 22032, 262, 442), (3, 0, 2, 0), (0, 0, 0, 0), (0, 0, 0, 1), (3, 1, 0, 0), (3, 2, 0, 0), (39, 22052, 261, 451), (0, 0, 0, 0), (4, 3, 0, 0), (16, 0, 60, 0)]),
  (60, 15, [(3, 3, 0, 0), (0, 1, 0, 12), (13, 3, 95, 0), (3, 0, 2, 0), (21, 12, 3, 13), (0, 1, 0, 12), (0, 1, 0, 12), (3, 2, 0, 0), (6, 2, 0, 0), (6, 0, 0, 0), (3, 3, 0, 0), (6, 0, 0, 0), (3, 0, 2, 0), (21, 12, 38, 112), (0, 1, 0, 12), (3, 3, 0, 0), (6, 0, 0, 0), (26, 0, 0, 0), (27, 0, 0, 0), (5, 3, 0, 1), (15, 0, 60, 0), (16, 0, 60, 0)]),
  (95, 7, [(3, 0, 2, 0), (21, 12, 3, 13), (0, 2, 0, 216), (3, 2, 0, 0), (6, 0, 0, 0), (3, 1, 0, 0), (27, 0, 0, 0), (3, 0, 2, 0), (21, 12, 3, 13), (0, 0, 0, 4), (3, 2, 0, 0), (27, 0, 0, 0), (3, 0, 2, 0), (0, 0, 0, 1), (3, 2, 0, 0), (39, 22032, 263, 445), (55, 0, 0, 0)])]
def k_X12_paint : List (Nat × Nat × List Ins) := [(0, 3, [(3, 0, 2, 0), (0, 0, 0, 0), (22, 12, 0, 154), (3, 0, 2, 0), (3, 0, 2, 0), (3, 1, 0, 0), (39, 22022, 199, 196), (12, 0, 22, 0), (3, 0, 2, 0), (3, 1, 0, 0), (39, 22022, 266, 455), (15, 0, 24, 0), (39, 22022, 190, 164), (55, 0, 0, 0)]),
  (22, 0, [(0, 1, 0, (-2)), (39, 22022, 190, 164), (55, 0, 0, 0)])]
def k_X12_scrape : List (Nat × Nat × List Ins) := [(0, 1, [(3, 0, 2, 0), (0, 0, 0, 0), (22, 12, 0, 154), (3, 0, 2, 0), (39, 22012, 197, 174), (12, 1, 19, 0), (3, 0, 2, 0), (0, 1, 0, (-3)), (39, 22022, 190, 164), (55, 0, 0, 0)]),
  (19, 1, [(3, 0, 2, 0), (21, 12, 3, 13), (0, 0, 0, 4), (50, 0, 0, 0), (26, 0, 0, 0), (0, 0, 0, 1), (6, 1, 0, 0), (27, 0, 0, 0), (3, 0, 2, 0), (3, 0, 2, 0), (21, 12, 3, 13), (0, 2, 0, 216), (3, 0, 2, 0), (39, 22012, 197, 174), (6, 0, 0, 0), (0, 0, 0, 1), (6, 0, 0, 0), (26, 0, 0, 0), (39, 22022, 190, 164), (55, 0, 0, 0)])]
def k_X12_tone : List (Nat × Nat × List Ins) := [(0, 7, [(3, 0, 2, 0), (0, 0, 0, 0), (22, 12, 0, 154), (3, 0, 2, 0), (3, 1, 0, 0), (39, 22022, 198, 458), (12, 0, 29, 0), (3, 2, 0, 0), (39, 10, 194, 182), (12, 0, 29, 0), (3, 0, 2, 0), (3, 1, 0, 0), (3, 2, 0, 0), (39, 22032, 202, 178), (15, 0, 30, 0), (55, 0, 0, 0)]),
  (29, 0, [(0, 0, 0, (-1)), (55, 0, 0, 0)])]
def k_X12_tooFar : List (Nat × Nat × List Ins) := [(0, 7, [(0, 0, 0, 0), (4, 3, 0, 0), (16, 0, 2, 0)]),
  (2, 15, [(3, 3, 0, 0), (0, 1, 0, 12), (13, 3, 51, 0), (3, 0, 2, 0), (21, 12, 38, 112), (0, 1, 0, 12), (3, 1, 0, 0), (6, 2, 0, 0), (3, 3, 0, 0), (6, 0, 0, 0), (26, 0, 0, 0), (3, 0, 2, 0), (21, 12, 37, 109), (0, 1, 0, 12), (3, 2, 0, 0), (6, 2, 0, 0), (3, 3, 0, 0), (6, 0, 0, 0), (26, 0, 0, 0), (6, 1, 0, 0), (39, 10, 188, 436), (3, 0, 2, 0), (3, 3, 0, 0), (3, 2, 0, 0), (39, 22032, 253, 423), (13, 5, 45, 0), (3, 3, 0, 0), (55, 0, 0, 0)]),
  (45, 15, [(5, 3, 0, 1), (15, 0, 2, 0), (16, 0, 2, 0)]),
  (51, 0, [(0, 0, 0, (-1)), (55, 0, 0, 0)])]
def k_X12_tooFarIn : List (Nat × Nat × List Ins) := [(0, 3, [(3, 0, 2, 0), (3, 1, 0, 0), (39, 22022, 259, 439), (3, 0, 2, 0), (0, 0, 0, 0), (3, 1, 0, 0), (39, 22032, 262, 442), (3, 0, 2, 0), (0, 0, 0, 0), (3, 1, 0, 0), (39, 22032, 270, 461), (55, 0, 0, 0)])]
def k_X12_layer : List (Nat × Nat × List Ins) := [(0, 7, [(3, 0, 2, 0), (0, 0, 0, 0), (22, 12, 0, 154), (3, 0, 2, 0), (3, 1, 0, 0), (39, 22022, 198, 458), (12, 0, 25, 0), (3, 2, 0, 0), (10, 0, 0, 0), (1, 0, 0, 0), (1, 1, 205, 3), (39, 30, 186, 160), (12, 1, 27, 0), (16, 0, 25, 0)]),
  (25, 0, [(0, 0, 0, (-1)), (55, 0, 0, 0)]),
  (27, 7, [(3, 2, 0, 0), (17, 8, 0, 28)]),
  (56, 3, [(3, 0, 2, 0), (3, 1, 0, 0), (39, 22022, 264, 464), (55, 0, 0, 0)]),
  (62, 3, [(3, 1, 0, 0), (12, 1, 70, 0), (0, 0, 0, (-1)), (15, 0, 80, 0), (55, 0, 0, 0)]),
  (70, 3, [(3, 0, 2, 0), (21, 12, 3, 13), (0, 2, 0, 216), (3, 1, 0, 0), (6, 0, 0, 0), (26, 0, 0, 0), (55, 0, 0, 0)]),
  (81, 3, [(3, 1, 0, 0), (12, 1, 89, 0), (0, 0, 0, 0), (15, 0, 104, 0), (55, 0, 0, 0)]),
  (89, 3, [(3, 0, 2, 0), (3, 0, 2, 0), (21, 12, 3, 13), (0, 2, 0, 216), (3, 1, 0, 0), (6, 0, 0, 0), (26, 0, 0, 0), (3, 1, 0, 0), (39, 22032, 255, 426), (55, 0, 0, 0)]),
  (105, 3, [(3, 0, 2, 0), (3, 1, 0, 0), (39, 22022, 271, 467), (55, 0, 0, 0)])]
def k_X12_unlawful : List (Nat × Nat × List Ins) := [(0, 1, [(3, 0, 2, 0), (0, 0, 0, 0), (22, 12, 0, 154), (0, 0, 0, 0), (4, 1, 0, 0), (16, 0, 7, 0)]),
  (7, 3, [(3, 1, 0, 0), (3, 0, 2, 0), (39, 22012, 197, 174), (13, 4, 32, 0), (3, 0, 2, 0), (3, 1, 0, 0), (39, 22022, 271, 467), (0, 0, 0, (-1)), (13, 0, 26, 0), (3, 1, 0, 0), (55, 0, 0, 0)]),
  (26, 3, [(5, 1, 0, 1), (15, 0, 7, 0), (16, 0, 7, 0)]),
  (32, 0, [(0, 0, 0, (-1)), (55, 0, 0, 0)])]
def k_X12_moneyBehind : List (Nat × Nat × List Ins) := [(0, 3, [(3, 0, 2, 0), (21, 12, 3, 13), (0, 1, 0, 10), (26, 0, 0, 0), (3, 1, 0, 0), (6, 2, 0, 0), (4, 2, 0, 0), (0, 0, 0, 1), (4, 3, 0, 0), (16, 0, 12, 0)]),
  (12, 15, [(3, 3, 0, 0), (3, 1, 0, 0), (13, 4, 41, 0), (3, 2, 0, 0), (3, 0, 2, 0), (3, 0, 2, 0), (21, 12, 3, 13), (0, 2, 0, 216), (3, 3, 0, 0), (6, 0, 0, 0), (26, 0, 0, 0), (3, 3, 0, 0), (39, 22032, 255, 426), (6, 1, 0, 0), (4, 2, 0, 0), (5, 3, 0, 1), (15, 0, 12, 0), (16, 0, 12, 0)]),
  (41, 4, [(3, 2, 0, 0), (55, 0, 0, 0)])]
def k_X12_money : List (Nat × Nat × List Ins) := [(0, 3, [(3, 0, 2, 0), (0, 0, 0, 0), (22, 12, 0, 154), (3, 0, 2, 0), (3, 1, 0, 0), (39, 22022, 198, 458), (12, 0, 21, 0), (3, 0, 2, 0), (3, 1, 0, 0), (39, 22022, 274, 470), (15, 0, 24, 0), (55, 0, 0, 0)]),
  (21, 0, [(0, 4, 473, (-1000000)), (55, 0, 0, 0)])]
def k_X12_broke : List (Nat × Nat × List Ins) := [(0, 1, [(3, 0, 2, 0), (0, 0, 0, 0), (22, 12, 0, 154), (0, 0, 0, 0), (4, 1, 0, 0), (16, 0, 7, 0)]),
  (7, 3, [(3, 1, 0, 0), (3, 0, 2, 0), (39, 22012, 197, 174), (13, 4, 31, 0), (3, 0, 2, 0), (3, 1, 0, 0), (39, 22022, 274, 470), (12, 3, 25, 0), (3, 1, 0, 0), (55, 0, 0, 0)]),
  (25, 3, [(5, 1, 0, 1), (15, 0, 7, 0), (16, 0, 7, 0)]),
  (31, 0, [(0, 0, 0, (-1)), (55, 0, 0, 0)])]
def k_X12_restsInRow : List (Nat × Nat × List Ins) := [(0, 7, [(3, 0, 2, 0), (39, 22012, 197, 174), (0, 0, 0, 1), (6, 0, 0, 0), (3, 2, 0, 0), (6, 0, 0, 0), (4, 3, 0, 0), (0, 0, 0, 0), (4, 4, 0, 0), (0, 0, 0, 1), (4, 5, 0, 0), (16, 0, 15, 0)]),
  (15, 63, [(3, 5, 0, 0), (3, 0, 2, 0), (21, 12, 3, 13), (0, 1, 0, 11), (26, 0, 0, 0), (13, 4, 102, 0), (3, 4, 0, 0), (12, 1, 89, 0), (3, 2, 0, 0), (3, 5, 0, 0), (6, 1, 0, 0), (12, 2, 55, 0), (3, 0, 2, 0), (21, 12, 39, 115), (3, 2, 0, 0), (3, 5, 0, 0), (6, 1, 0, 0), (26, 0, 0, 0), (3, 1, 0, 0), (13, 1, 93, 0), (15, 0, 89, 0), (16, 0, 89, 0)]),
  (55, 47, [(3, 3, 0, 0), (3, 5, 0, 0), (6, 1, 0, 0), (10, 0, 0, 0), (1, 0, 0, 1), (3, 0, 2, 0), (39, 22012, 197, 174), (10, 0, 0, 0), (39, 30, 186, 160), (12, 0, 93, 0), (3, 0, 2, 0), (21, 12, 3, 13), (0, 2, 0, 216), (3, 3, 0, 0), (6, 0, 0, 0), (3, 5, 0, 0), (6, 1, 0, 0), (26, 0, 0, 0), (3, 1, 0, 0), (13, 1, 93, 0), (16, 0, 89, 0)]),
  (89, 47, [(0, 0, 0, 1), (15, 0, 94, 0), (4, 4, 0, 0), (5, 5, 0, 1), (15, 0, 15, 0), (16, 0, 15, 0)]),
  (93, 47, [(0, 0, 0, 0), (4, 4, 0, 0), (5, 5, 0, 1), (15, 0, 15, 0), (16, 0, 15, 0)]),
  (102, 16, [(3, 4, 0, 0), (58, 0, 0, 0)])]
def k_X12_goThrough : List (Nat × Nat × List Ins) := [(0, 7, [(3, 0, 2, 0), (0, 0, 0, 0), (22, 12, 46, 474), (3, 0, 2, 0), (39, 22012, 197, 174), (4, 3, 0, 0), (0, 0, 0, 0), (4, 4, 0, 0), (16, 0, 13, 0)]),
  (13, 31, [(3, 4, 0, 0), (3, 2, 0, 0), (13, 4, 107, 0), (3, 0, 2, 0), (3, 3, 0, 0), (3, 4, 0, 0), (6, 0, 0, 0), (39, 22022, 259, 439), (0, 0, 0, 0), (4, 5, 0, 0), (16, 0, 30, 0)]),
  (30, 63, [(3, 5, 0, 0), (3, 0, 2, 0), (21, 12, 3, 13), (0, 0, 0, 0), (26, 0, 0, 0), (13, 3, 101, 0), (3, 4, 0, 0), (3, 2, 0, 0), (13, 3, 101, 0), (3, 0, 2, 0), (21, 12, 41, 121), (0, 0, 0, 5), (3, 4, 0, 0), (6, 2, 0, 0), (3, 5, 0, 0), (6, 0, 0, 0), (3, 0, 2, 0), (3, 5, 0, 0), (3, 3, 0, 0), (3, 4, 0, 0), (6, 0, 0, 0), (0, 0, 0, 1), (6, 0, 0, 0), (39, 22032, 255, 426), (27, 0, 0, 0), (3, 0, 2, 0), (21, 12, 42, 124), (0, 0, 0, 5), (3, 4, 0, 0), (6, 2, 0, 0), (3, 5, 0, 0), (6, 0, 0, 0), (3, 0, 2, 0), (3, 5, 0, 0), (3, 3, 0, 0), (3, 4, 0, 0), (6, 0, 0, 0), (0, 0, 0, 1), (6, 0, 0, 0), (39, 22032, 256, 429), (53, 0, 0, 0), (5, 5, 0, 1), (15, 0, 30, 0), (16, 0, 30, 0)]),
  (101, 31, [(5, 4, 0, 1), (15, 0, 13, 0), (16, 0, 13, 0)]),
  (107, 15, [(3, 0, 2, 0), (0, 0, 0, 0), (3, 3, 0, 0), (39, 22032, 262, 442), (3, 2, 0, 0), (12, 1, 124, 0), (3, 0, 2, 0), (3, 1, 0, 0), (0, 0, 0, 0), (39, 22032, 279, 477), (42, 0, 0, 0)]),
  (124, 15, [(0, 0, 0, 0), (4, 4, 0, 0), (3, 0, 2, 0), (21, 12, 39, 115), (0, 0, 0, 0), (0, 0, 0, (-1)), (27, 0, 0, 0), (16, 0, 134, 0)]),
  (134, 31, [(3, 4, 0, 0), (12, 2, 251, 0), (3, 0, 2, 0), (21, 12, 39, 115), (3, 4, 0, 0), (50, 0, 0, 0), (26, 0, 0, 0), (0, 0, 0, 1), (6, 0, 0, 0), (27, 0, 0, 0), (3, 0, 2, 0), (21, 12, 39, 115), (3, 4, 0, 0), (26, 0, 0, 0), (4, 5, 0, 0), (3, 5, 0, 0), (3, 0, 2, 0), (21, 12, 3, 13), (0, 0, 0, 0), (26, 0, 0, 0), (13, 1, 176, 0), (5, 4, 0, (-1)), (15, 0, 248, 0), (16, 0, 248, 0)]),
  (176, 63, [(3, 0, 2, 0), (21, 12, 42, 124), (0, 0, 0, 5), (3, 4, 0, 0), (6, 2, 0, 0), (3, 5, 0, 0), (6, 0, 0, 0), (26, 2, 0, 0), (12, 1, 248, 0), (3, 0, 2, 0), (3, 5, 0, 0), (3, 4, 0, 0), (39, 22032, 277, 480), (12, 1, 248, 0), (3, 0, 2, 0), (3, 4, 0, 0), (3, 4, 0, 0), (0, 0, 0, 1), (6, 0, 0, 0), (3, 5, 0, 0), (3, 3, 0, 0), (3, 4, 0, 0), (6, 0, 0, 0), (0, 0, 0, 1), (6, 0, 0, 0), (39, 22052, 261, 451), (3, 4, 0, 0), (3, 2, 0, 0), (0, 0, 0, 1), (6, 1, 0, 0), (13, 1, 237, 0), (3, 0, 2, 0), (3, 1, 0, 0), (3, 2, 0, 0), (39, 22032, 279, 477), (15, 0, 248, 0), (16, 0, 248, 0)]),
  (237, 31, [(5, 4, 0, 1), (3, 0, 2, 0), (21, 12, 39, 115), (3, 4, 0, 0), (0, 0, 0, (-1)), (27, 0, 0, 0), (16, 0, 248, 0)]),
  (248, 31, [(15, 0, 134, 0), (16, 0, 134, 0)]),
  (251, 0, [(42, 0, 0, 0)])]
def k_X12_weigh : List (Nat × Nat × List Ins) := [(0, 7, [(3, 0, 2, 0), (3, 2, 0, 0), (3, 0, 2, 0), (39, 22012, 197, 174), (3, 2, 0, 0), (6, 0, 0, 0), (39, 22032, 263, 445), (4, 3, 0, 0), (0, 0, 0, 0), (4, 4, 0, 0), (3, 0, 2, 0), (3, 0, 2, 0), (39, 22012, 197, 174), (39, 22022, 274, 470), (4, 5, 0, 0), (0, 0, 0, 1), (4, 6, 0, 0), (0, 0, 0, 0), (4, 7, 0, 0), (16, 0, 31, 0)]),
  (31, 255, [(3, 7, 0, 0), (3, 2, 0, 0), (13, 3, 143, 0), (3, 4, 0, 0), (3, 0, 2, 0), (21, 12, 41, 121), (0, 0, 0, 5), (3, 7, 0, 0), (6, 2, 0, 0), (3, 0, 2, 0), (21, 12, 39, 115), (3, 7, 0, 0), (26, 0, 0, 0), (6, 0, 0, 0), (26, 0, 0, 0), (6, 0, 0, 0), (4, 4, 0, 0), (3, 5, 0, 0), (3, 0, 2, 0), (21, 12, 3, 13), (0, 1, 0, 10), (26, 0, 0, 0), (3, 0, 2, 0), (21, 12, 41, 121), (0, 0, 0, 5), (3, 7, 0, 0), (6, 2, 0, 0), (3, 0, 2, 0), (21, 12, 39, 115), (3, 7, 0, 0), (26, 0, 0, 0), (6, 0, 0, 0), (26, 0, 0, 0), (6, 1, 0, 0), (6, 0, 0, 0), (4, 5, 0, 0), (3, 6, 0, 0), (12, 0, 134, 0), (3, 1, 0, 0), (0, 0, 0, 2), (13, 1, 104, 0), (3, 5, 0, 0), (12, 2, 134, 0), (16, 0, 104, 0)]),
  (104, 191, [(3, 1, 0, 0), (0, 0, 0, 1), (13, 1, 130, 0), (3, 0, 2, 0), (3, 7, 0, 0), (0, 0, 0, 1), (6, 0, 0, 0), (3, 0, 2, 0), (39, 22012, 197, 174), (3, 7, 0, 0), (6, 0, 0, 0), (0, 0, 0, 1), (6, 0, 0, 0), (39, 22032, 270, 461), (0, 0, 0, (-1)), (13, 1, 134, 0), (16, 0, 130, 0)]),
  (130, 191, [(0, 0, 0, 1), (15, 0, 135, 0), (4, 6, 0, 0), (5, 7, 0, 1), (15, 0, 31, 0), (16, 0, 31, 0)]),
  (134, 191, [(0, 0, 0, 0), (4, 6, 0, 0), (5, 7, 0, 1), (15, 0, 31, 0), (16, 0, 31, 0)]),
  (143, 95, [(3, 6, 0, 0), (12, 1, 149, 0), (42, 0, 0, 0)]),
  (149, 31, [(3, 1, 0, 0), (0, 0, 0, 1), (13, 1, 164, 0), (3, 4, 0, 0), (3, 0, 2, 0), (18, 12, 45, 483), (6, 1, 0, 0), (15, 0, 170, 0), (16, 0, 170, 0)]),
  (164, 31, [(3, 3, 0, 0), (3, 0, 2, 0), (18, 12, 44, 486), (6, 1, 0, 0), (16, 0, 170, 0)]),
  (170, 31, [(4, 7, 0, 0), (3, 1, 0, 0), (0, 0, 0, 1), (13, 1, 186, 0), (3, 3, 0, 0), (3, 0, 2, 0), (18, 12, 44, 486), (6, 1, 0, 0), (15, 0, 193, 0), (16, 0, 193, 0)]),
  (186, 157, [(3, 4, 0, 0), (3, 0, 2, 0), (18, 12, 45, 483), (6, 1, 0, 0), (16, 0, 193, 0)]),
  (193, 157, [(4, 8, 0, 0), (3, 0, 2, 0), (18, 12, 46, 474), (12, 0, 217, 0), (3, 7, 0, 0), (12, 2, 217, 0), (3, 7, 0, 0), (12, 1, 221, 0), (3, 8, 0, 0), (12, 3, 221, 0), (16, 0, 217, 0)]),
  (217, 29, [(0, 0, 0, 1), (15, 0, 222, 0), (16, 0, 222, 0)]),
  (221, 29, [(0, 0, 0, 0), (16, 0, 222, 0)]),
  (222, 29, [(4, 9, 0, 0), (3, 9, 0, 0), (12, 0, 274, 0), (3, 0, 2, 0), (3, 3, 0, 0), (22, 12, 44, 486), (3, 0, 2, 0), (3, 4, 0, 0), (22, 12, 45, 483), (3, 0, 2, 0), (0, 0, 0, 0), (22, 12, 46, 474), (0, 0, 0, 0), (4, 10, 0, 0), (16, 0, 248, 0)]),
  (248, 1053, [(3, 10, 0, 0), (3, 2, 0, 0), (13, 3, 274, 0), (3, 0, 2, 0), (21, 12, 40, 118), (3, 10, 0, 0), (3, 0, 2, 0), (21, 12, 39, 115), (3, 10, 0, 0), (26, 0, 0, 0), (27, 0, 0, 0), (5, 10, 0, 1), (15, 0, 248, 0), (16, 0, 248, 0)]),
  (274, 25, [(3, 0, 2, 0), (11, 0, 0, 0), (18, 12, 46, 474), (3, 3, 0, 0), (3, 0, 2, 0), (18, 12, 44, 486), (13, 1, 300, 0), (3, 4, 0, 0), (3, 0, 2, 0), (18, 12, 45, 483), (13, 1, 300, 0), (0, 0, 0, 1), (15, 0, 301, 0), (6, 0, 0, 0), (22, 12, 46, 474), (42, 0, 0, 0)]),
  (300, 0, [(0, 0, 0, 0), (6, 0, 0, 0), (22, 12, 46, 474), (42, 0, 0, 0)])]
def k_X12_plan : List (Nat × Nat × List Ins) := [(0, 15, [(3, 0, 2, 0), (0, 0, 0, 0), (22, 12, 0, 154), (3, 1, 0, 0), (10, 0, 0, 0), (1, 0, 0, 0), (1, 1, 192, 2), (39, 30, 186, 160), (12, 0, 44, 0), (3, 2, 0, 0), (10, 0, 0, 0), (1, 0, 0, 0), (1, 1, 201, 5), (39, 30, 186, 160), (12, 0, 44, 0), (3, 3, 0, 0), (10, 0, 0, 0), (1, 0, 0, 0), (1, 1, 192, 2), (3, 2, 0, 0), (10, 0, 0, 0), (8, 0, 0, 0), (39, 30, 186, 160), (12, 1, 46, 0), (16, 0, 44, 0)]),
  (44, 0, [(0, 0, 0, (-1)), (55, 0, 0, 0)]),
  (46, 15, [(3, 0, 2, 0), (3, 1, 0, 0), (3, 2, 0, 0), (39, 22032, 278, 489), (3, 3, 0, 0), (0, 0, 0, 2), (13, 1, 62, 0), (3, 0, 2, 0), (18, 12, 46, 474), (55, 0, 0, 0)]),
  (62, 9, [(3, 0, 2, 0), (18, 12, 46, 474), (12, 1, 73, 0), (0, 0, 0, (-1)), (15, 0, 104, 0), (55, 0, 0, 0)]),
  (73, 9, [(3, 3, 0, 0), (12, 1, 84, 0), (3, 0, 2, 0), (18, 12, 44, 486), (15, 0, 104, 0), (55, 0, 0, 0)]),
  (84, 9, [(3, 3, 0, 0), (0, 0, 0, 1), (13, 1, 96, 0), (3, 0, 2, 0), (18, 12, 45, 483), (15, 0, 104, 0), (55, 0, 0, 0)]),
  (96, 9, [(3, 0, 2, 0), (21, 12, 40, 118), (3, 3, 0, 0), (0, 0, 0, 3), (6, 1, 0, 0), (26, 0, 0, 0), (55, 0, 0, 0)])]
def k_X12_driftOf : List (Nat × Nat × List Ins) := [(0, 7, [(0, 0, 0, 1), (3, 0, 2, 0), (3, 1, 0, 0), (39, 22022, 203, 380), (6, 6, 0, 0), (4, 3, 0, 0), (3, 0, 2, 0), (39, 22012, 197, 174), (0, 0, 0, 1), (6, 0, 0, 0), (4, 4, 0, 0), (16, 0, 16, 0)]),
  (16, 31, [(3, 4, 0, 0), (3, 0, 2, 0), (39, 22012, 197, 174), (3, 2, 0, 0), (6, 0, 0, 0), (13, 4, 123, 0), (3, 0, 2, 0), (3, 4, 0, 0), (39, 22022, 259, 439), (0, 0, 0, 0), (4, 5, 0, 0), (0, 0, 0, 0), (4, 6, 0, 0), (16, 0, 39, 0)]),
  (39, 127, [(3, 6, 0, 0), (3, 0, 2, 0), (21, 12, 3, 13), (0, 0, 0, 0), (26, 0, 0, 0), (13, 3, 114, 0), (3, 0, 2, 0), (3, 6, 0, 0), (3, 4, 0, 0), (39, 22032, 256, 429), (12, 1, 108, 0), (0, 0, 0, 0), (4, 7, 0, 0), (16, 0, 64, 0)]),
  (64, 255, [(3, 7, 0, 0), (0, 1, 0, 10), (13, 3, 108, 0), (3, 5, 0, 0), (3, 3, 0, 0), (3, 7, 0, 0), (39, 20, 187, 492), (12, 0, 98, 0), (0, 0, 0, 1), (3, 0, 2, 0), (3, 6, 0, 0), (3, 1, 0, 0), (3, 4, 0, 0), (3, 7, 0, 0), (39, 22052, 260, 432), (6, 6, 0, 0), (15, 0, 99, 0), (6, 4, 0, 0), (4, 5, 0, 0), (5, 7, 0, 1), (15, 0, 64, 0), (16, 0, 64, 0)]),
  (98, 223, [(0, 0, 0, 0), (6, 4, 0, 0), (4, 5, 0, 0), (5, 7, 0, 1), (15, 0, 64, 0), (16, 0, 64, 0)]),
  (108, 127, [(5, 6, 0, 1), (15, 0, 39, 0), (16, 0, 39, 0)]),
  (114, 55, [(3, 5, 0, 0), (4, 3, 0, 0), (5, 4, 0, 1), (15, 0, 16, 0), (16, 0, 16, 0)]),
  (123, 8, [(3, 3, 0, 0), (55, 0, 0, 0)])]
def k_X12_drift : List (Nat × Nat × List Ins) := [(0, 15, [(3, 0, 2, 0), (0, 0, 0, 0), (22, 12, 0, 154), (3, 1, 0, 0), (39, 10, 194, 182), (12, 0, 36, 0), (3, 2, 0, 0), (10, 0, 0, 0), (1, 0, 0, 0), (1, 1, 258, 10), (39, 30, 186, 160), (12, 0, 36, 0), (3, 3, 0, 0), (10, 0, 0, 0), (1, 0, 0, 0), (1, 1, 192, 2), (39, 30, 186, 160), (12, 1, 38, 0), (16, 0, 36, 0)]),
  (36, 0, [(0, 0, 0, (-1)), (55, 0, 0, 0)]),
  (38, 15, [(3, 0, 2, 0), (3, 1, 0, 0), (3, 2, 0, 0), (39, 22032, 281, 495), (4, 4, 0, 0), (3, 3, 0, 0), (0, 0, 0, 2), (13, 1, 54, 0), (3, 4, 0, 0), (55, 0, 0, 0)]),
  (54, 24, [(0, 0, 0, (-1)), (4, 5, 0, 0), (0, 0, 0, 0), (4, 6, 0, 0), (16, 0, 60, 0)]),
  (60, 120, [(3, 6, 0, 0), (0, 1, 0, 10), (13, 3, 103, 0), (3, 4, 0, 0), (3, 6, 0, 0), (39, 20, 187, 492), (12, 0, 93, 0), (3, 5, 0, 0), (0, 0, 0, (-1)), (13, 0, 88, 0), (3, 3, 0, 0), (0, 0, 0, 1), (13, 1, 93, 0), (16, 0, 88, 0)]),
  (88, 88, [(3, 6, 0, 0), (15, 0, 95, 0), (4, 5, 0, 0), (5, 6, 0, 1), (15, 0, 60, 0), (16, 0, 60, 0)]),
  (93, 120, [(3, 5, 0, 0), (4, 5, 0, 0), (5, 6, 0, 1), (15, 0, 60, 0), (16, 0, 60, 0)]),
  (103, 32, [(3, 5, 0, 0), (55, 0, 0, 0)])]
def k_X12_undoing : List (Nat × Nat × List Ins) := [(0, 3, [(3, 0, 2, 0), (0, 0, 0, 0), (22, 12, 0, 154), (3, 0, 2, 0), (39, 22012, 197, 174), (0, 0, 0, 1), (6, 0, 0, 0), (4, 2, 0, 0), (3, 0, 2, 0), (3, 2, 0, 0), (39, 22022, 259, 439), (3, 0, 2, 0), (3, 2, 0, 0), (0, 0, 0, 1), (6, 0, 0, 0), (39, 22022, 259, 439), (3, 0, 2, 0), (0, 0, 0, 0), (3, 0, 2, 0), (39, 22012, 197, 174), (39, 22032, 262, 442), (0, 0, 0, 0), (4, 3, 0, 0), (0, 0, 0, 0), (4, 4, 0, 0), (16, 0, 38, 0)]),
  (38, 31, [(3, 4, 0, 0), (0, 1, 0, 25), (13, 3, 121, 0), (3, 4, 0, 0), (0, 0, 0, 5), (43, 0, 0, 0), (4, 5, 0, 0), (3, 4, 0, 0), (0, 0, 0, 5), (44, 0, 0, 0), (4, 6, 0, 0), (3, 0, 2, 0), (3, 5, 0, 0), (39, 22022, 199, 196), (12, 0, 115, 0), (3, 0, 2, 0), (3, 6, 0, 0), (39, 22022, 199, 196), (12, 0, 115, 0), (3, 0, 2, 0), (0, 0, 0, 0), (0, 0, 0, 1), (3, 5, 0, 0), (3, 2, 0, 0), (39, 22052, 261, 451), (3, 0, 2, 0), (0, 0, 0, 1), (0, 0, 0, 2), (3, 6, 0, 0), (3, 2, 0, 0), (0, 0, 0, 1), (6, 0, 0, 0), (39, 22052, 261, 451), (3, 0, 2, 0), (0, 0, 0, 0), (0, 0, 0, 2), (39, 22032, 284, 498), (12, 0, 115, 0), (3, 3, 0, 0), (3, 1, 0, 0), (13, 1, 112, 0), (3, 4, 0, 0), (55, 0, 0, 0)]),
  (112, 31, [(5, 3, 0, 1), (16, 0, 115, 0)]),
  (115, 31, [(5, 4, 0, 1), (15, 0, 38, 0), (16, 0, 38, 0)]),
  (121, 10, [(3, 1, 0, 0), (0, 0, 0, (-1)), (13, 1, 130, 0), (3, 3, 0, 0), (15, 0, 131, 0), (55, 0, 0, 0)]),
  (130, 0, [(0, 0, 0, (-1)), (55, 0, 0, 0)])]
def k_X12_isSame : List (Nat × Nat × List Ins) := [(0, 7, [(0, 0, 0, 1), (4, 3, 0, 0), (0, 0, 0, 0), (4, 4, 0, 0), (16, 0, 5, 0)]),
  (5, 31, [(3, 4, 0, 0), (0, 1, 0, 12), (13, 3, 55, 0), (3, 3, 0, 0), (12, 0, 47, 0), (3, 0, 2, 0), (21, 12, 38, 112), (0, 1, 0, 12), (3, 1, 0, 0), (6, 2, 0, 0), (3, 4, 0, 0), (6, 0, 0, 0), (26, 0, 0, 0), (3, 0, 2, 0), (21, 12, 38, 112), (0, 1, 0, 12), (3, 2, 0, 0), (6, 2, 0, 0), (3, 4, 0, 0), (6, 0, 0, 0), (26, 0, 0, 0), (13, 1, 47, 0), (0, 0, 0, 1), (15, 0, 48, 0), (4, 3, 0, 0), (5, 4, 0, 1), (15, 0, 5, 0), (16, 0, 5, 0)]),
  (47, 23, [(0, 0, 0, 0), (4, 3, 0, 0), (5, 4, 0, 1), (15, 0, 5, 0), (16, 0, 5, 0)]),
  (55, 8, [(3, 3, 0, 0), (58, 0, 0, 0)])]
def k_X12_copyNow : List (Nat × Nat × List Ins) := [(0, 1, [(3, 0, 2, 0), (21, 12, 3, 13), (0, 0, 0, 5), (26, 0, 0, 0), (4, 1, 0, 0), (3, 1, 0, 0), (0, 1, 0, 6), (13, 1, 16, 0), (0, 1, 0, (-5)), (55, 0, 0, 0)]),
  (16, 3, [(0, 0, 0, 0), (4, 2, 0, 0), (16, 0, 18, 0)]),
  (18, 7, [(3, 2, 0, 0), (0, 1, 0, 12), (13, 3, 50, 0), (3, 0, 2, 0), (21, 12, 3, 13), (0, 2, 0, 276), (0, 1, 0, 12), (3, 1, 0, 0), (6, 2, 0, 0), (6, 0, 0, 0), (3, 2, 0, 0), (6, 0, 0, 0), (3, 0, 2, 0), (3, 2, 0, 0), (39, 22022, 203, 380), (27, 0, 0, 0), (5, 2, 0, 1), (15, 0, 18, 0), (16, 0, 18, 0)]),
  (50, 3, [(3, 0, 2, 0), (21, 12, 3, 13), (0, 0, 0, 5), (50, 0, 0, 0), (26, 0, 0, 0), (0, 0, 0, 1), (6, 0, 0, 0), (27, 0, 0, 0), (3, 1, 0, 0), (55, 0, 0, 0)])]
def k_X12_copy : List (Nat × Nat × List Ins) := [(0, 1, [(3, 0, 2, 0), (0, 0, 0, 0), (22, 12, 0, 154), (3, 0, 2, 0), (3, 0, 2, 0), (39, 22012, 285, 501), (39, 22022, 190, 164), (55, 0, 0, 0)])]
def k_X12_touch : List (Nat × Nat × List Ins) := [(0, 15, [(3, 0, 2, 0), (0, 0, 0, 0), (22, 12, 0, 154), (3, 2, 0, 0), (39, 10, 194, 182), (12, 0, 19, 0), (3, 3, 0, 0), (39, 10, 195, 186), (12, 1, 25, 0), (16, 0, 19, 0)]),
  (19, 1, [(3, 0, 2, 0), (0, 0, 0, (-1)), (39, 22022, 190, 164), (55, 0, 0, 0)]),
  (25, 15, [(3, 0, 2, 0), (3, 1, 0, 0), (39, 22022, 200, 504), (12, 0, 51, 0), (3, 0, 2, 0), (0, 2, 0, 276), (0, 1, 0, 12), (3, 1, 0, 0), (6, 2, 0, 0), (6, 0, 0, 0), (3, 2, 0, 0), (6, 0, 0, 0), (3, 3, 0, 0), (39, 22032, 191, 189), (15, 0, 57, 0), (55, 0, 0, 0)]),
  (51, 1, [(3, 0, 2, 0), (0, 1, 0, (-2)), (39, 22022, 190, 164), (55, 0, 0, 0)])]
def k_X12_burn : List (Nat × Nat × List Ins) := [(0, 1, [(3, 0, 2, 0), (0, 0, 0, 0), (22, 12, 0, 154), (3, 0, 2, 0), (21, 12, 3, 13), (0, 0, 0, 5), (26, 0, 0, 0), (4, 1, 0, 0), (3, 0, 2, 0), (21, 12, 3, 13), (0, 0, 0, 5), (0, 0, 0, 0), (27, 0, 0, 0), (3, 1, 0, 0), (55, 0, 0, 0)])]
def k_X12_apart : List (Nat × Nat × List Ins) := [(0, 7, [(0, 0, 0, 0), (4, 3, 0, 0), (0, 0, 0, 0), (4, 4, 0, 0), (16, 0, 5, 0)]),
  (5, 31, [(3, 4, 0, 0), (0, 1, 0, 12), (13, 3, 47, 0), (3, 3, 0, 0), (3, 0, 2, 0), (21, 12, 3, 13), (3, 1, 0, 0), (3, 4, 0, 0), (6, 0, 0, 0), (26, 0, 0, 0), (3, 0, 2, 0), (21, 12, 3, 13), (3, 2, 0, 0), (3, 4, 0, 0), (6, 0, 0, 0), (26, 0, 0, 0), (13, 1, 38, 0), (0, 0, 0, 0), (15, 0, 39, 0), (6, 0, 0, 0), (4, 3, 0, 0), (5, 4, 0, 1), (15, 0, 5, 0), (16, 0, 5, 0)]),
  (38, 23, [(0, 0, 0, 1), (6, 0, 0, 0), (4, 3, 0, 0), (5, 4, 0, 1), (15, 0, 5, 0), (16, 0, 5, 0)]),
  (47, 8, [(3, 3, 0, 0), (55, 0, 0, 0)])]
def k_X12_nearOf : List (Nat × Nat × List Ins) := [(0, 3, [(3, 0, 2, 0), (0, 2, 0, 276), (0, 1, 0, 12), (3, 1, 0, 0), (6, 2, 0, 0), (6, 0, 0, 0), (0, 1, 0, 12), (0, 1, 0, 12), (3, 0, 2, 0), (39, 22012, 197, 174), (6, 2, 0, 0), (6, 0, 0, 0), (39, 22032, 289, 507), (55, 0, 0, 0)])]
def k_X12_near : List (Nat × Nat × List Ins) := [(0, 3, [(3, 0, 2, 0), (0, 0, 0, 0), (22, 12, 0, 154), (3, 1, 0, 0), (0, 0, 0, (-1)), (13, 0, 28, 0), (3, 0, 2, 0), (3, 1, 0, 0), (39, 22022, 200, 504), (12, 0, 26, 0), (3, 0, 2, 0), (3, 1, 0, 0), (39, 22022, 290, 510), (15, 0, 27, 0), (55, 0, 0, 0)]),
  (26, 0, [(0, 0, 0, (-1)), (55, 0, 0, 0)]),
  (28, 1, [(0, 0, 0, 0), (4, 2, 0, 0), (0, 4, 513, 100000000), (4, 3, 0, 0), (0, 0, 0, 0), (4, 4, 0, 0), (16, 0, 37, 0)]),
  (37, 29, [(3, 4, 0, 0), (3, 0, 2, 0), (21, 12, 3, 13), (0, 0, 0, 5), (26, 0, 0, 0), (13, 3, 105, 0), (3, 0, 2, 0), (3, 4, 0, 0), (39, 22022, 290, 510), (4, 5, 0, 0), (3, 5, 0, 0), (3, 3, 0, 0), (13, 3, 69, 0), (0, 0, 0, 1), (3, 4, 0, 0), (6, 6, 0, 0), (15, 0, 85, 0), (16, 0, 85, 0)]),
  (69, 61, [(3, 5, 0, 0), (3, 3, 0, 0), (13, 1, 84, 0), (3, 2, 0, 0), (0, 0, 0, 1), (3, 4, 0, 0), (6, 6, 0, 0), (6, 4, 0, 0), (15, 0, 85, 0), (16, 0, 85, 0)]),
  (84, 61, [(3, 2, 0, 0), (16, 0, 85, 0)]),
  (85, 57, [(4, 2, 0, 0), (3, 5, 0, 0), (3, 3, 0, 0), (13, 3, 97, 0), (3, 5, 0, 0), (15, 0, 98, 0), (4, 3, 0, 0), (5, 4, 0, 1), (15, 0, 37, 0), (16, 0, 37, 0)]),
  (97, 29, [(3, 3, 0, 0), (4, 3, 0, 0), (5, 4, 0, 1), (15, 0, 37, 0), (16, 0, 37, 0)]),
  (105, 4, [(3, 2, 0, 0), (55, 0, 0, 0)])]
def k_X12_pictureAt : List (Nat × Nat × List Ins) := [(0, 2, [(3, 1, 0, 0), (0, 0, 0, (-1)), (13, 1, 10, 0), (0, 1, 0, 12), (15, 0, 18, 0), (55, 0, 0, 0)]),
  (10, 2, [(0, 2, 0, 276), (0, 1, 0, 12), (3, 1, 0, 0), (6, 2, 0, 0), (6, 0, 0, 0), (55, 0, 0, 0)])]
def k_X12_like : List (Nat × Nat × List Ins) := [(0, 7, [(3, 0, 2, 0), (0, 0, 0, 0), (22, 12, 0, 154), (3, 1, 0, 0), (0, 0, 0, (-1)), (13, 0, 18, 0), (3, 0, 2, 0), (3, 1, 0, 0), (39, 22022, 200, 504), (12, 0, 35, 0), (16, 0, 18, 0)]),
  (18, 7, [(3, 2, 0, 0), (0, 0, 0, (-1)), (13, 0, 31, 0), (3, 0, 2, 0), (3, 2, 0, 0), (39, 22022, 200, 504), (12, 0, 35, 0), (16, 0, 31, 0)]),
  (31, 7, [(0, 0, 0, 1), (15, 0, 36, 0), (16, 0, 36, 0)]),
  (35, 7, [(0, 0, 0, 0), (16, 0, 36, 0)]),
  (36, 7, [(4, 3, 0, 0), (3, 3, 0, 0), (12, 0, 58, 0), (3, 0, 2, 0), (3, 0, 2, 0), (3, 1, 0, 0), (39, 22022, 292, 514), (3, 0, 2, 0), (3, 2, 0, 0), (39, 22022, 292, 514), (39, 22032, 289, 507), (15, 0, 59, 0), (55, 0, 0, 0)]),
  (58, 0, [(0, 0, 0, (-1)), (55, 0, 0, 0)])]
def k_X12_isTree : List (Nat × Nat × List Ins) := [(0, 3, [(0, 0, 0, 0), (4, 2, 0, 0), (16, 0, 2, 0)]),
  (2, 7, [(3, 2, 0, 0), (3, 1, 0, 0), (13, 3, 52, 0), (3, 2, 0, 0), (0, 0, 0, 1), (6, 0, 0, 0), (4, 3, 0, 0), (0, 0, 0, 0), (4, 4, 0, 0), (16, 0, 14, 0)]),
  (14, 31, [(3, 3, 0, 0), (12, 5, 40, 0), (3, 4, 0, 0), (0, 1, 0, 8), (13, 3, 40, 0), (3, 0, 2, 0), (21, 12, 47, 130), (3, 3, 0, 0), (0, 0, 0, 1), (6, 1, 0, 0), (26, 0, 0, 0), (4, 3, 0, 0), (5, 4, 0, 1), (15, 0, 14, 0), (16, 0, 14, 0)]),
  (40, 15, [(3, 3, 0, 0), (12, 5, 46, 0), (0, 0, 0, 0), (58, 0, 0, 0)]),
  (46, 7, [(5, 2, 0, 1), (15, 0, 2, 0), (16, 0, 2, 0)]),
  (52, 0, [(0, 0, 0, 1), (58, 0, 0, 0)])]
def k_X12_findTree : List (Nat × Nat × List Ins) := [(0, 1, [(3, 0, 2, 0), (21, 12, 3, 13), (0, 0, 0, 5), (26, 0, 0, 0), (4, 1, 0, 0), (0, 0, 0, 1), (4, 2, 0, 0), (0, 0, 0, 0), (4, 3, 0, 0), (16, 0, 11, 0)]),
  (11, 15, [(3, 3, 0, 0), (3, 1, 0, 0), (13, 3, 28, 0), (3, 2, 0, 0), (3, 1, 0, 0), (0, 0, 0, 1), (6, 0, 0, 0), (6, 2, 0, 0), (4, 2, 0, 0), (5, 3, 0, 1), (15, 0, 11, 0), (16, 0, 11, 0)]),
  (28, 7, [(3, 0, 2, 0), (0, 4, 513, 100000000), (22, 12, 49, 517), (3, 0, 2, 0), (0, 0, 0, 0), (22, 12, 50, 520), (0, 0, 0, 0), (4, 3, 0, 0), (16, 0, 42, 0)]),
  (42, 15, [(3, 3, 0, 0), (3, 2, 0, 0), (13, 3, 216, 0), (3, 3, 0, 0), (4, 4, 0, 0), (0, 0, 0, 0), (4, 5, 0, 0), (3, 1, 0, 0), (0, 0, 0, 1), (6, 1, 0, 0), (4, 6, 0, 0), (16, 0, 58, 0)]),
  (58, 127, [(3, 6, 0, 0), (12, 2, 118, 0), (3, 0, 2, 0), (21, 12, 47, 130), (3, 6, 0, 0), (3, 4, 0, 0), (3, 1, 0, 0), (0, 0, 0, 1), (6, 0, 0, 0), (44, 0, 0, 0), (27, 0, 0, 0), (3, 4, 0, 0), (3, 1, 0, 0), (0, 0, 0, 1), (6, 0, 0, 0), (43, 0, 0, 0), (4, 4, 0, 0), (3, 5, 0, 0), (3, 0, 2, 0), (3, 0, 2, 0), (3, 0, 2, 0), (21, 12, 47, 130), (3, 6, 0, 0), (26, 0, 0, 0), (0, 0, 0, 1), (6, 1, 0, 0), (39, 22022, 292, 514), (3, 0, 2, 0), (3, 6, 0, 0), (39, 22022, 292, 514), (39, 22032, 289, 507), (6, 0, 0, 0), (4, 5, 0, 0), (5, 6, 0, (-1)), (15, 0, 58, 0), (16, 0, 58, 0)]),
  (118, 47, [(3, 5, 0, 0), (3, 0, 2, 0), (18, 12, 49, 517), (13, 4, 210, 0), (3, 0, 2, 0), (3, 1, 0, 0), (39, 22022, 294, 523), (12, 0, 210, 0), (3, 0, 2, 0), (3, 5, 0, 0), (3, 0, 2, 0), (18, 12, 49, 517), (13, 3, 149, 0), (0, 0, 0, 0), (15, 0, 153, 0), (22, 12, 50, 520), (0, 0, 0, 0), (4, 6, 0, 0), (16, 0, 159, 0)]),
  (149, 47, [(3, 0, 2, 0), (18, 12, 50, 520), (22, 12, 50, 520), (0, 0, 0, 0), (4, 6, 0, 0), (16, 0, 159, 0)]),
  (159, 111, [(3, 6, 0, 0), (3, 1, 0, 0), (13, 3, 194, 0), (3, 5, 0, 0), (3, 0, 2, 0), (18, 12, 49, 517), (13, 3, 194, 0), (3, 0, 2, 0), (21, 12, 48, 133), (3, 6, 0, 0), (3, 0, 2, 0), (21, 12, 47, 130), (3, 6, 0, 0), (26, 0, 0, 0), (27, 0, 0, 0), (5, 6, 0, 1), (15, 0, 159, 0), (16, 0, 159, 0)]),
  (194, 47, [(3, 0, 2, 0), (3, 5, 0, 0), (22, 12, 49, 517), (3, 0, 2, 0), (11, 0, 0, 0), (18, 12, 50, 520), (0, 0, 0, 1), (6, 0, 0, 0), (22, 12, 50, 520), (16, 0, 210, 0)]),
  (210, 15, [(5, 3, 0, 1), (15, 0, 42, 0), (16, 0, 42, 0)]),
  (216, 0, [(42, 0, 0, 0)])]
def k_X12_tree : List (Nat × Nat × List Ins) := [(0, 3, [(3, 0, 2, 0), (0, 0, 0, 0), (22, 12, 0, 154), (3, 1, 0, 0), (10, 0, 0, 0), (1, 0, 0, 0), (3, 0, 2, 0), (21, 12, 3, 13), (0, 0, 0, 5), (26, 0, 0, 0), (10, 0, 0, 0), (39, 30, 186, 160), (12, 1, 23, 0), (0, 0, 0, (-1)), (55, 0, 0, 0)]),
  (23, 3, [(3, 0, 2, 0), (39, 22012, 295, 526), (3, 1, 0, 0), (12, 1, 38, 0), (3, 0, 2, 0), (18, 12, 49, 517), (15, 0, 64, 0), (55, 0, 0, 0)]),
  (38, 3, [(3, 0, 2, 0), (21, 12, 48, 133), (3, 1, 0, 0), (0, 0, 0, 1), (6, 1, 0, 0), (26, 0, 0, 0), (12, 1, 54, 0), (0, 1, 0, 100), (15, 0, 64, 0), (55, 0, 0, 0)]),
  (54, 3, [(3, 0, 2, 0), (21, 12, 48, 133), (3, 1, 0, 0), (0, 0, 0, 1), (6, 1, 0, 0), (26, 0, 0, 0), (0, 0, 0, 1), (6, 1, 0, 0), (55, 0, 0, 0)])]
def k_X12_trees : List (Nat × Nat × List Ins) := [(0, 1, [(3, 0, 2, 0), (0, 0, 0, 0), (22, 12, 0, 154), (3, 0, 2, 0), (39, 22012, 295, 526), (3, 0, 2, 0), (18, 12, 50, 520), (55, 0, 0, 0)])]
def k_X12_dated : List (Nat × Nat × List Ins) := [(0, 7, [(3, 0, 2, 0), (0, 0, 0, 0), (22, 12, 0, 154), (3, 0, 2, 0), (3, 1, 0, 0), (39, 22022, 200, 504), (12, 0, 25, 0), (3, 2, 0, 0), (10, 0, 0, 0), (1, 0, 0, 0), (1, 1, 205, 3), (39, 30, 186, 160), (12, 1, 27, 0), (16, 0, 25, 0)]),
  (25, 0, [(0, 0, 0, (-1)), (55, 0, 0, 0)]),
  (27, 7, [(0, 4, 513, 100000000), (4, 3, 0, 0), (0, 0, 0, 0), (4, 4, 0, 0), (0, 0, 0, 0), (4, 5, 0, 0), (0, 0, 0, 0), (4, 6, 0, 0), (0, 0, 0, 0), (4, 7, 0, 0), (16, 0, 43, 0)]),
  (43, 255, [(3, 7, 0, 0), (3, 0, 2, 0), (39, 22012, 197, 174), (13, 4, 150, 0), (3, 0, 2, 0), (0, 2, 0, 276), (0, 1, 0, 12), (3, 1, 0, 0), (6, 2, 0, 0), (6, 0, 0, 0), (0, 1, 0, 12), (0, 1, 0, 12), (3, 7, 0, 0), (6, 2, 0, 0), (6, 0, 0, 0), (39, 22032, 289, 507), (4, 8, 0, 0), (3, 8, 0, 0), (3, 3, 0, 0), (13, 3, 85, 0), (3, 7, 0, 0), (15, 0, 87, 0), (16, 0, 87, 0)]),
  (85, 511, [(3, 4, 0, 0), (16, 0, 87, 0)]),
  (87, 495, [(4, 4, 0, 0), (3, 8, 0, 0), (3, 3, 0, 0), (13, 3, 99, 0), (0, 0, 0, 1), (15, 0, 114, 0), (16, 0, 114, 0)]),
  (99, 511, [(3, 8, 0, 0), (3, 3, 0, 0), (13, 1, 112, 0), (3, 6, 0, 0), (0, 0, 0, 1), (6, 0, 0, 0), (15, 0, 114, 0), (16, 0, 114, 0)]),
  (112, 511, [(3, 6, 0, 0), (16, 0, 114, 0)]),
  (114, 447, [(4, 6, 0, 0), (3, 8, 0, 0), (3, 3, 0, 0), (13, 4, 127, 0), (3, 7, 0, 0), (15, 0, 129, 0), (16, 0, 129, 0)]),
  (127, 511, [(3, 5, 0, 0), (16, 0, 129, 0)]),
  (129, 479, [(4, 5, 0, 0), (3, 8, 0, 0), (3, 3, 0, 0), (13, 3, 142, 0), (3, 8, 0, 0), (15, 0, 143, 0), (4, 3, 0, 0), (5, 7, 0, 1), (15, 0, 43, 0), (16, 0, 43, 0)]),
  (142, 255, [(3, 3, 0, 0), (4, 3, 0, 0), (5, 7, 0, 1), (15, 0, 43, 0), (16, 0, 43, 0)]),
  (150, 124, [(3, 2, 0, 0), (12, 1, 158, 0), (3, 3, 0, 0), (15, 0, 180, 0), (55, 0, 0, 0)]),
  (158, 116, [(3, 2, 0, 0), (0, 0, 0, 1), (13, 1, 168, 0), (3, 4, 0, 0), (15, 0, 180, 0), (55, 0, 0, 0)]),
  (168, 100, [(3, 2, 0, 0), (0, 0, 0, 2), (13, 1, 178, 0), (3, 5, 0, 0), (15, 0, 180, 0), (55, 0, 0, 0)]),
  (178, 64, [(3, 6, 0, 0), (55, 0, 0, 0)])]
def k_X12_worst : List (Nat × Nat × List Ins) := [(0, 7, [(0, 0, 0, 0), (4, 3, 0, 0), (0, 0, 0, 0), (4, 4, 0, 0), (16, 0, 5, 0)]),
  (5, 31, [(3, 4, 0, 0), (0, 1, 0, 10), (13, 3, 122, 0), (0, 0, 0, 0), (4, 5, 0, 0), (0, 0, 0, 0), (4, 6, 0, 0), (16, 0, 18, 0)]),
  (18, 127, [(3, 6, 0, 0), (3, 0, 2, 0), (21, 12, 3, 13), (0, 0, 0, 5), (26, 0, 0, 0), (13, 3, 78, 0), (3, 5, 0, 0), (3, 1, 0, 0), (3, 6, 0, 0), (39, 20, 187, 492), (12, 0, 68, 0), (3, 0, 2, 0), (21, 12, 3, 13), (0, 2, 0, 276), (0, 1, 0, 12), (3, 6, 0, 0), (6, 2, 0, 0), (6, 0, 0, 0), (3, 2, 0, 0), (6, 0, 0, 0), (26, 0, 0, 0), (3, 4, 0, 0), (13, 1, 68, 0), (0, 0, 0, 1), (3, 6, 0, 0), (6, 6, 0, 0), (15, 0, 69, 0), (6, 4, 0, 0), (4, 5, 0, 0), (5, 6, 0, 1), (15, 0, 18, 0), (16, 0, 18, 0)]),
  (68, 95, [(0, 0, 0, 0), (6, 4, 0, 0), (4, 5, 0, 0), (5, 6, 0, 1), (15, 0, 18, 0), (16, 0, 18, 0)]),
  (78, 63, [(3, 5, 0, 0), (3, 1, 0, 0), (13, 1, 88, 0), (0, 4, 513, 100000000), (55, 0, 0, 0)]),
  (88, 63, [(3, 5, 0, 0), (12, 0, 114, 0), (3, 0, 2, 0), (21, 12, 51, 136), (3, 5, 0, 0), (26, 0, 0, 0), (3, 3, 0, 0), (13, 5, 114, 0), (3, 0, 2, 0), (21, 12, 51, 136), (3, 5, 0, 0), (26, 0, 0, 0), (15, 0, 115, 0), (4, 3, 0, 0), (5, 4, 0, 1), (15, 0, 5, 0), (16, 0, 5, 0)]),
  (114, 31, [(3, 3, 0, 0), (4, 3, 0, 0), (5, 4, 0, 1), (15, 0, 5, 0), (16, 0, 5, 0)]),
  (122, 8, [(3, 3, 0, 0), (55, 0, 0, 0)])]
def k_X12_findDepths : List (Nat × Nat × List Ins) := [(0, 1, [(0, 0, 0, 1), (4, 1, 0, 0), (16, 0, 2, 0)]),
  (2, 3, [(3, 1, 0, 0), (0, 0, 0, 1), (3, 0, 2, 0), (21, 12, 3, 13), (0, 0, 0, 5), (26, 0, 0, 0), (6, 6, 0, 0), (13, 3, 79, 0), (0, 4, 513, 100000000), (4, 2, 0, 0), (0, 0, 0, 0), (4, 3, 0, 0), (16, 0, 20, 0)]),
  (20, 15, [(3, 3, 0, 0), (0, 1, 0, 12), (13, 3, 53, 0), (3, 0, 2, 0), (3, 1, 0, 0), (3, 3, 0, 0), (39, 22032, 299, 529), (4, 4, 0, 0), (3, 4, 0, 0), (3, 2, 0, 0), (13, 3, 45, 0), (3, 4, 0, 0), (15, 0, 46, 0), (4, 2, 0, 0), (5, 3, 0, 1), (15, 0, 20, 0), (16, 0, 20, 0)]),
  (45, 15, [(3, 2, 0, 0), (4, 2, 0, 0), (5, 3, 0, 1), (15, 0, 20, 0), (16, 0, 20, 0)]),
  (53, 7, [(3, 0, 2, 0), (21, 12, 51, 136), (3, 1, 0, 0), (3, 2, 0, 0), (0, 4, 513, 100000000), (13, 1, 69, 0), (0, 0, 0, 0), (15, 0, 72, 0), (27, 0, 0, 0), (5, 1, 0, 1), (15, 0, 2, 0), (16, 0, 2, 0)]),
  (69, 7, [(3, 2, 0, 0), (0, 0, 0, 1), (6, 0, 0, 0), (27, 0, 0, 0), (5, 1, 0, 1), (15, 0, 2, 0), (16, 0, 2, 0)]),
  (79, 0, [(42, 0, 0, 0)])]
def k_X12_know : List (Nat × Nat × List Ins) := [(0, 3, [(3, 0, 2, 0), (0, 0, 0, 0), (22, 12, 0, 154), (0, 0, 0, 1), (3, 0, 2, 0), (21, 12, 3, 13), (0, 0, 0, 5), (26, 0, 0, 0), (6, 6, 0, 0), (0, 0, 0, 1), (6, 1, 0, 0), (4, 2, 0, 0), (3, 1, 0, 0), (10, 0, 0, 0), (1, 0, 0, 0), (1, 0, 0, 1), (39, 30, 186, 160), (12, 0, 30, 0), (3, 2, 0, 0), (12, 1, 32, 0), (16, 0, 30, 0)]),
  (30, 0, [(0, 0, 0, (-1)), (55, 0, 0, 0)]),
  (32, 7, [(3, 0, 2, 0), (39, 22012, 300, 532), (3, 1, 0, 0), (12, 0, 49, 0), (3, 0, 2, 0), (21, 12, 51, 136), (3, 2, 0, 0), (26, 0, 0, 0), (12, 1, 64, 0), (16, 0, 49, 0)]),
  (49, 7, [(3, 1, 0, 0), (12, 1, 62, 0), (3, 0, 2, 0), (21, 12, 51, 136), (3, 2, 0, 0), (26, 0, 0, 0), (15, 0, 63, 0), (55, 0, 0, 0)]),
  (62, 0, [(0, 0, 0, (-1)), (55, 0, 0, 0)]),
  (64, 5, [(0, 0, 0, 0), (4, 3, 0, 0), (16, 0, 66, 0)]),
  (66, 13, [(3, 0, 2, 0), (3, 2, 0, 0), (3, 3, 0, 0), (39, 22032, 299, 529), (0, 0, 0, 1), (6, 0, 0, 0), (3, 0, 2, 0), (21, 12, 51, 136), (3, 2, 0, 0), (26, 0, 0, 0), (13, 0, 89, 0), (5, 3, 0, 1), (15, 0, 66, 0), (16, 0, 66, 0)]),
  (89, 8, [(3, 3, 0, 0), (55, 0, 0, 0)])]
def k_X12_whoOf : List (Nat × Nat × List Ins) := [(0, 3, [(3, 0, 2, 0), (3, 1, 0, 0), (39, 22022, 259, 439), (3, 0, 2, 0), (0, 0, 0, 0), (3, 1, 0, 0), (0, 0, 0, 1), (6, 1, 0, 0), (39, 22032, 262, 442), (3, 0, 2, 0), (0, 0, 0, 2), (3, 1, 0, 0), (39, 22032, 262, 442), (0, 0, 0, 0), (4, 2, 0, 0), (0, 0, 0, 0), (4, 3, 0, 0), (16, 0, 23, 0)]),
  (23, 15, [(3, 3, 0, 0), (3, 0, 2, 0), (21, 12, 3, 13), (0, 0, 0, 0), (26, 0, 0, 0), (13, 3, 66, 0), (3, 0, 2, 0), (0, 0, 0, 0), (0, 0, 0, 1), (3, 3, 0, 0), (3, 1, 0, 0), (39, 22052, 261, 451), (3, 2, 0, 0), (3, 0, 2, 0), (0, 0, 0, 1), (0, 0, 0, 2), (39, 22032, 284, 498), (12, 0, 57, 0), (0, 0, 0, 1), (3, 3, 0, 0), (6, 6, 0, 0), (15, 0, 58, 0), (6, 4, 0, 0), (4, 2, 0, 0), (5, 3, 0, 1), (15, 0, 23, 0), (16, 0, 23, 0)]),
  (57, 11, [(0, 0, 0, 0), (6, 4, 0, 0), (4, 2, 0, 0), (5, 3, 0, 1), (15, 0, 23, 0), (16, 0, 23, 0)]),
  (66, 4, [(3, 2, 0, 0), (55, 0, 0, 0)])]
def k_X12_who : List (Nat × Nat × List Ins) := [(0, 3, [(3, 0, 2, 0), (0, 0, 0, 0), (22, 12, 0, 154), (3, 1, 0, 0), (10, 0, 0, 0), (1, 0, 0, 1), (3, 0, 2, 0), (39, 22012, 197, 174), (10, 0, 0, 0), (39, 30, 186, 160), (12, 0, 27, 0), (3, 0, 2, 0), (3, 1, 0, 0), (39, 22022, 302, 535), (15, 0, 28, 0), (55, 0, 0, 0)]),
  (27, 0, [(0, 0, 0, (-1)), (55, 0, 0, 0)])]
def k_X12_forge : List (Nat × Nat × List Ins) := [(0, 15, [(3, 0, 2, 0), (0, 0, 0, 0), (22, 12, 0, 154), (3, 2, 0, 0), (39, 10, 194, 182), (12, 0, 19, 0), (3, 3, 0, 0), (39, 10, 195, 186), (12, 1, 25, 0), (16, 0, 19, 0)]),
  (19, 1, [(3, 0, 2, 0), (0, 0, 0, (-1)), (39, 22022, 190, 164), (55, 0, 0, 0)]),
  (25, 15, [(3, 1, 0, 0), (10, 0, 0, 0), (1, 0, 0, 1), (3, 0, 2, 0), (39, 22012, 197, 174), (10, 0, 0, 0), (39, 30, 186, 160), (12, 0, 56, 0), (3, 0, 2, 0), (0, 1, 0, 12), (0, 1, 0, 12), (3, 1, 0, 0), (6, 2, 0, 0), (6, 0, 0, 0), (3, 2, 0, 0), (6, 0, 0, 0), (3, 3, 0, 0), (39, 22032, 191, 189), (15, 0, 62, 0), (55, 0, 0, 0)]),
  (56, 1, [(3, 0, 2, 0), (0, 1, 0, (-2)), (39, 22022, 190, 164), (55, 0, 0, 0)])]
def k_X12_skipped : List (Nat × Nat × List Ins) := [(0, 1, [(3, 0, 2, 0), (0, 0, 0, 0), (22, 12, 0, 154), (0, 0, 0, 1), (4, 1, 0, 0), (16, 0, 7, 0)]),
  (7, 3, [(3, 1, 0, 0), (3, 0, 2, 0), (39, 22012, 197, 174), (13, 4, 31, 0), (3, 0, 2, 0), (3, 1, 0, 0), (39, 22022, 302, 535), (12, 1, 25, 0), (3, 1, 0, 0), (55, 0, 0, 0)]),
  (25, 3, [(5, 1, 0, 1), (15, 0, 7, 0), (16, 0, 7, 0)]),
  (31, 0, [(0, 0, 0, (-1)), (55, 0, 0, 0)])]
def k_X12_missing : List (Nat × Nat × List Ins) := [(0, 7, [(3, 0, 2, 0), (0, 0, 0, 0), (22, 12, 0, 154), (3, 1, 0, 0), (10, 0, 0, 0), (1, 0, 0, 1), (3, 0, 2, 0), (39, 22012, 197, 174), (10, 0, 0, 0), (39, 30, 186, 160), (12, 0, 31, 0), (3, 2, 0, 0), (10, 0, 0, 0), (1, 0, 0, 1), (1, 1, 192, 2), (39, 30, 186, 160), (12, 1, 33, 0), (16, 0, 31, 0)]),
  (31, 0, [(0, 0, 0, (-1)), (55, 0, 0, 0)]),
  (33, 7, [(3, 0, 2, 0), (3, 1, 0, 0), (39, 22022, 259, 439), (3, 0, 2, 0), (0, 0, 0, 0), (3, 1, 0, 0), (0, 0, 0, 1), (6, 1, 0, 0), (39, 22032, 262, 442), (3, 0, 2, 0), (0, 0, 0, 4), (3, 1, 0, 0), (39, 22032, 262, 442), (3, 0, 2, 0), (21, 12, 3, 13), (0, 0, 0, 0), (26, 0, 0, 0), (4, 3, 0, 0), (0, 0, 0, 0), (4, 4, 0, 0), (0, 0, 0, 0), (4, 5, 0, 0), (16, 0, 65, 0)]),
  (65, 63, [(3, 5, 0, 0), (3, 3, 0, 0), (13, 3, 182, 0), (3, 0, 2, 0), (0, 0, 0, 0), (0, 0, 0, 1), (3, 5, 0, 0), (3, 1, 0, 0), (39, 22052, 261, 451), (0, 0, 0, 0), (4, 6, 0, 0), (16, 0, 83, 0)]),
  (83, 127, [(3, 6, 0, 0), (3, 3, 0, 0), (13, 3, 176, 0), (3, 0, 2, 0), (0, 0, 0, 1), (0, 0, 0, 2), (3, 6, 0, 0), (3, 1, 0, 0), (39, 22052, 261, 451), (3, 4, 0, 0), (3, 2, 0, 0), (0, 0, 0, 1), (13, 1, 118, 0), (3, 0, 2, 0), (0, 0, 0, 2), (0, 0, 0, 4), (39, 22032, 284, 498), (12, 0, 118, 0), (0, 0, 0, 1), (15, 0, 119, 0), (6, 0, 0, 0), (4, 4, 0, 0), (0, 0, 0, 0), (4, 7, 0, 0), (16, 0, 125, 0)]),
  (118, 111, [(0, 0, 0, 0), (6, 0, 0, 0), (4, 4, 0, 0), (0, 0, 0, 0), (4, 7, 0, 0), (16, 0, 125, 0)]),
  (125, 255, [(3, 7, 0, 0), (3, 3, 0, 0), (13, 3, 170, 0), (3, 2, 0, 0), (0, 0, 0, 2), (13, 1, 170, 0), (3, 0, 2, 0), (0, 0, 0, 2), (0, 0, 0, 3), (3, 7, 0, 0), (3, 1, 0, 0), (39, 22052, 261, 451), (3, 4, 0, 0), (3, 0, 2, 0), (0, 0, 0, 3), (0, 0, 0, 4), (39, 22032, 284, 498), (12, 0, 160, 0), (0, 0, 0, 1), (15, 0, 161, 0), (6, 0, 0, 0), (4, 4, 0, 0), (5, 7, 0, 1), (15, 0, 125, 0), (16, 0, 125, 0)]),
  (160, 239, [(0, 0, 0, 0), (6, 0, 0, 0), (4, 4, 0, 0), (5, 7, 0, 1), (15, 0, 125, 0), (16, 0, 125, 0)]),
  (170, 127, [(5, 6, 0, 1), (15, 0, 83, 0), (16, 0, 83, 0)]),
  (176, 63, [(5, 5, 0, 1), (15, 0, 65, 0), (16, 0, 65, 0)]),
  (182, 16, [(3, 4, 0, 0), (55, 0, 0, 0)])]
def k_X12_wasOf : List (Nat × Nat × List Ins) := [(0, 3, [(0, 0, 0, 0), (4, 2, 0, 0), (0, 0, 0, 0), (4, 3, 0, 0), (16, 0, 4, 0)]),
  (4, 15, [(3, 3, 0, 0), (0, 1, 0, 10), (13, 3, 79, 0), (3, 3, 0, 0), (4, 4, 0, 0), (0, 0, 0, 1), (4, 5, 0, 0), (16, 0, 16, 0)]),
  (16, 63, [(3, 5, 0, 0), (3, 0, 2, 0), (39, 22012, 197, 174), (13, 4, 53, 0), (3, 0, 2, 0), (3, 0, 2, 0), (21, 12, 3, 13), (0, 2, 0, 216), (3, 5, 0, 0), (6, 0, 0, 0), (26, 0, 0, 0), (3, 1, 0, 0), (3, 5, 0, 0), (3, 4, 0, 0), (39, 22052, 260, 432), (4, 4, 0, 0), (5, 5, 0, 1), (15, 0, 16, 0), (16, 0, 16, 0)]),
  (53, 31, [(3, 2, 0, 0), (3, 4, 0, 0), (3, 0, 2, 0), (3, 1, 0, 0), (39, 22022, 203, 380), (13, 1, 70, 0), (0, 0, 0, 1), (3, 3, 0, 0), (6, 6, 0, 0), (15, 0, 71, 0), (6, 4, 0, 0), (4, 2, 0, 0), (5, 3, 0, 1), (15, 0, 4, 0), (16, 0, 4, 0)]),
  (70, 11, [(0, 0, 0, 0), (6, 4, 0, 0), (4, 2, 0, 0), (5, 3, 0, 1), (15, 0, 4, 0), (16, 0, 4, 0)]),
  (79, 4, [(3, 2, 0, 0), (55, 0, 0, 0)])]
def k_X12_layAll : List (Nat × Nat × List Ins) := [(0, 1, [(0, 0, 0, 1), (4, 1, 0, 0), (16, 0, 2, 0)]),
  (2, 3, [(3, 1, 0, 0), (3, 0, 2, 0), (39, 22012, 197, 174), (13, 4, 21, 0), (3, 0, 2, 0), (3, 1, 0, 0), (39, 22022, 259, 439), (5, 1, 0, 1), (15, 0, 2, 0), (16, 0, 2, 0)]),
  (21, 0, [(42, 0, 0, 0)])]
def k_X12_was : List (Nat × Nat × List Ins) := [(0, 3, [(3, 0, 2, 0), (0, 0, 0, 0), (22, 12, 0, 154), (3, 1, 0, 0), (39, 10, 194, 182), (12, 1, 14, 0), (0, 0, 0, (-1)), (55, 0, 0, 0)]),
  (14, 3, [(3, 0, 2, 0), (39, 22012, 308, 538), (3, 0, 2, 0), (3, 1, 0, 0), (39, 22022, 307, 541), (55, 0, 0, 0)])]
def k_X12_ways : List (Nat × Nat × List Ins) := [(0, 1, [(3, 0, 2, 0), (0, 0, 0, 0), (22, 12, 0, 154), (3, 0, 2, 0), (39, 22012, 308, 538), (1, 0, 0, 1), (4, 1, 1, 0), (0, 0, 0, 0), (4, 3, 0, 0), (16, 0, 13, 0)]),
  (13, 11, [(3, 3, 0, 0), (0, 1, 0, 12), (13, 3, 69, 0), (3, 0, 2, 0), (3, 3, 0, 0), (39, 22022, 307, 541), (4, 4, 0, 0), (0, 0, 0, 0), (4, 5, 0, 0), (0, 0, 0, 0), (4, 6, 0, 0), (16, 0, 32, 0)]),
  (32, 123, [(3, 6, 0, 0), (0, 1, 0, 10), (13, 3, 57, 0), (3, 5, 0, 0), (3, 4, 0, 0), (3, 6, 0, 0), (6, 7, 0, 0), (0, 0, 0, 1), (6, 3, 0, 0), (6, 0, 0, 0), (4, 5, 0, 0), (5, 6, 0, 1), (15, 0, 32, 0), (16, 0, 32, 0)]),
  (57, 43, [(3, 1, 1, 0), (3, 5, 0, 0), (10, 0, 0, 0), (8, 2, 0, 0), (4, 1, 1, 0), (5, 3, 0, 1), (15, 0, 13, 0), (16, 0, 13, 0)]),
  (69, 2, [(3, 1, 1, 0), (56, 0, 0, 0)])]
def k_X12_claimant : List (Nat × Nat × List Ins) := [(0, 31, [(3, 0, 2, 0), (0, 0, 0, 0), (22, 12, 0, 154), (3, 1, 0, 0), (0, 0, 0, (-1)), (13, 2, 44, 0), (3, 2, 0, 0), (39, 10, 196, 211), (12, 0, 44, 0), (3, 3, 0, 0), (3, 2, 0, 0), (13, 5, 44, 0), (3, 3, 0, 0), (0, 2, 0, 150), (13, 4, 44, 0), (3, 4, 0, 0), (10, 0, 0, 0), (1, 1, 254, (-1)), (1, 1, 201, 5), (39, 30, 186, 160), (12, 1, 50, 0), (16, 0, 44, 0)]),
  (44, 1, [(3, 0, 2, 0), (0, 0, 0, (-1)), (39, 22022, 190, 164), (55, 0, 0, 0)]),
  (50, 31, [(3, 1, 0, 0), (0, 0, 0, (-1)), (13, 0, 70, 0), (3, 0, 2, 0), (3, 1, 0, 0), (39, 22022, 201, 544), (12, 1, 70, 0), (3, 0, 2, 0), (0, 1, 0, (-2)), (39, 22022, 190, 164), (55, 0, 0, 0)]),
  (70, 31, [(3, 0, 2, 0), (21, 12, 3, 13), (0, 1, 0, 6), (26, 0, 0, 0), (4, 5, 0, 0), (3, 5, 0, 0), (0, 1, 0, 8), (13, 1, 93, 0), (3, 0, 2, 0), (0, 1, 0, (-5)), (39, 22022, 190, 164), (55, 0, 0, 0)]),
  (93, 63, [(0, 2, 0, 348), (0, 0, 0, 4), (3, 5, 0, 0), (6, 2, 0, 0), (6, 0, 0, 0), (4, 6, 0, 0), (3, 0, 2, 0), (21, 12, 3, 13), (3, 6, 0, 0), (3, 1, 0, 0), (27, 0, 0, 0), (3, 0, 2, 0), (21, 12, 3, 13), (3, 6, 0, 0), (0, 0, 0, 1), (6, 0, 0, 0), (3, 2, 0, 0), (27, 0, 0, 0), (3, 0, 2, 0), (21, 12, 3, 13), (3, 6, 0, 0), (0, 0, 0, 2), (6, 0, 0, 0), (3, 3, 0, 0), (27, 0, 0, 0), (3, 0, 2, 0), (21, 12, 3, 13), (3, 6, 0, 0), (0, 0, 0, 3), (6, 0, 0, 0), (3, 4, 0, 0), (27, 0, 0, 0), (3, 0, 2, 0), (21, 12, 3, 13), (0, 1, 0, 6), (50, 0, 0, 0), (26, 0, 0, 0), (0, 0, 0, 1), (6, 0, 0, 0), (27, 0, 0, 0), (3, 0, 2, 0), (3, 5, 0, 0), (39, 22022, 190, 164), (55, 0, 0, 0)])]
def k_X12_ofClaimant : List (Nat × Nat × List Ins) := [(0, 7, [(3, 0, 2, 0), (21, 12, 3, 13), (0, 2, 0, 348), (0, 0, 0, 4), (3, 1, 0, 0), (6, 2, 0, 0), (6, 0, 0, 0), (3, 2, 0, 0), (6, 0, 0, 0), (26, 0, 0, 0), (55, 0, 0, 0)])]
def k_X12_claim : List (Nat × Nat × List Ins) := [(0, 15, [(3, 0, 2, 0), (0, 0, 0, 0), (22, 12, 0, 154), (3, 2, 0, 0), (12, 1, 21, 0), (3, 3, 0, 0), (10, 0, 0, 0), (1, 0, 0, 0), (1, 1, 547, 150), (39, 30, 186, 160), (15, 0, 45, 0), (16, 0, 45, 0)]),
  (21, 15, [(3, 2, 0, 0), (0, 0, 0, 1), (13, 1, 44, 0), (3, 3, 0, 0), (10, 0, 0, 0), (1, 1, 254, (-1)), (1, 1, 201, 5), (39, 30, 186, 160), (12, 0, 44, 0), (0, 0, 0, 1), (15, 0, 45, 0), (16, 0, 45, 0)]),
  (44, 15, [(0, 0, 0, 0), (16, 0, 45, 0)]),
  (45, 15, [(4, 4, 0, 0), (3, 4, 0, 0), (12, 1, 58, 0), (3, 0, 2, 0), (0, 0, 0, (-1)), (39, 22022, 190, 164), (55, 0, 0, 0)]),
  (58, 15, [(3, 0, 2, 0), (3, 1, 0, 0), (39, 22022, 201, 544), (12, 1, 73, 0), (3, 0, 2, 0), (0, 1, 0, (-2)), (39, 22022, 190, 164), (55, 0, 0, 0)]),
  (73, 15, [(3, 2, 0, 0), (12, 1, 95, 0), (3, 3, 0, 0), (3, 0, 2, 0), (3, 1, 0, 0), (0, 0, 0, 1), (39, 22032, 312, 549), (13, 4, 95, 0), (3, 0, 2, 0), (0, 0, 0, (-1)), (39, 22022, 190, 164), (15, 0, 111, 0), (55, 0, 0, 0)]),
  (95, 15, [(3, 0, 2, 0), (0, 2, 0, 348), (0, 0, 0, 4), (3, 1, 0, 0), (6, 2, 0, 0), (6, 0, 0, 0), (0, 0, 0, 2), (6, 0, 0, 0), (3, 2, 0, 0), (6, 0, 0, 0), (3, 3, 0, 0), (39, 22032, 191, 189), (55, 0, 0, 0)])]
def k_X12_born : List (Nat × Nat × List Ins) := [(0, 7, [(3, 0, 2, 0), (0, 0, 0, 0), (22, 12, 0, 154), (3, 0, 2, 0), (3, 1, 0, 0), (39, 22022, 201, 544), (12, 0, 34, 0), (3, 2, 0, 0), (10, 0, 0, 0), (1, 0, 0, 0), (1, 1, 205, 3), (39, 30, 186, 160), (12, 0, 34, 0), (3, 0, 2, 0), (3, 1, 0, 0), (3, 2, 0, 0), (39, 22032, 312, 549), (15, 0, 35, 0), (55, 0, 0, 0)]),
  (34, 0, [(0, 0, 0, (-1)), (55, 0, 0, 0)])]
def k_X12_isAlive : List (Nat × Nat × List Ins) := [(0, 7, [(3, 2, 0, 0), (3, 0, 2, 0), (3, 1, 0, 0), (0, 0, 0, 1), (39, 22032, 312, 549), (13, 2, 24, 0), (3, 2, 0, 0), (3, 0, 2, 0), (3, 1, 0, 0), (0, 0, 0, 2), (39, 22032, 312, 549), (13, 3, 24, 0), (0, 0, 0, 1), (15, 0, 25, 0), (58, 0, 0, 0)]),
  (24, 0, [(0, 0, 0, 0), (58, 0, 0, 0)])]
def k_X12_childrenOf : List (Nat × Nat × List Ins) := [(0, 7, [(0, 0, 0, 0), (4, 3, 0, 0), (0, 0, 0, 0), (4, 4, 0, 0), (16, 0, 5, 0)]),
  (5, 31, [(3, 4, 0, 0), (3, 0, 2, 0), (21, 12, 3, 13), (0, 1, 0, 6), (26, 0, 0, 0), (13, 3, 52, 0), (3, 3, 0, 0), (3, 0, 2, 0), (3, 4, 0, 0), (0, 0, 0, 0), (39, 22032, 312, 549), (3, 1, 0, 0), (13, 1, 43, 0), (3, 0, 2, 0), (3, 4, 0, 0), (3, 2, 0, 0), (39, 22032, 315, 552), (12, 0, 43, 0), (0, 0, 0, 1), (15, 0, 44, 0), (6, 0, 0, 0), (4, 3, 0, 0), (5, 4, 0, 1), (15, 0, 5, 0), (16, 0, 5, 0)]),
  (43, 23, [(0, 0, 0, 0), (6, 0, 0, 0), (4, 3, 0, 0), (5, 4, 0, 1), (15, 0, 5, 0), (16, 0, 5, 0)]),
  (52, 8, [(3, 3, 0, 0), (55, 0, 0, 0)])]
def k_X12_setClaimant : List (Nat × Nat × List Ins) := [(0, 7, [(3, 0, 2, 0), (3, 1, 0, 0), (0, 0, 0, 3), (39, 22032, 312, 549), (4, 3, 0, 0), (3, 0, 2, 0), (3, 2, 0, 0), (39, 22022, 250, 407), (3, 0, 2, 0), (21, 12, 31, 100), (0, 0, 0, 2), (3, 2, 0, 0), (3, 0, 2, 0), (3, 1, 0, 0), (0, 0, 0, 1), (39, 22032, 312, 549), (6, 1, 0, 0), (10, 0, 0, 0), (52, 0, 0, 0), (3, 0, 2, 0), (21, 12, 31, 100), (0, 1, 0, 7), (3, 1, 0, 0), (10, 0, 0, 0), (52, 0, 0, 0), (3, 0, 2, 0), (21, 12, 31, 100), (0, 1, 0, 8), (3, 0, 2, 0), (3, 1, 0, 0), (0, 0, 0, 1), (39, 22032, 312, 549), (10, 0, 0, 0), (52, 0, 0, 0), (3, 0, 2, 0), (21, 12, 31, 100), (0, 1, 0, 9), (3, 0, 2, 0), (3, 3, 0, 0), (39, 22022, 200, 504), (12, 0, 73, 0), (3, 0, 2, 0), (3, 3, 0, 0), (39, 22022, 290, 510), (10, 0, 0, 0), (15, 0, 76, 0), (16, 0, 76, 0)]),
  (73, 7, [(1, 1, 254, (-1)), (16, 0, 76, 0)]),
  (76, 7, [(52, 0, 0, 0), (3, 0, 2, 0), (21, 12, 31, 100), (0, 1, 0, 10), (3, 0, 2, 0), (3, 1, 0, 0), (3, 2, 0, 0), (39, 22032, 316, 555), (10, 0, 0, 0), (52, 0, 0, 0), (42, 0, 0, 0)])]
def k_X12_ranks : List (Nat × Nat × List Ins) := [(0, 7, [(3, 0, 2, 0), (3, 1, 0, 0), (3, 2, 0, 0), (39, 22032, 317, 558), (3, 0, 2, 0), (0, 0, 0, 3), (3, 1, 0, 0), (10, 0, 0, 0), (39, 22032, 249, 413), (0, 0, 0, 0), (0, 2, 0, 999), (39, 30, 189, 403), (55, 0, 0, 0)])]
def k_X12_isOut : List (Nat × Nat × List Ins) := [(0, 7, [(3, 0, 2, 0), (3, 1, 0, 0), (3, 2, 0, 0), (39, 22032, 317, 558), (3, 0, 2, 0), (0, 0, 0, 4), (1, 0, 0, 0), (39, 22032, 249, 413), (1, 0, 0, 1), (9, 0, 0, 0), (12, 1, 21, 0), (0, 0, 0, 1), (15, 0, 22, 0), (58, 0, 0, 0)]),
  (21, 0, [(0, 0, 0, 0), (58, 0, 0, 0)])]
def k_X12_stands : List (Nat × Nat × List Ins) := [(0, 15, [(3, 0, 2, 0), (0, 0, 0, 0), (22, 12, 0, 154), (3, 0, 2, 0), (3, 1, 0, 0), (39, 22022, 201, 544), (12, 0, 32, 0), (3, 2, 0, 0), (39, 10, 196, 211), (12, 0, 32, 0), (3, 3, 0, 0), (10, 0, 0, 0), (1, 0, 0, 0), (1, 1, 205, 3), (39, 30, 186, 160), (12, 1, 34, 0), (16, 0, 32, 0)]),
  (32, 0, [(0, 0, 0, (-1)), (55, 0, 0, 0)]),
  (34, 15, [(3, 3, 0, 0), (17, 9, 0, 25)]),
  (60, 7, [(3, 0, 2, 0), (3, 1, 0, 0), (3, 2, 0, 0), (39, 22032, 315, 552), (12, 0, 73, 0), (0, 0, 0, 1), (15, 0, 74, 0), (55, 0, 0, 0)]),
  (73, 0, [(0, 0, 0, 0), (55, 0, 0, 0)]),
  (75, 7, [(3, 0, 2, 0), (3, 1, 0, 0), (3, 2, 0, 0), (39, 22032, 318, 561), (55, 0, 0, 0)]),
  (82, 7, [(3, 0, 2, 0), (3, 1, 0, 0), (3, 2, 0, 0), (39, 22032, 319, 564), (12, 0, 95, 0), (0, 0, 0, 1), (15, 0, 96, 0), (55, 0, 0, 0)]),
  (95, 0, [(0, 0, 0, 0), (55, 0, 0, 0)]),
  (97, 7, [(3, 0, 2, 0), (3, 1, 0, 0), (3, 2, 0, 0), (39, 22032, 316, 555), (55, 0, 0, 0)])]
def k_X12_findRulers : List (Nat × Nat × List Ins) := [(0, 1, [(0, 0, 0, 0), (4, 1, 0, 0), (16, 0, 2, 0)]),
  (2, 3, [(3, 1, 0, 0), (0, 1, 0, 100), (13, 3, 161, 0), (3, 1, 0, 0), (12, 1, 16, 0), (0, 0, 0, (-1)), (15, 0, 24, 0), (16, 0, 24, 0)]),
  (16, 3, [(3, 0, 2, 0), (21, 12, 52, 139), (3, 1, 0, 0), (0, 0, 0, 1), (6, 1, 0, 0), (26, 0, 0, 0), (16, 0, 24, 0)]),
  (24, 3, [(4, 2, 0, 0), (3, 2, 0, 0), (0, 0, 0, (-1)), (13, 0, 43, 0), (3, 0, 2, 0), (3, 2, 0, 0), (3, 1, 0, 0), (39, 22032, 315, 552), (12, 0, 43, 0), (3, 2, 0, 0), (15, 0, 44, 0), (16, 0, 44, 0)]),
  (43, 3, [(0, 0, 0, (-1)), (16, 0, 44, 0)]),
  (44, 3, [(4, 2, 0, 0), (0, 4, 513, 100000000), (4, 3, 0, 0), (3, 2, 0, 0), (0, 0, 0, (-1)), (13, 0, 58, 0), (0, 0, 0, 1), (15, 0, 59, 0), (4, 4, 0, 0), (0, 0, 0, 0), (4, 5, 0, 0), (16, 0, 64, 0)]),
  (58, 15, [(0, 0, 0, 0), (4, 4, 0, 0), (0, 0, 0, 0), (4, 5, 0, 0), (16, 0, 64, 0)]),
  (64, 63, [(3, 5, 0, 0), (3, 0, 2, 0), (21, 12, 3, 13), (0, 1, 0, 6), (26, 0, 0, 0), (13, 3, 148, 0), (3, 4, 0, 0), (12, 1, 148, 0), (3, 0, 2, 0), (3, 5, 0, 0), (3, 1, 0, 0), (39, 22032, 315, 552), (12, 0, 111, 0), (3, 0, 2, 0), (3, 5, 0, 0), (3, 1, 0, 0), (39, 22032, 319, 564), (12, 1, 111, 0), (3, 0, 2, 0), (3, 5, 0, 0), (3, 1, 0, 0), (39, 22032, 318, 561), (15, 0, 114, 0), (16, 0, 114, 0)]),
  (111, 63, [(0, 4, 513, 100000000), (16, 0, 114, 0)]),
  (114, 63, [(4, 6, 0, 0), (3, 6, 0, 0), (3, 3, 0, 0), (13, 3, 127, 0), (3, 5, 0, 0), (15, 0, 128, 0), (16, 0, 128, 0)]),
  (127, 127, [(3, 2, 0, 0), (16, 0, 128, 0)]),
  (128, 123, [(4, 2, 0, 0), (3, 6, 0, 0), (3, 3, 0, 0), (13, 3, 140, 0), (3, 6, 0, 0), (15, 0, 141, 0), (4, 3, 0, 0), (5, 5, 0, 1), (15, 0, 64, 0), (16, 0, 64, 0)]),
  (140, 63, [(3, 3, 0, 0), (4, 3, 0, 0), (5, 5, 0, 1), (15, 0, 64, 0), (16, 0, 64, 0)]),
  (148, 7, [(3, 0, 2, 0), (21, 12, 52, 139), (3, 1, 0, 0), (3, 2, 0, 0), (27, 0, 0, 0), (5, 1, 0, 1), (15, 0, 2, 0), (16, 0, 2, 0)]),
  (161, 0, [(42, 0, 0, 0)])]
def k_X12_ruler : List (Nat × Nat × List Ins) := [(0, 3, [(3, 0, 2, 0), (0, 0, 0, 0), (22, 12, 0, 154), (3, 1, 0, 0), (39, 10, 196, 211), (12, 1, 14, 0), (0, 0, 0, (-1)), (55, 0, 0, 0)]),
  (14, 3, [(3, 0, 2, 0), (39, 22012, 321, 567), (3, 0, 2, 0), (21, 12, 52, 139), (3, 1, 0, 0), (26, 0, 0, 0), (55, 0, 0, 0)])]
def k_X12_reign : List (Nat × Nat × List Ins) := [(0, 7, [(3, 0, 2, 0), (0, 0, 0, 0), (22, 12, 0, 154), (3, 1, 0, 0), (0, 0, 0, (-1)), (13, 0, 24, 0), (3, 2, 0, 0), (10, 0, 0, 0), (1, 0, 0, 0), (1, 1, 192, 2), (39, 30, 186, 160), (12, 1, 24, 0), (0, 0, 0, (-1)), (55, 0, 0, 0)]),
  (24, 7, [(3, 0, 2, 0), (39, 22012, 321, 567), (0, 0, 0, 0), (4, 3, 0, 0), (0, 0, 0, 0), (4, 4, 0, 0), (16, 0, 33, 0)]),
  (33, 31, [(3, 4, 0, 0), (0, 1, 0, 100), (13, 3, 130, 0), (3, 4, 0, 0), (4, 5, 0, 0), (16, 0, 44, 0)]),
  (44, 63, [(3, 5, 0, 0), (0, 1, 0, 100), (13, 3, 74, 0), (3, 0, 2, 0), (21, 12, 52, 139), (3, 5, 0, 0), (26, 0, 0, 0), (3, 0, 2, 0), (21, 12, 52, 139), (3, 4, 0, 0), (26, 0, 0, 0), (13, 1, 74, 0), (5, 5, 0, 1), (15, 0, 44, 0), (16, 0, 44, 0)]),
  (74, 63, [(3, 0, 2, 0), (21, 12, 52, 139), (3, 4, 0, 0), (26, 0, 0, 0), (0, 0, 0, (-1)), (13, 0, 123, 0), (3, 3, 0, 0), (3, 1, 0, 0), (13, 1, 120, 0), (3, 2, 0, 0), (12, 1, 104, 0), (3, 0, 2, 0), (21, 12, 52, 139), (3, 4, 0, 0), (26, 0, 0, 0), (15, 0, 119, 0), (55, 0, 0, 0)]),
  (104, 52, [(3, 2, 0, 0), (0, 0, 0, 1), (13, 1, 114, 0), (3, 4, 0, 0), (15, 0, 119, 0), (55, 0, 0, 0)]),
  (114, 48, [(3, 5, 0, 0), (3, 4, 0, 0), (6, 1, 0, 0), (55, 0, 0, 0)]),
  (120, 47, [(5, 3, 0, 1), (16, 0, 123, 0)]),
  (123, 47, [(3, 5, 0, 0), (4, 4, 0, 0), (15, 0, 33, 0), (16, 0, 33, 0)]),
  (130, 10, [(3, 1, 0, 0), (0, 0, 0, (-1)), (13, 1, 139, 0), (3, 3, 0, 0), (15, 0, 140, 0), (55, 0, 0, 0)]),
  (139, 0, [(0, 0, 0, (-1)), (55, 0, 0, 0)])]
def k_X12_vacant : List (Nat × Nat × List Ins) := [(0, 1, [(3, 0, 2, 0), (0, 0, 0, 0), (22, 12, 0, 154), (3, 0, 2, 0), (39, 22012, 321, 567), (0, 0, 0, 0), (4, 1, 0, 0), (0, 0, 0, 0), (4, 2, 0, 0), (16, 0, 13, 0)]),
  (13, 7, [(3, 2, 0, 0), (0, 1, 0, 100), (13, 3, 43, 0), (3, 1, 0, 0), (3, 0, 2, 0), (21, 12, 52, 139), (3, 2, 0, 0), (26, 0, 0, 0), (0, 0, 0, (-1)), (13, 1, 34, 0), (0, 0, 0, 1), (15, 0, 35, 0), (6, 0, 0, 0), (4, 1, 0, 0), (5, 2, 0, 1), (15, 0, 13, 0), (16, 0, 13, 0)]),
  (34, 5, [(0, 0, 0, 0), (6, 0, 0, 0), (4, 1, 0, 0), (5, 2, 0, 1), (15, 0, 13, 0), (16, 0, 13, 0)]),
  (43, 2, [(3, 1, 0, 0), (55, 0, 0, 0)])]
def k_X12_line : List (Nat × Nat × List Ins) := [(0, 7, [(3, 0, 2, 0), (0, 0, 0, 0), (22, 12, 0, 154), (3, 1, 0, 0), (39, 10, 196, 211), (12, 1, 14, 0), (0, 0, 0, (-1)), (55, 0, 0, 0)]),
  (14, 7, [(0, 0, 0, 0), (4, 3, 0, 0), (0, 0, 0, 0), (4, 4, 0, 0), (16, 0, 19, 0)]),
  (19, 31, [(3, 4, 0, 0), (3, 0, 2, 0), (21, 12, 3, 13), (0, 1, 0, 6), (26, 0, 0, 0), (13, 3, 98, 0), (3, 0, 2, 0), (21, 12, 53, 142), (3, 4, 0, 0), (3, 0, 2, 0), (3, 4, 0, 0), (3, 1, 0, 0), (39, 22032, 315, 552), (12, 0, 67, 0), (3, 0, 2, 0), (3, 4, 0, 0), (3, 1, 0, 0), (39, 22032, 319, 564), (12, 1, 67, 0), (3, 0, 2, 0), (3, 4, 0, 0), (3, 1, 0, 0), (39, 22032, 318, 561), (15, 0, 70, 0), (16, 0, 70, 0)]),
  (67, 31, [(0, 4, 513, 100000000), (16, 0, 70, 0)]),
  (70, 31, [(27, 0, 0, 0), (3, 3, 0, 0), (3, 0, 2, 0), (21, 12, 53, 142), (3, 4, 0, 0), (26, 0, 0, 0), (0, 4, 513, 100000000), (13, 3, 89, 0), (0, 0, 0, 1), (15, 0, 90, 0), (6, 0, 0, 0), (4, 3, 0, 0), (5, 4, 0, 1), (15, 0, 19, 0), (16, 0, 19, 0)]),
  (89, 23, [(0, 0, 0, 0), (6, 0, 0, 0), (4, 3, 0, 0), (5, 4, 0, 1), (15, 0, 19, 0), (16, 0, 19, 0)]),
  (98, 13, [(0, 0, 0, 0), (4, 4, 0, 0), (16, 0, 101, 0)]),
  (101, 29, [(3, 4, 0, 0), (3, 0, 2, 0), (21, 12, 3, 13), (0, 1, 0, 6), (26, 0, 0, 0), (13, 3, 221, 0), (3, 2, 0, 0), (0, 0, 0, (-1)), (13, 0, 221, 0), (0, 0, 0, 0), (4, 5, 0, 0), (0, 0, 0, 0), (4, 6, 0, 0), (16, 0, 124, 0)]),
  (124, 125, [(3, 6, 0, 0), (3, 0, 2, 0), (21, 12, 3, 13), (0, 1, 0, 6), (26, 0, 0, 0), (13, 3, 193, 0), (3, 5, 0, 0), (3, 0, 2, 0), (21, 12, 53, 142), (3, 6, 0, 0), (26, 0, 0, 0), (3, 0, 2, 0), (21, 12, 53, 142), (3, 4, 0, 0), (26, 0, 0, 0), (13, 2, 179, 0), (3, 0, 2, 0), (21, 12, 53, 142), (3, 6, 0, 0), (26, 0, 0, 0), (3, 0, 2, 0), (21, 12, 53, 142), (3, 4, 0, 0), (26, 0, 0, 0), (13, 1, 183, 0), (3, 6, 0, 0), (3, 4, 0, 0), (13, 3, 183, 0), (16, 0, 179, 0)]),
  (179, 93, [(0, 0, 0, 1), (15, 0, 184, 0), (6, 0, 0, 0), (4, 5, 0, 0), (5, 6, 0, 1), (15, 0, 124, 0), (16, 0, 124, 0)]),
  (183, 93, [(0, 0, 0, 0), (6, 0, 0, 0), (4, 5, 0, 0), (5, 6, 0, 1), (15, 0, 124, 0), (16, 0, 124, 0)]),
  (193, 61, [(3, 0, 2, 0), (21, 12, 53, 142), (3, 4, 0, 0), (26, 0, 0, 0), (0, 4, 513, 100000000), (13, 3, 215, 0), (3, 5, 0, 0), (3, 2, 0, 0), (13, 1, 215, 0), (3, 4, 0, 0), (55, 0, 0, 0)]),
  (215, 29, [(5, 4, 0, 1), (15, 0, 101, 0), (16, 0, 101, 0)]),
  (221, 12, [(3, 2, 0, 0), (0, 0, 0, (-1)), (13, 1, 230, 0), (3, 3, 0, 0), (15, 0, 231, 0), (55, 0, 0, 0)]),
  (230, 0, [(0, 0, 0, (-1)), (55, 0, 0, 0)])]
def k_X12_readSum : List (Nat × Nat × List Ins) := [(0, 3, [(3, 0, 2, 0), (21, 12, 54, 145), (3, 1, 0, 0), (3, 0, 2, 0), (18, 12, 19, 266), (27, 0, 0, 0), (3, 0, 2, 0), (20, 12, 15, 227), (12, 1, 22, 0), (3, 0, 2, 0), (0, 0, 0, 0), (39, 22022, 240, 357), (16, 0, 22, 0)]),
  (22, 3, [(3, 0, 2, 0), (21, 12, 54, 145), (3, 1, 0, 0), (0, 0, 0, 1), (6, 0, 0, 0), (3, 0, 2, 0), (18, 12, 19, 266), (27, 0, 0, 0), (42, 0, 0, 0)])]
def k_X12_readHead : List (Nat × Nat × List Ins) := [(0, 1, [(3, 0, 2, 0), (1, 1, 570, 16819668), (39, 22022, 221, 287), (4, 1, 0, 0), (3, 0, 2, 0), (1, 1, 572, 641271301), (39, 22022, 221, 287), (12, 0, 22, 0), (0, 0, 0, 3), (15, 0, 51, 0), (16, 0, 51, 0)]),
  (22, 3, [(3, 0, 2, 0), (1, 1, 574, 114201), (39, 22022, 221, 287), (12, 0, 36, 0), (0, 0, 0, 4), (15, 0, 51, 0), (16, 0, 51, 0)]),
  (36, 3, [(3, 0, 2, 0), (1, 1, 576, 21484648), (39, 22022, 221, 287), (12, 0, 50, 0), (0, 0, 0, 5), (15, 0, 51, 0), (16, 0, 51, 0)]),
  (50, 3, [(0, 0, 0, (-1)), (16, 0, 51, 0)]),
  (51, 3, [(4, 2, 0, 0), (3, 0, 2, 0), (3, 1, 0, 0), (12, 1, 62, 0), (3, 2, 0, 0), (0, 0, 0, (-1)), (13, 0, 75, 0), (16, 0, 62, 0)]),
  (62, 7, [(3, 0, 2, 0), (18, 12, 17, 354), (0, 1, 0, 12), (13, 3, 75, 0), (0, 0, 0, 1), (15, 0, 76, 0), (16, 0, 76, 0)]),
  (75, 7, [(0, 0, 0, 0), (16, 0, 76, 0)]),
  (76, 7, [(39, 22022, 223, 262), (3, 0, 2, 0), (20, 12, 15, 227), (12, 1, 90, 0), (3, 1, 0, 0), (12, 1, 92, 0), (16, 0, 90, 0)]),
  (90, 4, [(3, 2, 0, 0), (55, 0, 0, 0)]),
  (92, 1, [(3, 0, 2, 0), (1, 1, 578, 412456564), (39, 22022, 221, 287), (12, 0, 106, 0), (0, 0, 0, 0), (15, 0, 135, 0), (16, 0, 135, 0)]),
  (106, 1, [(3, 0, 2, 0), (1, 1, 580, 111838500468), (39, 22022, 221, 287), (12, 0, 120, 0), (0, 0, 0, 1), (15, 0, 135, 0), (16, 0, 135, 0)]),
  (120, 1, [(3, 0, 2, 0), (1, 1, 582, 89), (39, 22022, 221, 287), (12, 0, 134, 0), (0, 0, 0, 2), (15, 0, 135, 0), (16, 0, 135, 0)]),
  (134, 1, [(0, 0, 0, (-1)), (16, 0, 135, 0)]),
  (135, 1, [(4, 2, 0, 0), (3, 0, 2, 0), (3, 2, 0, 0), (0, 0, 0, (-1)), (13, 0, 146, 0), (0, 0, 0, 1), (15, 0, 147, 0), (39, 22022, 223, 262), (3, 2, 0, 0), (55, 0, 0, 0)]),
  (146, 4, [(0, 0, 0, 0), (39, 22022, 223, 262), (3, 2, 0, 0), (55, 0, 0, 0)])]
def k_X12_readOrder : List (Nat × Nat × List Ins) := [(0, 1, [(3, 0, 2, 0), (39, 22012, 327, 584), (4, 1, 0, 0), (3, 0, 2, 0), (20, 12, 15, 227), (12, 0, 13, 0), (42, 0, 0, 0)]),
  (13, 3, [(0, 1, 0, 10), (3, 0, 2, 0), (18, 12, 17, 354), (6, 2, 0, 0), (4, 2, 0, 0), (3, 0, 2, 0), (11, 0, 0, 0), (18, 12, 17, 354), (0, 0, 0, 1), (6, 0, 0, 0), (22, 12, 17, 354), (3, 0, 2, 0), (21, 12, 54, 145), (3, 2, 0, 0), (3, 1, 0, 0), (27, 0, 0, 0), (3, 1, 0, 0), (0, 0, 0, 2), (13, 0, 48, 0), (3, 1, 0, 0), (0, 0, 0, 5), (13, 1, 55, 0), (16, 0, 48, 0)]),
  (48, 7, [(3, 0, 2, 0), (3, 2, 0, 0), (0, 0, 0, 1), (6, 0, 0, 0), (39, 22022, 326, 587), (16, 0, 55, 0)]),
  (55, 7, [(3, 1, 0, 0), (0, 0, 0, 5), (13, 1, 85, 0), (3, 0, 2, 0), (20, 12, 15, 227), (12, 1, 85, 0), (3, 0, 2, 0), (3, 0, 2, 0), (1, 1, 590, 52), (39, 22022, 221, 287), (39, 22022, 223, 262), (3, 0, 2, 0), (3, 2, 0, 0), (0, 0, 0, 3), (6, 0, 0, 0), (39, 22022, 326, 587), (16, 0, 85, 0)]),
  (85, 7, [(3, 1, 0, 0), (0, 0, 0, 5), (13, 1, 115, 0), (3, 0, 2, 0), (20, 12, 15, 227), (12, 1, 115, 0), (3, 0, 2, 0), (3, 0, 2, 0), (1, 1, 592, 763528), (39, 22022, 221, 287), (39, 22022, 223, 262), (3, 0, 2, 0), (3, 2, 0, 0), (0, 0, 0, 5), (6, 0, 0, 0), (39, 22022, 326, 587), (16, 0, 115, 0)]),
  (115, 5, [(3, 0, 2, 0), (21, 12, 54, 145), (3, 2, 0, 0), (0, 1, 0, 9), (6, 0, 0, 0), (0, 0, 0, 1), (27, 0, 0, 0), (3, 0, 2, 0), (20, 12, 15, 227), (12, 1, 163, 0), (3, 0, 2, 0), (1, 1, 594, 21279923), (39, 22022, 221, 287), (12, 0, 163, 0), (3, 0, 2, 0), (39, 22012, 220, 231), (3, 0, 2, 0), (21, 12, 54, 145), (3, 2, 0, 0), (0, 1, 0, 9), (6, 0, 0, 0), (3, 0, 2, 0), (1, 0, 0, 1), (1, 1, 279, 20), (39, 22032, 224, 321), (27, 0, 0, 0), (16, 0, 163, 0)]),
  (163, 5, [(3, 0, 2, 0), (21, 12, 54, 145), (3, 2, 0, 0), (0, 1, 0, 7), (6, 0, 0, 0), (3, 0, 2, 0), (18, 12, 19, 266), (27, 0, 0, 0), (3, 0, 2, 0), (20, 12, 15, 227), (12, 1, 202, 0), (3, 0, 2, 0), (1, 1, 360, 294), (39, 22022, 221, 287), (12, 0, 202, 0), (3, 0, 2, 0), (39, 22012, 220, 231), (3, 0, 2, 0), (0, 0, 0, 1), (39, 22022, 240, 357), (16, 0, 202, 0)]),
  (202, 5, [(3, 0, 2, 0), (21, 12, 54, 145), (3, 2, 0, 0), (0, 1, 0, 8), (6, 0, 0, 0), (3, 0, 2, 0), (18, 12, 19, 266), (27, 0, 0, 0), (42, 0, 0, 0)])]
def k_X12_setNow : List (Nat × Nat × List Ins) := [(0, 1, [(3, 0, 2, 0), (21, 12, 32, 103), (0, 0, 0, 1), (3, 0, 2, 0), (39, 22012, 197, 174), (10, 0, 0, 0), (52, 0, 0, 0), (3, 0, 2, 0), (21, 12, 32, 103), (0, 0, 0, 2), (3, 0, 2, 0), (3, 0, 2, 0), (39, 22012, 197, 174), (39, 22022, 264, 464), (10, 0, 0, 0), (52, 0, 0, 0), (3, 0, 2, 0), (21, 12, 32, 103), (0, 0, 0, 3), (3, 0, 2, 0), (3, 0, 2, 0), (39, 22012, 197, 174), (39, 22022, 274, 470), (10, 0, 0, 0), (52, 0, 0, 0), (3, 0, 2, 0), (21, 12, 32, 103), (0, 0, 0, 4), (3, 0, 2, 0), (21, 12, 3, 13), (0, 0, 0, 5), (26, 0, 0, 0), (10, 0, 0, 0), (52, 0, 0, 0), (3, 0, 2, 0), (21, 12, 32, 103), (0, 0, 0, 5), (3, 0, 2, 0), (3, 0, 2, 0), (39, 22012, 197, 174), (39, 22022, 251, 410), (10, 0, 0, 0), (52, 0, 0, 0), (3, 0, 2, 0), (21, 12, 32, 103), (0, 1, 0, 6), (3, 0, 2, 0), (18, 12, 55, 596), (10, 0, 0, 0), (52, 0, 0, 0), (42, 0, 0, 0)])]
def k_X12_sumOf : List (Nat × Nat × List Ins) := [(0, 3, [(3, 0, 2, 0), (0, 0, 0, 1), (24, 12, 16, 306), (3, 0, 2, 0), (3, 0, 2, 0), (21, 12, 54, 145), (3, 1, 0, 0), (26, 0, 0, 0), (3, 0, 2, 0), (21, 12, 54, 145), (3, 1, 0, 0), (0, 0, 0, 1), (6, 0, 0, 0), (26, 0, 0, 0), (39, 22032, 247, 394), (3, 0, 2, 0), (0, 0, 0, 0), (24, 12, 16, 306), (3, 0, 2, 0), (19, 12, 35, 391), (56, 0, 0, 0)])]
def k_X12_run : List (Nat × Nat × List Ins) := [(0, 3, [(3, 0, 2, 0), (39, 22012, 329, 599), (3, 0, 2, 0), (21, 12, 54, 145), (3, 1, 0, 0), (0, 1, 0, 7), (6, 0, 0, 0), (26, 0, 0, 0), (3, 0, 2, 0), (21, 12, 54, 145), (3, 1, 0, 0), (0, 1, 0, 8), (6, 0, 0, 0), (26, 0, 0, 0), (13, 3, 49, 0), (3, 0, 2, 0), (3, 1, 0, 0), (0, 1, 0, 7), (6, 0, 0, 0), (39, 22022, 330, 602), (4, 2, 1, 0), (3, 0, 2, 0), (20, 12, 34, 374), (12, 1, 47, 0), (3, 2, 1, 0), (1, 0, 0, 0), (9, 0, 0, 0), (12, 1, 49, 0), (16, 0, 47, 0)]),
  (47, 0, [(0, 0, 0, 0), (55, 0, 0, 0)]),
  (49, 3, [(3, 0, 2, 0), (3, 1, 0, 0), (3, 0, 2, 0), (21, 12, 54, 145), (3, 1, 0, 0), (26, 0, 0, 0), (39, 22032, 332, 606), (4, 2, 0, 0), (3, 0, 2, 0), (11, 0, 0, 0), (18, 12, 55, 596), (3, 2, 0, 0), (12, 3, 74, 0), (0, 0, 0, 0), (15, 0, 75, 0), (16, 0, 75, 0)]),
  (74, 4, [(0, 0, 0, 1), (16, 0, 75, 0)]),
  (75, 4, [(6, 0, 0, 0), (22, 12, 55, 596), (3, 2, 0, 0), (12, 3, 87, 0), (3, 2, 0, 0), (15, 0, 88, 0), (55, 0, 0, 0)]),
  (87, 0, [(0, 0, 0, 0), (55, 0, 0, 0)])]
def k_X12_act : List (Nat × Nat × List Ins) := [(0, 7, [(3, 2, 0, 0), (17, 10, 0, 31)]),
  (32, 1, [(3, 0, 2, 0), (39, 22012, 197, 174), (12, 1, 42, 0), (0, 1, 0, (-3)), (55, 0, 0, 0)]),
  (42, 1, [(3, 0, 2, 0), (21, 12, 3, 13), (0, 0, 0, 4), (50, 0, 0, 0), (26, 0, 0, 0), (0, 0, 0, 1), (6, 1, 0, 0), (27, 0, 0, 0), (0, 0, 0, 0), (55, 0, 0, 0)]),
  (54, 1, [(3, 0, 2, 0), (39, 22012, 285, 501), (55, 0, 0, 0)]),
  (59, 3, [(3, 0, 2, 0), (3, 1, 0, 0), (39, 22022, 333, 609), (55, 0, 0, 0)]),
  (65, 3, [(3, 0, 2, 0), (3, 1, 0, 0), (0, 0, 0, 1), (6, 0, 0, 0), (39, 22022, 330, 602), (4, 3, 1, 0), (3, 0, 2, 0), (20, 12, 34, 374), (12, 1, 97, 0), (3, 3, 1, 0), (1, 0, 0, 0), (3, 0, 2, 0), (21, 12, 3, 13), (0, 0, 0, 0), (26, 0, 0, 0), (10, 0, 0, 0), (1, 0, 0, 1), (8, 1, 0, 0), (39, 30, 186, 160), (12, 1, 102, 0), (16, 0, 97, 0)]),
  (97, 0, [(0, 1, 0, (-3)), (15, 0, 108, 0), (55, 0, 0, 0)]),
  (102, 9, [(3, 0, 2, 0), (3, 3, 1, 0), (48, 0, 0, 0), (39, 22022, 266, 455), (55, 0, 0, 0)]),
  (109, 5, [(3, 0, 2, 0), (3, 2, 0, 0), (0, 0, 0, 1), (39, 22032, 278, 489), (3, 0, 2, 0), (18, 12, 46, 474), (12, 1, 127, 0), (0, 1, 0, (-3)), (15, 0, 137, 0), (55, 0, 0, 0)]),
  (127, 1, [(3, 0, 2, 0), (3, 0, 2, 0), (21, 12, 40, 118), (0, 0, 0, 0), (26, 0, 0, 0), (39, 22022, 266, 455), (55, 0, 0, 0)])]
def k_X12_touchNow : List (Nat × Nat × List Ins) := [(0, 3, [(3, 0, 2, 0), (3, 1, 0, 0), (0, 0, 0, 1), (6, 0, 0, 0), (39, 22022, 330, 602), (4, 2, 1, 0), (3, 0, 2, 0), (20, 12, 34, 374), (12, 1, 19, 0), (0, 0, 0, 1), (15, 0, 20, 0), (16, 0, 20, 0)]),
  (19, 7, [(0, 0, 0, 0), (16, 0, 20, 0)]),
  (20, 7, [(4, 4, 0, 0), (3, 4, 0, 0), (12, 0, 37, 0), (3, 0, 2, 0), (3, 1, 0, 0), (0, 0, 0, 3), (6, 0, 0, 0), (39, 22022, 330, 602), (15, 0, 38, 0), (16, 0, 38, 0)]),
  (37, 23, [(1, 0, 0, 0), (16, 0, 38, 0)]),
  (38, 23, [(4, 5, 1, 0), (3, 4, 0, 0), (12, 0, 56, 0), (3, 0, 2, 0), (20, 12, 34, 374), (12, 1, 56, 0), (0, 0, 0, 1), (15, 0, 57, 0), (16, 0, 57, 0)]),
  (56, 39, [(0, 0, 0, 0), (16, 0, 57, 0)]),
  (57, 39, [(4, 4, 0, 0), (3, 4, 0, 0), (12, 0, 74, 0), (3, 0, 2, 0), (3, 1, 0, 0), (0, 0, 0, 5), (6, 0, 0, 0), (39, 22022, 330, 602), (15, 0, 75, 0), (16, 0, 75, 0)]),
  (74, 53, [(1, 0, 0, 0), (16, 0, 75, 0)]),
  (75, 53, [(4, 7, 1, 0), (3, 4, 0, 0), (12, 0, 93, 0), (3, 0, 2, 0), (20, 12, 34, 374), (12, 1, 93, 0), (0, 0, 0, 1), (15, 0, 94, 0), (16, 0, 94, 0)]),
  (93, 165, [(0, 0, 0, 0), (16, 0, 94, 0)]),
  (94, 165, [(4, 4, 0, 0), (3, 4, 0, 0), (12, 0, 142, 0), (3, 2, 1, 0), (1, 0, 0, 0), (3, 0, 2, 0), (21, 12, 3, 13), (0, 0, 0, 5), (26, 0, 0, 0), (10, 0, 0, 0), (1, 0, 0, 1), (8, 1, 0, 0), (39, 30, 186, 160), (12, 0, 142, 0), (3, 5, 1, 0), (1, 0, 0, 0), (1, 1, 168, 11), (39, 30, 186, 160), (12, 0, 142, 0), (3, 7, 1, 0), (1, 0, 0, 0), (1, 1, 170, 9), (39, 30, 186, 160), (12, 1, 145, 0), (16, 0, 142, 0)]),
  (142, 0, [(0, 1, 0, (-3)), (55, 0, 0, 0)]),
  (145, 165, [(3, 0, 2, 0), (21, 12, 3, 13), (0, 2, 0, 276), (0, 1, 0, 12), (3, 2, 1, 0), (48, 0, 0, 0), (6, 2, 0, 0), (6, 0, 0, 0), (3, 5, 1, 0), (48, 0, 0, 0), (6, 0, 0, 0), (3, 7, 1, 0), (48, 0, 0, 0), (27, 0, 0, 0), (0, 0, 0, 0), (55, 0, 0, 0)])]
def k_X12_orders : List (Nat × Nat × List Ins) := [(0, 1, [(3, 0, 2, 0), (0, 0, 0, 0), (22, 12, 0, 154), (3, 0, 2, 0), (0, 0, 0, (-1)), (22, 12, 56, 148), (3, 0, 2, 0), (0, 0, 0, 1), (39, 22022, 242, 365), (3, 0, 2, 0), (39, 22012, 328, 612), (16, 0, 19, 0)]),
  (19, 1, [(3, 0, 2, 0), (20, 12, 15, 227), (12, 1, 46, 0), (3, 0, 2, 0), (0, 1, 0, 59), (39, 22022, 222, 300), (12, 0, 46, 0), (3, 0, 2, 0), (39, 22012, 220, 231), (3, 0, 2, 0), (39, 22012, 328, 612), (15, 0, 19, 0), (16, 0, 19, 0)]),
  (46, 1, [(3, 0, 2, 0), (39, 22012, 243, 371), (3, 0, 2, 0), (20, 12, 15, 227), (12, 0, 64, 0), (3, 0, 2, 0), (0, 1, 0, (-6)), (39, 22022, 190, 164), (55, 0, 0, 0)]),
  (64, 1, [(0, 0, 0, 0), (4, 1, 0, 0), (16, 0, 66, 0)]),
  (66, 3, [(3, 1, 0, 0), (0, 2, 0, 5780), (13, 3, 91, 0), (3, 0, 2, 0), (21, 12, 5, 19), (3, 1, 0, 0), (3, 0, 2, 0), (21, 12, 3, 13), (3, 1, 0, 0), (26, 0, 0, 0), (27, 0, 0, 0), (5, 1, 0, 1), (15, 0, 66, 0), (16, 0, 66, 0)]),
  (91, 1, [(3, 0, 2, 0), (0, 0, 0, 0), (22, 12, 55, 596), (0, 0, 0, 0), (4, 1, 0, 0), (16, 0, 98, 0)]),
  (98, 3, [(3, 1, 0, 0), (3, 0, 2, 0), (18, 12, 17, 354), (13, 3, 191, 0), (0, 0, 0, 0), (4, 2, 0, 0), (16, 0, 108, 0)]),
  (108, 7, [(3, 2, 0, 0), (3, 0, 2, 0), (21, 12, 54, 145), (0, 1, 0, 10), (3, 1, 0, 0), (6, 2, 0, 0), (0, 1, 0, 9), (6, 0, 0, 0), (26, 0, 0, 0), (13, 3, 185, 0), (3, 0, 2, 0), (0, 1, 0, 10), (3, 1, 0, 0), (6, 2, 0, 0), (39, 22022, 331, 615), (4, 3, 0, 0), (3, 3, 0, 0), (12, 3, 179, 0), (0, 0, 0, 0), (4, 4, 0, 0), (16, 0, 140, 0)]),
  (140, 27, [(3, 4, 0, 0), (0, 2, 0, 5780), (13, 3, 168, 0), (3, 0, 2, 0), (21, 12, 3, 13), (3, 4, 0, 0), (3, 0, 2, 0), (21, 12, 5, 19), (3, 4, 0, 0), (26, 0, 0, 0), (27, 0, 0, 0), (5, 4, 0, 1), (15, 0, 140, 0), (16, 0, 140, 0)]),
  (168, 11, [(3, 0, 2, 0), (3, 1, 0, 0), (22, 12, 56, 148), (3, 0, 2, 0), (3, 3, 0, 0), (39, 22022, 190, 164), (55, 0, 0, 0)]),
  (179, 7, [(5, 2, 0, 1), (15, 0, 108, 0), (16, 0, 108, 0)]),
  (185, 3, [(5, 1, 0, 1), (15, 0, 98, 0), (16, 0, 98, 0)]),
  (191, 1, [(3, 0, 2, 0), (3, 0, 2, 0), (18, 12, 55, 596), (39, 22022, 190, 164), (55, 0, 0, 0)])]
def k_X12_stopped : List (Nat × Nat × List Ins) := [(0, 1, [(3, 0, 2, 0), (0, 0, 0, 0), (22, 12, 0, 154), (3, 0, 2, 0), (18, 12, 56, 148), (55, 0, 0, 0)])]
def k_X12_draw : List (Nat × Nat × List Ins) := [(0, 3, [(3, 0, 2, 0), (3, 0, 2, 0), (19, 12, 57, 618), (1, 1, 621, 1103), (8, 2, 0, 0), (1, 1, 623, 12345), (8, 0, 0, 0), (1, 1, 625, 1000003), (46, 0, 0, 0), (23, 12, 57, 618), (3, 0, 2, 0), (19, 12, 57, 618), (3, 1, 0, 0), (10, 0, 0, 0), (46, 0, 0, 0), (48, 0, 0, 0), (55, 0, 0, 0)])]
def k_X12_century : List (Nat × Nat × List Ins) := [(0, 7, [(3, 0, 2, 0), (0, 0, 0, 0), (22, 12, 0, 154), (3, 1, 0, 0), (10, 0, 0, 0), (1, 0, 0, 0), (1, 1, 256, 1000000), (39, 30, 186, 160), (12, 0, 41, 0), (3, 2, 0, 0), (10, 0, 0, 0), (1, 0, 0, 0), (1, 1, 627, 40), (39, 30, 186, 160), (12, 0, 41, 0), (3, 0, 2, 0), (39, 22012, 197, 174), (3, 2, 0, 0), (6, 0, 0, 0), (39, 10, 196, 211), (12, 1, 47, 0), (16, 0, 41, 0)]),
  (41, 1, [(3, 0, 2, 0), (0, 0, 0, (-1)), (39, 22022, 190, 164), (55, 0, 0, 0)]),
  (47, 7, [(3, 0, 2, 0), (3, 1, 0, 0), (10, 0, 0, 0), (23, 12, 57, 618), (3, 0, 2, 0), (0, 0, 0, 1), (24, 12, 59, 629), (3, 0, 2, 0), (3, 0, 2, 0), (21, 12, 3, 13), (0, 0, 0, 0), (26, 0, 0, 0), (22, 12, 60, 632), (0, 0, 0, 0), (4, 3, 0, 0), (16, 0, 70, 0)]),
  (70, 13, [(3, 3, 0, 0), (0, 1, 0, 17), (13, 3, 103, 0), (3, 0, 2, 0), (21, 12, 58, 151), (3, 3, 0, 0), (3, 3, 0, 0), (0, 1, 0, 12), (13, 3, 95, 0), (3, 0, 2, 0), (3, 3, 0, 0), (39, 22022, 203, 380), (15, 0, 96, 0), (27, 0, 0, 0), (5, 3, 0, 1), (15, 0, 70, 0), (16, 0, 70, 0)]),
  (95, 13, [(0, 0, 0, 0), (27, 0, 0, 0), (5, 3, 0, 1), (15, 0, 70, 0), (16, 0, 70, 0)]),
  (103, 5, [(3, 0, 2, 0), (39, 22012, 197, 174), (0, 0, 0, 1), (6, 0, 0, 0), (4, 3, 0, 0), (16, 0, 110, 0)]),
  (110, 13, [(3, 3, 0, 0), (3, 0, 2, 0), (39, 22012, 197, 174), (3, 2, 0, 0), (6, 0, 0, 0), (13, 4, 251, 0), (3, 0, 2, 0), (21, 12, 3, 13), (0, 0, 0, 0), (26, 0, 0, 0), (12, 5, 251, 0), (3, 0, 2, 0), (3, 3, 0, 0), (39, 22022, 259, 439), (3, 0, 2, 0), (3, 0, 2, 0), (21, 12, 3, 13), (0, 0, 0, 0), (26, 0, 0, 0), (39, 22022, 336, 635), (4, 4, 0, 0), (3, 0, 2, 0), (21, 12, 58, 151), (0, 1, 0, 12), (3, 4, 0, 0), (6, 0, 0, 0), (50, 0, 0, 0), (26, 0, 0, 0), (0, 0, 0, 1), (6, 0, 0, 0), (27, 0, 0, 0), (0, 0, 0, 0), (4, 5, 0, 0), (16, 0, 163, 0)]),
  (163, 61, [(3, 5, 0, 0), (0, 1, 0, 12), (13, 3, 245, 0), (3, 0, 2, 0), (3, 4, 0, 0), (3, 5, 0, 0), (3, 3, 0, 0), (3, 0, 2, 0), (21, 12, 58, 151), (3, 5, 0, 0), (26, 0, 0, 0), (39, 22052, 260, 432), (4, 6, 0, 0), (3, 0, 2, 0), (0, 1, 0, 8), (39, 22022, 336, 635), (4, 7, 0, 0), (3, 0, 2, 0), (21, 12, 58, 151), (3, 5, 0, 0), (3, 7, 0, 0), (12, 1, 215, 0), (3, 6, 0, 0), (0, 0, 0, 1), (6, 1, 0, 0), (10, 0, 0, 0), (15, 0, 232, 0), (0, 0, 0, 0), (0, 1, 0, 9), (39, 30, 189, 403), (27, 0, 0, 0), (5, 5, 0, 1), (15, 0, 163, 0), (16, 0, 163, 0)]),
  (215, 253, [(3, 7, 0, 0), (0, 0, 0, 1), (13, 1, 229, 0), (3, 6, 0, 0), (0, 0, 0, 1), (6, 0, 0, 0), (10, 0, 0, 0), (15, 0, 232, 0), (0, 0, 0, 0), (0, 1, 0, 9), (39, 30, 189, 403), (27, 0, 0, 0), (5, 5, 0, 1), (15, 0, 163, 0), (16, 0, 163, 0)]),
  (229, 125, [(3, 6, 0, 0), (10, 0, 0, 0), (0, 0, 0, 0), (0, 1, 0, 9), (39, 30, 189, 403), (27, 0, 0, 0), (5, 5, 0, 1), (15, 0, 163, 0), (16, 0, 163, 0)]),
  (245, 13, [(5, 3, 0, 1), (15, 0, 110, 0), (16, 0, 110, 0)]),
  (251, 5, [(3, 0, 2, 0), (3, 0, 2, 0), (39, 22012, 197, 174), (3, 2, 0, 0), (6, 0, 0, 0), (39, 22022, 259, 439), (0, 0, 0, 0), (4, 3, 0, 0), (0, 0, 0, 0), (4, 4, 0, 0), (16, 0, 266, 0)]),
  (266, 29, [(3, 4, 0, 0), (0, 1, 0, 12), (13, 3, 310, 0), (3, 3, 0, 0), (3, 0, 2, 0), (21, 12, 58, 151), (3, 4, 0, 0), (26, 0, 0, 0), (3, 0, 2, 0), (21, 12, 37, 109), (0, 1, 0, 12), (3, 0, 2, 0), (39, 22012, 197, 174), (3, 2, 0, 0), (6, 0, 0, 0), (6, 2, 0, 0), (3, 4, 0, 0), (6, 0, 0, 0), (26, 0, 0, 0), (6, 1, 0, 0), (39, 10, 188, 436), (6, 0, 0, 0), (4, 3, 0, 0), (5, 4, 0, 1), (15, 0, 266, 0), (16, 0, 266, 0)]),
  (310, 9, [(3, 0, 2, 0), (3, 3, 0, 0), (39, 22022, 190, 164), (55, 0, 0, 0)])]
def k_X12_drawn : List (Nat × Nat × List Ins) := [(0, 3, [(3, 0, 2, 0), (0, 0, 0, 0), (22, 12, 0, 154), (3, 0, 2, 0), (20, 12, 59, 629), (12, 1, 14, 0), (0, 0, 0, (-1)), (55, 0, 0, 0)]),
  (14, 3, [(3, 1, 0, 0), (39, 10, 194, 182), (12, 0, 30, 0), (3, 0, 2, 0), (21, 12, 58, 151), (3, 1, 0, 0), (26, 0, 0, 0), (15, 0, 66, 0), (55, 0, 0, 0)]),
  (30, 3, [(3, 1, 0, 0), (10, 0, 0, 0), (1, 1, 638, 100), (1, 1, 172, 99), (3, 0, 2, 0), (18, 12, 60, 632), (10, 0, 0, 0), (8, 0, 0, 0), (39, 30, 186, 160), (12, 0, 65, 0), (3, 0, 2, 0), (21, 12, 58, 151), (0, 1, 0, 12), (3, 1, 0, 0), (6, 0, 0, 0), (0, 1, 0, 100), (6, 1, 0, 0), (26, 0, 0, 0), (15, 0, 66, 0), (55, 0, 0, 0)]),
  (65, 0, [(0, 0, 0, (-1)), (55, 0, 0, 0)])]
def k_X12_count : List (Nat × Nat × List Ins) := [(0, 3, [(3, 0, 2, 0), (0, 0, 0, 0), (22, 12, 0, 154), (3, 1, 0, 0), (17, 11, 0, 66)]),
  (72, 1, [(3, 0, 2, 0), (21, 12, 3, 13), (0, 0, 0, 0), (26, 0, 0, 0), (55, 0, 0, 0)]),
  (79, 1, [(3, 0, 2, 0), (21, 12, 3, 13), (0, 0, 0, 1), (26, 0, 0, 0), (55, 0, 0, 0)]),
  (86, 1, [(3, 0, 2, 0), (21, 12, 3, 13), (0, 0, 0, 3), (26, 0, 0, 0), (55, 0, 0, 0)]),
  (93, 1, [(3, 0, 2, 0), (39, 22012, 197, 174), (55, 0, 0, 0)]),
  (98, 1, [(3, 0, 2, 0), (21, 12, 3, 13), (0, 0, 0, 5), (26, 0, 0, 0), (55, 0, 0, 0)]),
  (105, 1, [(3, 0, 2, 0), (21, 12, 3, 13), (0, 1, 0, 6), (26, 0, 0, 0), (55, 0, 0, 0)]),
  (113, 1, [(3, 0, 2, 0), (18, 12, 9, 214), (55, 0, 0, 0)]),
  (118, 1, [(3, 0, 2, 0), (21, 12, 2, 7), (0, 0, 0, 1), (26, 0, 0, 0), (55, 0, 0, 0)]),
  (125, 1, [(3, 0, 2, 0), (21, 12, 2, 7), (0, 0, 0, 2), (26, 0, 0, 0), (55, 0, 0, 0)]),
  (132, 1, [(3, 0, 2, 0), (21, 12, 2, 7), (0, 0, 0, 3), (26, 0, 0, 0), (55, 0, 0, 0)]),
  (139, 1, [(3, 0, 2, 0), (21, 12, 2, 7), (0, 0, 0, 5), (26, 0, 0, 0), (55, 0, 0, 0)]),
  (146, 1, [(3, 0, 2, 0), (21, 12, 2, 7), (0, 1, 0, 6), (26, 0, 0, 0), (55, 0, 0, 0)]),
  (154, 1, [(3, 0, 2, 0), (21, 12, 3, 13), (0, 0, 0, 2), (26, 0, 0, 0), (55, 0, 0, 0)]),
  (161, 3, [(3, 1, 0, 0), (10, 0, 0, 0), (1, 1, 640, 13), (1, 1, 642, 17), (39, 30, 186, 160), (12, 0, 190, 0), (3, 0, 2, 0), (21, 12, 3, 13), (0, 1, 0, 7), (3, 1, 0, 0), (6, 0, 0, 0), (0, 1, 0, 13), (6, 1, 0, 0), (26, 0, 0, 0), (15, 0, 191, 0), (55, 0, 0, 0)]),
  (190, 0, [(0, 0, 0, (-1)), (55, 0, 0, 0)])]
def k_X12_status : List (Nat × Nat × List Ins) := [(0, 1, [(3, 0, 2, 0), (0, 0, 0, 0), (22, 12, 0, 154), (3, 0, 2, 0), (18, 12, 1, 157), (55, 0, 0, 0)])]
def k_J6_bitCount_0f7a4 : List (Nat × Nat × List Ins) := [(0, 1, [(3, 0, 0, 0), (3, 0, 0, 0), (0, 0, 0, 1), (6, 8, 0, 0), (0, 4, 265, 1431655765), (6, 3, 0, 0), (6, 1, 0, 0), (4, 0, 0, 0), (3, 0, 0, 0), (0, 4, 266, 858993459), (6, 3, 0, 0), (3, 0, 0, 0), (0, 0, 0, 2), (6, 8, 0, 0), (0, 4, 266, 858993459), (6, 3, 0, 0), (6, 0, 0, 0), (4, 0, 0, 0), (3, 0, 0, 0), (3, 0, 0, 0), (0, 0, 0, 4), (6, 8, 0, 0), (6, 0, 0, 0), (0, 4, 267, 252645135), (6, 3, 0, 0), (4, 0, 0, 0), (3, 0, 0, 0), (3, 0, 0, 0), (0, 1, 0, 8), (6, 8, 0, 0), (6, 0, 0, 0), (4, 0, 0, 0), (3, 0, 0, 0), (3, 0, 0, 0), (0, 1, 0, 16), (6, 8, 0, 0), (6, 0, 0, 0), (4, 0, 0, 0), (3, 0, 0, 0), (0, 1, 0, 63), (6, 3, 0, 0), (55, 0, 0, 0)])]
def k_J9_abs_0f7a4 : List (Nat × Nat × List Ins) := [(0, 1, [(3, 0, 0, 0), (12, 3, 9, 0), (3, 0, 0, 0), (7, 0, 0, 0), (15, 0, 10, 0), (55, 0, 0, 0)]),
  (9, 1, [(3, 0, 0, 0), (55, 0, 0, 0)])]
def k_J9_max_7cf53 : List (Nat × Nat × List Ins) := [(0, 3, [(3, 0, 0, 0), (3, 1, 0, 0), (13, 2, 9, 0), (3, 0, 0, 0), (15, 0, 10, 0), (55, 0, 0, 0)]),
  (9, 2, [(3, 1, 0, 0), (55, 0, 0, 0)])]
def k_J9_min_7cf53 : List (Nat × Nat × List Ins) := [(0, 3, [(3, 0, 0, 0), (3, 1, 0, 0), (13, 4, 9, 0), (3, 0, 0, 0), (15, 0, 10, 0), (55, 0, 0, 0)]),
  (9, 2, [(3, 1, 0, 0), (55, 0, 0, 0)])]
def k_J0_length_8abf5 : List (Nat × Nat × List Ins) := [(0, 1, [(3, 0, 2, 0), (31, 0, 0, 9), (34, 0, 0, 0), (3, 0, 2, 0), (39, 16, 347, 335), (6, 7, 0, 0), (55, 0, 0, 0)])]
def k_J0_charAt_5068e : List (Nat × Nat × List Ins) := [(0, 3, [(3, 0, 2, 0), (39, 16, 348, 492), (12, 0, 16, 0), (3, 0, 2, 0), (31, 0, 0, 9), (3, 1, 0, 0), (39, 20, 350, 495), (59, 0, 0, 0)]),
  (16, 3, [(3, 0, 2, 0), (31, 0, 0, 9), (3, 1, 0, 0)])]
def k_J0_coder_7d493 : List (Nat × Nat × List Ins) := [(0, 1, [(35, 0, 0, 38), (12, 0, 13, 0), (3, 0, 2, 0), (32, 0, 0, 15), (15, 0, 14, 0), (60, 0, 0, 0)]),
  (13, 0, [(0, 0, 0, 1), (60, 0, 0, 0)])]
def k_J0_isLatin1_aae02 : List (Nat × Nat × List Ins) := [(0, 1, [(35, 0, 0, 38), (12, 0, 17, 0), (3, 0, 2, 0), (32, 0, 0, 15), (12, 1, 17, 0), (0, 0, 0, 1), (15, 0, 18, 0), (58, 0, 0, 0)]),
  (17, 0, [(0, 0, 0, 0), (58, 0, 0, 0)])]
def k_J0_checkIndex_df160 : List (Nat × Nat × List Ins) := [(0, 3, [(3, 0, 0, 0), (3, 1, 0, 0), (61, 0, 0, 1053), (39, 30, 355, 1059), (51, 0, 0, 0), (42, 0, 0, 0)])]
def k_J1_charAt_3b067 : List (Nat × Nat × List Ins) := [(0, 3, [(3, 1, 0, 0), (3, 0, 2, 0), (34, 0, 0, 0), (39, 20, 349, 9), (3, 0, 2, 0), (3, 1, 0, 0), (33, 0, 0, 0), (0, 2, 0, 255), (6, 3, 0, 0), (49, 0, 0, 0), (59, 0, 0, 0)])]
def k_J2_getChar_3b067 : List (Nat × Nat × List Ins) := []
def k_J2_length_9d52b : List (Nat × Nat × List Ins) := []
def k_J2_charAt_3b067 : List (Nat × Nat × List Ins) := []
def k_J2_checkIndex_2214a : List (Nat × Nat × List Ins) := []
def k_J3_checkIndex_8e157 : List (Nat × Nat × List Ins) := [(0, 7, [(3, 0, 0, 0), (12, 2, 9, 0), (3, 0, 0, 0), (3, 1, 0, 0), (13, 2, 16, 0), (16, 0, 9, 0)]),
  (9, 7, [(3, 2, 2, 0), (3, 0, 0, 0), (3, 1, 0, 0)]),
  (16, 1, [(3, 0, 0, 0), (55, 0, 0, 0)])]
def k_L_law : List (Nat × Nat × List Ins) := [(0, 1, [(36, 11, 19, 7), (11, 0, 0, 0), (39, 14, 113, 9), (4, 1, 2, 0), (36, 12, 61, 10), (11, 0, 0, 0), (39, 14, 185, 12), (4, 2, 2, 0), (0, 0, 0, 0), (4, 3, 0, 0), (16, 0, 18, 0)]),
  (18, 15, [(3, 3, 0, 0), (3, 0, 2, 0), (30, 0, 0, 0), (0, 1, 0, 6), (6, 1, 0, 0), (13, 4, 1834, 0), (3, 0, 2, 0), (3, 3, 0, 0), (29, 0, 0, 0), (0, 1, 0, 63), (6, 3, 0, 0), (17, 12, 0, 243)]),
  (276, 15, [(3, 1, 2, 0), (3, 0, 2, 0), (3, 3, 0, 0), (0, 0, 0, 1), (6, 0, 0, 0), (29, 0, 0, 0), (3, 0, 2, 0), (3, 3, 0, 0), (0, 0, 0, 2), (6, 0, 0, 0), (29, 0, 0, 0), (39, 21032, 114, 13), (3, 2, 2, 0), (3, 0, 2, 0), (3, 3, 0, 0), (0, 0, 0, 1), (6, 0, 0, 0), (29, 0, 0, 0), (3, 0, 2, 0), (3, 3, 0, 0), (0, 0, 0, 2), (6, 0, 0, 0), (29, 0, 0, 0), (39, 22032, 204, 17), (13, 0, 1828, 0), (0, 0, 0, 0), (58, 0, 0, 0)]),
  (309, 15, [(3, 1, 2, 0), (3, 0, 2, 0), (3, 3, 0, 0), (0, 0, 0, 1), (6, 0, 0, 0), (29, 0, 0, 0), (3, 0, 2, 0), (3, 3, 0, 0), (0, 0, 0, 2), (6, 0, 0, 0), (29, 0, 0, 0), (39, 21032, 115, 18), (3, 2, 2, 0), (3, 0, 2, 0), (3, 3, 0, 0), (0, 0, 0, 1), (6, 0, 0, 0), (29, 0, 0, 0), (3, 0, 2, 0), (3, 3, 0, 0), (0, 0, 0, 2), (6, 0, 0, 0), (29, 0, 0, 0), (39, 22032, 205, 21), (13, 0, 1828, 0), (0, 0, 0, 0), (58, 0, 0, 0)]),
  (342, 15, [(3, 1, 2, 0), (3, 0, 2, 0), (3, 3, 0, 0), (0, 0, 0, 1), (6, 0, 0, 0), (29, 0, 0, 0), (3, 0, 2, 0), (3, 3, 0, 0), (0, 0, 0, 2), (6, 0, 0, 0), (29, 0, 0, 0), (3, 0, 2, 0), (3, 3, 0, 0), (0, 0, 0, 3), (6, 0, 0, 0), (29, 0, 0, 0), (39, 21042, 116, 22), (3, 2, 2, 0), (3, 0, 2, 0), (3, 3, 0, 0), (0, 0, 0, 1), (6, 0, 0, 0), (29, 0, 0, 0), (3, 0, 2, 0), (3, 3, 0, 0), (0, 0, 0, 2), (6, 0, 0, 0), (29, 0, 0, 0), (3, 0, 2, 0), (3, 3, 0, 0), (0, 0, 0, 3), (6, 0, 0, 0), (29, 0, 0, 0), (39, 22042, 206, 26), (13, 0, 1828, 0), (0, 0, 0, 0), (58, 0, 0, 0)]),
  (385, 15, [(3, 1, 2, 0), (3, 0, 2, 0), (3, 3, 0, 0), (0, 0, 0, 1), (6, 0, 0, 0), (29, 0, 0, 0), (3, 0, 2, 0), (3, 3, 0, 0), (0, 0, 0, 2), (6, 0, 0, 0), (29, 0, 0, 0), (39, 21032, 117, 27), (3, 2, 2, 0), (3, 0, 2, 0), (3, 3, 0, 0), (0, 0, 0, 1), (6, 0, 0, 0), (29, 0, 0, 0), (3, 0, 2, 0), (3, 3, 0, 0), (0, 0, 0, 2), (6, 0, 0, 0), (29, 0, 0, 0), (39, 22032, 207, 30), (13, 0, 1828, 0), (0, 0, 0, 0), (58, 0, 0, 0)]),
  (418, 15, [(3, 1, 2, 0), (3, 0, 2, 0), (3, 3, 0, 0), (0, 0, 0, 1), (6, 0, 0, 0), (29, 0, 0, 0), (3, 0, 2, 0), (3, 3, 0, 0), (0, 0, 0, 2), (6, 0, 0, 0), (29, 0, 0, 0), (39, 21032, 118, 31), (3, 2, 2, 0), (3, 0, 2, 0), (3, 3, 0, 0), (0, 0, 0, 1), (6, 0, 0, 0), (29, 0, 0, 0), (3, 0, 2, 0), (3, 3, 0, 0), (0, 0, 0, 2), (6, 0, 0, 0), (29, 0, 0, 0), (39, 22032, 209, 34), (13, 0, 1828, 0), (0, 0, 0, 0), (58, 0, 0, 0)]),
  (451, 15, [(3, 1, 2, 0), (3, 0, 2, 0), (3, 3, 0, 0), (0, 0, 0, 1), (6, 0, 0, 0), (29, 0, 0, 0), (3, 0, 2, 0), (3, 3, 0, 0), (0, 0, 0, 2), (6, 0, 0, 0), (29, 0, 0, 0), (3, 0, 2, 0), (3, 3, 0, 0), (0, 0, 0, 3), (6, 0, 0, 0), (29, 0, 0, 0), (39, 21042, 119, 35), (3, 2, 2, 0), (3, 0, 2, 0), (3, 3, 0, 0), (0, 0, 0, 1), (6, 0, 0, 0), (29, 0, 0, 0), (3, 0, 2, 0), (3, 3, 0, 0), (0, 0, 0, 2), (6, 0, 0, 0), (29, 0, 0, 0), (3, 0, 2, 0), (3, 3, 0, 0), (0, 0, 0, 3), (6, 0, 0, 0), (29, 0, 0, 0), (39, 22042, 210, 38), (13, 0, 1828, 0), (0, 0, 0, 0), (58, 0, 0, 0)]),
  (494, 15, [(3, 1, 2, 0), (3, 0, 2, 0), (3, 3, 0, 0), (0, 0, 0, 1), (6, 0, 0, 0), (29, 0, 0, 0), (39, 21022, 120, 39), (3, 2, 2, 0), (3, 0, 2, 0), (3, 3, 0, 0), (0, 0, 0, 1), (6, 0, 0, 0), (29, 0, 0, 0), (39, 22022, 211, 43), (13, 0, 1828, 0), (0, 0, 0, 0), (58, 0, 0, 0)]),
  (517, 15, [(3, 1, 2, 0), (3, 0, 2, 0), (3, 3, 0, 0), (0, 0, 0, 1), (6, 0, 0, 0), (29, 0, 0, 0), (3, 0, 2, 0), (3, 3, 0, 0), (0, 0, 0, 2), (6, 0, 0, 0), (29, 0, 0, 0), (3, 0, 2, 0), (3, 3, 0, 0), (0, 0, 0, 3), (6, 0, 0, 0), (29, 0, 0, 0), (3, 0, 2, 0), (3, 3, 0, 0), (0, 0, 0, 4), (6, 0, 0, 0), (29, 0, 0, 0), (3, 0, 2, 0), (3, 3, 0, 0), (0, 0, 0, 5), (6, 0, 0, 0), (29, 0, 0, 0), (39, 21062, 121, 44), (3, 2, 2, 0), (3, 0, 2, 0), (3, 3, 0, 0), (0, 0, 0, 1), (6, 0, 0, 0), (29, 0, 0, 0), (3, 0, 2, 0), (3, 3, 0, 0), (0, 0, 0, 2), (6, 0, 0, 0), (29, 0, 0, 0), (3, 0, 2, 0), (3, 3, 0, 0), (0, 0, 0, 3), (6, 0, 0, 0), (29, 0, 0, 0), (3, 0, 2, 0), (3, 3, 0, 0), (0, 0, 0, 4), (6, 0, 0, 0), (29, 0, 0, 0), (3, 0, 2, 0), (3, 3, 0, 0), (0, 0, 0, 5), (6, 0, 0, 0), (29, 0, 0, 0), (39, 22062, 215, 48), (13, 0, 1828, 0), (0, 0, 0, 0), (58, 0, 0, 0)]),
  (580, 15, [(3, 1, 2, 0), (3, 0, 2, 0), (3, 3, 0, 0), (0, 0, 0, 1), (6, 0, 0, 0), (29, 0, 0, 0), (39, 21022, 122, 49), (3, 2, 2, 0), (3, 0, 2, 0), (3, 3, 0, 0), (0, 0, 0, 1), (6, 0, 0, 0), (29, 0, 0, 0), (39, 22022, 216, 52), (13, 0, 1828, 0), (0, 0, 0, 0), (58, 0, 0, 0)]),
  (603, 15, [(3, 1, 2, 0), (39, 21012, 123, 53), (3, 2, 2, 0), (39, 22012, 212, 57), (13, 0, 1828, 0), (0, 0, 0, 0), (58, 0, 0, 0)]),
  (616, 15, [(3, 1, 2, 0), (39, 21012, 124, 58), (3, 2, 2, 0), (39, 22012, 213, 61), (13, 0, 1828, 0), (0, 0, 0, 0), (58, 0, 0, 0)]),
  (629, 15, [(3, 1, 2, 0), (39, 21012, 125, 62), (3, 2, 2, 0), (39, 22012, 244, 65), (13, 0, 1828, 0), (0, 0, 0, 0), (58, 0, 0, 0)]),
  (642, 15, [(3, 1, 2, 0), (39, 21012, 126, 66), (3, 2, 2, 0), (39, 22012, 334, 69), (13, 0, 1828, 0), (0, 0, 0, 0), (58, 0, 0, 0)]),
  (655, 15, [(3, 1, 2, 0), (39, 21012, 127, 70), (3, 2, 2, 0), (39, 22012, 225, 73), (13, 0, 1828, 0), (0, 0, 0, 0), (58, 0, 0, 0)]),
  (668, 15, [(3, 1, 2, 0), (39, 21012, 128, 74), (3, 2, 2, 0), (39, 22012, 335, 77), (13, 0, 1828, 0), (0, 0, 0, 0), (58, 0, 0, 0)]),
  (681, 15, [(3, 1, 2, 0), (3, 0, 2, 0), (3, 3, 0, 0), (0, 0, 0, 1), (6, 0, 0, 0), (29, 0, 0, 0), (39, 21022, 129, 78), (3, 2, 2, 0), (3, 0, 2, 0), (3, 3, 0, 0), (0, 0, 0, 1), (6, 0, 0, 0), (29, 0, 0, 0), (39, 22022, 245, 81), (13, 0, 1828, 0), (0, 0, 0, 0), (58, 0, 0, 0)]),
  (704, 15, [(3, 1, 2, 0), (3, 0, 2, 0), (3, 3, 0, 0), (0, 0, 0, 1), (6, 0, 0, 0), (29, 0, 0, 0), (3, 0, 2, 0), (3, 3, 0, 0), (0, 0, 0, 2), (6, 0, 0, 0), (29, 0, 0, 0), (3, 0, 2, 0), (3, 3, 0, 0), (0, 0, 0, 3), (6, 0, 0, 0), (29, 0, 0, 0), (39, 21042, 130, 82), (3, 2, 2, 0), (3, 0, 2, 0), (3, 3, 0, 0), (0, 0, 0, 1), (6, 0, 0, 0), (29, 0, 0, 0), (3, 0, 2, 0), (3, 3, 0, 0), (0, 0, 0, 2), (6, 0, 0, 0), (29, 0, 0, 0), (3, 0, 2, 0), (3, 3, 0, 0), (0, 0, 0, 3), (6, 0, 0, 0), (29, 0, 0, 0), (39, 22042, 257, 85), (13, 0, 1828, 0), (0, 0, 0, 0), (58, 0, 0, 0)]),
  (747, 15, [(3, 1, 2, 0), (3, 0, 2, 0), (3, 3, 0, 0), (0, 0, 0, 1), (6, 0, 0, 0), (29, 0, 0, 0), (3, 0, 2, 0), (3, 3, 0, 0), (0, 0, 0, 2), (6, 0, 0, 0), (29, 0, 0, 0), (3, 0, 2, 0), (3, 3, 0, 0), (0, 0, 0, 3), (6, 0, 0, 0), (29, 0, 0, 0), (39, 21042, 131, 86), (3, 2, 2, 0), (3, 0, 2, 0), (3, 3, 0, 0), (0, 0, 0, 1), (6, 0, 0, 0), (29, 0, 0, 0), (3, 0, 2, 0), (3, 3, 0, 0), (0, 0, 0, 2), (6, 0, 0, 0), (29, 0, 0, 0), (3, 0, 2, 0), (3, 3, 0, 0), (0, 0, 0, 3), (6, 0, 0, 0), (29, 0, 0, 0), (39, 22042, 258, 89), (13, 0, 1828, 0), (0, 0, 0, 0), (58, 0, 0, 0)]),
  (790, 15, [(3, 1, 2, 0), (3, 0, 2, 0), (3, 3, 0, 0), (0, 0, 0, 1), (6, 0, 0, 0), (29, 0, 0, 0), (39, 21022, 132, 90), (3, 2, 2, 0), (3, 0, 2, 0), (3, 3, 0, 0), (0, 0, 0, 1), (6, 0, 0, 0), (29, 0, 0, 0), (39, 22022, 267, 93), (13, 0, 1828, 0), (0, 0, 0, 0), (58, 0, 0, 0)]),
  (813, 15, [(3, 1, 2, 0), (39, 21012, 133, 94), (3, 2, 2, 0), (39, 22012, 268, 97), (13, 0, 1828, 0), (0, 0, 0, 0), (58, 0, 0, 0)]),
  (826, 15, [(3, 1, 2, 0), (3, 0, 2, 0), (3, 3, 0, 0), (0, 0, 0, 1), (6, 0, 0, 0), (29, 0, 0, 0), (3, 0, 2, 0), (3, 3, 0, 0), (0, 0, 0, 2), (6, 0, 0, 0), (29, 0, 0, 0), (39, 21032, 134, 98), (3, 2, 2, 0), (3, 0, 2, 0), (3, 3, 0, 0), (0, 0, 0, 1), (6, 0, 0, 0), (29, 0, 0, 0), (3, 0, 2, 0), (3, 3, 0, 0), (0, 0, 0, 2), (6, 0, 0, 0), (29, 0, 0, 0), (39, 22032, 269, 101), (13, 0, 1828, 0), (0, 0, 0, 0), (58, 0, 0, 0)]),
  (859, 15, [(3, 1, 2, 0), (3, 0, 2, 0), (3, 3, 0, 0), (0, 0, 0, 1), (6, 0, 0, 0), (29, 0, 0, 0), (3, 0, 2, 0), (3, 3, 0, 0), (0, 0, 0, 2), (6, 0, 0, 0), (29, 0, 0, 0), (39, 21032, 135, 102), (3, 2, 2, 0), (3, 0, 2, 0), (3, 3, 0, 0), (0, 0, 0, 1), (6, 0, 0, 0), (29, 0, 0, 0), (3, 0, 2, 0), (3, 3, 0, 0), (0, 0, 0, 2), (6, 0, 0, 0), (29, 0, 0, 0), (39, 22032, 272, 105), (13, 0, 1828, 0), (0, 0, 0, 0), (58, 0, 0, 0)]),
  (892, 15, [(3, 1, 2, 0), (39, 21012, 136, 106), (3, 2, 2, 0), (39, 22012, 273, 109), (13, 0, 1828, 0), (0, 0, 0, 0), (58, 0, 0, 0)]),
  (905, 15, [(3, 1, 2, 0), (3, 0, 2, 0), (3, 3, 0, 0), (0, 0, 0, 1), (6, 0, 0, 0), (29, 0, 0, 0), (39, 21022, 137, 110), (3, 2, 2, 0), (3, 0, 2, 0), (3, 3, 0, 0), (0, 0, 0, 1), (6, 0, 0, 0), (29, 0, 0, 0), (39, 22022, 275, 113), (13, 0, 1828, 0), (0, 0, 0, 0), (58, 0, 0, 0)]),
  (928, 15, [(3, 1, 2, 0), (39, 21012, 138, 114), (3, 2, 2, 0), (39, 22012, 276, 117), (13, 0, 1828, 0), (0, 0, 0, 0), (58, 0, 0, 0)]),
  (941, 15, [(3, 1, 2, 0), (3, 0, 2, 0), (3, 3, 0, 0), (0, 0, 0, 1), (6, 0, 0, 0), (29, 0, 0, 0), (3, 0, 2, 0), (3, 3, 0, 0), (0, 0, 0, 2), (6, 0, 0, 0), (29, 0, 0, 0), (3, 0, 2, 0), (3, 3, 0, 0), (0, 0, 0, 3), (6, 0, 0, 0), (29, 0, 0, 0), (39, 21042, 139, 118), (3, 2, 2, 0), (3, 0, 2, 0), (3, 3, 0, 0), (0, 0, 0, 1), (6, 0, 0, 0), (29, 0, 0, 0), (3, 0, 2, 0), (3, 3, 0, 0), (0, 0, 0, 2), (6, 0, 0, 0), (29, 0, 0, 0), (3, 0, 2, 0), (3, 3, 0, 0), (0, 0, 0, 3), (6, 0, 0, 0), (29, 0, 0, 0), (39, 22042, 280, 121), (13, 0, 1828, 0), (0, 0, 0, 0), (58, 0, 0, 0)]),
  (984, 15, [(3, 1, 2, 0), (3, 0, 2, 0), (3, 3, 0, 0), (0, 0, 0, 1), (6, 0, 0, 0), (29, 0, 0, 0), (3, 0, 2, 0), (3, 3, 0, 0), (0, 0, 0, 2), (6, 0, 0, 0), (29, 0, 0, 0), (3, 0, 2, 0), (3, 3, 0, 0), (0, 0, 0, 3), (6, 0, 0, 0), (29, 0, 0, 0), (39, 21042, 140, 122), (3, 2, 2, 0), (3, 0, 2, 0), (3, 3, 0, 0), (0, 0, 0, 1), (6, 0, 0, 0), (29, 0, 0, 0), (3, 0, 2, 0), (3, 3, 0, 0), (0, 0, 0, 2), (6, 0, 0, 0), (29, 0, 0, 0), (3, 0, 2, 0), (3, 3, 0, 0), (0, 0, 0, 3), (6, 0, 0, 0), (29, 0, 0, 0), (39, 22042, 282, 125), (13, 0, 1828, 0), (0, 0, 0, 0), (58, 0, 0, 0)]),
  (1027, 15, [(3, 1, 2, 0), (3, 0, 2, 0), (3, 3, 0, 0), (0, 0, 0, 1), (6, 0, 0, 0), (29, 0, 0, 0), (39, 21022, 141, 126), (3, 2, 2, 0), (3, 0, 2, 0), (3, 3, 0, 0), (0, 0, 0, 1), (6, 0, 0, 0), (29, 0, 0, 0), (39, 22022, 283, 129), (13, 0, 1828, 0), (0, 0, 0, 0), (58, 0, 0, 0)]),
  (1050, 15, [(3, 1, 2, 0), (39, 21012, 142, 130), (3, 2, 2, 0), (39, 22012, 286, 133), (13, 0, 1828, 0), (0, 0, 0, 0), (58, 0, 0, 0)]),
  (1063, 15, [(3, 1, 2, 0), (3, 0, 2, 0), (3, 3, 0, 0), (0, 0, 0, 1), (6, 0, 0, 0), (29, 0, 0, 0), (3, 0, 2, 0), (3, 3, 0, 0), (0, 0, 0, 2), (6, 0, 0, 0), (29, 0, 0, 0), (3, 0, 2, 0), (3, 3, 0, 0), (0, 0, 0, 3), (6, 0, 0, 0), (29, 0, 0, 0), (39, 21042, 143, 134), (3, 2, 2, 0), (3, 0, 2, 0), (3, 3, 0, 0), (0, 0, 0, 1), (6, 0, 0, 0), (29, 0, 0, 0), (3, 0, 2, 0), (3, 3, 0, 0), (0, 0, 0, 2), (6, 0, 0, 0), (29, 0, 0, 0), (3, 0, 2, 0), (3, 3, 0, 0), (0, 0, 0, 3), (6, 0, 0, 0), (29, 0, 0, 0), (39, 22042, 287, 137), (13, 0, 1828, 0), (0, 0, 0, 0), (58, 0, 0, 0)]),
  (1106, 15, [(3, 1, 2, 0), (39, 21012, 144, 138), (3, 2, 2, 0), (39, 22012, 288, 141), (13, 0, 1828, 0), (0, 0, 0, 0), (58, 0, 0, 0)]),
  (1119, 15, [(3, 1, 2, 0), (3, 0, 2, 0), (3, 3, 0, 0), (0, 0, 0, 1), (6, 0, 0, 0), (29, 0, 0, 0), (39, 21022, 145, 142), (3, 2, 2, 0), (3, 0, 2, 0), (3, 3, 0, 0), (0, 0, 0, 1), (6, 0, 0, 0), (29, 0, 0, 0), (39, 22022, 291, 145), (13, 0, 1828, 0), (0, 0, 0, 0), (58, 0, 0, 0)]),
  (1142, 15, [(3, 1, 2, 0), (3, 0, 2, 0), (3, 3, 0, 0), (0, 0, 0, 1), (6, 0, 0, 0), (29, 0, 0, 0), (3, 0, 2, 0), (3, 3, 0, 0), (0, 0, 0, 2), (6, 0, 0, 0), (29, 0, 0, 0), (39, 21032, 146, 146), (3, 2, 2, 0), (3, 0, 2, 0), (3, 3, 0, 0), (0, 0, 0, 1), (6, 0, 0, 0), (29, 0, 0, 0), (3, 0, 2, 0), (3, 3, 0, 0), (0, 0, 0, 2), (6, 0, 0, 0), (29, 0, 0, 0), (39, 22032, 293, 149), (13, 0, 1828, 0), (0, 0, 0, 0), (58, 0, 0, 0)]),
  (1175, 15, [(3, 1, 2, 0), (3, 0, 2, 0), (3, 3, 0, 0), (0, 0, 0, 1), (6, 0, 0, 0), (29, 0, 0, 0), (39, 21022, 147, 150), (3, 2, 2, 0), (3, 0, 2, 0), (3, 3, 0, 0), (0, 0, 0, 1), (6, 0, 0, 0), (29, 0, 0, 0), (39, 22022, 296, 153), (13, 0, 1828, 0), (0, 0, 0, 0), (58, 0, 0, 0)]),
  (1198, 15, [(3, 1, 2, 0), (39, 21012, 148, 154), (3, 2, 2, 0), (39, 22012, 297, 157), (13, 0, 1828, 0), (0, 0, 0, 0), (58, 0, 0, 0)]),
  (1211, 15, [(3, 1, 2, 0), (3, 0, 2, 0), (3, 3, 0, 0), (0, 0, 0, 1), (6, 0, 0, 0), (29, 0, 0, 0), (3, 0, 2, 0), (3, 3, 0, 0), (0, 0, 0, 2), (6, 0, 0, 0), (29, 0, 0, 0), (39, 21032, 149, 158), (3, 2, 2, 0), (3, 0, 2, 0), (3, 3, 0, 0), (0, 0, 0, 1), (6, 0, 0, 0), (29, 0, 0, 0), (3, 0, 2, 0), (3, 3, 0, 0), (0, 0, 0, 2), (6, 0, 0, 0), (29, 0, 0, 0), (39, 22032, 298, 161), (13, 0, 1828, 0), (0, 0, 0, 0), (58, 0, 0, 0)]),
  (1244, 15, [(3, 1, 2, 0), (3, 0, 2, 0), (3, 3, 0, 0), (0, 0, 0, 1), (6, 0, 0, 0), (29, 0, 0, 0), (39, 21022, 150, 162), (3, 2, 2, 0), (3, 0, 2, 0), (3, 3, 0, 0), (0, 0, 0, 1), (6, 0, 0, 0), (29, 0, 0, 0), (39, 22022, 301, 165), (13, 0, 1828, 0), (0, 0, 0, 0), (58, 0, 0, 0)]),
  (1267, 15, [(3, 1, 2, 0), (3, 0, 2, 0), (3, 3, 0, 0), (0, 0, 0, 1), (6, 0, 0, 0), (29, 0, 0, 0), (39, 21022, 151, 166), (3, 2, 2, 0), (3, 0, 2, 0), (3, 3, 0, 0), (0, 0, 0, 1), (6, 0, 0, 0), (29, 0, 0, 0), (39, 22022, 303, 169), (13, 0, 1828, 0), (0, 0, 0, 0), (58, 0, 0, 0)]),
  (1290, 15, [(3, 1, 2, 0), (3, 0, 2, 0), (3, 3, 0, 0), (0, 0, 0, 1), (6, 0, 0, 0), (29, 0, 0, 0), (3, 0, 2, 0), (3, 3, 0, 0), (0, 0, 0, 2), (6, 0, 0, 0), (29, 0, 0, 0), (3, 0, 2, 0), (3, 3, 0, 0), (0, 0, 0, 3), (6, 0, 0, 0), (29, 0, 0, 0), (39, 21042, 152, 170), (3, 2, 2, 0), (3, 0, 2, 0), (3, 3, 0, 0), (0, 0, 0, 1), (6, 0, 0, 0), (29, 0, 0, 0), (3, 0, 2, 0), (3, 3, 0, 0), (0, 0, 0, 2), (6, 0, 0, 0), (29, 0, 0, 0), (3, 0, 2, 0), (3, 3, 0, 0), (0, 0, 0, 3), (6, 0, 0, 0), (29, 0, 0, 0), (39, 22042, 304, 173), (13, 0, 1828, 0), (0, 0, 0, 0), (58, 0, 0, 0)]),
  (1333, 15, [(3, 1, 2, 0), (39, 21012, 153, 174), (3, 2, 2, 0), (39, 22012, 305, 177), (13, 0, 1828, 0), (0, 0, 0, 0), (58, 0, 0, 0)]),
  (1346, 15, [(3, 1, 2, 0), (3, 0, 2, 0), (3, 3, 0, 0), (0, 0, 0, 1), (6, 0, 0, 0), (29, 0, 0, 0), (3, 0, 2, 0), (3, 3, 0, 0), (0, 0, 0, 2), (6, 0, 0, 0), (29, 0, 0, 0), (39, 21032, 154, 178), (3, 2, 2, 0), (3, 0, 2, 0), (3, 3, 0, 0), (0, 0, 0, 1), (6, 0, 0, 0), (29, 0, 0, 0), (3, 0, 2, 0), (3, 3, 0, 0), (0, 0, 0, 2), (6, 0, 0, 0), (29, 0, 0, 0), (39, 22032, 306, 181), (13, 0, 1828, 0), (0, 0, 0, 0), (58, 0, 0, 0)]),
  (1379, 15, [(3, 1, 2, 0), (3, 0, 2, 0), (3, 3, 0, 0), (0, 0, 0, 1), (6, 0, 0, 0), (29, 0, 0, 0), (39, 21022, 155, 182), (3, 2, 2, 0), (3, 0, 2, 0), (3, 3, 0, 0), (0, 0, 0, 1), (6, 0, 0, 0), (29, 0, 0, 0), (39, 22022, 309, 185), (13, 0, 1828, 0), (0, 0, 0, 0), (58, 0, 0, 0)]),
  (1402, 15, [(3, 1, 2, 0), (39, 21012, 156, 186), (3, 2, 2, 0), (39, 22012, 310, 190), (9, 0, 0, 0), (12, 0, 1828, 0), (0, 0, 0, 0), (58, 0, 0, 0)]),
  (1416, 15, [(3, 1, 2, 0), (3, 0, 2, 0), (3, 3, 0, 0), (0, 0, 0, 1), (6, 0, 0, 0), (29, 0, 0, 0), (3, 0, 2, 0), (3, 3, 0, 0), (0, 0, 0, 2), (6, 0, 0, 0), (29, 0, 0, 0), (3, 0, 2, 0), (3, 3, 0, 0), (0, 0, 0, 3), (6, 0, 0, 0), (29, 0, 0, 0), (3, 0, 2, 0), (3, 3, 0, 0), (0, 0, 0, 4), (6, 0, 0, 0), (29, 0, 0, 0), (39, 21052, 157, 191), (3, 2, 2, 0), (3, 0, 2, 0), (3, 3, 0, 0), (0, 0, 0, 1), (6, 0, 0, 0), (29, 0, 0, 0), (3, 0, 2, 0), (3, 3, 0, 0), (0, 0, 0, 2), (6, 0, 0, 0), (29, 0, 0, 0), (3, 0, 2, 0), (3, 3, 0, 0), (0, 0, 0, 3), (6, 0, 0, 0), (29, 0, 0, 0), (3, 0, 2, 0), (3, 3, 0, 0), (0, 0, 0, 4), (6, 0, 0, 0), (29, 0, 0, 0), (39, 22052, 311, 195), (13, 0, 1828, 0), (0, 0, 0, 0), (58, 0, 0, 0)]),
  (1469, 15, [(3, 1, 2, 0), (3, 0, 2, 0), (3, 3, 0, 0), (0, 0, 0, 1), (6, 0, 0, 0), (29, 0, 0, 0), (3, 0, 2, 0), (3, 3, 0, 0), (0, 0, 0, 2), (6, 0, 0, 0), (29, 0, 0, 0), (3, 0, 2, 0), (3, 3, 0, 0), (0, 0, 0, 3), (6, 0, 0, 0), (29, 0, 0, 0), (39, 21042, 158, 196), (3, 2, 2, 0), (3, 0, 2, 0), (3, 3, 0, 0), (0, 0, 0, 1), (6, 0, 0, 0), (29, 0, 0, 0), (3, 0, 2, 0), (3, 3, 0, 0), (0, 0, 0, 2), (6, 0, 0, 0), (29, 0, 0, 0), (3, 0, 2, 0), (3, 3, 0, 0), (0, 0, 0, 3), (6, 0, 0, 0), (29, 0, 0, 0), (39, 22042, 313, 199), (13, 0, 1828, 0), (0, 0, 0, 0), (58, 0, 0, 0)]),
  (1512, 15, [(3, 1, 2, 0), (3, 0, 2, 0), (3, 3, 0, 0), (0, 0, 0, 1), (6, 0, 0, 0), (29, 0, 0, 0), (3, 0, 2, 0), (3, 3, 0, 0), (0, 0, 0, 2), (6, 0, 0, 0), (29, 0, 0, 0), (39, 21032, 159, 200), (3, 2, 2, 0), (3, 0, 2, 0), (3, 3, 0, 0), (0, 0, 0, 1), (6, 0, 0, 0), (29, 0, 0, 0), (3, 0, 2, 0), (3, 3, 0, 0), (0, 0, 0, 2), (6, 0, 0, 0), (29, 0, 0, 0), (39, 22032, 314, 203), (13, 0, 1828, 0), (0, 0, 0, 0), (58, 0, 0, 0)]),
  (1545, 15, [(3, 1, 2, 0), (3, 0, 2, 0), (3, 3, 0, 0), (0, 0, 0, 1), (6, 0, 0, 0), (29, 0, 0, 0), (3, 0, 2, 0), (3, 3, 0, 0), (0, 0, 0, 2), (6, 0, 0, 0), (29, 0, 0, 0), (3, 0, 2, 0), (3, 3, 0, 0), (0, 0, 0, 3), (6, 0, 0, 0), (29, 0, 0, 0), (39, 21042, 160, 204), (3, 2, 2, 0), (3, 0, 2, 0), (3, 3, 0, 0), (0, 0, 0, 1), (6, 0, 0, 0), (29, 0, 0, 0), (3, 0, 2, 0), (3, 3, 0, 0), (0, 0, 0, 2), (6, 0, 0, 0), (29, 0, 0, 0), (3, 0, 2, 0), (3, 3, 0, 0), (0, 0, 0, 3), (6, 0, 0, 0), (29, 0, 0, 0), (39, 22042, 320, 207), (13, 0, 1828, 0), (0, 0, 0, 0), (58, 0, 0, 0)]),
  (1588, 15, [(3, 1, 2, 0), (3, 0, 2, 0), (3, 3, 0, 0), (0, 0, 0, 1), (6, 0, 0, 0), (29, 0, 0, 0), (39, 21022, 161, 208), (3, 2, 2, 0), (3, 0, 2, 0), (3, 3, 0, 0), (0, 0, 0, 1), (6, 0, 0, 0), (29, 0, 0, 0), (39, 22022, 322, 211), (13, 0, 1828, 0), (0, 0, 0, 0), (58, 0, 0, 0)]),
  (1611, 15, [(3, 1, 2, 0), (3, 0, 2, 0), (3, 3, 0, 0), (0, 0, 0, 1), (6, 0, 0, 0), (29, 0, 0, 0), (3, 0, 2, 0), (3, 3, 0, 0), (0, 0, 0, 2), (6, 0, 0, 0), (29, 0, 0, 0), (39, 21032, 162, 212), (3, 2, 2, 0), (3, 0, 2, 0), (3, 3, 0, 0), (0, 0, 0, 1), (6, 0, 0, 0), (29, 0, 0, 0), (3, 0, 2, 0), (3, 3, 0, 0), (0, 0, 0, 2), (6, 0, 0, 0), (29, 0, 0, 0), (39, 22032, 323, 215), (13, 0, 1828, 0), (0, 0, 0, 0), (58, 0, 0, 0)]),
  (1644, 15, [(3, 1, 2, 0), (39, 21012, 163, 216), (3, 2, 2, 0), (39, 22012, 324, 219), (13, 0, 1828, 0), (0, 0, 0, 0), (58, 0, 0, 0)]),
  (1657, 15, [(3, 1, 2, 0), (3, 0, 2, 0), (3, 3, 0, 0), (0, 0, 0, 1), (6, 0, 0, 0), (29, 0, 0, 0), (3, 0, 2, 0), (3, 3, 0, 0), (0, 0, 0, 2), (6, 0, 0, 0), (29, 0, 0, 0), (39, 21032, 164, 220), (3, 2, 2, 0), (3, 0, 2, 0), (3, 3, 0, 0), (0, 0, 0, 1), (6, 0, 0, 0), (29, 0, 0, 0), (3, 0, 2, 0), (3, 3, 0, 0), (0, 0, 0, 2), (6, 0, 0, 0), (29, 0, 0, 0), (39, 22032, 325, 223), (13, 0, 1828, 0), (0, 0, 0, 0), (58, 0, 0, 0)]),
  (1690, 15, [(3, 1, 2, 0), (3, 0, 2, 0), (3, 3, 0, 0), (0, 0, 0, 1), (6, 0, 0, 0), (29, 0, 0, 0), (3, 0, 2, 0), (3, 3, 0, 0), (0, 0, 0, 2), (6, 0, 0, 0), (29, 0, 0, 0), (39, 21032, 165, 224), (3, 2, 2, 0), (3, 0, 2, 0), (3, 3, 0, 0), (0, 0, 0, 1), (6, 0, 0, 0), (29, 0, 0, 0), (3, 0, 2, 0), (3, 3, 0, 0), (0, 0, 0, 2), (6, 0, 0, 0), (29, 0, 0, 0), (39, 22032, 337, 227), (13, 0, 1828, 0), (0, 0, 0, 0), (58, 0, 0, 0)]),
  (1723, 15, [(3, 1, 2, 0), (3, 0, 2, 0), (3, 3, 0, 0), (0, 0, 0, 1), (6, 0, 0, 0), (29, 0, 0, 0), (39, 21022, 166, 228), (3, 2, 2, 0), (3, 0, 2, 0), (3, 3, 0, 0), (0, 0, 0, 1), (6, 0, 0, 0), (29, 0, 0, 0), (39, 22022, 338, 231), (13, 0, 1828, 0), (0, 0, 0, 0), (58, 0, 0, 0)]),
  (1746, 15, [(3, 1, 2, 0), (3, 0, 2, 0), (3, 3, 0, 0), (0, 0, 0, 1), (6, 0, 0, 0), (29, 0, 0, 0), (39, 21022, 167, 232), (3, 2, 2, 0), (3, 0, 2, 0), (3, 3, 0, 0), (0, 0, 0, 1), (6, 0, 0, 0), (29, 0, 0, 0), (39, 22022, 192, 235), (13, 0, 1828, 0), (0, 0, 0, 0), (58, 0, 0, 0)]),
  (1769, 15, [(3, 1, 2, 0), (3, 0, 2, 0), (3, 3, 0, 0), (0, 0, 0, 1), (6, 0, 0, 0), (29, 0, 0, 0), (39, 21022, 168, 236), (3, 2, 2, 0), (3, 0, 2, 0), (3, 3, 0, 0), (0, 0, 0, 1), (6, 0, 0, 0), (29, 0, 0, 0), (39, 22022, 193, 239), (13, 0, 1828, 0), (0, 0, 0, 0), (58, 0, 0, 0)]),
  (1792, 15, [(3, 1, 2, 0), (3, 0, 2, 0), (3, 3, 0, 0), (0, 0, 0, 1), (6, 0, 0, 0), (29, 0, 0, 0), (39, 21022, 169, 240), (3, 2, 2, 0), (3, 0, 2, 0), (3, 3, 0, 0), (0, 0, 0, 1), (6, 0, 0, 0), (29, 0, 0, 0), (39, 22022, 339, 243), (13, 0, 1828, 0), (0, 0, 0, 0), (58, 0, 0, 0)]),
  (1815, 15, [(3, 1, 2, 0), (39, 21012, 170, 244), (3, 2, 2, 0), (39, 22012, 340, 247), (13, 0, 1828, 0), (0, 0, 0, 0), (58, 0, 0, 0)]),
  (1828, 15, [(5, 3, 0, 6), (15, 0, 18, 0), (16, 0, 18, 0)]),
  (1834, 0, [(0, 0, 0, 1), (58, 0, 0, 0)])]
def inf (m : Nat) : Nat × (Nat × Nat × Nat × Int) × List (Nat × Nat × List Ins) := (bif Nat.ble (m + 1) 178 then (bif Nat.ble (m + 1) 89 then (bif Nat.ble (m + 1) 44 then (bif Nat.ble (m + 1) 22 then (bif Nat.ble (m + 1) 11 then (bif Nat.ble (m + 1) 5 then (bif Nat.ble (m + 1) 2 then (bif Nat.ble (m + 1) 1 then (3, (1, 0, 0, 0), k_X0_init) else (5, (6, 0, 0, 0), k_X0_pass)) else (bif Nat.ble (m + 1) 3 then (2, (2, 0, 0, 0), k_X0_yearsOf) else (bif Nat.ble (m + 1) 4 then (8, (5, 0, 0, 0), k_X0_paintOne) else (2, (1, 0, 0, 0), k_X0_draw)))) else (bif Nat.ble (m + 1) 8 then (bif Nat.ble (m + 1) 6 then (5, (2, 0, 0, 0), k_X1_init) else (bif Nat.ble (m + 1) 7 then (6, (19, 0, 0, 0), k_X1_runAll) else (3, (6, 0, 0, 0), k_X1_learnWords))) else (bif Nat.ble (m + 1) 9 then (4, (3, 0, 0, 0), k_X1_isWanted) else (bif Nat.ble (m + 1) 10 then (5, (3, 0, 0, 0), k_X1_sumsWork) else (4, (18, 0, 0, 0), k_X1_paints))))) else (bif Nat.ble (m + 1) 16 then (bif Nat.ble (m + 1) 13 then (bif Nat.ble (m + 1) 12 then (2, (2, 0, 0, 0), k_X1_changes) else (3, (1, 0, 0, 0), k_X2_init)) else (bif Nat.ble (m + 1) 14 then (4, (6, 0, 0, 0), k_X2_crownTill) else (bif Nat.ble (m + 1) 15 then (3, (2, 0, 0, 0), k_X2_reigns) else (5, (2, 0, 0, 0), k_X2_reignOf)))) else (bif Nat.ble (m + 1) 19 then (bif Nat.ble (m + 1) 17 then (5, (5, 0, 0, 0), k_X2_standInLine) else (bif Nat.ble (m + 1) 18 then (2, (1, 0, 0, 0), k_X2_begins) else (3, (1, 0, 0, 0), k_X2_lasts))) else (bif Nat.ble (m + 1) 20 then (1, (1, 0, 0, 0), k_X3_init) else (bif Nat.ble (m + 1) 21 then (8, (2, 0, 0, 0), k_X3_works) else (8, (1, 0, 0, 0), k_X3_joins)))))) else (bif Nat.ble (m + 1) 33 then (bif Nat.ble (m + 1) 27 then (bif Nat.ble (m + 1) 24 then (bif Nat.ble (m + 1) 23 then (2, (2, 0, 0, 0), k_X4_init) else (4, (4, 0, 0, 0), k_X4_looksOf)) else (bif Nat.ble (m + 1) 25 then (3, (4, 0, 0, 0), k_X4_letsOf) else (bif Nat.ble (m + 1) 26 then (3, (4, 0, 0, 0), k_X4_asksOf) else (3, (4, 0, 0, 0), k_X4_barsPainter)))) else (bif Nat.ble (m + 1) 30 then (bif Nat.ble (m + 1) 28 then (3, (4, 0, 0, 0), k_X4_ranksOf) else (bif Nat.ble (m + 1) 29 then (3, (4, 0, 0, 0), k_X4_barsClaimant) else (7, (1, 0, 0, 0), k_X4_scarOn))) else (bif Nat.ble (m + 1) 31 then (3, (2, 0, 0, 0), k_X4_ask) else (bif Nat.ble (m + 1) 32 then (3, (3, 0, 0, 0), k_X4_askPainter) else (5, (3, 0, 0, 0), k_X4_askClaimant))))) else (bif Nat.ble (m + 1) 38 then (bif Nat.ble (m + 1) 35 then (bif Nat.ble (m + 1) 34 then (7, (3, 0, 0, 0), k_X4_tells) else (3, (1, 0, 0, 0), k_X5_init)) else (bif Nat.ble (m + 1) 36 then (6, (17, 0, 0, 0), k_X5_seek) else (bif Nat.ble (m + 1) 37 then (6, (4, 2, 1, 6), k_X5_walk) else (5, (2, 0, 0, 0), k_X5_mayPaint)))) else (bif Nat.ble (m + 1) 41 then (bif Nat.ble (m + 1) 39 then (5, (3, 0, 0, 0), k_X5_paintOver) else (bif Nat.ble (m + 1) 40 then (5, (1, 0, 0, 0), k_X5_isGood) else (5, (2, 0, 0, 0), k_X5_weigh))) else (bif Nat.ble (m + 1) 42 then (3, (1, 0, 0, 0), k_X5_isBetter) else (bif Nat.ble (m + 1) 43 then (3, (1, 0, 0, 0), k_X6_init) else (5, (104, 0, 0, 0), k_X6_faultIn))))))) else (bif Nat.ble (m + 1) 66 then (bif Nat.ble (m + 1) 55 then (bif Nat.ble (m + 1) 49 then (bif Nat.ble (m + 1) 46 then (bif Nat.ble (m + 1) 45 then (3, (1, 0, 0, 0), k_X6_clearRow) else (3, (101, 0, 0, 0), k_X6_readClause)) else (bif Nat.ble (m + 1) 47 then (3, (101, 0, 0, 0), k_X6_readOrder) else (bif Nat.ble (m + 1) 48 then (2, (7, 0, 0, 0), k_X6_readTimes) else (3, (103, 0, 0, 0), k_X6_readIf)))) else (bif Nat.ble (m + 1) 52 then (bif Nat.ble (m + 1) 50 then (4, (100, 0, 0, 0), k_X6_readSumOf) else (bif Nat.ble (m + 1) 51 then (5, (12, 10, 1, 9), k_X6_readTest) else (5, (11, 10, 1, 9), k_X6_readBoth))) else (bif Nat.ble (m + 1) 53 then (5, (10, 10, 1, 9), k_X6_readPlain) else (bif Nat.ble (m + 1) 54 then (5, (9, 10, 1, 9), k_X6_readSum) else (5, (8, 10, 1, 9), k_X6_readTerm))))) else (bif Nat.ble (m + 1) 60 then (bif Nat.ble (m + 1) 57 then (bif Nat.ble (m + 1) 56 then (3, (7, 10, 1, 9), k_X6_readPart) else (2, (3, 0, 0, 0), k_X6_opens)) else (bif Nat.ble (m + 1) 58 then (2, (1, 0, 0, 0), k_X6_isSign) else (bif Nat.ble (m + 1) 59 then (3, (3, 0, 0, 0), k_X6_takes) else (3, (6, 0, 0, 0), k_X6_takesWord)))) else (bif Nat.ble (m + 1) 63 then (bif Nat.ble (m + 1) 61 then (5, (6, 0, 0, 0), k_X6_placeIn) else (bif Nat.ble (m + 1) 62 then (5, (5, 0, 0, 0), k_X6_isSame) else (1, (2, 0, 0, 0), k_X6_next))) else (bif Nat.ble (m + 1) 64 then (1, (1, 0, 0, 0), k_X6_kindOf) else (bif Nat.ble (m + 1) 65 then (1, (1, 0, 0, 0), k_X7_init) else (3, (1, 0, 0, 0), k_X7_takeFrom)))))) else (bif Nat.ble (m + 1) 77 then (bif Nat.ble (m + 1) 71 then (bif Nat.ble (m + 1) 68 then (bif Nat.ble (m + 1) 67 then (2, (2, 0, 0, 0), k_X7_hasPainter) else (2, (2, 0, 0, 0), k_X7_hasLayer)) else (bif Nat.ble (m + 1) 69 then (2, (2, 0, 0, 0), k_X7_hasClaimant) else (bif Nat.ble (m + 1) 70 then (3, (1, 0, 0, 0), k_X7_ageIn) else (5, (1, 0, 0, 0), k_X7_rests)))) else (bif Nat.ble (m + 1) 74 then (bif Nat.ble (m + 1) 72 then (2, (1, 0, 0, 0), k_X7_seenAt) else (bif Nat.ble (m + 1) 73 then (1, (1, 0, 0, 0), k_X7_addCopy) else (4, (1, 0, 0, 0), k_X7_nearOf))) else (bif Nat.ble (m + 1) 75 then (4, (1, 0, 0, 0), k_X7_isAlive) else (bif Nat.ble (m + 1) 76 then (5, (2, 0, 0, 0), k_X7_childrenOf) else (8, (2, 0, 0, 0), k_X7_brushed))))) else (bif Nat.ble (m + 1) 83 then (bif Nat.ble (m + 1) 80 then (bif Nat.ble (m + 1) 78 then (2, (1, 0, 0, 0), k_X8_init) else (bif Nat.ble (m + 1) 79 then (5, (2, 0, 0, 0), k_X8_between) else (3, (4, 0, 0, 0), k_X8_weigh))) else (bif Nat.ble (m + 1) 81 then (1, (1, 0, 0, 0), k_X8_changed) else (bif Nat.ble (m + 1) 82 then (1, (1, 0, 0, 0), k_X8_waysInAll) else (3, (19, 0, 0, 0), k_X8_parentOf)))) else (bif Nat.ble (m + 1) 86 then (bif Nat.ble (m + 1) 84 then (9, (2, 0, 0, 0), k_X8_datedBy) else (bif Nat.ble (m + 1) 85 then (7, (3, 0, 0, 0), k_X8_learn) else (7, (2, 0, 0, 0), k_X8_needBehind))) else (bif Nat.ble (m + 1) 87 then (6, (1, 0, 0, 0), k_X8_sameIn) else (bif Nat.ble (m + 1) 88 then (3, (1, 0, 0, 0), k_X8_toneIn) else (5, (1, 0, 0, 0), k_X8_fromLayer)))))))) else (bif Nat.ble (m + 1) 133 then (bif Nat.ble (m + 1) 111 then (bif Nat.ble (m + 1) 100 then (bif Nat.ble (m + 1) 94 then (bif Nat.ble (m + 1) 91 then (bif Nat.ble (m + 1) 90 then (6, (3, 0, 0, 0), k_X8_weighSet) else (8, (2, 0, 0, 0), k_X8_joinBranch)) else (bif Nat.ble (m + 1) 92 then (4, (2, 2, 1, 8), k_X8_fits) else (bif Nat.ble (m + 1) 93 then (6, (1, 0, 0, 0), k_X8_leastFrom) else (5, (1, 0, 0, 0), k_X8_comesFrom)))) else (bif Nat.ble (m + 1) 97 then (bif Nat.ble (m + 1) 95 then (3, (1, 0, 0, 0), k_X9_init) else (bif Nat.ble (m + 1) 96 then (5, (5, 0, 0, 0), k_X9_paintNext) else (4, (5, 0, 0, 0), k_X9_unlikeOf))) else (bif Nat.ble (m + 1) 98 then (4, (5, 0, 0, 0), k_X9_farCell) else (bif Nat.ble (m + 1) 99 then (4, (5, 0, 0, 0), k_X9_moneyBehind) else (4, (6, 0, 0, 0), k_X9_whoCan))))) else (bif Nat.ble (m + 1) 105 then (bif Nat.ble (m + 1) 102 then (bif Nat.ble (m + 1) 101 then (6, (6, 0, 0, 0), k_X9_rowsInto) else (8, (5, 0, 0, 0), k_X9_driftOf)) else (bif Nat.ble (m + 1) 103 then (5, (6, 0, 0, 0), k_X9_undoingPair) else (bif Nat.ble (m + 1) 104 then (8, (5, 0, 0, 0), k_X9_firstTones) else (4, (5, 0, 0, 0), k_X9_aimAt)))) else (bif Nat.ble (m + 1) 108 then (bif Nat.ble (m + 1) 106 then (8, (3, 0, 0, 0), k_X9_comesOut) else (bif Nat.ble (m + 1) 107 then (7, (3, 0, 0, 0), k_X9_carried) else (6, (3, 0, 0, 0), k_X9_undo))) else (bif Nat.ble (m + 1) 109 then (3, (1, 0, 0, 0), k_X10_init) else (bif Nat.ble (m + 1) 110 then (1, (1, 0, 0, 0), k_X10_clear) else (3, (1, 0, 0, 0), k_X10_add)))))) else (bif Nat.ble (m + 1) 122 then (bif Nat.ble (m + 1) 116 then (bif Nat.ble (m + 1) 113 then (bif Nat.ble (m + 1) 112 then (2, (1, 0, 0, 0), k_X10_jumpHere) else (2, (2, 0, 0, 0), k_X10_trimmed)) else (bif Nat.ble (m + 1) 114 then (7, (3, 0, 0, 0), k_X11_init) else (bif Nat.ble (m + 1) 115 then (4, (3, 0, 0, 0), k_X11_first) else (5, (3, 0, 0, 0), k_X11_painter)))) else (bif Nat.ble (m + 1) 119 then (bif Nat.ble (m + 1) 117 then (6, (3, 0, 0, 0), k_X11_err) else (bif Nat.ble (m + 1) 118 then (3, (3, 0, 0, 0), k_X11_of) else (4, (3, 0, 0, 0), k_X11_terms))) else (bif Nat.ble (m + 1) 120 then (5, (3, 0, 0, 0), k_X11_scar) else (bif Nat.ble (m + 1) 121 then (3, (3, 0, 0, 0), k_X11_heal) else (6, (2, 0, 0, 0), k_X11_feed))))) else (bif Nat.ble (m + 1) 127 then (bif Nat.ble (m + 1) 124 then (bif Nat.ble (m + 1) 123 then (2, (1, 0, 0, 0), k_X11_end) else (3, (3, 0, 0, 0), k_X11_row)) else (bif Nat.ble (m + 1) 125 then (1, (1, 0, 0, 0), k_X11_flakes) else (bif Nat.ble (m + 1) 126 then (2, (105, 0, 0, 0), k_X11_law) else (3, (105, 0, 0, 0), k_X11_orders)))) else (bif Nat.ble (m + 1) 130 then (bif Nat.ble (m + 1) 128 then (1, (1, 0, 0, 0), k_X11_fault) else (bif Nat.ble (m + 1) 129 then (1, (1, 0, 0, 0), k_X11_stopped) else (3, (3, 0, 0, 0), k_X11_force))) else (bif Nat.ble (m + 1) 131 then (4, (5, 0, 0, 0), k_X11_looks) else (bif Nat.ble (m + 1) 132 then (4, (5, 0, 0, 0), k_X11_asks) else (3, (6, 0, 0, 0), k_X11_paint))))))) else (bif Nat.ble (m + 1) 155 then (bif Nat.ble (m + 1) 144 then (bif Nat.ble (m + 1) 138 then (bif Nat.ble (m + 1) 135 then (bif Nat.ble (m + 1) 134 then (1, (3, 0, 0, 0), k_X11_scrape) else (3, (3, 0, 0, 0), k_X11_tone)) else (bif Nat.ble (m + 1) 136 then (3, (6, 0, 0, 0), k_X11_layer) else (bif Nat.ble (m + 1) 137 then (2, (6, 0, 0, 0), k_X11_unlawful) else (2, (6, 0, 0, 0), k_X11_money)))) else (bif Nat.ble (m + 1) 141 then (bif Nat.ble (m + 1) 139 then (2, (6, 0, 0, 0), k_X11_broke) else (bif Nat.ble (m + 1) 140 then (4, (18, 0, 0, 0), k_X11_plan) else (5, (6, 0, 0, 0), k_X11_drift))) else (bif Nat.ble (m + 1) 142 then (2, (7, 0, 0, 0), k_X11_undoing) else (bif Nat.ble (m + 1) 143 then (1, (3, 0, 0, 0), k_X11_copy) else (5, (3, 0, 0, 0), k_X11_touch))))) else (bif Nat.ble (m + 1) 149 then (bif Nat.ble (m + 1) 146 then (bif Nat.ble (m + 1) 145 then (2, (1, 0, 0, 0), k_X11_burn) else (2, (3, 0, 0, 0), k_X11_near)) else (bif Nat.ble (m + 1) 147 then (3, (3, 0, 0, 0), k_X11_like) else (bif Nat.ble (m + 1) 148 then (3, (20, 0, 0, 0), k_X11_tree) else (1, (5, 0, 0, 0), k_X11_trees)))) else (bif Nat.ble (m + 1) 152 then (bif Nat.ble (m + 1) 150 then (3, (3, 0, 0, 0), k_X11_dated) else (bif Nat.ble (m + 1) 151 then (2, (4, 0, 0, 0), k_X11_know) else (2, (7, 0, 0, 0), k_X11_who))) else (bif Nat.ble (m + 1) 153 then (5, (3, 0, 0, 0), k_X11_forge) else (bif Nat.ble (m + 1) 154 then (2, (7, 0, 0, 0), k_X11_skipped) else (3, (7, 0, 0, 0), k_X11_missing)))))) else (bif Nat.ble (m + 1) 166 then (bif Nat.ble (m + 1) 160 then (bif Nat.ble (m + 1) 157 then (bif Nat.ble (m + 1) 156 then (2, (6, 0, 0, 0), k_X11_was) else (4, (6, 0, 0, 0), k_X11_ways)) else (bif Nat.ble (m + 1) 158 then (6, (3, 0, 0, 0), k_X11_claimant) else (bif Nat.ble (m + 1) 159 then (6, (3, 0, 0, 0), k_X11_claim) else (3, (3, 0, 0, 0), k_X11_born)))) else (bif Nat.ble (m + 1) 163 then (bif Nat.ble (m + 1) 161 then (4, (5, 0, 0, 0), k_X11_stands) else (bif Nat.ble (m + 1) 162 then (2, (7, 0, 0, 0), k_X11_ruler) else (3, (7, 0, 0, 0), k_X11_reign))) else (bif Nat.ble (m + 1) 164 then (3, (7, 0, 0, 0), k_X11_vacant) else (bif Nat.ble (m + 1) 165 then (3, (6, 0, 0, 0), k_X11_line) else (3, (7, 0, 0, 0), k_X11_century))))) else (bif Nat.ble (m + 1) 172 then (bif Nat.ble (m + 1) 169 then (bif Nat.ble (m + 1) 167 then (2, (3, 0, 0, 0), k_X11_drawn) else (bif Nat.ble (m + 1) 168 then (2, (3, 0, 0, 0), k_X11_image) else (2, (3, 0, 0, 0), k_X11_back))) else (bif Nat.ble (m + 1) 170 then (2, (1, 0, 0, 0), k_X11_count) else (bif Nat.ble (m + 1) 171 then (1, (1, 0, 0, 0), k_X11_status) else (2, (1, 0, 0, 0), k_X11_answer)))) else (bif Nat.ble (m + 1) 175 then (bif Nat.ble (m + 1) 173 then (3, (2, 0, 0, 0), k_X11_refuse) else (bif Nat.ble (m + 1) 174 then (3, (1, 0, 0, 0), k_X11_putBytes) else (5, (2, 0, 0, 0), k_X11_heirs))) else (bif Nat.ble (m + 1) 176 then (2, (2, 0, 0, 0), k_X11_isRootOrCopy) else (bif Nat.ble (m + 1) 177 then (1, (1, 0, 0, 0), k_X11_highestTerm) else (2, (1, 0, 0, 0), k_X11_inside))))))))) else (bif Nat.ble (m + 1) 267 then (bif Nat.ble (m + 1) 222 then (bif Nat.ble (m + 1) 200 then (bif Nat.ble (m + 1) 189 then (bif Nat.ble (m + 1) 183 then (bif Nat.ble (m + 1) 180 then (bif Nat.ble (m + 1) 179 then (1, (1, 0, 0, 0), k_X11_isCell) else (1, (1, 0, 0, 0), k_X11_isTone)) else (bif Nat.ble (m + 1) 181 then (1, (1, 0, 0, 0), k_X11_canBeCopy) else (bif Nat.ble (m + 1) 182 then (1, (1, 0, 0, 0), k_X11_bit) else (2, (1, 0, 0, 0), k_X11_lowestIn)))) else (bif Nat.ble (m + 1) 186 then (bif Nat.ble (m + 1) 184 then (2, (1, 0, 0, 0), k_X11_highestIn) else (bif Nat.ble (m + 1) 185 then (3, (1, 0, 0, 0), k_X11_nearest) else (1, (1, 0, 0, 0), k_X12_init))) else (bif Nat.ble (m + 1) 187 then (6, (1, 0, 0, 0), k_X12_in) else (bif Nat.ble (m + 1) 188 then (2, (1, 0, 0, 0), k_X12_is) else (1, (1, 0, 0, 0), k_X12_size))))) else (bif Nat.ble (m + 1) 194 then (bif Nat.ble (m + 1) 191 then (bif Nat.ble (m + 1) 190 then (4, (1, 0, 0, 0), k_X12_within) else (2, (1, 0, 0, 0), k_X12_tell)) else (bif Nat.ble (m + 1) 192 then (4, (1, 0, 0, 0), k_X12_change) else (bif Nat.ble (m + 1) 193 then (3, (2, 0, 0, 0), k_X12_image) else (3, (2, 0, 0, 0), k_X12_back)))) else (bif Nat.ble (m + 1) 197 then (bif Nat.ble (m + 1) 195 then (1, (2, 0, 0, 0), k_X12_isCell) else (bif Nat.ble (m + 1) 196 then (1, (2, 0, 0, 0), k_X12_isTone) else (1, (2, 0, 0, 0), k_X12_isYear))) else (bif Nat.ble (m + 1) 198 then (1, (1, 0, 0, 0), k_X12_years) else (bif Nat.ble (m + 1) 199 then (2, (2, 0, 0, 0), k_X12_isLayer) else (2, (2, 0, 0, 0), k_X12_isPainter)))))) else (bif Nat.ble (m + 1) 211 then (bif Nat.ble (m + 1) 205 then (bif Nat.ble (m + 1) 202 then (bif Nat.ble (m + 1) 201 then (2, (2, 0, 0, 0), k_X12_isCopy) else (2, (2, 0, 0, 0), k_X12_isClaimant)) else (bif Nat.ble (m + 1) 203 then (3, (1, 0, 0, 0), k_X12_toneAt) else (bif Nat.ble (m + 1) 204 then (2, (2, 0, 0, 0), k_X12_seen) else (3, (3, 0, 0, 0), k_X12_first)))) else (bif Nat.ble (m + 1) 208 then (bif Nat.ble (m + 1) 206 then (6, (2, 0, 0, 0), k_X12_painter) else (bif Nat.ble (m + 1) 207 then (4, (3, 0, 0, 0), k_X12_err) else (3, (3, 0, 0, 0), k_X12_of))) else (bif Nat.ble (m + 1) 209 then (2, (2, 0, 0, 0), k_X12_isTerm) else (bif Nat.ble (m + 1) 210 then (3, (3, 0, 0, 0), k_X12_terms) else (5, (3, 0, 0, 0), k_X12_scar))))) else (bif Nat.ble (m + 1) 216 then (bif Nat.ble (m + 1) 213 then (bif Nat.ble (m + 1) 212 then (3, (2, 0, 0, 0), k_X12_heal) else (4, (3, 0, 0, 0), k_X12_row)) else (bif Nat.ble (m + 1) 214 then (1, (1, 0, 0, 0), k_X12_flakes) else (bif Nat.ble (m + 1) 215 then (3, (1, 0, 0, 0), k_X12_four) else (6, (2, 0, 0, 0), k_X12_feed)))) else (bif Nat.ble (m + 1) 219 then (bif Nat.ble (m + 1) 217 then (2, (1, 0, 0, 0), k_X12_end) else (bif Nat.ble (m + 1) 218 then (1, (1, 0, 0, 0), k_X12_isSmall) else (1, (1, 0, 0, 0), k_X12_isDigit))) else (bif Nat.ble (m + 1) 220 then (1, (3, 0, 0, 0), k_X12_begin) else (bif Nat.ble (m + 1) 221 then (1, (2, 0, 0, 0), k_X12_next) else (3, (1, 0, 0, 0), k_X12_isWord))))))) else (bif Nat.ble (m + 1) 244 then (bif Nat.ble (m + 1) 233 then (bif Nat.ble (m + 1) 227 then (bif Nat.ble (m + 1) 224 then (bif Nat.ble (m + 1) 223 then (2, (1, 0, 0, 0), k_X12_isSign) else (2, (3, 0, 0, 0), k_X12_must)) else (bif Nat.ble (m + 1) 225 then (6, (4, 0, 0, 0), k_X12_number) else (bif Nat.ble (m + 1) 226 then (1, (1, 0, 0, 0), k_X12_fault) else (3, (1, 0, 0, 0), k_X12_emit)))) else (bif Nat.ble (m + 1) 230 then (bif Nat.ble (m + 1) 228 then (3, (1, 0, 0, 0), k_X12_push) else (bif Nat.ble (m + 1) 229 then (1, (1, 0, 0, 0), k_X12_binds) else (2, (2, 0, 0, 0), k_X12_settle))) else (bif Nat.ble (m + 1) 231 then (3, (1, 0, 0, 0), k_X12_inner) else (bif Nat.ble (m + 1) 232 then (2, (2, 0, 0, 0), k_X12_isCompared) else (3, (2, 0, 0, 0), k_X12_partAt))))) else (bif Nat.ble (m + 1) 238 then (bif Nat.ble (m + 1) 235 then (bif Nat.ble (m + 1) 234 then (3, (2, 0, 0, 0), k_X12_orderPartAt) else (2, (4, 0, 0, 0), k_X12_openBracket)) else (bif Nat.ble (m + 1) 236 then (4, (4, 0, 0, 0), k_X12_leaf) else (bif Nat.ble (m + 1) 237 then (4, (5, 0, 0, 0), k_X12_readPart) else (1, (6, 0, 0, 0), k_X12_readPlain)))) else (bif Nat.ble (m + 1) 241 then (bif Nat.ble (m + 1) 239 then (4, (4, 0, 0, 0), k_X12_behindSum) else (bif Nat.ble (m + 1) 240 then (2, (4, 0, 0, 0), k_X12_behindTest) else (3, (7, 0, 0, 0), k_X12_readExpression))) else (bif Nat.ble (m + 1) 242 then (4, (8, 0, 0, 0), k_X12_readClause) else (bif Nat.ble (m + 1) 243 then (2, (4, 0, 0, 0), k_X12_beginText) else (1, (4, 0, 0, 0), k_X12_endText)))))) else (bif Nat.ble (m + 1) 255 then (bif Nat.ble (m + 1) 249 then (bif Nat.ble (m + 1) 246 then (bif Nat.ble (m + 1) 245 then (3, (9, 0, 0, 0), k_X12_law) else (2, (2, 0, 0, 0), k_X12_force)) else (bif Nat.ble (m + 1) 247 then (6, (1, 0, 0, 0), k_X12_reckon) else (bif Nat.ble (m + 1) 248 then (7, (3, 0, 0, 0), k_X12_reckonAll) else (2, (4, 0, 0, 0), k_X12_isSo)))) else (bif Nat.ble (m + 1) 252 then (bif Nat.ble (m + 1) 250 then (8, (5, 0, 0, 0), k_X12_tells) else (bif Nat.ble (m + 1) 251 then (3, (1, 0, 0, 0), k_X12_setNone) else (2, (2, 0, 0, 0), k_X12_ageIn))) else (bif Nat.ble (m + 1) 253 then (7, (6, 0, 0, 0), k_X12_looksOf) else (bif Nat.ble (m + 1) 254 then (3, (6, 0, 0, 0), k_X12_letsOf) else (3, (3, 0, 0, 0), k_X12_setPainter))))) else (bif Nat.ble (m + 1) 261 then (bif Nat.ble (m + 1) 258 then (bif Nat.ble (m + 1) 256 then (3, (6, 0, 0, 0), k_X12_asksOf) else (bif Nat.ble (m + 1) 257 then (3, (6, 0, 0, 0), k_X12_isBarred) else (4, (7, 0, 0, 0), k_X12_looks))) else (bif Nat.ble (m + 1) 259 then (4, (7, 0, 0, 0), k_X12_asks) else (bif Nat.ble (m + 1) 260 then (3, (7, 0, 0, 0), k_X12_layLooks) else (7, (2, 0, 0, 0), k_X12_painted)))) else (bif Nat.ble (m + 1) 264 then (bif Nat.ble (m + 1) 262 then (6, (3, 0, 0, 0), k_X12_paintPaper) else (bif Nat.ble (m + 1) 263 then (4, (2, 0, 0, 0), k_X12_loadPaper) else (5, (2, 0, 0, 0), k_X12_unlikePaper))) else (bif Nat.ble (m + 1) 265 then (2, (8, 0, 0, 0), k_X12_unlikeOf) else (bif Nat.ble (m + 1) 266 then (5, (2, 0, 0, 0), k_X12_rests) else (4, (8, 0, 0, 0), k_X12_paintNow)))))))) else (bif Nat.ble (m + 1) 312 then (bif Nat.ble (m + 1) 289 then (bif Nat.ble (m + 1) 278 then (bif Nat.ble (m + 1) 272 then (bif Nat.ble (m + 1) 269 then (bif Nat.ble (m + 1) 268 then (2, (9, 0, 0, 0), k_X12_paint) else (1, (2, 0, 0, 0), k_X12_scrape)) else (bif Nat.ble (m + 1) 270 then (3, (3, 0, 0, 0), k_X12_tone) else (bif Nat.ble (m + 1) 271 then (4, (7, 0, 0, 0), k_X12_tooFar) else (2, (8, 0, 0, 0), k_X12_tooFarIn)))) else (bif Nat.ble (m + 1) 275 then (bif Nat.ble (m + 1) 273 then (3, (9, 0, 0, 0), k_X12_layer) else (bif Nat.ble (m + 1) 274 then (2, (9, 0, 0, 0), k_X12_unlawful) else (4, (7, 0, 0, 0), k_X12_moneyBehind))) else (bif Nat.ble (m + 1) 276 then (2, (8, 0, 0, 0), k_X12_money) else (bif Nat.ble (m + 1) 277 then (2, (8, 0, 0, 0), k_X12_broke) else (6, (2, 0, 0, 0), k_X12_restsInRow))))) else (bif Nat.ble (m + 1) 283 then (bif Nat.ble (m + 1) 280 then (bif Nat.ble (m + 1) 279 then (6, (9, 0, 0, 0), k_X12_goThrough) else (11, (8, 0, 0, 0), k_X12_weigh)) else (bif Nat.ble (m + 1) 281 then (4, (10, 0, 0, 0), k_X12_plan) else (bif Nat.ble (m + 1) 282 then (8, (8, 0, 0, 0), k_X12_driftOf) else (7, (9, 0, 0, 0), k_X12_drift)))) else (bif Nat.ble (m + 1) 286 then (bif Nat.ble (m + 1) 284 then (7, (8, 0, 0, 0), k_X12_undoing) else (bif Nat.ble (m + 1) 285 then (5, (1, 0, 0, 0), k_X12_isSame) else (3, (3, 0, 0, 0), k_X12_copyNow))) else (bif Nat.ble (m + 1) 287 then (1, (4, 0, 0, 0), k_X12_copy) else (bif Nat.ble (m + 1) 288 then (4, (3, 0, 0, 0), k_X12_touch) else (2, (1, 0, 0, 0), k_X12_burn)))))) else (bif Nat.ble (m + 1) 300 then (bif Nat.ble (m + 1) 294 then (bif Nat.ble (m + 1) 291 then (bif Nat.ble (m + 1) 290 then (5, (1, 0, 0, 0), k_X12_apart) else (2, (2, 0, 0, 0), k_X12_nearOf)) else (bif Nat.ble (m + 1) 292 then (6, (3, 0, 0, 0), k_X12_near) else (bif Nat.ble (m + 1) 293 then (2, (1, 0, 0, 0), k_X12_pictureAt) else (4, (3, 0, 0, 0), k_X12_like)))) else (bif Nat.ble (m + 1) 297 then (bif Nat.ble (m + 1) 295 then (5, (1, 0, 0, 0), k_X12_isTree) else (bif Nat.ble (m + 1) 296 then (7, (2, 0, 0, 0), k_X12_findTree) else (2, (3, 0, 0, 0), k_X12_tree))) else (bif Nat.ble (m + 1) 298 then (1, (3, 0, 0, 0), k_X12_trees) else (bif Nat.ble (m + 1) 299 then (9, (3, 0, 0, 0), k_X12_dated) else (7, (2, 0, 0, 0), k_X12_worst))))) else (bif Nat.ble (m + 1) 306 then (bif Nat.ble (m + 1) 303 then (bif Nat.ble (m + 1) 301 then (5, (3, 0, 0, 0), k_X12_findDepths) else (bif Nat.ble (m + 1) 302 then (4, (4, 0, 0, 0), k_X12_know) else (4, (8, 0, 0, 0), k_X12_whoOf))) else (bif Nat.ble (m + 1) 304 then (2, (9, 0, 0, 0), k_X12_who) else (bif Nat.ble (m + 1) 305 then (4, (3, 0, 0, 0), k_X12_forge) else (2, (9, 0, 0, 0), k_X12_skipped)))) else (bif Nat.ble (m + 1) 309 then (bif Nat.ble (m + 1) 307 then (8, (8, 0, 0, 0), k_X12_missing) else (bif Nat.ble (m + 1) 308 then (6, (3, 0, 0, 0), k_X12_wasOf) else (2, (8, 0, 0, 0), k_X12_layAll))) else (bif Nat.ble (m + 1) 310 then (2, (9, 0, 0, 0), k_X12_was) else (bif Nat.ble (m + 1) 311 then (7, (9, 0, 0, 0), k_X12_ways) else (7, (3, 0, 0, 0), k_X12_claimant))))))) else (bif Nat.ble (m + 1) 334 then (bif Nat.ble (m + 1) 323 then (bif Nat.ble (m + 1) 317 then (bif Nat.ble (m + 1) 314 then (bif Nat.ble (m + 1) 313 then (3, (1, 0, 0, 0), k_X12_ofClaimant) else (5, (3, 0, 0, 0), k_X12_claim)) else (bif Nat.ble (m + 1) 315 then (3, (3, 0, 0, 0), k_X12_born) else (bif Nat.ble (m + 1) 316 then (3, (2, 0, 0, 0), k_X12_isAlive) else (5, (3, 0, 0, 0), k_X12_childrenOf)))) else (bif Nat.ble (m + 1) 320 then (bif Nat.ble (m + 1) 318 then (4, (4, 0, 0, 0), k_X12_setClaimant) else (bif Nat.ble (m + 1) 319 then (3, (6, 0, 0, 0), k_X12_ranks) else (3, (6, 0, 0, 0), k_X12_isOut))) else (bif Nat.ble (m + 1) 321 then (4, (7, 0, 0, 0), k_X12_stands) else (bif Nat.ble (m + 1) 322 then (7, (7, 0, 0, 0), k_X12_findRulers) else (2, (8, 0, 0, 0), k_X12_ruler))))) else (bif Nat.ble (m + 1) 328 then (bif Nat.ble (m + 1) 325 then (bif Nat.ble (m + 1) 324 then (6, (8, 0, 0, 0), k_X12_reign) else (3, (8, 0, 0, 0), k_X12_vacant)) else (bif Nat.ble (m + 1) 326 then (7, (7, 0, 0, 0), k_X12_line) else (bif Nat.ble (m + 1) 327 then (2, (8, 0, 0, 0), k_X12_readSum) else (3, (4, 0, 0, 0), k_X12_readHead)))) else (bif Nat.ble (m + 1) 331 then (bif Nat.ble (m + 1) 329 then (3, (9, 0, 0, 0), k_X12_readOrder) else (bif Nat.ble (m + 1) 330 then (1, (9, 0, 0, 0), k_X12_setNow) else (2, (4, 0, 0, 0), k_X12_sumOf))) else (bif Nat.ble (m + 1) 332 then (4, (11, 0, 0, 0), k_X12_run) else (bif Nat.ble (m + 1) 333 then (5, (10, 0, 0, 0), k_X12_act) else (9, (5, 0, 0, 0), k_X12_touchNow)))))) else (bif Nat.ble (m + 1) 345 then (bif Nat.ble (m + 1) 339 then (bif Nat.ble (m + 1) 336 then (bif Nat.ble (m + 1) 335 then (5, (12, 0, 0, 0), k_X12_orders) else (1, (1, 0, 0, 0), k_X12_stopped)) else (bif Nat.ble (m + 1) 337 then (2, (1, 0, 0, 0), k_X12_draw) else (bif Nat.ble (m + 1) 338 then (8, (8, 0, 0, 0), k_X12_century) else (2, (3, 0, 0, 0), k_X12_drawn)))) else (bif Nat.ble (m + 1) 342 then (bif Nat.ble (m + 1) 340 then (2, (2, 0, 0, 0), k_X12_count) else (bif Nat.ble (m + 1) 341 then (1, (1, 0, 0, 0), k_X12_status) else (1, (1, 0, 0, 0), k_J6_bitCount_0f7a4))) else (bif Nat.ble (m + 1) 343 then (1, (1, 0, 0, 0), k_J9_abs_0f7a4) else (bif Nat.ble (m + 1) 344 then (2, (1, 0, 0, 0), k_J9_max_7cf53) else (2, (1, 0, 0, 0), k_J9_min_7cf53))))) else (bif Nat.ble (m + 1) 351 then (bif Nat.ble (m + 1) 348 then (bif Nat.ble (m + 1) 346 then (1, (2, 0, 0, 0), k_J0_length_8abf5) else (bif Nat.ble (m + 1) 347 then (2, (4, 0, 0, 0), k_J0_charAt_5068e) else (1, (1, 0, 0, 0), k_J0_coder_7d493))) else (bif Nat.ble (m + 1) 349 then (1, (1, 0, 0, 0), k_J0_isLatin1_aae02) else (bif Nat.ble (m + 1) 350 then (2, (2, 0, 0, 0), k_J0_checkIndex_df160) else (2, (3, 0, 0, 0), k_J1_charAt_3b067)))) else (bif Nat.ble (m + 1) 354 then (bif Nat.ble (m + 1) 352 then (2, (1, 0, 0, 0), k_J2_getChar_3b067) else (bif Nat.ble (m + 1) 353 then (1, (1, 0, 0, 0), k_J2_length_9d52b) else (2, (1, 0, 0, 0), k_J2_charAt_3b067))) else (bif Nat.ble (m + 1) 355 then (2, (1, 0, 0, 0), k_J2_checkIndex_2214a) else (bif Nat.ble (m + 1) 356 then (3, (1, 0, 0, 0), k_J3_checkIndex_8e157) else (4, (106, 0, 0, 0), k_L_law))))))))))
def blk (m pc : Nat) : Nat × List Ins := fnd pc (inf m).2.2
/-- how deep a call may go -/
def ndd (t : Nat × Nat × Nat × Int) (args : List V) : Nat := bif Nat.beq t.2.1 0 then t.1 else t.1 + t.2.1 * (match args[t.2.2.1]? with
  | some (.inl x) => (t.2.2.2 - x).toNat
  | _ => 0)
def need (f : Nat) (args : List V) : Nat := bif Nat.ble (catS args) (inf f).1 then ndd (inf f).2.1 args else 1000000
/-- n: how many blocks; nd: how deep it may still call -/
def run : Nat → Nat → Nat → Nat → List V → List V → Mem → Res
  | 0, _, _, _, _, _, _ => none
  | n + 1, m, nd, pc, ls, st, M => runL (fun pc' ls' st' M' => run n m nd pc' (msk (blk m pc').1 ls') st' M') (fun f args M' => bif Nat.ble (need f args + 1) nd then run n f (need f args) 0 (mkl (inf f).1 args) [] M' else none) (blk m pc).2 ls st M
end
section
/-! THE INTERPRETER'S LIMIT: ev, its equation. -/
section REL
variable {α β : Type} {Rl : α → β → Prop} {Z : α} {Z' : β}
theorem rl_pV {st : List V} {f : V → List V → α} {g : V → List V → β} (hZ : Rl Z Z') (h : ∀ x t, Rl (f x t) (g x t)) : Rl (pV Z st f) (pV Z' st g) := by
  rcases st with _ | ⟨v, t⟩
  · exact hZ
  · exact h v t
theorem rl_pI {st : List V} {f : Int → List V → α} {g : Int → List V → β} (hZ : Rl Z Z') (h : ∀ x t, Rl (f x t) (g x t)) : Rl (pI Z st f) (pI Z' st g) := by
  rcases st with _ | ⟨x | x | x | x, t⟩
  · exact hZ
  · exact h x t
  · exact hZ
  · exact hZ
  · exact hZ
theorem rl_pL {st : List V} {f : Int → List V → α} {g : Int → List V → β} (hZ : Rl Z Z') (h : ∀ x t, Rl (f x t) (g x t)) : Rl (pL Z st f) (pL Z' st g) := by
  rcases st with _ | ⟨x | x | x | x, t⟩
  · exact hZ
  · exact hZ
  · exact h x t
  · exact hZ
  · exact hZ
theorem rl_pR {st : List V} {f : Int → List V → α} {g : Int → List V → β} (hZ : Rl Z Z') (h : ∀ x t, Rl (f x t) (g x t)) : Rl (pR Z st f) (pR Z' st g) := by
  rcases st with _ | ⟨x | x | x | x, t⟩
  · exact hZ
  · exact hZ
  · exact hZ
  · exact h x t
  · exact hZ
theorem rl_pE {st : List V} {y : α} {z : β} (hZ : Rl Z Z') (h : Rl y z) : Rl (pE Z st y) (pE Z' st z) := by
  rcases st with _ | ⟨v, t⟩
  · exact h
  · exact hZ
theorem rl_el {γ : Type} {o : Option γ} {f : γ → α} {g : γ → β} (hZ : Rl Z Z') (h : ∀ x, Rl (f x) (g x)) : Rl (o.elim Z f) (o.elim Z' g) := by
  cases o with
  | none => exact hZ
  | some x => exact h x
theorem rl_pD {L : List Shp} {r : Int} {f : Nat → Shp → α} {g : Nat → Shp → β} (hZ : Rl Z Z') (h : ∀ x t, Rl (f x t) (g x t)) : Rl (pD Z L r f) (pD Z' L r g) := rl_el hZ fun p => h p.1 p.2
theorem rl_if {c : Prop} (d : Decidable c) {x : α} {y : β} (hZ : Rl Z Z') (h : Rl x y) : Rl (@ite α c d x Z) (@ite β c d y Z') := by
  cases d with
  | isTrue q => exact h
  | isFalse q => exact hZ
theorem rl_if2 {c : Prop} (d : Decidable c) {x x' : α} {y y' : β} (h : Rl x y) (h' : Rl x' y') : Rl (@ite α c d x x') (@ite β c d y y') := by
  cases d with
  | isTrue q => exact h
  | isFalse q => exact h'
theorem rl_bif {c : Bool} {x : α} {y : β} (hZ : Rl Z Z') (h : Rl x y) : Rl (bif c then x else Z) (bif c then y else Z') := by
  cases c with
  | true => exact h
  | false => exact hZ
theorem rl_cnd {a : Nat} {x y : Int} {t e : α} {t' e' : β} (ht : Rl t t') (he : Rl e e') : Rl (cnd a x y t e) (cnd a x y t' e') := by
  rcases a with _ | _ | _ | _ | _ | a
  · exact rl_if2 _ ht he
  · exact rl_if2 _ he ht
  · exact rl_if2 _ ht he
  · exact rl_if2 _ he ht
  · exact rl_if2 _ ht he
  · exact rl_if2 _ he ht
theorem rl_swc {x : Int} {J : Nat → α} {J' : Nat → β} {d : Nat} (h : ∀ t, Rl (J t) (J' t)) : ∀ l : List (Int × Nat), Rl (swc x J d l) (swc x J' d l)
  | [] => h d
  | (v, t) :: l => rl_if2 _ (h t) (rl_swc h l)
theorem rl_rcv {kd rk : Nat} {L : List Shp} {args : List V} {y : α} {z : β} (hZ : Rl Z Z') (h : Rl y z) : Rl (rcv Z kd rk L args y) (rcv Z' kd rk L args z) := by
  rcases kd with _ | _ | _ | _ | _ | _ | _ | kd
  · exact h
  · exact h
  · rcases args with _ | ⟨x | x | x | x, t⟩ <;> first | exact hZ | exact rl_el hZ fun p => rl_bif hZ h
  · rcases args with _ | ⟨x | x | x | x, t⟩ <;> first | exact hZ | exact rl_el hZ fun p => rl_bif hZ h
  · rcases args with _ | ⟨x | x | x | x, t⟩ <;> first | exact hZ | exact rl_el hZ fun p => h
  · rcases args with _ | ⟨x | x | x | x, t⟩ <;> first | exact hZ | exact rl_el hZ fun p => h
  · rcases args with _ | ⟨x | x | x | x, t⟩ <;> first | exact hZ | exact rl_el hZ fun p => h
  · exact hZ
set_option maxHeartbeats 4000000 in
theorem stp_rel {J : Nat → List V → List V → Mem → α} {C : Nat → List V → List V → List V → Mem → α} {R : Option V → Mem → α} {k : List V → List V → Mem → α} {J' : Nat → List V → List V → Mem → β} {C' : Nat → List V → List V → List V → Mem → β} {R' : Option V → Mem → β} {k' : List V → List V → Mem → β}
    (hZ : Rl Z Z') (hJ : ∀ p a b M, Rl (J p a b M) (J' p a b M)) (hC : ∀ f a b c M, Rl (C f a b c M) (C' f a b c M)) (hR : ∀ v M, Rl (R v M) (R' v M)) (hk : ∀ a b M, Rl (k a b M) (k' a b M)) (i : Ins) (ls st : List V) (M : Mem) : Rl (stp Z J C R k i ls st M) (stp Z' J' C' R' k' i ls st M) := by
  obtain ⟨op, a, b, x⟩ := i
  unfold stp
  dsimp only
  split
  · exact hk _ _ _
  · exact hk _ _ _
  · exact hk _ _ _
  · exact rl_el hZ fun _ => rl_bif hZ (hk _ _ _)
  · exact rl_pV hZ fun _ _ => rl_bif hZ (hk _ _ _)
  · exact rl_pI hZ fun _ _ => hk _ _ _
  · exact rl_pI hZ fun _ _ => rl_pI hZ fun _ _ => hk _ _ _
  · exact rl_pI hZ fun _ _ => hk _ _ _
  · exact rl_pL hZ fun _ _ => rl_pL hZ fun _ _ => hk _ _ _
  · exact rl_pL hZ fun _ _ => rl_pL hZ fun _ _ => rl_if2 _ (hk _ _ _) (rl_if2 _ (hk _ _ _) (hk _ _ _))
  · exact rl_pI hZ fun _ _ => hk _ _ _
  · exact rl_pV hZ fun _ _ => rl_bif hZ (hk _ _ _)
  · exact rl_pI hZ fun _ _ => rl_cnd (hJ _ _ _ _) (hk _ _ _)
  · exact rl_pI hZ fun _ _ => rl_pI hZ fun _ _ => rl_cnd (hJ _ _ _ _) (hk _ _ _)
  · exact rl_pR hZ fun _ _ => rl_if2 _ (hk _ _ _) (rl_pD hZ fun _ _ => hJ _ _ _ _)
  · exact hk _ _ _
  · exact hJ _ _ _ _
  · exact rl_pI hZ fun _ _ => rl_swc (fun _ => hJ _ _ _ _) _
  · exact rl_pR hZ fun _ _ => rl_pD hZ fun _ _ => rl_bif hZ (hk _ _ _)
  · exact rl_pR hZ fun _ _ => rl_pD hZ fun _ _ => rl_bif hZ (hk _ _ _)
  · exact rl_pR hZ fun _ _ => rl_pD hZ fun _ _ => rl_bif hZ (hk _ _ _)
  · exact rl_pR hZ fun _ _ => rl_pD hZ fun _ _ => rl_bif hZ (hk _ _ _)
  · exact rl_pI hZ fun _ _ => rl_pR hZ fun _ _ => rl_pD hZ fun _ _ => rl_bif hZ (hk _ _ _)
  · exact rl_pL hZ fun _ _ => rl_pR hZ fun _ _ => rl_pD hZ fun _ _ => rl_bif hZ (hk _ _ _)
  · exact rl_pI hZ fun _ _ => rl_pR hZ fun _ _ => rl_pD hZ fun _ _ => rl_bif hZ (rl_if _ hZ (hk _ _ _))
  · exact rl_pR hZ fun _ _ => rl_pR hZ fun _ _ => rl_pD hZ fun _ _ => rl_bif hZ (rl_pD hZ fun _ _ => hk _ _ _)
  · exact rl_pI hZ fun _ _ => rl_pR hZ fun _ _ => rl_pD hZ fun _ _ => rl_bif hZ (rl_if _ hZ (hk _ _ _))
  · exact rl_pI hZ fun _ _ => rl_pI hZ fun _ _ => rl_pR hZ fun _ _ => rl_pD hZ fun _ _ => rl_bif hZ (rl_if _ hZ (hk _ _ _))
  · exact rl_pR hZ fun _ _ => rl_pD hZ fun _ _ => rl_bif hZ (hk _ _ _)
  · exact rl_pI hZ fun _ _ => rl_pR hZ fun _ _ => rl_if _ hZ (rl_if _ hZ (hk _ _ _))
  · exact rl_pR hZ fun _ _ => rl_if _ hZ (hk _ _ _)
  · exact rl_pR hZ fun _ _ => rl_el hZ fun _ => hk _ _ _
  · exact rl_pR hZ fun _ _ => rl_el hZ fun _ => hk _ _ _
  · exact rl_pI hZ fun _ _ => rl_pR hZ fun _ _ => rl_el hZ fun _ => rl_if _ hZ (hk _ _ _)
  · exact rl_pR hZ fun _ _ => rl_el hZ fun _ => hk _ _ _
  · exact hk _ _ _
  · exact hk _ _ _
  · exact rl_pI hZ fun _ _ => rl_if _ hZ (hk _ _ _)
  · exact rl_pI hZ fun _ _ => rl_if _ hZ (hk _ _ _)
  · exact rl_bif hZ (rl_rcv hZ (hC _ _ _ _ _))
  · exact rl_pR hZ fun _ _ => rl_pD hZ fun _ _ => rl_bif hZ (hk _ _ _)
  · exact rl_pI hZ fun _ _ => rl_pI hZ fun _ _ => rl_pR hZ fun _ _ => rl_pI hZ fun _ _ => rl_pR hZ fun _ _ => rl_pD hZ fun _ _ => rl_pD hZ fun _ _ => rl_bif hZ (rl_if _ hZ (hk _ _ _))
  · exact rl_pE hZ (hR _ _)
  · exact rl_pI hZ fun _ _ => rl_pI hZ fun _ _ => rl_if2 _ hZ (hk _ _ _)
  · exact rl_pI hZ fun _ _ => rl_pI hZ fun _ _ => rl_if2 _ hZ (hk _ _ _)
  · exact rl_pL hZ fun _ _ => rl_pL hZ fun _ _ => rl_if2 _ hZ (hk _ _ _)
  · exact rl_pL hZ fun _ _ => rl_pL hZ fun _ _ => rl_if2 _ hZ (hk _ _ _)
  · exact hk _ _ _
  · exact rl_pL hZ fun _ _ => hk _ _ _
  · exact rl_pI hZ fun _ _ => rl_if _ hZ (hk _ _ _)
  · exact rl_pV hZ fun _ _ => rl_pV hZ fun _ _ => rl_bif hZ (hk _ _ _)
  · exact rl_pV hZ fun _ _ => rl_bif hZ (hk _ _ _)
  · exact rl_pL hZ fun _ _ => rl_pI hZ fun _ _ => rl_pR hZ fun _ _ => rl_pD hZ fun _ _ => rl_bif hZ (rl_if _ hZ (hk _ _ _))
  · exact rl_pI hZ fun _ _ => rl_pI hZ fun _ _ => rl_pR hZ fun _ _ => rl_pD hZ fun _ _ => rl_bif hZ (rl_if _ hZ (rl_if _ hZ (hk _ _ _)))
  · exact rl_pR hZ fun _ _ => rl_pI hZ fun _ _ => rl_pR hZ fun _ _ => rl_pD hZ fun _ _ => rl_bif hZ (rl_if _ hZ (rl_pD hZ fun _ _ => rl_bif hZ (hk _ _ _)))
  · exact rl_pI hZ fun _ _ => rl_pE hZ (hR _ _)
  · exact rl_pL hZ fun _ _ => rl_pE hZ (hR _ _)
  · exact rl_pR hZ fun _ _ => rl_pE hZ (hR _ _)
  · exact rl_pI hZ fun _ _ => rl_pE hZ (rl_if _ hZ (hR _ _))
  · exact rl_pI hZ fun _ _ => rl_pE hZ (rl_if _ hZ (hR _ _))
  · exact rl_pI hZ fun _ _ => rl_pE hZ (rl_if _ hZ (hR _ _))
  · exact hk _ _ _
  · exact rl_pI hZ fun _ _ => rl_bif hZ (hk _ _ _)
  · exact rl_pI hZ fun _ _ => rl_pI hZ fun _ _ => rl_bif hZ (hk _ _ _)
  · exact rl_pI hZ fun _ _ => rl_pI hZ fun _ _ => rl_bif hZ (hk _ _ _)
  · exact hZ
end REL
/-- what an instruction does, as a value -/
abbrev Act : Type := Option ((List V × List V × Mem) ⊕ (Nat × List V × List V × Mem) ⊕ (Nat × List V × List V × List V × Mem) ⊕ (Option V × Mem))
def act (i : Ins) (ls st : List V) (M : Mem) : Act := stp (α := Act) none (fun p a b M => some (.inr (.inl (p, a, b, M)))) (fun f a b c M => some (.inr (.inr (.inl (f, a, b, c, M))))) (fun v M => some (.inr (.inr (.inr (v, M))))) (fun a b M => some (.inl (a, b, M))) i ls st M
def elA {α : Type} (Z : α) (J : Nat → List V → List V → Mem → α) (C : Nat → List V → List V → List V → Mem → α) (R : Option V → Mem → α) (k : List V → List V → Mem → α) (a : Act) : α := match a with
  | none => Z
  | some (.inl (a, b, M)) => k a b M
  | some (.inr (.inl (p, a, b, M))) => J p a b M
  | some (.inr (.inr (.inl (f, a, b, c, M)))) => C f a b c M
  | some (.inr (.inr (.inr (v, M)))) => R v M
theorem stp_act {α : Type} (Z : α) (J : Nat → List V → List V → Mem → α) (C : Nat → List V → List V → List V → Mem → α) (R : Option V → Mem → α) (k : List V → List V → Mem → α) (i : Ins) (ls st : List V) (M : Mem) : stp Z J C R k i ls st M = elA Z J C R k (act i ls st M) := by
  unfold act
  exact stp_rel (Rl := fun x a => x = elA Z J C R k a) (Z' := none) (J' := fun p a b M => some (.inr (.inl (p, a, b, M)))) (C' := fun f a b c M => some (.inr (.inr (.inl (f, a, b, c, M))))) (R' := fun v M => some (.inr (.inr (.inr (v, M))))) (k' := fun a b M => some (.inl (a, b, M))) rfl (fun _ _ _ _ => rfl) (fun _ _ _ _ _ => rfl) (fun _ _ => rfl) (fun _ _ _ => rfl) i ls st M
/-- one row of the list -/
theorem runL_act (J : Nat → List V → List V → Mem → Res) (C : Nat → List V → Mem → Res) (i : Ins) (l : List Ins) (ls st : List V) (M : Mem) : runL J C (i :: l) ls st M = elA (α := Res) none J (fun f args ls st M => (C f args M).elim none (fun q => runL J C l ls (pu q.1 st) q.2)) (fun v M => some (v, M)) (fun ls st M => runL J C l ls st M) (act i ls st M) := by
  show stp (α := Res) _ _ _ _ _ _ _ _ _ = _
  exact stp_act _ _ _ _ _ _ _ _ _
/-- families that come to a limit -/
def Lim {ι : Type} (g : ι → Res) (G : Nat → ι → Res) : Prop := ∀ i R, g i = some R → ∃ n0, ∀ n, n0 ≤ n → G n i = some R
theorem runL_lim {J : Nat → List V → List V → Mem → Res} {C : Nat → List V → Mem → Res} {Jn : Nat → Nat → List V → List V → Mem → Res} {Cn : Nat → Nat → List V → Mem → Res}
    (hJ : ∀ p a b M R, J p a b M = some R → ∃ n0, ∀ n, n0 ≤ n → Jn n p a b M = some R) (hC : ∀ f a M R, C f a M = some R → ∃ n0, ∀ n, n0 ≤ n → Cn n f a M = some R) :
    ∀ (l : List Ins) (ls st : List V) (M : Mem) (R : Option V × Mem), runL J C l ls st M = some R → ∃ n0, ∀ n, n0 ≤ n → runL (Jn n) (Cn n) l ls st M = some R := by
  intro l
  induction l with
  | nil => intro ls st M R h; exact absurd h (by simp [runL])
  | cons i l ih =>
    intro ls st M R h
    rw [runL_act] at h
    have key : ∀ n, runL (Jn n) (Cn n) (i :: l) ls st M = _ := fun n => runL_act (Jn n) (Cn n) i l ls st M
    generalize act i ls st M = ac at h key
    rcases ac with _ | ⟨⟨a, b, M1⟩ | ⟨p, a, b, M1⟩ | ⟨f, a, b, c, M1⟩ | ⟨v, M1⟩⟩
    · exact absurd h (by simp [elA])
    · obtain ⟨n0, h0⟩ := ih a b M1 R h
      exact ⟨n0, fun n hn => (key n).trans (h0 n hn)⟩
    · obtain ⟨n0, h0⟩ := hJ p a b M1 R h
      exact ⟨n0, fun n hn => (key n).trans (h0 n hn)⟩
    · have h' : (C f a M1).elim none (fun q => runL J C l b (pu q.1 c) q.2) = some R := h
      cases hc : C f a M1 with
      | none => rw [hc] at h'; exact absurd h' (by simp)
      | some q =>
        rw [hc] at h'
        obtain ⟨n0, h0⟩ := hC f a M1 q hc
        obtain ⟨n1, h1⟩ := ih b (pu q.1 c) q.2 R h'
        refine ⟨max n0 n1, fun n hn => (key n).trans ?_⟩
        show (Cn n f a M1).elim none (fun q => runL (Jn n) (Cn n) l b (pu q.1 c) q.2) = some R
        rw [h0 n (Nat.le_trans (Nat.le_max_left _ _) hn)]
        exact h1 n (Nat.le_trans (Nat.le_max_right _ _) hn)
    · exact ⟨0, fun n hn => (key n).trans h⟩
theorem run_mono1 : ∀ (n m nd pc : Nat) (ls st : List V) (M : Mem) (R : Option V × Mem), run n m nd pc ls st M = some R → run (n + 1) m nd pc ls st M = some R := by
  intro n
  induction n with
  | zero => intro m nd pc ls st M R h; exact absurd h (by simp [run])
  | succ n ih =>
    intro m nd pc ls st M R h
    have h' : runL (fun pc' ls' st' M' => run n m nd pc' (msk (blk m pc').1 ls') st' M') (fun f args M' => bif Nat.ble (need f args + 1) nd then run n f (need f args) 0 (mkl (inf f).1 args) [] M' else none) (blk m pc).2 ls st M = some R := h
    obtain ⟨n0, h0⟩ := runL_lim (Jn := fun _ pc' ls' st' M' => run (n + 1) m nd pc' (msk (blk m pc').1 ls') st' M') (Cn := fun _ f args M' => bif Nat.ble (need f args + 1) nd then run (n + 1) f (need f args) 0 (mkl (inf f).1 args) [] M' else none)
      (fun p a b M R h => ⟨0, fun _ _ => ih _ _ _ _ _ _ _ h⟩)
      (fun f a M R h => ⟨0, fun _ _ => by
        cases hb : Nat.ble (need f a + 1) nd with
        | false => rw [hb] at h; exact absurd h (by simp)
        | true => rw [hb] at h; exact ih _ _ _ _ _ _ _ h⟩) _ _ _ _ _ h'
    exact h0 n0 (Nat.le_refl _)
theorem run_mono {n n' : Nat} (hn : n ≤ n') {m nd pc : Nat} {ls st : List V} {M : Mem} {R : Option V × Mem} (h : run n m nd pc ls st M = some R) : run n' m nd pc ls st M = some R := by
  induction hn with
  | refl => exact h
  | step _ ih => exact run_mono1 _ _ _ _ _ _ _ _ ih
noncomputable def ev (m nd pc : Nat) (ls st : List V) (M : Mem) : Res := @dite Res (∃ n, run n m nd pc ls st M ≠ none) (Classical.propDecidable _) (fun h => run (Classical.choose h) m nd pc ls st M) (fun _ => none)
theorem ev_run {m nd pc : Nat} {ls st : List V} {M : Mem} {R : Option V × Mem} : ev m nd pc ls st M = some R ↔ ∃ n, run n m nd pc ls st M = some R := by
  unfold ev
  by_cases h : ∃ n, run n m nd pc ls st M ≠ none
  · rw [dif_pos h]
    constructor
    · intro q; exact ⟨_, q⟩
    · rintro ⟨n, q⟩
      have hs := Classical.choose_spec h
      cases hr : run (Classical.choose h) m nd pc ls st M with
      | none => exact absurd hr hs
      | some R' =>
        have a := run_mono (Nat.le_max_left (Classical.choose h) n) hr
        have b := run_mono (Nat.le_max_right (Classical.choose h) n) q
        rw [a] at b
        exact b
  · rw [dif_neg h]
    constructor
    · intro q; exact absurd q (by simp)
    · rintro ⟨n, q⟩
      exact absurd ⟨n, by rw [q]; simp⟩ h
/-- a call -/
noncomputable def cal (f : Nat) (args : List V) (M : Mem) : Res := ev f (need f args) 0 (mkl (inf f).1 args) [] M
theorem ev_eq (m nd pc : Nat) (ls st : List V) (M : Mem) : ev m nd pc ls st M = runL (fun pc' ls' st' M' => ev m nd pc' (msk (blk m pc').1 ls') st' M') (fun f args M' => bif Nat.ble (need f args + 1) nd then cal f args M' else none) (blk m pc).2 ls st M := by
  have up1 : ∀ R, ev m nd pc ls st M = some R → runL (fun pc' ls' st' M' => ev m nd pc' (msk (blk m pc').1 ls') st' M') (fun f args M' => bif Nat.ble (need f args + 1) nd then cal f args M' else none) (blk m pc).2 ls st M = some R := by
    intro R h
    obtain ⟨n, h⟩ := ev_run.mp h
    cases n with
    | zero => exact absurd h (by simp [run])
    | succ n =>
      obtain ⟨n0, h0⟩ := runL_lim (Jn := fun _ pc' ls' st' M' => ev m nd pc' (msk (blk m pc').1 ls') st' M') (Cn := fun _ f args M' => bif Nat.ble (need f args + 1) nd then cal f args M' else none)
        (fun p a b M R h => ⟨0, fun _ _ => ev_run.mpr ⟨n, h⟩⟩)
        (fun f a M R h => ⟨0, fun _ _ => by
          cases hb : Nat.ble (need f a + 1) nd with
          | false => rw [hb] at h; exact absurd h (by simp)
          | true => rw [hb] at h; exact ev_run.mpr ⟨n, h⟩⟩) _ _ _ _ _ (show runL (fun pc' ls' st' M' => run n m nd pc' (msk (blk m pc').1 ls') st' M') (fun f args M' => bif Nat.ble (need f args + 1) nd then run n f (need f args) 0 (mkl (inf f).1 args) [] M' else none) (blk m pc).2 ls st M = some R from h)
      exact h0 n0 (Nat.le_refl _)
  have down1 : ∀ R, runL (fun pc' ls' st' M' => ev m nd pc' (msk (blk m pc').1 ls') st' M') (fun f args M' => bif Nat.ble (need f args + 1) nd then cal f args M' else none) (blk m pc).2 ls st M = some R → ev m nd pc ls st M = some R := by
    intro R h
    obtain ⟨n0, h0⟩ := runL_lim (Jn := fun n pc' ls' st' M' => run n m nd pc' (msk (blk m pc').1 ls') st' M') (Cn := fun n f args M' => bif Nat.ble (need f args + 1) nd then run n f (need f args) 0 (mkl (inf f).1 args) [] M' else none)
      (fun p a b M R h => by
        obtain ⟨n, hn⟩ := ev_run.mp h
        exact ⟨n, fun n' h' => run_mono h' hn⟩)
      (fun f a M R h => by
        cases hb : Nat.ble (need f a + 1) nd with
        | false => rw [hb] at h; exact absurd h (by simp)
        | true =>
          rw [hb] at h
          obtain ⟨n, hn⟩ := ev_run.mp (show cal f a M = some R from h)
          exact ⟨n, fun n' h' => run_mono h' hn⟩) _ _ _ _ _ h
    exact ev_run.mpr ⟨n0 + 1, h0 n0 (Nat.le_refl _)⟩
  cases h1 : ev m nd pc ls st M with
  | some R => exact (up1 R h1).symm
  | none =>
    cases h2 : runL (fun pc' ls' st' M' => ev m nd pc' (msk (blk m pc').1 ls') st' M') (fun f args M' => bif Nat.ble (need f args + 1) nd then cal f args M' else none) (blk m pc).2 ls st M with
    | none => rfl
    | some R => rw [down1 R h2] at h1; exact absurd h1 (by simp)
end
section
/-! THE CELLS that the two constructors make: 0 .. 76 of the class, 77 .. 108 of the reference. -/
def bsh : List Shp := [(21, 19, [2, 30, 0, 11, 0, 49, 12, 15, 19, 22, 50, 56, 60, 74, 0, 0, 0, 0, 77]),
  (17, 15, [0, 3, 0, 4, 5, 0, 6, 0, 0, 7, 8, 0, 9, 0, 10]),
  (0, 25, []),
  (0, 18, []),
  (0, 5, []),
  (4, 6, []),
  (0, 17, []),
  (0, 204, []),
  (0, 72, []),
  (0, 32, []),
  (0, 400, []),
  (20, 5, [13, 14, 0, 0, 0]),
  (0, 72, []),
  (0, 450, []),
  (14, 4, [2, 16, 18, 0]),
  (13, 3, [17, 0, 0]),
  (0, 100, []),
  (0, 10, []),
  (19, 4, [2, 15, 20, 21]),
  (0, 12, []),
  (0, 12, []),
  (15, 15, [2, 15, 23, 24, 25, 26, 27, 28, 0, 0, 0, 29, 0, 0, 0]),
  (0, 72, []),
  (0, 72, []),
  (0, 30, []),
  (2, 30, []),
  (0, 72, []),
  (0, 5, []),
  (0, 5, []),
  (3, 2, []),
  (17, 15, [0, 32, 0, 33, 34, 0, 35, 0, 0, 36, 37, 0, 38, 0, 39]),
  (0, 25, []),
  (0, 18, []),
  (0, 5, []),
  (4, 6, []),
  (0, 17, []),
  (0, 204, []),
  (0, 72, []),
  (0, 32, []),
  (17, 15, [0, 41, 0, 42, 43, 0, 44, 0, 0, 45, 46, 0, 47, 0, 48]),
  (0, 25, []),
  (0, 18, []),
  (0, 5, []),
  (4, 6, []),
  (0, 17, []),
  (0, 204, []),
  (0, 72, []),
  (0, 32, []),
  (16, 9, [11, 0, 12, 0, 0, 0, 0, 0, 0]),
  (18, 9, [2, 0, 51, 52, 53, 54, 55, 0, 0]),
  (0, 49, []),
  (0, 128, []),
  (0, 128, []),
  (0, 7, []),
  (0, 64, []),
  (12, 6, [2, 15, 57, 58, 59, 0]),
  (0, 8, []),
  (0, 100, []),
  (0, 8, []),
  (11, 10, [2, 61, 15, 19, 22, 70, 72, 73, 0, 0]),
  (17, 15, [0, 62, 0, 63, 64, 0, 65, 0, 0, 66, 67, 0, 68, 0, 69]),
  (0, 25, []),
  (0, 18, []),
  (0, 5, []),
  (4, 6, []),
  (0, 17, []),
  (0, 204, []),
  (0, 72, []),
  (0, 32, []),
  (13, 3, [71, 0, 0]),
  (0, 100, []),
  (0, 18, []),
  (0, 3, []),
  (10, 8, [2, 15, 0, 0, 75, 76, 0, 0]),
  (0, 5, []),
  (0, 12, []),
  (0, 5, []),
  (22, 61, [0, 0, 79, 80, 81, 82, 83, 0, 84, 0, 0, 0, 0, 0, 0, 0, 0, 0, 85, 0, 86, 87, 0, 88, 89, 0, 0, 90, 91, 92, 0, 93, 94, 95, 0, 0, 0, 96, 97, 98, 99, 100, 101, 102, 0, 0, 0, 103, 104, 0, 0, 105, 106, 107, 108, 0, 0, 0, 109, 0, 0]),
  (0, 7, []),
  (0, 5780, []),
  (0, 11560, []),
  (0, 5780, []),
  (2, 2, []),
  (0, 400, []),
  (0, 96, []),
  (0, 400, []),
  (0, 400, []),
  (0, 400, []),
  (0, 400, []),
  (1, 10, []),
  (1, 7, []),
  (1, 5, []),
  (1, 13, []),
  (1, 13, []),
  (1, 400, []),
  (0, 1200, []),
  (0, 600, []),
  (0, 5, []),
  (0, 5, []),
  (0, 25, []),
  (2, 25, []),
  (2, 6, []),
  (0, 6, []),
  (0, 6, []),
  (0, 64, []),
  (0, 100, []),
  (0, 8, []),
  (0, 120, []),
  (0, 17, [])]
abbrev SH (T : List Shp) : List Shp := bsh ++ T
theorem el_of {γ α : Type} {o : Option γ} {q : γ} {Z : α} {g : γ → α} (h : o = some q) : o.elim Z g = g q := by rw [h]; rfl
theorem el_call {b : Bool} {o : Res} {q : Option V × Mem} {g : Option V × Mem → Res} (hb : b = true) (h : o = some q) : (bif b then o else none).elim none g = g q := by rw [hb, h]; rfl
theorem pD_of {α : Type} {L : List Shp} {r : Int} {p : Nat} {s : Shp} {Z : α} {f : Nat → Shp → α} (h : drf L r = some (p, s)) : pD Z L r f = f p s := by unfold pD; rw [h]; rfl
end
section
/-! THE CODE TABLES AGAINST THE BYTES and the words of the tables (by program; every claim of it is decided) -/
def rnm (w : Nat) : String := match w with
  | 0 => RX0
  | 1 => RX1
  | 2 => RX2
  | 3 => RX3
  | 4 => RX4
  | 5 => RX5
  | 6 => RX6
  | 7 => RX7
  | 8 => RX8
  | 9 => RX9
  | 10 => RX10
  | 11 => RX11
  | 12 => RX12
  | 13 => RJ6
  | 14 => RJ9
  | 15 => RJ0
  | 16 => RJ1
  | 17 => RJ2
  | 18 => RJ10
  | 19 => RJ3
  | 20 => RL
  | _ => ""
/-- of each method: bytes, name, what it answers, how many parameters, whose it is -/
def mtb (m : Nat) : ByteArray × MethodName × Option FieldType × Nat × Nat := (bif Nat.ble (m + 1) 178 then (bif Nat.ble (m + 1) 89 then (bif Nat.ble (m + 1) 44 then (bif Nat.ble (m + 1) 22 then (bif Nat.ble (m + 1) 11 then (bif Nat.ble (m + 1) 5 then (bif Nat.ble (m + 1) 2 then (bif Nat.ble (m + 1) 1 then (cX0_init, yX0_init, none, 2, 0) else (cX0_pass, yX0_pass, none, 2, 0)) else (bif Nat.ble (m + 1) 3 then (cX0_yearsOf, yX0_yearsOf, (some .int), 1, 0) else (bif Nat.ble (m + 1) 4 then (cX0_paintOne, yX0_paintOne, none, 1, 0) else (cX0_draw, yX0_draw, (some .int), 1, 0)))) else (bif Nat.ble (m + 1) 8 then (bif Nat.ble (m + 1) 6 then (cX1_init, yX1_init, none, 4, 1) else (bif Nat.ble (m + 1) 7 then (cX1_runAll, yX1_runAll, (some .int), 1, 1) else (cX1_learnWords, yX1_learnWords, none, 1, 1))) else (bif Nat.ble (m + 1) 9 then (cX1_isWanted, yX1_isWanted, (some .boolean), 2, 1) else (bif Nat.ble (m + 1) 10 then (cX1_sumsWork, yX1_sumsWork, (some .boolean), 2, 1) else (cX1_paints, yX1_paints, (some .int), 1, 1))))) else (bif Nat.ble (m + 1) 16 then (bif Nat.ble (m + 1) 13 then (bif Nat.ble (m + 1) 12 then (cX1_changes, yX1_changes, (some .int), 1, 1) else (cX2_init, yX2_init, none, 2, 2)) else (bif Nat.ble (m + 1) 14 then (cX2_crownTill, yX2_crownTill, none, 1, 2) else (bif Nat.ble (m + 1) 15 then (cX2_reigns, yX2_reigns, (some .int), 0, 2) else (cX2_reignOf, yX2_reignOf, (some .int), 2, 2)))) else (bif Nat.ble (m + 1) 19 then (bif Nat.ble (m + 1) 17 then (cX2_standInLine, yX2_standInLine, none, 1, 2) else (bif Nat.ble (m + 1) 18 then (cX2_begins, yX2_begins, (some .boolean), 1, 2) else (cX2_lasts, yX2_lasts, (some .int), 1, 2))) else (bif Nat.ble (m + 1) 20 then (cX3_init, yX3_init, none, 0, 3) else (bif Nat.ble (m + 1) 21 then (cX3_works, yX3_works, (some .boolean), 3, 3) else (cX3_joins, yX3_joins, (some .boolean), 1, 3)))))) else (bif Nat.ble (m + 1) 33 then (bif Nat.ble (m + 1) 27 then (bif Nat.ble (m + 1) 24 then (bif Nat.ble (m + 1) 23 then (cX4_init, yX4_init, none, 1, 4) else (cX4_looksOf, yX4_looksOf, (some .int), 2, 4)) else (bif Nat.ble (m + 1) 25 then (cX4_letsOf, yX4_letsOf, (some .int), 2, 4) else (bif Nat.ble (m + 1) 26 then (cX4_asksOf, yX4_asksOf, (some .int), 2, 4) else (cX4_barsPainter, yX4_barsPainter, (some .boolean), 2, 4)))) else (bif Nat.ble (m + 1) 30 then (bif Nat.ble (m + 1) 28 then (cX4_ranksOf, yX4_ranksOf, (some .int), 2, 4) else (bif Nat.ble (m + 1) 29 then (cX4_barsClaimant, yX4_barsClaimant, (some .boolean), 2, 4) else (cX4_scarOn, yX4_scarOn, (some .int), 2, 4))) else (bif Nat.ble (m + 1) 31 then (cX4_ask, yX4_ask, none, 1, 4) else (bif Nat.ble (m + 1) 32 then (cX4_askPainter, yX4_askPainter, none, 2, 4) else (cX4_askClaimant, yX4_askClaimant, none, 2, 4))))) else (bif Nat.ble (m + 1) 38 then (bif Nat.ble (m + 1) 35 then (bif Nat.ble (m + 1) 34 then (cX4_tells, yX4_tells, (some .boolean), 1, 4) else (cX5_init, yX5_init, none, 2, 5)) else (bif Nat.ble (m + 1) 36 then (cX5_seek, yX5_seek, none, 2, 5) else (bif Nat.ble (m + 1) 37 then (cX5_walk, yX5_walk, none, 3, 5) else (cX5_mayPaint, yX5_mayPaint, (some .boolean), 2, 5)))) else (bif Nat.ble (m + 1) 41 then (bif Nat.ble (m + 1) 39 then (cX5_paintOver, yX5_paintOver, none, 2, 5) else (bif Nat.ble (m + 1) 40 then (cX5_isGood, yX5_isGood, (some .boolean), 2, 5) else (cX5_weigh, yX5_weigh, none, 1, 5))) else (bif Nat.ble (m + 1) 42 then (cX5_isBetter, yX5_isBetter, (some .boolean), 2, 5) else (bif Nat.ble (m + 1) 43 then (cX6_init, yX6_init, none, 2, 6) else (cX6_faultIn, yX6_faultIn, (some .int), 2, 6))))))) else (bif Nat.ble (m + 1) 66 then (bif Nat.ble (m + 1) 55 then (bif Nat.ble (m + 1) 49 then (bif Nat.ble (m + 1) 46 then (bif Nat.ble (m + 1) 45 then (cX6_clearRow, yX6_clearRow, none, 1, 6) else (cX6_readClause, yX6_readClause, (some .boolean), 1, 6)) else (bif Nat.ble (m + 1) 47 then (cX6_readOrder, yX6_readOrder, (some .boolean), 1, 6) else (bif Nat.ble (m + 1) 48 then (cX6_readTimes, yX6_readTimes, (some .boolean), 1, 6) else (cX6_readIf, yX6_readIf, (some .boolean), 1, 6)))) else (bif Nat.ble (m + 1) 52 then (bif Nat.ble (m + 1) 50 then (cX6_readSumOf, yX6_readSumOf, (some .boolean), 2, 6) else (bif Nat.ble (m + 1) 51 then (cX6_readTest, yX6_readTest, (some .boolean), 1, 6) else (cX6_readBoth, yX6_readBoth, (some .boolean), 1, 6))) else (bif Nat.ble (m + 1) 53 then (cX6_readPlain, yX6_readPlain, (some .boolean), 1, 6) else (bif Nat.ble (m + 1) 54 then (cX6_readSum, yX6_readSum, (some .boolean), 1, 6) else (cX6_readTerm, yX6_readTerm, (some .boolean), 1, 6))))) else (bif Nat.ble (m + 1) 60 then (bif Nat.ble (m + 1) 57 then (bif Nat.ble (m + 1) 56 then (cX6_readPart, yX6_readPart, (some .boolean), 1, 6) else (cX6_opens, yX6_opens, (some .boolean), 1, 6)) else (bif Nat.ble (m + 1) 58 then (cX6_isSign, yX6_isSign, (some .boolean), 1, 6) else (bif Nat.ble (m + 1) 59 then (cX6_takes, yX6_takes, (some .boolean), 1, 6) else (cX6_takesWord, yX6_takesWord, (some .boolean), 1, 6)))) else (bif Nat.ble (m + 1) 63 then (bif Nat.ble (m + 1) 61 then (cX6_placeIn, yX6_placeIn, (some .int), 1, 6) else (bif Nat.ble (m + 1) 62 then (cX6_isSame, yX6_isSame, (some .boolean), 3, 6) else (cX6_next, yX6_next, none, 0, 6))) else (bif Nat.ble (m + 1) 64 then (cX6_kindOf, yX6_kindOf, (some .int), 1, 6) else (bif Nat.ble (m + 1) 65 then (cX7_init, yX7_init, none, 0, 7) else (cX7_takeFrom, yX7_takeFrom, none, 1, 7)))))) else (bif Nat.ble (m + 1) 77 then (bif Nat.ble (m + 1) 71 then (bif Nat.ble (m + 1) 68 then (bif Nat.ble (m + 1) 67 then (cX7_hasPainter, yX7_hasPainter, (some .boolean), 1, 7) else (cX7_hasLayer, yX7_hasLayer, (some .boolean), 1, 7)) else (bif Nat.ble (m + 1) 69 then (cX7_hasClaimant, yX7_hasClaimant, (some .boolean), 1, 7) else (bif Nat.ble (m + 1) 70 then (cX7_ageIn, yX7_ageIn, (some .int), 1, 7) else (cX7_rests, yX7_rests, (some .boolean), 2, 7)))) else (bif Nat.ble (m + 1) 74 then (bif Nat.ble (m + 1) 72 then (cX7_seenAt, yX7_seenAt, (some .int), 1, 7) else (bif Nat.ble (m + 1) 73 then (cX7_addCopy, yX7_addCopy, none, 0, 7) else (cX7_nearOf, yX7_nearOf, (some .int), 1, 7))) else (bif Nat.ble (m + 1) 75 then (cX7_isAlive, yX7_isAlive, (some .boolean), 2, 7) else (bif Nat.ble (m + 1) 76 then (cX7_childrenOf, yX7_childrenOf, (some .int), 2, 7) else (cX7_brushed, yX7_brushed, (some .int), 4, 7))))) else (bif Nat.ble (m + 1) 83 then (bif Nat.ble (m + 1) 80 then (bif Nat.ble (m + 1) 78 then (cX8_init, yX8_init, none, 1, 8) else (bif Nat.ble (m + 1) 79 then (cX8_between, yX8_between, (some .int), 2, 8) else (cX8_weigh, yX8_weigh, none, 0, 8))) else (bif Nat.ble (m + 1) 81 then (cX8_changed, yX8_changed, (some .int), 0, 8) else (bif Nat.ble (m + 1) 82 then (cX8_waysInAll, yX8_waysInAll, (some .int), 0, 8) else (cX8_parentOf, yX8_parentOf, (some .int), 1, 8)))) else (bif Nat.ble (m + 1) 86 then (bif Nat.ble (m + 1) 84 then (cX8_datedBy, yX8_datedBy, (some .int), 2, 8) else (bif Nat.ble (m + 1) 85 then (cX8_learn, yX8_learn, none, 0, 8) else (cX8_needBehind, yX8_needBehind, (some .int), 2, 8))) else (bif Nat.ble (m + 1) 87 then (cX8_sameIn, yX8_sameIn, (some .int), 3, 8) else (bif Nat.ble (m + 1) 88 then (cX8_toneIn, yX8_toneIn, (some .int), 2, 8) else (cX8_fromLayer, yX8_fromLayer, (some .int), 2, 8)))))))) else (bif Nat.ble (m + 1) 133 then (bif Nat.ble (m + 1) 111 then (bif Nat.ble (m + 1) 100 then (bif Nat.ble (m + 1) 94 then (bif Nat.ble (m + 1) 91 then (bif Nat.ble (m + 1) 90 then (cX8_weighSet, yX8_weighSet, none, 1, 8) else (cX8_joinBranch, yX8_joinBranch, none, 2, 8)) else (bif Nat.ble (m + 1) 92 then (cX8_fits, yX8_fits, (some .boolean), 3, 8) else (bif Nat.ble (m + 1) 93 then (cX8_leastFrom, yX8_leastFrom, (some .int), 1, 8) else (cX8_comesFrom, yX8_comesFrom, (some .boolean), 2, 8)))) else (bif Nat.ble (m + 1) 97 then (bif Nat.ble (m + 1) 95 then (cX9_init, yX9_init, none, 2, 9) else (bif Nat.ble (m + 1) 96 then (cX9_paintNext, yX9_paintNext, none, 1, 9) else (cX9_unlikeOf, yX9_unlikeOf, (some .int), 1, 9))) else (bif Nat.ble (m + 1) 98 then (cX9_farCell, yX9_farCell, (some .int), 1, 9) else (bif Nat.ble (m + 1) 99 then (cX9_moneyBehind, yX9_moneyBehind, (some .int), 1, 9) else (cX9_whoCan, yX9_whoCan, (some .int), 1, 9))))) else (bif Nat.ble (m + 1) 105 then (bif Nat.ble (m + 1) 102 then (bif Nat.ble (m + 1) 101 then (cX9_rowsInto, yX9_rowsInto, (some .int), 2, 9) else (cX9_driftOf, yX9_driftOf, (some .int), 2, 9)) else (bif Nat.ble (m + 1) 103 then (cX9_undoingPair, yX9_undoingPair, (some .int), 1, 9) else (bif Nat.ble (m + 1) 104 then (cX9_firstTones, yX9_firstTones, (some .int), 1, 9) else (cX9_aimAt, yX9_aimAt, none, 2, 9)))) else (bif Nat.ble (m + 1) 108 then (bif Nat.ble (m + 1) 106 then (cX9_comesOut, yX9_comesOut, (some .boolean), 3, 9) else (bif Nat.ble (m + 1) 107 then (cX9_carried, yX9_carried, (some .int), 4, 9) else (cX9_undo, yX9_undo, (some .boolean), 2, 9))) else (bif Nat.ble (m + 1) 109 then (cX10_init, yX10_init, none, 2, 10) else (bif Nat.ble (m + 1) 110 then (cX10_clear, yX10_clear, none, 0, 10) else (cX10_add, yX10_add, none, 2, 10)))))) else (bif Nat.ble (m + 1) 122 then (bif Nat.ble (m + 1) 116 then (bif Nat.ble (m + 1) 113 then (bif Nat.ble (m + 1) 112 then (cX10_jumpHere, yX10_jumpHere, none, 1, 10) else (cX10_trimmed, yX10_trimmed, (some (.object "AgingPortrait$Text")), 0, 10)) else (bif Nat.ble (m + 1) 114 then (cX11_init, yX11_init, none, 0, 11) else (bif Nat.ble (m + 1) 115 then (cX11_first, yX11_first, (some .int), 2, 11) else (cX11_painter, yX11_painter, (some .int), 2, 11)))) else (bif Nat.ble (m + 1) 119 then (bif Nat.ble (m + 1) 117 then (cX11_err, yX11_err, (some .int), 3, 11) else (bif Nat.ble (m + 1) 118 then (cX11_of, yX11_of, (some .int), 2, 11) else (cX11_terms, yX11_terms, (some .int), 2, 11))) else (bif Nat.ble (m + 1) 120 then (cX11_scar, yX11_scar, (some .int), 3, 11) else (bif Nat.ble (m + 1) 121 then (cX11_heal, yX11_heal, (some .int), 1, 11) else (cX11_feed, yX11_feed, (some .int), 5, 11))))) else (bif Nat.ble (m + 1) 127 then (bif Nat.ble (m + 1) 124 then (bif Nat.ble (m + 1) 123 then (cX11_end, yX11_end, (some .int), 1, 11) else (cX11_row, yX11_row, (some .int), 0, 11)) else (bif Nat.ble (m + 1) 125 then (cX11_flakes, yX11_flakes, (some .int), 0, 11) else (bif Nat.ble (m + 1) 126 then (cX11_law, yX11_law, (some .int), 0, 11) else (cX11_orders, yX11_orders, (some .int), 0, 11)))) else (bif Nat.ble (m + 1) 130 then (bif Nat.ble (m + 1) 128 then (cX11_fault, yX11_fault, (some .int), 0, 11) else (bif Nat.ble (m + 1) 129 then (cX11_stopped, yX11_stopped, (some .int), 0, 11) else (cX11_force, yX11_force, (some .int), 1, 11))) else (bif Nat.ble (m + 1) 131 then (cX11_looks, yX11_looks, (some .int), 3, 11) else (bif Nat.ble (m + 1) 132 then (cX11_asks, yX11_asks, (some .int), 3, 11) else (cX11_paint, yX11_paint, (some .int), 1, 11))))))) else (bif Nat.ble (m + 1) 155 then (bif Nat.ble (m + 1) 144 then (bif Nat.ble (m + 1) 138 then (bif Nat.ble (m + 1) 135 then (bif Nat.ble (m + 1) 134 then (cX11_scrape, yX11_scrape, (some .int), 0, 11) else (cX11_tone, yX11_tone, (some .int), 2, 11)) else (bif Nat.ble (m + 1) 136 then (cX11_layer, yX11_layer, (some .int), 2, 11) else (bif Nat.ble (m + 1) 137 then (cX11_unlawful, yX11_unlawful, (some .int), 0, 11) else (cX11_money, yX11_money, (some .int), 1, 11)))) else (bif Nat.ble (m + 1) 141 then (bif Nat.ble (m + 1) 139 then (cX11_broke, yX11_broke, (some .int), 0, 11) else (bif Nat.ble (m + 1) 140 then (cX11_plan, yX11_plan, (some .int), 3, 11) else (cX11_drift, yX11_drift, (some .int), 3, 11))) else (bif Nat.ble (m + 1) 142 then (cX11_undoing, yX11_undoing, (some .int), 1, 11) else (bif Nat.ble (m + 1) 143 then (cX11_copy, yX11_copy, (some .int), 0, 11) else (cX11_touch, yX11_touch, (some .int), 3, 11))))) else (bif Nat.ble (m + 1) 149 then (bif Nat.ble (m + 1) 146 then (bif Nat.ble (m + 1) 145 then (cX11_burn, yX11_burn, (some .int), 0, 11) else (cX11_near, yX11_near, (some .int), 1, 11)) else (bif Nat.ble (m + 1) 147 then (cX11_like, yX11_like, (some .int), 2, 11) else (bif Nat.ble (m + 1) 148 then (cX11_tree, yX11_tree, (some .int), 1, 11) else (cX11_trees, yX11_trees, (some .int), 0, 11)))) else (bif Nat.ble (m + 1) 152 then (bif Nat.ble (m + 1) 150 then (cX11_dated, yX11_dated, (some .int), 2, 11) else (bif Nat.ble (m + 1) 151 then (cX11_know, yX11_know, (some .int), 1, 11) else (cX11_who, yX11_who, (some .int), 1, 11))) else (bif Nat.ble (m + 1) 153 then (cX11_forge, yX11_forge, (some .int), 3, 11) else (bif Nat.ble (m + 1) 154 then (cX11_skipped, yX11_skipped, (some .int), 0, 11) else (cX11_missing, yX11_missing, (some .int), 2, 11)))))) else (bif Nat.ble (m + 1) 166 then (bif Nat.ble (m + 1) 160 then (bif Nat.ble (m + 1) 157 then (bif Nat.ble (m + 1) 156 then (cX11_was, yX11_was, (some .int), 1, 11) else (cX11_ways, yX11_ways, (some .long), 0, 11)) else (bif Nat.ble (m + 1) 158 then (cX11_claimant, yX11_claimant, (some .int), 4, 11) else (bif Nat.ble (m + 1) 159 then (cX11_claim, yX11_claim, (some .int), 3, 11) else (cX11_born, yX11_born, (some .int), 2, 11)))) else (bif Nat.ble (m + 1) 163 then (bif Nat.ble (m + 1) 161 then (cX11_stands, yX11_stands, (some .int), 3, 11) else (bif Nat.ble (m + 1) 162 then (cX11_ruler, yX11_ruler, (some .int), 1, 11) else (cX11_reign, yX11_reign, (some .int), 2, 11))) else (bif Nat.ble (m + 1) 164 then (cX11_vacant, yX11_vacant, (some .int), 0, 11) else (bif Nat.ble (m + 1) 165 then (cX11_line, yX11_line, (some .int), 2, 11) else (cX11_century, yX11_century, (some .int), 2, 11))))) else (bif Nat.ble (m + 1) 172 then (bif Nat.ble (m + 1) 169 then (bif Nat.ble (m + 1) 167 then (cX11_drawn, yX11_drawn, (some .int), 1, 11) else (bif Nat.ble (m + 1) 168 then (cX11_image, yX11_image, (some .int), 1, 11) else (cX11_back, yX11_back, (some .int), 1, 11))) else (bif Nat.ble (m + 1) 170 then (cX11_count, yX11_count, (some .int), 1, 11) else (bif Nat.ble (m + 1) 171 then (cX11_status, yX11_status, (some .int), 0, 11) else (cX11_answer, yX11_answer, (some .int), 1, 11)))) else (bif Nat.ble (m + 1) 175 then (bif Nat.ble (m + 1) 173 then (cX11_refuse, yX11_refuse, (some .int), 1, 11) else (bif Nat.ble (m + 1) 174 then (cX11_putBytes, yX11_putBytes, none, 1, 11) else (cX11_heirs, yX11_heirs, (some .int), 0, 11))) else (bif Nat.ble (m + 1) 176 then (cX11_isRootOrCopy, yX11_isRootOrCopy, (some .boolean), 1, 11) else (bif Nat.ble (m + 1) 177 then (cX11_highestTerm, yX11_highestTerm, (some .int), 1, 11) else (cX11_inside, yX11_inside, (some .boolean), 2, 11))))))))) else (bif Nat.ble (m + 1) 267 then (bif Nat.ble (m + 1) 222 then (bif Nat.ble (m + 1) 200 then (bif Nat.ble (m + 1) 189 then (bif Nat.ble (m + 1) 183 then (bif Nat.ble (m + 1) 180 then (bif Nat.ble (m + 1) 179 then (cX11_isCell, yX11_isCell, (some .boolean), 1, 11) else (cX11_isTone, yX11_isTone, (some .boolean), 1, 11)) else (bif Nat.ble (m + 1) 181 then (cX11_canBeCopy, yX11_canBeCopy, (some .boolean), 1, 11) else (bif Nat.ble (m + 1) 182 then (cX11_bit, yX11_bit, (some .int), 1, 11) else (cX11_lowestIn, yX11_lowestIn, (some .int), 1, 11)))) else (bif Nat.ble (m + 1) 186 then (bif Nat.ble (m + 1) 184 then (cX11_highestIn, yX11_highestIn, (some .int), 1, 11) else (bif Nat.ble (m + 1) 185 then (cX11_nearest, yX11_nearest, (some .int), 3, 11) else (cX12_init, yX12_init, none, 0, 12))) else (bif Nat.ble (m + 1) 187 then (cX12_in, yX12_in, (some .boolean), 3, 12) else (bif Nat.ble (m + 1) 188 then (cX12_is, yX12_is, (some .boolean), 2, 12) else (cX12_size, yX12_size, (some .int), 1, 12))))) else (bif Nat.ble (m + 1) 194 then (bif Nat.ble (m + 1) 191 then (bif Nat.ble (m + 1) 190 then (cX12_within, yX12_within, (some .int), 3, 12) else (cX12_tell, yX12_tell, (some .int), 1, 12)) else (bif Nat.ble (m + 1) 192 then (cX12_change, yX12_change, (some .int), 2, 12) else (bif Nat.ble (m + 1) 193 then (cX12_image, yX12_image, (some .int), 1, 12) else (cX12_back, yX12_back, (some .int), 1, 12)))) else (bif Nat.ble (m + 1) 197 then (bif Nat.ble (m + 1) 195 then (cX12_isCell, yX12_isCell, (some .boolean), 1, 12) else (bif Nat.ble (m + 1) 196 then (cX12_isTone, yX12_isTone, (some .boolean), 1, 12) else (cX12_isYear, yX12_isYear, (some .boolean), 1, 12))) else (bif Nat.ble (m + 1) 198 then (cX12_years, yX12_years, (some .int), 0, 12) else (bif Nat.ble (m + 1) 199 then (cX12_isLayer, yX12_isLayer, (some .boolean), 1, 12) else (cX12_isPainter, yX12_isPainter, (some .boolean), 1, 12)))))) else (bif Nat.ble (m + 1) 211 then (bif Nat.ble (m + 1) 205 then (bif Nat.ble (m + 1) 202 then (bif Nat.ble (m + 1) 201 then (cX12_isCopy, yX12_isCopy, (some .boolean), 1, 12) else (cX12_isClaimant, yX12_isClaimant, (some .boolean), 1, 12)) else (bif Nat.ble (m + 1) 203 then (cX12_toneAt, yX12_toneAt, (some .int), 2, 12) else (bif Nat.ble (m + 1) 204 then (cX12_seen, yX12_seen, (some .int), 1, 12) else (cX12_first, yX12_first, (some .int), 2, 12)))) else (bif Nat.ble (m + 1) 208 then (bif Nat.ble (m + 1) 206 then (cX12_painter, yX12_painter, (some .int), 2, 12) else (bif Nat.ble (m + 1) 207 then (cX12_err, yX12_err, (some .int), 3, 12) else (cX12_of, yX12_of, (some .int), 2, 12))) else (bif Nat.ble (m + 1) 209 then (cX12_isTerm, yX12_isTerm, (some .boolean), 2, 12) else (bif Nat.ble (m + 1) 210 then (cX12_terms, yX12_terms, (some .int), 2, 12) else (cX12_scar, yX12_scar, (some .int), 3, 12))))) else (bif Nat.ble (m + 1) 216 then (bif Nat.ble (m + 1) 213 then (bif Nat.ble (m + 1) 212 then (cX12_heal, yX12_heal, (some .int), 1, 12) else (cX12_row, yX12_row, (some .int), 0, 12)) else (bif Nat.ble (m + 1) 214 then (cX12_flakes, yX12_flakes, (some .int), 0, 12) else (bif Nat.ble (m + 1) 215 then (cX12_four, yX12_four, none, 1, 12) else (cX12_feed, yX12_feed, (some .int), 5, 12)))) else (bif Nat.ble (m + 1) 219 then (bif Nat.ble (m + 1) 217 then (cX12_end, yX12_end, (some .int), 1, 12) else (bif Nat.ble (m + 1) 218 then (cX12_isSmall, yX12_isSmall, (some .boolean), 1, 12) else (cX12_isDigit, yX12_isDigit, (some .boolean), 1, 12))) else (bif Nat.ble (m + 1) 220 then (cX12_begin, yX12_begin, none, 0, 12) else (bif Nat.ble (m + 1) 221 then (cX12_next, yX12_next, none, 0, 12) else (cX12_isWord, yX12_isWord, (some .boolean), 1, 12))))))) else (bif Nat.ble (m + 1) 244 then (bif Nat.ble (m + 1) 233 then (bif Nat.ble (m + 1) 227 then (bif Nat.ble (m + 1) 224 then (bif Nat.ble (m + 1) 223 then (cX12_isSign, yX12_isSign, (some .boolean), 1, 12) else (cX12_must, yX12_must, none, 1, 12)) else (bif Nat.ble (m + 1) 225 then (cX12_number, yX12_number, (some .int), 2, 12) else (bif Nat.ble (m + 1) 226 then (cX12_fault, yX12_fault, (some .int), 0, 12) else (cX12_emit, yX12_emit, none, 2, 12)))) else (bif Nat.ble (m + 1) 230 then (bif Nat.ble (m + 1) 228 then (cX12_push, yX12_push, none, 2, 12) else (bif Nat.ble (m + 1) 229 then (cX12_binds, yX12_binds, (some .int), 1, 12) else (cX12_settle, yX12_settle, none, 1, 12))) else (bif Nat.ble (m + 1) 231 then (cX12_inner, yX12_inner, (some .int), 0, 12) else (bif Nat.ble (m + 1) 232 then (cX12_isCompared, yX12_isCompared, (some .boolean), 0, 12) else (cX12_partAt, yX12_partAt, (some .int), 0, 12))))) else (bif Nat.ble (m + 1) 238 then (bif Nat.ble (m + 1) 235 then (bif Nat.ble (m + 1) 234 then (cX12_orderPartAt, yX12_orderPartAt, (some .int), 0, 12) else (cX12_openBracket, yX12_openBracket, none, 1, 12)) else (bif Nat.ble (m + 1) 236 then (cX12_leaf, yX12_leaf, none, 3, 12) else (bif Nat.ble (m + 1) 237 then (cX12_readPart, yX12_readPart, (some .int), 0, 12) else (cX12_readPlain, yX12_readPlain, (some .int), 0, 12)))) else (bif Nat.ble (m + 1) 241 then (bif Nat.ble (m + 1) 239 then (cX12_behindSum, yX12_behindSum, (some .int), 1, 12) else (bif Nat.ble (m + 1) 240 then (cX12_behindTest, yX12_behindTest, (some .int), 0, 12) else (cX12_readExpression, yX12_readExpression, none, 1, 12))) else (bif Nat.ble (m + 1) 242 then (cX12_readClause, yX12_readClause, none, 0, 12) else (bif Nat.ble (m + 1) 243 then (cX12_beginText, yX12_beginText, none, 1, 12) else (cX12_endText, yX12_endText, none, 0, 12)))))) else (bif Nat.ble (m + 1) 255 then (bif Nat.ble (m + 1) 249 then (bif Nat.ble (m + 1) 246 then (bif Nat.ble (m + 1) 245 then (cX12_law, yX12_law, (some .int), 0, 12) else (cX12_force, yX12_force, (some .int), 1, 12)) else (bif Nat.ble (m + 1) 247 then (cX12_reckon, yX12_reckon, (some .long), 3, 12) else (bif Nat.ble (m + 1) 248 then (cX12_reckonAll, yX12_reckonAll, none, 2, 12) else (cX12_isSo, yX12_isSo, (some .boolean), 1, 12)))) else (bif Nat.ble (m + 1) 252 then (bif Nat.ble (m + 1) 250 then (cX12_tells, yX12_tells, (some .long), 2, 12) else (bif Nat.ble (m + 1) 251 then (cX12_setNone, yX12_setNone, none, 1, 12) else (cX12_ageIn, yX12_ageIn, (some .int), 1, 12))) else (bif Nat.ble (m + 1) 253 then (cX12_looksOf, yX12_looksOf, (some .int), 2, 12) else (bif Nat.ble (m + 1) 254 then (cX12_letsOf, yX12_letsOf, (some .int), 2, 12) else (cX12_setPainter, yX12_setPainter, none, 2, 12))))) else (bif Nat.ble (m + 1) 261 then (bif Nat.ble (m + 1) 258 then (bif Nat.ble (m + 1) 256 then (cX12_asksOf, yX12_asksOf, (some .int), 2, 12) else (bif Nat.ble (m + 1) 257 then (cX12_isBarred, yX12_isBarred, (some .boolean), 2, 12) else (cX12_looks, yX12_looks, (some .int), 3, 12))) else (bif Nat.ble (m + 1) 259 then (cX12_asks, yX12_asks, (some .int), 3, 12) else (bif Nat.ble (m + 1) 260 then (cX12_layLooks, yX12_layLooks, none, 1, 12) else (cX12_painted, yX12_painted, (some .int), 4, 12)))) else (bif Nat.ble (m + 1) 264 then (bif Nat.ble (m + 1) 262 then (cX12_paintPaper, yX12_paintPaper, none, 4, 12) else (bif Nat.ble (m + 1) 263 then (cX12_loadPaper, yX12_loadPaper, none, 2, 12) else (cX12_unlikePaper, yX12_unlikePaper, (some .int), 2, 12))) else (bif Nat.ble (m + 1) 265 then (cX12_unlikeOf, yX12_unlikeOf, (some .int), 1, 12) else (bif Nat.ble (m + 1) 266 then (cX12_rests, yX12_rests, (some .boolean), 2, 12) else (cX12_paintNow, yX12_paintNow, (some .int), 1, 12)))))))) else (bif Nat.ble (m + 1) 312 then (bif Nat.ble (m + 1) 289 then (bif Nat.ble (m + 1) 278 then (bif Nat.ble (m + 1) 272 then (bif Nat.ble (m + 1) 269 then (bif Nat.ble (m + 1) 268 then (cX12_paint, yX12_paint, (some .int), 1, 12) else (cX12_scrape, yX12_scrape, (some .int), 0, 12)) else (bif Nat.ble (m + 1) 270 then (cX12_tone, yX12_tone, (some .int), 2, 12) else (bif Nat.ble (m + 1) 271 then (cX12_tooFar, yX12_tooFar, (some .int), 2, 12) else (cX12_tooFarIn, yX12_tooFarIn, (some .int), 1, 12)))) else (bif Nat.ble (m + 1) 275 then (bif Nat.ble (m + 1) 273 then (cX12_layer, yX12_layer, (some .int), 2, 12) else (bif Nat.ble (m + 1) 274 then (cX12_unlawful, yX12_unlawful, (some .int), 0, 12) else (cX12_moneyBehind, yX12_moneyBehind, (some .int), 1, 12))) else (bif Nat.ble (m + 1) 276 then (cX12_money, yX12_money, (some .int), 1, 12) else (bif Nat.ble (m + 1) 277 then (cX12_broke, yX12_broke, (some .int), 0, 12) else (cX12_restsInRow, yX12_restsInRow, (some .boolean), 2, 12))))) else (bif Nat.ble (m + 1) 283 then (bif Nat.ble (m + 1) 280 then (bif Nat.ble (m + 1) 279 then (cX12_goThrough, yX12_goThrough, none, 2, 12) else (cX12_weigh, yX12_weigh, none, 2, 12)) else (bif Nat.ble (m + 1) 281 then (cX12_plan, yX12_plan, (some .int), 3, 12) else (bif Nat.ble (m + 1) 282 then (cX12_driftOf, yX12_driftOf, (some .int), 2, 12) else (cX12_drift, yX12_drift, (some .int), 3, 12)))) else (bif Nat.ble (m + 1) 286 then (bif Nat.ble (m + 1) 284 then (cX12_undoing, yX12_undoing, (some .int), 1, 12) else (bif Nat.ble (m + 1) 285 then (cX12_isSame, yX12_isSame, (some .boolean), 2, 12) else (cX12_copyNow, yX12_copyNow, (some .int), 0, 12))) else (bif Nat.ble (m + 1) 287 then (cX12_copy, yX12_copy, (some .int), 0, 12) else (bif Nat.ble (m + 1) 288 then (cX12_touch, yX12_touch, (some .int), 3, 12) else (cX12_burn, yX12_burn, (some .int), 0, 12)))))) else (bif Nat.ble (m + 1) 300 then (bif Nat.ble (m + 1) 294 then (bif Nat.ble (m + 1) 291 then (bif Nat.ble (m + 1) 290 then (cX12_apart, yX12_apart, (some .int), 2, 12) else (cX12_nearOf, yX12_nearOf, (some .int), 1, 12)) else (bif Nat.ble (m + 1) 292 then (cX12_near, yX12_near, (some .int), 1, 12) else (bif Nat.ble (m + 1) 293 then (cX12_pictureAt, yX12_pictureAt, (some .int), 1, 12) else (cX12_like, yX12_like, (some .int), 2, 12)))) else (bif Nat.ble (m + 1) 297 then (bif Nat.ble (m + 1) 295 then (cX12_isTree, yX12_isTree, (some .boolean), 1, 12) else (bif Nat.ble (m + 1) 296 then (cX12_findTree, yX12_findTree, none, 0, 12) else (cX12_tree, yX12_tree, (some .int), 1, 12))) else (bif Nat.ble (m + 1) 298 then (cX12_trees, yX12_trees, (some .int), 0, 12) else (bif Nat.ble (m + 1) 299 then (cX12_dated, yX12_dated, (some .int), 2, 12) else (cX12_worst, yX12_worst, (some .int), 2, 12))))) else (bif Nat.ble (m + 1) 306 then (bif Nat.ble (m + 1) 303 then (bif Nat.ble (m + 1) 301 then (cX12_findDepths, yX12_findDepths, none, 0, 12) else (bif Nat.ble (m + 1) 302 then (cX12_know, yX12_know, (some .int), 1, 12) else (cX12_whoOf, yX12_whoOf, (some .int), 1, 12))) else (bif Nat.ble (m + 1) 304 then (cX12_who, yX12_who, (some .int), 1, 12) else (bif Nat.ble (m + 1) 305 then (cX12_forge, yX12_forge, (some .int), 3, 12) else (cX12_skipped, yX12_skipped, (some .int), 0, 12)))) else (bif Nat.ble (m + 1) 309 then (bif Nat.ble (m + 1) 307 then (cX12_missing, yX12_missing, (some .int), 2, 12) else (bif Nat.ble (m + 1) 308 then (cX12_wasOf, yX12_wasOf, (some .int), 1, 12) else (cX12_layAll, yX12_layAll, none, 0, 12))) else (bif Nat.ble (m + 1) 310 then (cX12_was, yX12_was, (some .int), 1, 12) else (bif Nat.ble (m + 1) 311 then (cX12_ways, yX12_ways, (some .long), 0, 12) else (cX12_claimant, yX12_claimant, (some .int), 4, 12))))))) else (bif Nat.ble (m + 1) 334 then (bif Nat.ble (m + 1) 323 then (bif Nat.ble (m + 1) 317 then (bif Nat.ble (m + 1) 314 then (bif Nat.ble (m + 1) 313 then (cX12_ofClaimant, yX12_ofClaimant, (some .int), 2, 12) else (cX12_claim, yX12_claim, (some .int), 3, 12)) else (bif Nat.ble (m + 1) 315 then (cX12_born, yX12_born, (some .int), 2, 12) else (bif Nat.ble (m + 1) 316 then (cX12_isAlive, yX12_isAlive, (some .boolean), 2, 12) else (cX12_childrenOf, yX12_childrenOf, (some .int), 2, 12)))) else (bif Nat.ble (m + 1) 320 then (bif Nat.ble (m + 1) 318 then (cX12_setClaimant, yX12_setClaimant, none, 2, 12) else (bif Nat.ble (m + 1) 319 then (cX12_ranks, yX12_ranks, (some .int), 2, 12) else (cX12_isOut, yX12_isOut, (some .boolean), 2, 12))) else (bif Nat.ble (m + 1) 321 then (cX12_stands, yX12_stands, (some .int), 3, 12) else (bif Nat.ble (m + 1) 322 then (cX12_findRulers, yX12_findRulers, none, 0, 12) else (cX12_ruler, yX12_ruler, (some .int), 1, 12))))) else (bif Nat.ble (m + 1) 328 then (bif Nat.ble (m + 1) 325 then (bif Nat.ble (m + 1) 324 then (cX12_reign, yX12_reign, (some .int), 2, 12) else (cX12_vacant, yX12_vacant, (some .int), 0, 12)) else (bif Nat.ble (m + 1) 326 then (cX12_line, yX12_line, (some .int), 2, 12) else (bif Nat.ble (m + 1) 327 then (cX12_readSum, yX12_readSum, none, 1, 12) else (cX12_readHead, yX12_readHead, (some .int), 0, 12)))) else (bif Nat.ble (m + 1) 331 then (bif Nat.ble (m + 1) 329 then (cX12_readOrder, yX12_readOrder, none, 0, 12) else (bif Nat.ble (m + 1) 330 then (cX12_setNow, yX12_setNow, none, 0, 12) else (cX12_sumOf, yX12_sumOf, (some .long), 1, 12))) else (bif Nat.ble (m + 1) 332 then (cX12_run, yX12_run, (some .int), 1, 12) else (bif Nat.ble (m + 1) 333 then (cX12_act, yX12_act, (some .int), 2, 12) else (cX12_touchNow, yX12_touchNow, (some .int), 1, 12)))))) else (bif Nat.ble (m + 1) 345 then (bif Nat.ble (m + 1) 339 then (bif Nat.ble (m + 1) 336 then (bif Nat.ble (m + 1) 335 then (cX12_orders, yX12_orders, (some .int), 0, 12) else (cX12_stopped, yX12_stopped, (some .int), 0, 12)) else (bif Nat.ble (m + 1) 337 then (cX12_draw, yX12_draw, (some .int), 1, 12) else (bif Nat.ble (m + 1) 338 then (cX12_century, yX12_century, (some .int), 2, 12) else (cX12_drawn, yX12_drawn, (some .int), 1, 12)))) else (bif Nat.ble (m + 1) 342 then (bif Nat.ble (m + 1) 340 then (cX12_count, yX12_count, (some .int), 1, 12) else (bif Nat.ble (m + 1) 341 then (cX12_status, yX12_status, (some .int), 0, 12) else (cJ6_bitCount_0f7a4, yJ6_bitCount_0f7a4, (some .int), 1, 13))) else (bif Nat.ble (m + 1) 343 then (cJ9_abs_0f7a4, yJ9_abs_0f7a4, (some .int), 1, 14) else (bif Nat.ble (m + 1) 344 then (cJ9_max_7cf53, yJ9_max_7cf53, (some .int), 2, 14) else (cJ9_min_7cf53, yJ9_min_7cf53, (some .int), 2, 14))))) else (bif Nat.ble (m + 1) 351 then (bif Nat.ble (m + 1) 348 then (bif Nat.ble (m + 1) 346 then (cJ0_length_8abf5, yJ0_length_8abf5, (some .int), 0, 15) else (bif Nat.ble (m + 1) 347 then (cJ0_charAt_5068e, yJ0_charAt_5068e, (some .char), 1, 15) else (cJ0_coder_7d493, yJ0_coder_7d493, (some .byte), 0, 15))) else (bif Nat.ble (m + 1) 349 then (cJ0_isLatin1_aae02, yJ0_isLatin1_aae02, (some .boolean), 0, 15) else (bif Nat.ble (m + 1) 350 then (cJ0_checkIndex_df160, yJ0_checkIndex_df160, none, 2, 15) else (cJ1_charAt_3b067, yJ1_charAt_3b067, (some .char), 2, 16)))) else (bif Nat.ble (m + 1) 354 then (bif Nat.ble (m + 1) 352 then (cJ2_getChar_3b067, yJ2_getChar_3b067, (some .char), 2, 17) else (bif Nat.ble (m + 1) 353 then (cJ2_length_9d52b, yJ2_length_9d52b, (some .int), 1, 17) else (cJ2_charAt_3b067, yJ2_charAt_3b067, (some .char), 2, 17))) else (bif Nat.ble (m + 1) 355 then (cJ2_checkIndex_2214a, yJ2_checkIndex_2214a, none, 2, 17) else (bif Nat.ble (m + 1) 356 then (cJ3_checkIndex_8e157, yJ3_checkIndex_8e157, (some .int), 3, 19) else (cL_law, yL_law, ret, 1, 20))))))))))
/-- kinds of fields: 0 int, 1 long, 2 boolean, 3 a final reference -/
def ftb (c : Nat) : List Nat := match c with
  | 0 => [3, 3, 0, 0, 3, 3, 0, 2]
  | 1 => [3, 3, 3, 3, 3, 3, 3, 3, 0, 0]
  | 2 => [3, 3, 3, 3, 3, 0]
  | 3 => [3, 0, 0]
  | 4 => [3, 3, 3, 0]
  | 5 => [3, 3, 3, 3, 3, 3, 3, 3, 0, 0, 0, 3, 0, 0, 0]
  | 6 => [3, 0, 3, 2, 0, 0, 0, 0, 0]
  | 7 => [0, 3, 0, 3, 3, 0, 3, 0, 0, 3, 3, 0, 3, 0, 3]
  | 8 => [3, 0, 3, 3, 3, 3, 3, 0, 0]
  | 9 => [3, 3, 3, 3]
  | 10 => [3, 3, 0, 0, 0]
  | 11 => [3, 3, 0, 3, 0, 3, 3, 3, 3, 3, 3, 3, 3, 3, 0, 0, 0, 0, 3]
  | 12 => [0, 0, 3, 3, 3, 3, 3, 0, 3, 0, 0, 0, 0, 1, 0, 2, 2, 0, 3, 0, 3, 3, 0, 3, 3, 0, 0, 3, 3, 3, 0, 3, 3, 3, 2, 1, 1, 3, 3, 3, 3, 3, 3, 3, 0, 0, 0, 3, 3, 0, 0, 3, 3, 3, 3, 0, 0, 1, 3, 2, 0]
  | _ => []
def lkF (w : Nat) : List (Nat × Nat × Nat × Nat) := match w with
  | 0 => [(9, 0, 4, 2189), (15, 0, 5, 2190), (18, 0, 0, 2185), (22, 0, 1, 2186), (26, 0, 2, 2187), (30, 7, 0, 1038), (35, 0, 3, 2188), (36, 0, 7, 2194), (40, 7, 10, 1078), (43, 7, 8, 1066), (56, 0, 6, 2192)]
  | 1 => [(12, 1, 1, 2147), (21, 1, 5, 2151), (25, 1, 6, 2152), (29, 1, 7, 2153), (32, 1, 0, 2146), (35, 1, 2, 2148), (39, 1, 3, 2149), (43, 1, 4, 2150), (51, 1, 9, 2156), (55, 1, 8, 2154), (58, 10, 2, 1142), (63, 10, 0, 1136), (66, 10, 4, 1149), (86, 7, 8, 1070), (89, 7, 11, 1084), (110, 3, 2, 1177), (119, 5, 14, 2003), (121, 5, 11, 1236), (152, 7, 12, 1088)]
  | 2 => [(9, 2, 2, 2116), (15, 2, 3, 2117), (18, 2, 4, 2119), (21, 2, 0, 2114), (25, 2, 1, 2115), (39, 2, 5, 2121), (51, 7, 13, 1092)]
  | 3 => [(9, 3, 0, 1174), (15, 3, 1, 1175), (19, 10, 3, 1146), (28, 10, 1, 1140), (31, 3, 2, 1176)]
  | 4 => [(12, 4, 1, 1187), (18, 4, 2, 1188), (22, 4, 0, 1186), (38, 4, 3, 1189), (61, 7, 1, 1044), (67, 7, 2, 1047), (70, 7, 3, 1050), (73, 7, 4, 1055), (76, 7, 14, 1095), (79, 7, 11, 1085), (92, 7, 7, 1063), (95, 7, 5, 1057), (98, 7, 6, 1060), (102, 10, 2, 1144), (107, 10, 0, 1138), (114, 3, 2, 1178)]
  | 5 => [(9, 5, 2, 1226), (15, 5, 3, 1227), (18, 5, 4, 1228), (21, 5, 5, 1229), (25, 5, 6, 1230), (28, 5, 7, 1231), (31, 5, 11, 1235), (34, 5, 0, 1224), (38, 5, 1, 1225), (42, 5, 8, 1232), (52, 5, 9, 1233), (55, 5, 14, 2002), (58, 7, 4, 1052), (63, 7, 8, 1067), (66, 5, 10, 1234), (69, 7, 9, 1073), (82, 7, 0, 1039), (89, 7, 10, 1080), (130, 5, 12, 1238), (133, 5, 13, 2000)]
  | 6 => [(9, 6, 0, 2044), (15, 6, 2, 2046), (25, 6, 1, 2045), (29, 6, 3, 2047), (38, 6, 6, 2050), (41, 6, 8, 2052), (61, 6, 5, 2049), (64, 10, 2, 1143), (67, 6, 4, 2048), (74, 10, 0, 1137), (104, 6, 7, 2051), (109, 10, 3, 1147), (151, 10, 4, 1150)]
  | 7 => [(9, 7, 1, 1042), (15, 7, 3, 1048), (18, 7, 4, 1051), (23, 7, 6, 1059), (27, 7, 7, 1062), (31, 7, 9, 1072), (34, 7, 10, 1076), (37, 7, 12, 1087), (40, 7, 14, 1094), (43, 7, 0, 1037), (52, 7, 2, 1045), (55, 7, 5, 1056), (58, 7, 8, 1069), (61, 7, 11, 1082), (64, 7, 13, 1091)]
  | 8 => [(11, 8, 2, 2080), (15, 8, 3, 2081), (18, 8, 4, 2082), (21, 8, 5, 2083), (24, 8, 6, 2084), (27, 8, 0, 2078), (35, 7, 11, 1083), (41, 8, 1, 2079), (55, 7, 8, 1071), (61, 8, 7, 2085), (64, 8, 8, 2087), (79, 7, 12, 1089), (82, 7, 10, 1081)]
  | 9 => [(9, 9, 2, 1207), (15, 9, 3, 1208), (18, 9, 0, 1205), (22, 9, 1, 1206), (26, 7, 8, 1065), (38, 7, 10, 1079), (49, 7, 9, 1074), (60, 7, 4, 1053), (70, 7, 0, 1041)]
  | 10 => [(9, 10, 0, 1135), (15, 10, 1, 1139), (18, 10, 2, 1141), (22, 10, 3, 1145), (25, 10, 4, 1148)]
  | 11 => [(30, 11, 0, 2213), (34, 11, 1, 2214), (38, 11, 3, 2216), (42, 11, 6, 2219), (51, 11, 5, 2218), (55, 11, 7, 2220), (59, 11, 8, 2221), (63, 11, 9, 2222), (70, 11, 10, 2223), (77, 11, 11, 2224), (86, 11, 12, 2225), (93, 11, 13, 2226), (97, 11, 18, 2231), (100, 11, 14, 2227), (104, 11, 16, 2229), (118, 7, 10, 1077), (121, 7, 8, 1068), (131, 7, 0, 1040), (134, 7, 1, 1043), (143, 7, 4, 1054), (146, 7, 2, 1046), (149, 7, 3, 1049), (152, 11, 4, 2217), (159, 11, 15, 2228), (162, 7, 5, 1058), (169, 7, 6, 1061), (181, 1, 8, 2155), (184, 1, 9, 2157), (187, 7, 7, 1064), (219, 7, 9, 1075), (235, 5, 14, 2004), (238, 5, 12, 1239), (241, 5, 13, 2001), (244, 5, 11, 1237), (259, 7, 11, 1086), (265, 7, 12, 1090), (299, 8, 7, 2086), (302, 8, 8, 2088), (322, 7, 13, 1093), (325, 7, 14, 1096), (346, 2, 3, 2118), (358, 2, 5, 2122), (361, 2, 4, 2120), (368, 0, 6, 2193), (371, 0, 7, 2195), (375, 0, 5, 2191), (384, 11, 2, 2215), (387, 11, 17, 2230)]
  | 12 => [(7, 12, 2, 6159), (13, 12, 3, 6160), (16, 12, 4, 6161), (19, 12, 5, 6162), (22, 12, 6, 6163), (26, 12, 8, 6165), (29, 12, 14, 6171), (33, 12, 18, 6175), (36, 12, 20, 6177), (39, 12, 21, 6178), (42, 12, 23, 6180), (45, 12, 24, 6181), (68, 12, 27, 6184), (84, 12, 28, 6185), (97, 12, 29, 6186), (100, 12, 31, 6188), (103, 12, 32, 6189), (106, 12, 33, 6190), (109, 12, 37, 6194), (112, 12, 38, 6195), (115, 12, 39, 6196), (118, 12, 40, 6197), (121, 12, 41, 6198), (124, 12, 42, 6199), (127, 12, 43, 6200), (130, 12, 47, 6204), (133, 12, 48, 6205), (136, 12, 51, 6208), (139, 12, 52, 6209), (142, 12, 53, 6210), (145, 12, 54, 6211), (148, 12, 56, 6213), (151, 12, 58, 6215), (154, 12, 0, 6157), (157, 12, 1, 6158), (214, 12, 9, 6166), (217, 12, 7, 6164), (224, 12, 11, 6168), (227, 12, 15, 6172), (234, 12, 10, 6167), (237, 12, 13, 6170), (247, 12, 12, 6169), (266, 12, 19, 6176), (269, 12, 25, 6182), (291, 12, 26, 6183), (297, 12, 22, 6179), (306, 12, 16, 6173), (354, 12, 17, 6174), (374, 12, 34, 6191), (377, 12, 30, 6187), (391, 12, 35, 6192), (397, 12, 36, 6193), (474, 12, 46, 6203), (483, 12, 45, 6202), (486, 12, 44, 6201), (517, 12, 49, 6206), (520, 12, 50, 6207), (596, 12, 55, 6212), (618, 12, 57, 6214), (629, 12, 59, 6216), (632, 12, 60, 6217)]
  | 13 => []
  | 14 => []
  | 15 => []
  | 16 => []
  | 17 => []
  | 18 => []
  | 19 => []
  | 20 => []
  | _ => []
def lkM (w : Nat) : List (Nat × Nat × Nat × Nat × Nat × Nat × Nat) := match w with
  | 0 => [(52, 10022, 3, 6091, 6093, 54, 1012), (59, 14032, 23, 6100, 4066, 4067, 1004), (71, 21, 177, 6112, 3046, 0, 1001), (75, 10022, 4, 6095, 6097, 55, 1012), (78, 17052, 76, 6101, 4170, 4171, 1002), (82, 31, 184, 6102, 4095, 0, 1001)]
  | 1 => [(11, 14, 64, 2143, 1032, 0, 1002), (20, 15, 19, 2145, 1171, 0, 1005), (47, 17022, 65, 4044, 4045, 4046, 1002), (68, 11022, 7, 4049, 4051, 22, 1011), (72, 11032, 8, 4113, 4115, 28, 1011), (76, 11032, 9, 4118, 4120, 29, 1011), (79, 11022, 10, 4122, 4124, 30, 1011), (83, 11022, 11, 4187, 4189, 36, 1011), (92, 17022, 69, 4053, 4054, 4055, 1002), (95, 17022, 71, 4057, 4058, 4059, 1002), (98, 19022, 96, 4061, 4062, 4063, 1006), (103, 19022, 98, 4101, 4102, 4103, 1006), (106, 13042, 20, 4117, 4084, 4085, 1005), (113, 15032, 35, 4126, 4127, 4128, 1007), (124, 17022, 66, 4178, 3061, 3062, 1002), (128, 14032, 26, 4179, 4138, 4139, 1004), (134, 17032, 70, 4180, 4159, 4160, 1002), (137, 19022, 95, 4181, 4182, 4183, 1006), (140, 17012, 72, 4191, 4192, 4193, 1002), (143, 21, 177, 4195, 3046, 0, 1001), (146, 11, 178, 4196, 3036, 0, 1001), (149, 11, 179, 4197, 3039, 0, 1001)]
  | 2 => [(29, 17032, 74, 6045, 6015, 6016, 1002), (35, 12022, 16, 6046, 6047, 6048, 1010), (43, 12022, 17, 6060, 6062, 52, 1010), (47, 12022, 18, 6068, 6070, 53, 1010), (54, 14032, 28, 6050, 6033, 6034, 1004), (59, 14032, 27, 6051, 6019, 6020, 1004)]
  | 3 => [(24, 21, 177, 4087, 3046, 0, 1001), (34, 13022, 21, 4088, 4090, 26, 1005)]
  | 4 => [(11, 15, 19, 1170, 1171, 0, 1005), (26, 14032, 29, 4069, 4071, 23, 1004), (30, 14022, 30, 4073, 4075, 24, 1004), (34, 14022, 33, 4078, 4080, 25, 1004), (42, 31, 184, 4094, 4095, 0, 1001), (46, 17022, 69, 4077, 4054, 4055, 1002), (57, 14032, 31, 4109, 4111, 27, 1004), (64, 14032, 32, 6022, 6024, 51, 1004), (82, 21, 177, 4082, 3046, 0, 1001), (86, 17022, 73, 6026, 5090, 5091, 1002), (89, 17032, 75, 6027, 6028, 6029, 1002), (110, 13042, 20, 4083, 4084, 4085, 1005)]
  | 5 => [(71, 14032, 25, 4131, 4106, 4107, 1004), (76, 14032, 23, 4132, 4066, 4067, 1004), (79, 14032, 24, 4133, 4134, 4135, 1004), (85, 14032, 26, 4137, 4138, 4139, 1004), (98, 30, 36, 4142, 4143, 0, 1007), (102, 15022, 40, 4145, 4147, 31, 1007), (106, 15032, 37, 4154, 4156, 33, 1007), (109, 15032, 38, 4165, 4167, 34, 1007), (113, 15032, 39, 4174, 4176, 35, 1007), (116, 17032, 70, 4158, 4159, 4160, 1002), (122, 17052, 76, 4169, 4170, 4171, 1002), (136, 15032, 41, 4150, 4152, 32, 1007)]
  | 6 => [(33, 20012, 109, 3115, 3116, 3117, 1003), (44, 16012, 62, 3119, 3121, 3, 1008), (47, 16022, 44, 3126, 3128, 4, 1008), (51, 16022, 46, 3130, 3132, 5, 1008), (55, 16022, 45, 3237, 3239, 17, 1008), (58, 16022, 48, 4002, 4004, 18, 1008), (70, 16022, 58, 3216, 3218, 14, 1008), (79, 16022, 60, 3135, 3137, 6, 1008), (83, 16032, 49, 3192, 3194, 8, 1008), (93, 16022, 59, 3227, 3229, 15, 1008), (99, 16022, 47, 3232, 3234, 16, 1008), (110, 16022, 50, 4007, 4009, 19, 1008), (113, 20032, 110, 3220, 3221, 3222, 1003), (117, 16022, 53, 3196, 3198, 9, 1008), (120, 16022, 51, 4011, 4013, 20, 1008), (125, 20022, 111, 4021, 4022, 4023, 1003), (128, 16022, 52, 4015, 4017, 21, 1008), (135, 16022, 57, 3208, 3210, 12, 1008), (138, 16022, 56, 3212, 3214, 13, 1008), (141, 16022, 54, 3200, 3202, 10, 1008), (144, 16022, 55, 3204, 3206, 11, 1008), (154, 16, 345, 3139, 3140, 3141, 1015), (159, 16042, 61, 3187, 3189, 7, 1008), (163, 26, 346, 3149, 3150, 3151, 1015), (167, 10, 63, 3123, 3124, 0, 1008)]
  | 7 => [(67, 21, 177, 3064, 3046, 0, 1001), (71, 17032, 74, 6031, 6015, 6016, 1002), (74, 31, 184, 4173, 4095, 0, 1001)]
  | 8 => [(31, 18032, 87, 5105, 5107, 42, 1009), (44, 18032, 78, 5117, 5102, 5103, 1009), (47, 18022, 89, 5118, 5120, 43, 1009), (51, 30, 91, 5136, 5137, 0, 1009), (58, 18032, 88, 5165, 5167, 47, 1009), (67, 18032, 85, 5177, 5179, 48, 1009), (70, 18042, 86, 5181, 5183, 49, 1009), (85, 18032, 90, 5122, 5124, 44, 1009), (89, 11, 182, 5126, 5047, 0, 1001), (93, 18012, 80, 5139, 5129, 5130, 1009), (97, 18022, 92, 5140, 5142, 45, 1009), (100, 18032, 93, 5145, 5147, 46, 1009)]
  | 9 => [(32, 14032, 23, 4065, 4066, 4067, 1004), (41, 17022, 71, 4185, 4058, 4059, 1002), (45, 17052, 76, 4186, 4170, 4171, 1002), (57, 14032, 24, 5013, 4134, 4135, 1004), (63, 14032, 25, 4105, 4106, 4107, 1004), (66, 19032, 104, 5060, 5062, 38, 1006), (73, 19042, 105, 5193, 5195, 50, 1006), (77, 14032, 26, 5041, 4138, 4139, 1004), (81, 19052, 106, 5042, 5044, 37, 1006), (84, 19032, 107, 5064, 5066, 39, 1006)]
  | 10 => [(28, 34, 108, 4031, 1132, 0, 1003)]
  | 11 => [(11, 14, 64, 1031, 1032, 0, 1002), (14, 34, 108, 1131, 1132, 0, 1003), (19, 24, 22, 1164, 1165, 0, 1004), (24, 34, 94, 1201, 1202, 0, 1006), (29, 34, 34, 1220, 1221, 0, 1007), (48, 34, 42, 2040, 2041, 0, 1008), (69, 24, 77, 2074, 2075, 0, 1009), (76, 34, 12, 2110, 2111, 0, 1010), (83, 54, 5, 2138, 2139, 0, 1011), (92, 34, 0, 2181, 2182, 0, 1012), (107, 10, 178, 3035, 3036, 0, 1001), (111, 10, 179, 3038, 3039, 0, 1001), (114, 21022, 172, 3041, 3043, 0, 1001), (124, 21022, 171, 3048, 3050, 1, 1001), (127, 20, 177, 3045, 3046, 0, 1001), (137, 17022, 66, 3060, 3061, 3062, 1002), (140, 10, 176, 3073, 3074, 0, 1001), (155, 21022, 173, 3088, 3090, 2, 1001), (165, 16032, 43, 3108, 3109, 3110, 1008), (173, 20012, 112, 4026, 4027, 4028, 1003), (177, 11022, 6, 4040, 4041, 4042, 1011), (190, 17022, 69, 4214, 4054, 4055, 1002), (193, 14032, 23, 4215, 4066, 4067, 1004), (197, 14032, 24, 4216, 4134, 4135, 1004), (200, 14032, 25, 4221, 4106, 4107, 1004), (203, 14032, 26, 4222, 4138, 4139, 1004), (206, 10, 181, 4223, 4224, 0, 1001), (210, 17032, 70, 4230, 4159, 4160, 1002), (213, 19022, 95, 4231, 4182, 4183, 1006), (216, 19022, 96, 4232, 4062, 4063, 1006), (222, 17022, 67, 5001, 5002, 5003, 1002), (225, 19022, 97, 5009, 5010, 5011, 1006), (228, 19022, 98, 5022, 4102, 4103, 1006), (232, 15032, 35, 5032, 4127, 4128, 1007), (247, 19032, 101, 5037, 5038, 5039, 1006), (250, 10, 182, 5046, 5047, 0, 1001), (253, 10, 183, 5049, 5050, 0, 1001), (256, 19022, 102, 5056, 5057, 5058, 1006), (262, 17012, 72, 5072, 4192, 4193, 1002), (268, 21012, 174, 5085, 5087, 40, 1001), (272, 17022, 73, 5089, 5090, 5091, 1002), (275, 21022, 175, 5097, 5099, 41, 1001), (278, 18032, 78, 5101, 5102, 5103, 1009), (281, 18012, 79, 5113, 5114, 5115, 1009), (284, 18012, 80, 5128, 5129, 5130, 1009), (287, 18022, 82, 5132, 5133, 5134, 1009), (290, 18012, 81, 5153, 5154, 5155, 1009), (293, 18032, 83, 5161, 5162, 5163, 1009), (296, 18012, 84, 5173, 5174, 5175, 1009), (305, 19022, 99, 5189, 5190, 5191, 1006), (308, 19032, 100, 5209, 5210, 5211, 1006), (311, 19022, 103, 5217, 5218, 5219, 1006), (314, 10, 341, 5225, 5226, 0, 1020), (319, 10, 180, 5235, 5236, 0, 1001), (328, 17022, 68, 6002, 6003, 6004, 1002), (331, 17032, 74, 6014, 6015, 6016, 1002), (334, 14032, 27, 6018, 6019, 6020, 1004), (337, 14032, 28, 6032, 6033, 6034, 1004), (340, 17032, 75, 6036, 6028, 6029, 1002), (343, 12022, 13, 6041, 6042, 6043, 1010), (349, 12012, 14, 6056, 6057, 6058, 1010), (352, 12032, 15, 6064, 6065, 6066, 1010), (355, 12022, 16, 6080, 6047, 6048, 1010), (365, 10032, 1, 6086, 6087, 6088, 1012), (378, 10022, 2, 6108, 6109, 6110, 1012), (381, 17022, 65, 6117, 4045, 4046, 1002)]
  | 12 => [(160, 30, 186, 7106, 7107, 0, 1013), (164, 22022, 190, 7109, 7111, 56, 1013), (174, 22012, 197, 8117, 8119, 90, 1013), (178, 22032, 202, 8121, 8123, 91, 1013), (182, 10, 194, 7121, 7122, 0, 1013), (186, 10, 195, 7125, 7126, 0, 1013), (189, 22032, 191, 7129, 7131, 57, 1013), (196, 22022, 199, 7144, 7146, 58, 1013), (207, 20, 208, 7157, 7158, 0, 1013), (211, 10, 196, 7167, 7168, 0, 1013), (220, 22022, 214, 7186, 7188, 59, 1013), (231, 22012, 220, 7210, 7212, 62, 1013), (241, 10, 217, 7214, 7215, 0, 1013), (244, 10, 218, 7217, 7218, 0, 1013), (262, 22022, 223, 7234, 7236, 65, 1013), (272, 10, 228, 8048, 8049, 0, 1013), (275, 22032, 226, 8036, 8038, 75, 1013), (287, 22022, 221, 7230, 7232, 64, 1013), (294, 22032, 227, 8007, 8009, 68, 1013), (300, 22022, 222, 8011, 8013, 69, 1013), (303, 22022, 234, 8015, 8017, 70, 1013), (309, 22012, 233, 8023, 8025, 72, 1013), (312, 22012, 232, 8027, 8029, 73, 1013), (317, 22042, 235, 8032, 8034, 74, 1013), (321, 22032, 224, 8040, 8042, 76, 1013), (327, 22012, 236, 8019, 8021, 71, 1013), (330, 22022, 229, 8051, 8053, 78, 1013), (333, 22012, 230, 8055, 8057, 79, 1013), (336, 22012, 231, 8059, 8061, 80, 1013), (344, 22012, 237, 8002, 8004, 67, 1013), (347, 22022, 238, 8044, 8046, 77, 1013), (351, 22012, 239, 8067, 8069, 81, 1013), (357, 22022, 240, 7238, 8000, 66, 1013), (362, 22012, 219, 7206, 7208, 61, 1013), (365, 22022, 242, 7202, 7204, 60, 1013), (368, 22012, 241, 7226, 7228, 63, 1013), (371, 22012, 243, 8074, 8076, 82, 1013), (380, 22022, 203, 8113, 8115, 89, 1013), (383, 22042, 246, 8125, 8127, 92, 1013), (394, 22032, 247, 8109, 8111, 88, 1013), (400, 22022, 248, 8105, 8107, 87, 1013), (403, 30, 189, 8090, 8091, 0, 1013), (407, 22022, 250, 8097, 8099, 85, 1013), (410, 22022, 251, 8086, 8088, 83, 1013), (413, 22032, 249, 8101, 8103, 86, 1013), (417, 22032, 254, 8143, 8145, 95, 1013), (420, 22032, 252, 8093, 8095, 84, 1013), (423, 22032, 253, 8131, 8133, 93, 1013), (426, 22032, 255, 8139, 8141, 94, 1013), (429, 22032, 256, 8147, 8149, 96, 1013), (432, 22052, 260, 8175, 8177, 102, 1013), (436, 10, 188, 8183, 8184, 0, 1013), (439, 22022, 259, 8163, 8165, 99, 1013), (442, 22032, 262, 8167, 8169, 100, 1013), (445, 22032, 263, 8179, 8181, 103, 1013), (448, 22032, 265, 8159, 8161, 98, 1013), (451, 22052, 261, 8171, 8173, 101, 1013), (455, 22022, 266, 8155, 8157, 97, 1013), (458, 22022, 198, 8194, 8196, 104, 1013), (461, 22032, 270, 8210, 8212, 107, 1013), (464, 22022, 264, 8202, 8204, 105, 1013), (467, 22022, 271, 8206, 8208, 106, 1013), (470, 22022, 274, 8222, 8224, 108, 1013), (477, 22032, 279, 8239, 9001, 110, 1013), (480, 22032, 277, 9003, 9005, 111, 1013), (489, 22032, 278, 8235, 8237, 109, 1013), (492, 20, 187, 9015, 9016, 0, 1013), (495, 22032, 281, 9011, 9013, 112, 1013), (498, 22032, 284, 9022, 9024, 113, 1013), (501, 22012, 285, 9030, 9032, 114, 1013), (504, 22022, 200, 9038, 9040, 115, 1013), (507, 22032, 289, 9054, 9056, 117, 1013), (510, 22022, 290, 9050, 9052, 116, 1013), (514, 22022, 292, 9063, 9065, 118, 1013), (523, 22022, 294, 9075, 9077, 120, 1013), (526, 22012, 295, 9071, 9073, 119, 1013), (529, 22032, 299, 9095, 9097, 122, 1013), (532, 22012, 300, 9091, 9093, 121, 1013), (535, 22022, 302, 9103, 9105, 123, 1013), (538, 22012, 308, 9123, 9125, 124, 1013), (541, 22022, 307, 9127, 9129, 125, 1013), (544, 22022, 201, 9139, 9141, 126, 1013), (549, 22032, 312, 9148, 9150, 127, 1013), (552, 22032, 315, 9160, 9162, 128, 1013), (555, 22032, 316, 9172, 9174, 131, 1013), (558, 22032, 317, 9168, 9170, 130, 1013), (561, 22032, 318, 9164, 9166, 129, 1013), (564, 22032, 319, 9176, 9178, 132, 1013), (567, 22012, 321, 9184, 9186, 133, 1013), (584, 22012, 327, 9208, 9210, 135, 1013), (587, 22022, 326, 9219, 9221, 136, 1013), (599, 22012, 329, 9230, 9232, 138, 1013), (602, 22022, 330, 9234, 9236, 139, 1013), (606, 22032, 332, 9238, 10000, 140, 1013), (609, 22022, 333, 10002, 10004, 141, 1013), (612, 22012, 328, 9204, 9206, 134, 1013), (615, 22022, 331, 9226, 9228, 137, 1013), (635, 22022, 336, 10015, 10017, 142, 1013)]
  | 13 => []
  | 14 => []
  | 15 => [(335, 16, 347, 3143, 3144, 3145, 1015), (492, 16, 348, 3153, 3154, 3155, 1015), (495, 20, 350, 3157, 3158, 0, 1016), (1059, 30, 355, 3165, 3166, 0, 1017)]
  | 16 => [(9, 20, 349, 3160, 3161, 0, 1015)]
  | 17 => []
  | 18 => []
  | 19 => []
  | 20 => [(9, 14, 113, 1023, 1024, 0, 1001), (12, 14, 185, 6132, 6133, 0, 1013), (13, 21032, 114, 3031, 3032, 3033, 1001), (17, 22032, 204, 7117, 7118, 7119, 1013), (18, 21032, 115, 3052, 3053, 3054, 1001), (21, 22032, 205, 7133, 7134, 7135, 1013), (22, 21042, 116, 3056, 3057, 3058, 1001), (26, 22042, 206, 7138, 7139, 7140, 1013), (27, 21032, 117, 3065, 3066, 3067, 1001), (30, 22032, 207, 7148, 7149, 7150, 1013), (31, 21032, 118, 3069, 3070, 3071, 1001), (34, 22032, 209, 7153, 7154, 7155, 1013), (35, 21042, 119, 3076, 3077, 3078, 1001), (38, 22042, 210, 7163, 7164, 7165, 1013), (39, 21022, 120, 3080, 3081, 3082, 1001), (43, 22022, 211, 7170, 7171, 7172, 1013), (44, 21062, 121, 3084, 3085, 3086, 1001), (48, 22062, 215, 7182, 7183, 7184, 1013), (49, 21022, 122, 3092, 3093, 3094, 1001), (52, 22022, 216, 7190, 7191, 7192, 1013), (53, 21012, 123, 3096, 3097, 3098, 1001), (57, 22012, 212, 7174, 7175, 7176, 1013), (58, 21012, 124, 3100, 3101, 3102, 1001), (61, 22012, 213, 7178, 7179, 7180, 1013), (62, 21012, 125, 3104, 3105, 3106, 1001), (65, 22012, 244, 7198, 7199, 7200, 1013), (66, 21012, 126, 4036, 4037, 4038, 1001), (69, 22012, 334, 9200, 9201, 9202, 1013), (70, 21012, 127, 4198, 4199, 4200, 1001), (73, 22012, 225, 7194, 7195, 7196, 1013), (74, 21012, 128, 4202, 4203, 4204, 1001), (77, 22012, 335, 10006, 10007, 10008, 1013), (78, 21022, 129, 4206, 4207, 4208, 1001), (81, 22022, 245, 8078, 8079, 8080, 1013), (82, 21042, 130, 4210, 4211, 4212, 1001), (85, 22042, 257, 8082, 8083, 8084, 1013), (86, 21042, 131, 4217, 4218, 4219, 1001), (89, 22042, 258, 8135, 8136, 8137, 1013), (90, 21022, 132, 4226, 4227, 4228, 1001), (93, 22022, 267, 8151, 8152, 8153, 1013), (94, 21012, 133, 4233, 4234, 4235, 1001), (97, 22012, 268, 8186, 8187, 8188, 1013), (98, 21032, 134, 4237, 4238, 4239, 1001), (101, 22032, 269, 8190, 8191, 8192, 1013), (102, 21032, 135, 5005, 5006, 5007, 1001), (105, 22032, 272, 8198, 8199, 8200, 1013), (106, 21012, 136, 5014, 5015, 5016, 1001), (109, 22012, 273, 8214, 8215, 8216, 1013), (110, 21022, 137, 5018, 5019, 5020, 1001), (113, 22022, 275, 8218, 8219, 8220, 1013), (114, 21012, 138, 5024, 5025, 5026, 1001), (117, 22012, 276, 8227, 8228, 8229, 1013), (118, 21042, 139, 5028, 5029, 5030, 1001), (121, 22042, 280, 8231, 8232, 8233, 1013), (122, 21042, 140, 5033, 5034, 5035, 1001), (125, 22042, 282, 9007, 9008, 9009, 1013), (126, 21022, 141, 5052, 5053, 5054, 1001), (129, 22022, 283, 9018, 9019, 9020, 1013), (130, 21012, 142, 5068, 5069, 5070, 1001), (133, 22012, 286, 9026, 9027, 9028, 1013), (134, 21042, 143, 5073, 5074, 5075, 1001), (137, 22042, 287, 9034, 9035, 9036, 1013), (138, 21012, 144, 5077, 5078, 5079, 1001), (141, 22012, 288, 9042, 9043, 9044, 1013), (142, 21022, 145, 5081, 5082, 5083, 1001), (145, 22022, 291, 9046, 9047, 9048, 1013), (146, 21032, 146, 5093, 5094, 5095, 1001), (149, 22032, 293, 9059, 9060, 9061, 1013), (150, 21022, 147, 5109, 5110, 5111, 1001), (153, 22022, 296, 9067, 9068, 9069, 1013), (154, 21012, 148, 5149, 5150, 5151, 1001), (157, 22012, 297, 9079, 9080, 9081, 1013), (158, 21032, 149, 5157, 5158, 5159, 1001), (161, 22032, 298, 9083, 9084, 9085, 1013), (162, 21022, 150, 5169, 5170, 5171, 1001), (165, 22022, 301, 9087, 9088, 9089, 1013), (166, 21022, 151, 5185, 5186, 5187, 1001), (169, 22022, 303, 9099, 9100, 9101, 1013), (170, 21042, 152, 5197, 5198, 5199, 1001), (173, 22042, 304, 9107, 9108, 9109, 1013), (174, 21012, 153, 5201, 5202, 5203, 1001), (177, 22012, 305, 9111, 9112, 9113, 1013), (178, 21032, 154, 5205, 5206, 5207, 1001), (181, 22032, 306, 9115, 9116, 9117, 1013), (182, 21022, 155, 5213, 5214, 5215, 1001), (185, 22022, 309, 9119, 9120, 9121, 1013), (186, 21012, 156, 5221, 5222, 5223, 1001), (190, 22012, 310, 9131, 9132, 9133, 1013), (191, 21052, 157, 5231, 5232, 5233, 1001), (195, 22052, 311, 9135, 9136, 9137, 1013), (196, 21042, 158, 5238, 5239, 6000, 1001), (199, 22042, 313, 9143, 9144, 9145, 1013), (200, 21032, 159, 6006, 6007, 6008, 1001), (203, 22032, 314, 9152, 9153, 9154, 1013), (204, 21042, 160, 6010, 6011, 6012, 1001), (207, 22042, 320, 9156, 9157, 9158, 1013), (208, 21022, 161, 6037, 6038, 6039, 1001), (211, 22022, 322, 9180, 9181, 9182, 1013), (212, 21032, 162, 6052, 6053, 6054, 1001), (215, 22032, 323, 9188, 9189, 9190, 1013), (216, 21012, 163, 6072, 6073, 6074, 1001), (219, 22012, 324, 9192, 9193, 9194, 1013), (220, 21032, 164, 6076, 6077, 6078, 1001), (223, 22032, 325, 9196, 9197, 9198, 1013), (224, 21032, 165, 6081, 6082, 6083, 1001), (227, 22032, 337, 10010, 10011, 10012, 1013), (228, 21022, 166, 6104, 6105, 6106, 1001), (231, 22022, 338, 10022, 10023, 10024, 1013), (232, 21022, 167, 6113, 6114, 6115, 1001), (235, 22022, 192, 7102, 7103, 7104, 1013), (236, 21022, 168, 6118, 6119, 6120, 1001), (239, 22022, 193, 7113, 7114, 7115, 1013), (240, 21022, 169, 6122, 6123, 6124, 1001), (243, 22022, 339, 10027, 10028, 10029, 1013), (244, 21012, 170, 6126, 6127, 6128, 1001), (247, 22012, 340, 10033, 10034, 10035, 1013)]
  | _ => []
def lkC : List (Nat × Nat × Nat × Nat) := [(1, 9, 7, 2142), (1, 18, 3, 2144), (4, 9, 3, 1168), (7, 21, 104, 1035), (10, 10, 10, 4030), (11, 9, 7, 1029), (11, 9, 103, 1029), (11, 12, 10, 1129), (11, 17, 4, 1162), (11, 22, 9, 1199), (11, 27, 5, 1218), (11, 46, 6, 2038), (11, 67, 8, 2072), (11, 74, 2, 2108), (11, 81, 1, 2136), (11, 90, 0, 2179), (20, 7, 11, 1021), (20, 10, 12, 6130)]
def lkI : List (Nat × Nat × Int × Nat) := [(0, 86, 1000003, 6099), (11, 231, (-1000000), 5023), (11, 364, 1000000, 6085), (12, 473, (-1000000), 8226), (12, 513, 100000000, 9058), (13, 265, 1431655765, 5228), (13, 266, 858993459, 5229), (13, 267, 252645135, 5230)]
def lkJ : List (Nat × Nat × Int × Nat) := [(3, 38, 1000000000, 4092), (3, 40, (-1000000000), 4093), (12, 48, 103820, 6136), (12, 50, 1253, 6137), (12, 52, 824370, 6138), (12, 54, 17223340210, 6139), (12, 56, 17376357, 6140), (12, 58, 441828, 6141), (12, 60, 116007536084, 6142), (12, 62, 81486, 6143), (12, 64, 463922, 6144), (12, 66, 111983872174, 6145), (12, 72, 26379859, 6146), (12, 74, 719725925, 6147), (12, 76, 14137529, 6148), (12, 78, 116925619, 6149), (12, 80, 146885, 6150), (12, 82, 671173, 6151), (12, 87, 13090163, 6152), (12, 89, 398995, 6153), (12, 91, 52595, 6154), (12, 93, 18921843, 6155), (12, 95, 67155, 6156), (12, 168, 11, 7124), (12, 170, 9, 7128), (12, 172, 99, 7137), (12, 192, 2, 7142), (12, 194, 6, 7143), (12, 199, 4, 7152), (12, 201, 5, 7160), (12, 203, 999, 7161), (12, 205, 3, 7162), (12, 250, 32, 7220), (12, 252, 96, 7221), (12, 254, (-1), 7222), (12, 256, 1000000, 7223), (12, 258, 10, 7224), (12, 260, 48, 7225), (12, 279, 20, 8063), (12, 281, 23, 8064), (12, 283, 24, 8065), (12, 285, 26, 8066), (12, 315, 1000, 8031), (12, 325, 14836, 8006), (12, 340, 1476, 8071), (12, 342, 498, 8072), (12, 360, 294, 8073), (12, 387, (-1000000000), 8129), (12, 389, 1000000000, 8130), (12, 547, 150, 9147), (12, 570, 16819668, 9212), (12, 572, 641271301, 9213), (12, 574, 114201, 9214), (12, 576, 21484648, 9215), (12, 578, 412456564, 9216), (12, 580, 111838500468, 9217), (12, 582, 89, 9218), (12, 590, 52, 9223), (12, 592, 763528, 9224), (12, 594, 21279923, 9225), (12, 621, 1103, 10019), (12, 623, 12345, 10020), (12, 625, 1000003, 10021), (12, 627, 40, 10014), (12, 638, 100, 10026), (12, 640, 13, 10031), (12, 642, 17, 10032)]
def lkS : List (Nat × Nat × Nat × Nat) := [(6, 77, 0, 4001), (6, 87, 1, 3134), (6, 89, 2, 3191), (6, 91, 3, 3226), (6, 97, 4, 3231), (6, 102, 5, 3236), (6, 107, 6, 4006), (6, 123, 7, 4025), (6, 131, 8, 4020), (6, 133, 9, 4019), (6, 147, 10, 3224), (6, 149, 11, 3225)]
def lkG : List (Nat × Nat × Nat × Nat) := [(15, 38, 35, 3147), (15, 1053, 61, 3163)]
def lkO : List (Nat × Nat × Nat) := [(0, 3, 2184), (1, 3, 2141), (2, 3, 2113), (3, 3, 1173), (4, 3, 1167), (5, 3, 1223), (6, 3, 2043), (7, 3, 1034), (8, 3, 2077), (9, 3, 1204), (10, 3, 1134), (11, 3, 1026), (12, 1, 6135)]
def lkA : List (Nat × Nat × Nat) := [(0, 46, 6090), (5, 92, 4141), (7, 46, 4048), (10, 31, 4032)]
def lkV : List (Nat × Nat × Nat × Nat) := [(15, 9, 31, 10037), (15, 15, 32, 10038)]
def lkX : List (Nat × Nat × Nat × Nat) := [(0, 65, 62, 6103), (4, 52, 64, 4097), (5, 46, 64, 4130), (5, 119, 63, 4162), (5, 126, 62, 4149), (6, 19, 64, 3112), (8, 74, 63, 5127), (8, 104, 64, 5144), (9, 52, 62, 4098)]
def mnm (k : Nat) : MethodName := match k with
  | 62 => Lib.Math.abs.name
  | 63 => Lib.Math.max.name
  | _ => Lib.Math.min.name
def lkK (m : Nat) : Nat := [2183, 6089, 6111, 6094, 6098, 2140, 4043, 4052, 4116, 4121, 4125, 4190, 2112, 6044, 6059, 6067, 6049, 6063, 6071, 1172, 4086, 4091, 1166, 4068, 4136, 4108, 4140, 6021, 6035, 4072, 4076, 4112, 6025, 4081, 1222, 4129, 4144, 4157, 4168, 4177, 4148, 4153, 2042, 3111, 3129, 4000, 3133, 3235, 4005, 3195, 4010, 4014, 4018, 3199, 3203, 3207, 3215, 3211, 3219, 3230, 3138, 3190, 3122, 3125, 1033, 4047, 3063, 5004, 6005, 4056, 4161, 4060, 4194, 5092, 6017, 6030, 4172, 2076, 5104, 5116, 5131, 5156, 5135, 5164, 5176, 5180, 5184, 5108, 5168, 5121, 5125, 5138, 5143, 5148, 1203, 4184, 4064, 5012, 4104, 5192, 5212, 5040, 5059, 5220, 5063, 5196, 5045, 5067, 1133, 3118, 3223, 4024, 4029, 1025, 3034, 3055, 3059, 3068, 3072, 3079, 3083, 3087, 3095, 3099, 3103, 3107, 4039, 4201, 4205, 4209, 4213, 4220, 4229, 4236, 5000, 5008, 5017, 5021, 5027, 5031, 5036, 5055, 5071, 5076, 5080, 5084, 5096, 5112, 5152, 5160, 5172, 5188, 5200, 5204, 5208, 5216, 5224, 5234, 6001, 6009, 6013, 6040, 6055, 6075, 6079, 6084, 6107, 6116, 6121, 6125, 6129, 3051, 3044, 3091, 5088, 5100, 3075, 3047, 3037, 3040, 5237, 4225, 5048, 5051, 4096, 6134, 7108, 9017, 8185, 8092, 7112, 7132, 7105, 7116, 7123, 7127, 7169, 8120, 8197, 7147, 9041, 9142, 8124, 8116, 7120, 7136, 7141, 7151, 7159, 7156, 7166, 7173, 7177, 7181, 7189, 7185, 7193, 7216, 7219, 7209, 7213, 7233, 8014, 7237, 8043, 7197, 8039, 8010, 8050, 8054, 8058, 8062, 8030, 8026, 8018, 8035, 8022, 8005, 8047, 8070, 8001, 7229, 7205, 8077, 7201, 8081, 8128, 8112, 8108, 8104, 8100, 8089, 8096, 8134, 8146, 8142, 8150, 8085, 8138, 8166, 8178, 8174, 8170, 8182, 8205, 8162, 8158, 8154, 8189, 8193, 8213, 8209, 8201, 8217, 8225, 8221, 8230, 9006, 8238, 9002, 8234, 9014, 9010, 9021, 9025, 9033, 9029, 9037, 9045, 9057, 9053, 9049, 9066, 9062, 9078, 9074, 9070, 9082, 9086, 9098, 9094, 9090, 9106, 9102, 9110, 9114, 9118, 9130, 9126, 9122, 9134, 9138, 9151, 9146, 9155, 9163, 9175, 9171, 9167, 9179, 9159, 9187, 9183, 9191, 9195, 9199, 9222, 9211, 9207, 9233, 9237, 9229, 10001, 10005, 9203, 10009, 10018, 10013, 10025, 10030, 10036, 5227, 4100, 4164, 3114, 3142, 3152, 3146, 3156, 3162, 3159, 3180, 3176, 3170, 3173, 3167, 0].getD m 0
/-- the tables' words, piece by piece: a thousand times the piece and the place -/
def chunk (k : Nat) : List Cond := match k with
  | 0 => k2_sels lw_privs
  | 1 => tables_1_1
  | 2 => tables_1_2
  | 3 => tables_1_3
  | 4 => tables_1_4
  | 5 => tables_1_5
  | 6 => tables_1_6
  | 7 => tables_1_7
  | 8 => tables_1_8
  | 9 => tables_1_9
  | 10 => tables_1_10
  | _ => []
def tbw (z : Nat) : Option Cond := (chunk (z / 1000))[z % 1000]?
theorem tbw_mem {z : Nat} {w : Cond} (h : tbw z = some w) : w ∈ lw_tbl := by
  have h1 : w ∈ chunk (z / 1000) := List.mem_of_getElem? h
  revert h1
  generalize z / 1000 = k
  intro h1
  unfold chunk at h1
  unfold lw_tbl tables_1
  simp only [List.mem_append]
  split at h1 <;> simp_all
/-- the words that a callee may take over -/
def TB : List Cond := lw_tbl.filter goodWord
theorem tbg {z : Nat} {w : Cond} (h : tbw z = some w) (hg : goodWord w = true) : w ∈ TB := List.mem_filter.mpr ⟨tbw_mem h, hg⟩
theorem TB_good : ∀ w ∈ TB, (w.onTables && w.keeps) = true ∨ ∃ ty, w = .arrayClass ty := fun w h => good_of_word (List.mem_filter.mp h).2
def tnm (c k : Nat) : String × String × String × Bool := ((vwCl[c]?).map (fun q => q.2.1 k)).getD ("", "", "", false)
def icn (a : Nat) : Jvm.ClassFile.Cond := match a with
  | 0 => .eq
  | 1 => .ne
  | 2 => .lt
  | 3 => .ge
  | 4 => .gt
  | _ => .le
def rawL (a t : Nat) : Instr × Nat := match t, a with
  | 0, 0 => (.iload_n 0, 1)
  | 0, 1 => (.iload_n 1, 1)
  | 0, 2 => (.iload_n 2, 1)
  | 0, 3 => (.iload_n 3, 1)
  | 0, a => (.iload a, 2)
  | 1, 0 => (.lload_n 0, 1)
  | 1, 1 => (.lload_n 1, 1)
  | 1, 2 => (.lload_n 2, 1)
  | 1, 3 => (.lload_n 3, 1)
  | 1, a => (.lload a, 2)
  | _, 0 => (.aload_n 0, 1)
  | _, 1 => (.aload_n 1, 1)
  | _, 2 => (.aload_n 2, 1)
  | _, 3 => (.aload_n 3, 1)
  | _, a => (.aload a, 2)
def rawS (a t : Nat) : Instr × Nat := match t, a with
  | 0, 0 => (.istore_n 0, 1)
  | 0, 1 => (.istore_n 1, 1)
  | 0, 2 => (.istore_n 2, 1)
  | 0, 3 => (.istore_n 3, 1)
  | 0, a => (.istore a, 2)
  | 1, 0 => (.lstore_n 0, 1)
  | 1, 1 => (.lstore_n 1, 1)
  | 1, 2 => (.lstore_n 2, 1)
  | 1, 3 => (.lstore_n 3, 1)
  | 1, a => (.lstore a, 2)
  | _, 0 => (.astore_n 0, 1)
  | _, 1 => (.astore_n 1, 1)
  | _, 2 => (.astore_n 2, 1)
  | _, 3 => (.astore_n 3, 1)
  | _, a => (.astore a, 2)
/-- the instruction and its length; of a switch the length stands in the tuple -/
def raw (pc : Nat) (i : Ins) : Instr × Nat := match i.1 with
  | 0 => match i.2.1 with
    | 0 => (.iconst i.2.2.2, 1)
    | 1 => (.bipush i.2.2.2, 2)
    | 2 => (.sipush i.2.2.2, 3)
    | 3 => (.ldc i.2.2.1, 2)
    | _ => (.ldc_w i.2.2.1, 3)
  | 1 => match i.2.1 with
    | 0 => (.lconst (if i.2.2.2 = 0 then 0 else 1), 1)
    | _ => (.ldc2_w i.2.2.1, 3)
  | 2 => (.aconst_null, 1)
  | 3 => rawL i.2.1 i.2.2.1
  | 4 => rawS i.2.1 i.2.2.1
  | 5 => (.iinc i.2.1 i.2.2.2, 3)
  | 6 => match i.2.1 with
    | 0 => (.iadd, 1)
    | 1 => (.isub, 1)
    | 2 => (.imul, 1)
    | 3 => (.iand, 1)
    | 4 => (.ior, 1)
    | 5 => (.ixor, 1)
    | 6 => (.ishl, 1)
    | 7 => (.ishr, 1)
    | _ => (.iushr, 1)
  | 7 => (.ineg, 1)
  | 8 => match i.2.1 with
    | 0 => (.ladd, 1)
    | 1 => (.lsub, 1)
    | _ => (.lmul, 1)
  | 9 => (.lcmp, 1)
  | 10 => (.i2l, 1)
  | 11 => (.dup, 1)
  | 12 => (.ifCond (icn i.2.1) ((i.2.2.1 : Int) - pc), 3)
  | 13 => (.if_icmp (icn i.2.1) ((i.2.2.1 : Int) - pc), 3)
  | 14 => (.ifnonnull ((i.2.2.1 : Int) - pc), 3)
  | 15 => (.goto ((i.2.2.1 : Int) - pc), 3)
  | 17 => (.tableswitch (((swt i.2.1).2 : Int) - pc) (((swt i.2.1).1.head?.map (fun q => q.1)).getD 0) (((swt i.2.1).1.getLast?.map (fun q => q.1)).getD 0) (((swt i.2.1).1.map (fun q => (q.2 : Int) - pc)).toArray), i.2.2.2.toNat)
  | 18 => (.getfield i.2.2.2.toNat, 3)
  | 19 => (.getfield i.2.2.2.toNat, 3)
  | 20 => (.getfield i.2.2.2.toNat, 3)
  | 21 => (.getfield i.2.2.2.toNat, 3)
  | 22 => (.putfield i.2.2.2.toNat, 3)
  | 23 => (.putfield i.2.2.2.toNat, 3)
  | 24 => (.putfield i.2.2.2.toNat, 3)
  | 25 => (.putfield i.2.2.2.toNat, 3)
  | 26 => match i.2.1 with
    | 0 => (.iaload, 1)
    | 1 => (.laload, 1)
    | 2 => (.baload, 1)
    | _ => (.aaload, 1)
  | 27 => (.iastore, 1)
  | 28 => (.arraylength, 1)
  | 29 => (.iaload, 1)
  | 30 => (.arraylength, 1)
  | 31 => (.getfield i.2.2.2.toNat, 3)
  | 32 => (.getfield i.2.2.2.toNat, 3)
  | 33 => (.baload, 1)
  | 34 => (.arraylength, 1)
  | 35 => (.getstatic i.2.2.2.toNat, 3)
  | 36 => (.new i.2.2.2.toNat, 3)
  | 37 => match i.2.1 with
    | 0 => (.newarray .int, 2)
    | 1 => (.newarray .long, 2)
    | _ => (.newarray .boolean, 2)
  | 38 => (.anewarray i.2.2.2.toNat, 3)
  | 39 => match i.2.1 % 10 with
    | 0 => (.invokestatic i.2.2.2.toNat, 3)
    | 1 => (.invokestatic i.2.2.2.toNat, 3)
    | 4 => (.invokespecial i.2.2.2.toNat, 3)
    | 5 => (.invokespecial i.2.2.2.toNat, 3)
    | _ => (.invokevirtual i.2.2.2.toNat, 3)
  | 40 => (.invokespecial i.2.2.2.toNat, 3)
  | 41 => (.invokestatic i.2.2.2.toNat, 3)
  | 42 => (.return_, 1)
  | 43 => (.idiv, 1)
  | 44 => (.irem, 1)
  | 45 => (.ldiv, 1)
  | 46 => (.lrem, 1)
  | 47 => (.ldc i.2.2.1, 2)
  | 48 => (.l2i, 1)
  | 49 => (.i2c, 1)
  | 50 => (.dup2, 1)
  | 51 => (.pop, 1)
  | 52 => (.lastore, 1)
  | 53 => (.bastore, 1)
  | 54 => (.aastore, 1)
  | 55 => (.ireturn, 1)
  | 56 => (.lreturn, 1)
  | 57 => (.areturn, 1)
  | 58 => (.ireturn, 1)
  | 59 => (.ireturn, 1)
  | 60 => (.ireturn, 1)
  | 61 => (.getstatic i.2.2.2.toNat, 3)
  | 62 => (.invokestatic i.2.2.2.toNat, 3)
  | 63 => (.invokestatic i.2.2.2.toNat, 3)
  | 64 => (.invokestatic i.2.2.2.toNat, 3)
  | _ => (.athrow, 1)
/-- what a kind of return wants of the method -/
def rtk (op : Nat) (r : Option FieldType) : Bool := match op, r with
  | 42, none => true
  | 55, some .int => true
  | 56, some .long => true
  | 57, some (.object _) => true
  | 58, some .boolean => true
  | 59, some .char => true
  | 60, some .byte => true
  | _, _ => false
/-- what an instruction names is as the tables' words say -/
def lnk (w : Nat) (r : Option FieldType) (nm : String) (i : Ins) : Bool := match i.1 with
  | 0 => Nat.ble i.2.1 2 || lkI.any (fun q => Nat.beq q.1 w && (Nat.beq q.2.1 i.2.2.1 && decide (q.2.2.1 = i.2.2.2)))
  | 1 => (Nat.beq i.2.1 0 && (decide (i.2.2.2 = 0) || decide (i.2.2.2 = 1))) || (Nat.beq i.2.1 1 && lkJ.any (fun q => Nat.beq q.1 w && (Nat.beq q.2.1 i.2.2.1 && decide (q.2.2.1 = i.2.2.2))))
  | 3 => Nat.ble i.2.2.1 2
  | 4 => Nat.ble i.2.2.1 2
  | 6 => Nat.ble i.2.1 8
  | 8 => Nat.ble i.2.1 2
  | 12 => Nat.ble i.2.1 5
  | 13 => Nat.ble i.2.1 5
  | 17 => Nat.ble i.2.1 12
  | 18 => Nat.beq ((ftb i.2.1).getD i.2.2.1 9) 0 && (lkF w).any (fun q => Nat.beq q.1 i.2.2.2.toNat && (Nat.beq q.2.1 i.2.1 && Nat.beq q.2.2.1 i.2.2.1))
  | 19 => Nat.beq ((ftb i.2.1).getD i.2.2.1 9) 1 && (lkF w).any (fun q => Nat.beq q.1 i.2.2.2.toNat && (Nat.beq q.2.1 i.2.1 && Nat.beq q.2.2.1 i.2.2.1))
  | 20 => Nat.beq ((ftb i.2.1).getD i.2.2.1 9) 2 && (lkF w).any (fun q => Nat.beq q.1 i.2.2.2.toNat && (Nat.beq q.2.1 i.2.1 && Nat.beq q.2.2.1 i.2.2.1))
  | 21 => Nat.beq ((ftb i.2.1).getD i.2.2.1 9) 3 && (lkF w).any (fun q => Nat.beq q.1 i.2.2.2.toNat && (Nat.beq q.2.1 i.2.1 && Nat.beq q.2.2.1 i.2.2.1))
  | 22 => Nat.beq ((ftb i.2.1).getD i.2.2.1 9) 0 && (lkF w).any (fun q => Nat.beq q.1 i.2.2.2.toNat && (Nat.beq q.2.1 i.2.1 && Nat.beq q.2.2.1 i.2.2.1))
  | 23 => Nat.beq ((ftb i.2.1).getD i.2.2.1 9) 1 && (lkF w).any (fun q => Nat.beq q.1 i.2.2.2.toNat && (Nat.beq q.2.1 i.2.1 && Nat.beq q.2.2.1 i.2.2.1))
  | 24 => Nat.beq ((ftb i.2.1).getD i.2.2.1 9) 2 && (lkF w).any (fun q => Nat.beq q.1 i.2.2.2.toNat && (Nat.beq q.2.1 i.2.1 && Nat.beq q.2.2.1 i.2.2.1))
  | 25 => decide (nm = "<init>") && (Nat.beq i.2.1 w && (Nat.beq ((ftb i.2.1).getD i.2.2.1 9) 3 && (lkF w).any (fun q => Nat.beq q.1 i.2.2.2.toNat && (Nat.beq q.2.1 i.2.1 && Nat.beq q.2.2.1 i.2.2.1))))
  | 26 => Nat.ble i.2.1 4
  | 31 => lkV.any (fun q => Nat.beq q.1 w && (decide ((q.2.1 : Int) = i.2.2.2) && Nat.beq q.2.2.1 31))
  | 32 => lkV.any (fun q => Nat.beq q.1 w && (decide ((q.2.1 : Int) = i.2.2.2) && Nat.beq q.2.2.1 32))
  | 35 => lkG.any (fun q => Nat.beq q.1 w && (decide ((q.2.1 : Int) = i.2.2.2) && Nat.beq q.2.2.1 35))
  | 61 => lkG.any (fun q => Nat.beq q.1 w && (decide ((q.2.1 : Int) = i.2.2.2) && Nat.beq q.2.2.1 61))
  | 36 => Nat.ble i.2.1 12 && (Nat.beq i.2.2.1 (ftb i.2.1).length && lkC.any (fun q => Nat.beq q.1 w && (decide ((q.2.1 : Int) = i.2.2.2) && Nat.beq q.2.2.1 i.2.1)))
  | 37 => Nat.ble i.2.1 2
  | 38 => (Nat.beq i.2.1 3 || Nat.beq i.2.1 4) && lkC.any (fun q => Nat.beq q.1 w && (decide ((q.2.1 : Int) = i.2.2.2) && Nat.beq q.2.2.1 (i.2.1 + 100)))
  | 39 => Nat.ble i.2.2.1 356 && (Nat.beq (i.2.1 / 10 % 100) ((mtb i.2.2.1).2.2.2.1 + (bif Nat.ble (i.2.1 % 10) 1 then 0 else 1)) && (lkM w).any (fun q => Nat.beq q.1 i.2.2.2.toNat && (Nat.beq q.2.1 i.2.1 && Nat.beq q.2.2.1 i.2.2.1)))
  | 40 => lkO.any (fun q => Nat.beq q.1 w && decide ((q.2.1 : Int) = i.2.2.2))
  | 41 => lkA.any (fun q => Nat.beq q.1 w && decide ((q.2.1 : Int) = i.2.2.2))
  | 42 => rtk 42 r
  | 47 => lkS.any (fun q => Nat.beq q.1 w && (Nat.beq q.2.1 i.2.2.1 && Nat.beq q.2.2.1 i.2.1))
  | 54 => (Nat.beq i.2.1 3 && Nat.beq i.2.2.1 17) || (Nat.beq i.2.1 4 && Nat.beq i.2.2.1 20)
  | 55 => rtk 55 r
  | 56 => rtk 56 r
  | 57 => rtk 57 r
  | 58 => rtk 58 r
  | 59 => rtk 59 r
  | 60 => rtk 60 r
  | 62 => lkX.any (fun q => Nat.beq q.1 w && (decide ((q.2.1 : Int) = i.2.2.2) && Nat.beq q.2.2.1 62))
  | 63 => lkX.any (fun q => Nat.beq q.1 w && (decide ((q.2.1 : Int) = i.2.2.2) && Nat.beq q.2.2.1 63))
  | 64 => lkX.any (fun q => Nat.beq q.1 w && (decide ((q.2.1 : Int) = i.2.2.2) && Nat.beq q.2.2.1 64))
  | _ => true
def chk (cc : ByteArray) (w : Nat) (r : Option FieldType) (nm : String) : Nat → List Ins → Bool
  | _, [] => true
  | pc, i :: l => bif Nat.beq i.1 16 then Nat.beq i.2.2.1 pc else decide (decode cc pc = .ok (raw pc i)) && (lnk w r nm i && chk cc w r nm (bif Nat.beq i.1 15 then i.2.2.1 else pc + (raw pc i).2) l)
def chkM (m : Nat) : Bool := (inf m).2.2.all (fun b => chk (mtb m).1 (mtb m).2.2.2.2 (mtb m).2.2.1 (mtb m).2.1.name b.1 b.2.2)
end
section
/-! decided: what the lists of links say -/
def lkFc (w : Nat) (q : Nat × Nat × Nat × Nat) : Bool := decide (tbw q.2.2.2 = some (Cond.fieldLink (rnm w) q.1 (tnm q.2.1 q.2.2.1).1 (tnm q.2.1 q.2.2.1).2.1 (tnm q.2.1 q.2.2.1).2.2.1))
set_option maxRecDepth 100000 in
theorem lkF_ok_0 : (lkF 0).all (lkFc 0) = true := by decide +kernel
set_option maxRecDepth 100000 in
theorem lkF_ok_1 : (lkF 1).all (lkFc 1) = true := by decide +kernel
set_option maxRecDepth 100000 in
theorem lkF_ok_2 : (lkF 2).all (lkFc 2) = true := by decide +kernel
set_option maxRecDepth 100000 in
theorem lkF_ok_3 : (lkF 3).all (lkFc 3) = true := by decide +kernel
set_option maxRecDepth 100000 in
theorem lkF_ok_4 : (lkF 4).all (lkFc 4) = true := by decide +kernel
set_option maxRecDepth 100000 in
theorem lkF_ok_5 : (lkF 5).all (lkFc 5) = true := by decide +kernel
set_option maxRecDepth 100000 in
theorem lkF_ok_6 : (lkF 6).all (lkFc 6) = true := by decide +kernel
set_option maxRecDepth 100000 in
theorem lkF_ok_7 : (lkF 7).all (lkFc 7) = true := by decide +kernel
set_option maxRecDepth 100000 in
theorem lkF_ok_8 : (lkF 8).all (lkFc 8) = true := by decide +kernel
set_option maxRecDepth 100000 in
theorem lkF_ok_9 : (lkF 9).all (lkFc 9) = true := by decide +kernel
set_option maxRecDepth 100000 in
theorem lkF_ok_10 : (lkF 10).all (lkFc 10) = true := by decide +kernel
set_option maxRecDepth 100000 in
theorem lkF_ok_11 : (lkF 11).all (lkFc 11) = true := by decide +kernel
set_option maxRecDepth 100000 in
theorem lkF_ok_12 : (lkF 12).all (lkFc 12) = true := by decide +kernel
set_option maxRecDepth 100000 in
theorem lkF_ok_13 : (lkF 13).all (lkFc 13) = true := by decide +kernel
set_option maxRecDepth 100000 in
theorem lkF_ok_14 : (lkF 14).all (lkFc 14) = true := by decide +kernel
set_option maxRecDepth 100000 in
theorem lkF_ok_15 : (lkF 15).all (lkFc 15) = true := by decide +kernel
set_option maxRecDepth 100000 in
theorem lkF_ok_16 : (lkF 16).all (lkFc 16) = true := by decide +kernel
set_option maxRecDepth 100000 in
theorem lkF_ok_17 : (lkF 17).all (lkFc 17) = true := by decide +kernel
set_option maxRecDepth 100000 in
theorem lkF_ok_18 : (lkF 18).all (lkFc 18) = true := by decide +kernel
set_option maxRecDepth 100000 in
theorem lkF_ok_19 : (lkF 19).all (lkFc 19) = true := by decide +kernel
set_option maxRecDepth 100000 in
theorem lkF_ok_20 : (lkF 20).all (lkFc 20) = true := by decide +kernel
theorem lkF_ok (w : Nat) : (lkF w).all (lkFc w) = true := by
  match w with
  | 0 => exact lkF_ok_0
  | 1 => exact lkF_ok_1
  | 2 => exact lkF_ok_2
  | 3 => exact lkF_ok_3
  | 4 => exact lkF_ok_4
  | 5 => exact lkF_ok_5
  | 6 => exact lkF_ok_6
  | 7 => exact lkF_ok_7
  | 8 => exact lkF_ok_8
  | 9 => exact lkF_ok_9
  | 10 => exact lkF_ok_10
  | 11 => exact lkF_ok_11
  | 12 => exact lkF_ok_12
  | 13 => exact lkF_ok_13
  | 14 => exact lkF_ok_14
  | 15 => exact lkF_ok_15
  | 16 => exact lkF_ok_16
  | 17 => exact lkF_ok_17
  | 18 => exact lkF_ok_18
  | 19 => exact lkF_ok_19
  | 20 => exact lkF_ok_20
  | n + 21 => rfl
/-- what is wanted of a method that is called -/
def mok1 (m : Nat) : Bool := decide (plainName (mtb m).2.1.cls = true ∧ (mtb m).2.1.cls = rnm (mtb m).2.2.2.2 ∧ (mtb m).2.1.cls ≠ "java/lang/invoke/MethodHandle" ∧ (mtb m).2.1.cls ≠ "java/lang/invoke/VarHandle" ∧ (parseMethodDescriptor (mtb m).2.1.desc).map (fun d => d.parameters.length) = some (mtb m).2.2.2.1 ∧ (inf m).1 ≤ 60 ∧ 1 ≤ (inf m).2.1.1 ∧ m < 356)
/-- the words of one call -/
def lmw (w : Nat) (q : Nat × Nat × Nat × Nat × Nat × Nat × Nat) : List (Nat × Cond) := match q with
  | (idx, a, f, p1, p2, p3, p4) => (p4, Cond.initialized (mtb f).2.1.cls) :: (match a % 10 with
    | 0 => [(p1, Cond.methodLink (rnm w) idx (mtb f).2.1), (p2, Cond.static (mtb f).2.1)]
    | 1 => [(p1, Cond.methodLinkNest (rnm w) idx (mtb f).2.1 RX11), (p2, Cond.static (mtb f).2.1)]
    | 2 => [(p1, Cond.methodLink (rnm w) idx (mtb f).2.1), (p2, Cond.instanceMethod (mtb f).2.1), (p3, Cond.selects (mtb f).2.1.cls (mtb f).2.1 (mtb f).2.1)]
    | 3 => [(p1, Cond.methodLinkNest (rnm w) idx (mtb f).2.1 RX11), (p2, Cond.instanceMethod (mtb f).2.1), (p3, Cond.selects (mtb f).2.1.cls (mtb f).2.1 (mtb f).2.1)]
    | 4 => [(p1, Cond.methodLink (rnm w) idx (mtb f).2.1), (p2, Cond.instanceMethod (mtb f).2.1)]
    | 5 => [(p1, Cond.methodLinkNest (rnm w) idx (mtb f).2.1 RX11), (p2, Cond.instanceMethod (mtb f).2.1)]
    | _ => [(p1, Cond.methodLink (rnm w) idx (mtb f).2.1), (p2, Cond.instanceMethod (mtb f).2.1), (p3, Cond.selects (mtb f).2.1.cls (mtb f).2.1 (mtb f).2.1)])
/-- .. and receivers' kinds, constructors' names -/
def lkMc (w : Nat) (q : Nat × Nat × Nat × Nat × Nat × Nat × Nat) : Bool := (mok1 q.2.2.1 && (lmw w q).all (fun z => decide (tbw z.1 = some z.2))) && (match q.2.1 % 10 with
    | 2 => Nat.beq (q.2.1 / 1000) (10 + (mtb q.2.2.1).2.2.2.2) && Nat.ble (mtb q.2.2.1).2.2.2.2 12
    | 3 => Nat.beq (q.2.1 / 1000) (10 + (mtb q.2.2.1).2.2.2.2) && Nat.ble (mtb q.2.2.1).2.2.2.2 12
    | 4 => decide ((mtb q.2.2.1).2.1.name = "<init>" ∧ (mtb q.2.2.1).2.2.1 = none)
    | 5 => decide ((mtb q.2.2.1).2.1.name = "<init>" ∧ (mtb q.2.2.1).2.2.1 = none)
    | 6 => decide ((mtb q.2.2.1).2.1.cls = "java/lang/String")
    | _ => true)
set_option maxRecDepth 100000 in
theorem lkM_ok_0 : (lkM 0).all (lkMc 0) = true := by decide +kernel
set_option maxRecDepth 100000 in
theorem lkM_ok_1 : (lkM 1).all (lkMc 1) = true := by decide +kernel
set_option maxRecDepth 100000 in
theorem lkM_ok_2 : (lkM 2).all (lkMc 2) = true := by decide +kernel
set_option maxRecDepth 100000 in
theorem lkM_ok_3 : (lkM 3).all (lkMc 3) = true := by decide +kernel
set_option maxRecDepth 100000 in
theorem lkM_ok_4 : (lkM 4).all (lkMc 4) = true := by decide +kernel
set_option maxRecDepth 100000 in
theorem lkM_ok_5 : (lkM 5).all (lkMc 5) = true := by decide +kernel
set_option maxRecDepth 100000 in
theorem lkM_ok_6 : (lkM 6).all (lkMc 6) = true := by decide +kernel
set_option maxRecDepth 100000 in
theorem lkM_ok_7 : (lkM 7).all (lkMc 7) = true := by decide +kernel
set_option maxRecDepth 100000 in
theorem lkM_ok_8 : (lkM 8).all (lkMc 8) = true := by decide +kernel
set_option maxRecDepth 100000 in
theorem lkM_ok_9 : (lkM 9).all (lkMc 9) = true := by decide +kernel
set_option maxRecDepth 100000 in
theorem lkM_ok_10 : (lkM 10).all (lkMc 10) = true := by decide +kernel
set_option maxRecDepth 100000 in
theorem lkM_ok_11 : (lkM 11).all (lkMc 11) = true := by decide +kernel
set_option maxRecDepth 100000 in
theorem lkM_ok_12 : (lkM 12).all (lkMc 12) = true := by decide +kernel
set_option maxRecDepth 100000 in
theorem lkM_ok_13 : (lkM 13).all (lkMc 13) = true := by decide +kernel
set_option maxRecDepth 100000 in
theorem lkM_ok_14 : (lkM 14).all (lkMc 14) = true := by decide +kernel
set_option maxRecDepth 100000 in
theorem lkM_ok_15 : (lkM 15).all (lkMc 15) = true := by decide +kernel
set_option maxRecDepth 100000 in
theorem lkM_ok_16 : (lkM 16).all (lkMc 16) = true := by decide +kernel
set_option maxRecDepth 100000 in
theorem lkM_ok_17 : (lkM 17).all (lkMc 17) = true := by decide +kernel
set_option maxRecDepth 100000 in
theorem lkM_ok_18 : (lkM 18).all (lkMc 18) = true := by decide +kernel
set_option maxRecDepth 100000 in
theorem lkM_ok_19 : (lkM 19).all (lkMc 19) = true := by decide +kernel
set_option maxRecDepth 100000 in
theorem lkM_ok_20 : (lkM 20).all (lkMc 20) = true := by decide +kernel
theorem lkM_ok (w : Nat) : (lkM w).all (lkMc w) = true := by
  match w with
  | 0 => exact lkM_ok_0
  | 1 => exact lkM_ok_1
  | 2 => exact lkM_ok_2
  | 3 => exact lkM_ok_3
  | 4 => exact lkM_ok_4
  | 5 => exact lkM_ok_5
  | 6 => exact lkM_ok_6
  | 7 => exact lkM_ok_7
  | 8 => exact lkM_ok_8
  | 9 => exact lkM_ok_9
  | 10 => exact lkM_ok_10
  | 11 => exact lkM_ok_11
  | 12 => exact lkM_ok_12
  | 13 => exact lkM_ok_13
  | 14 => exact lkM_ok_14
  | 15 => exact lkM_ok_15
  | 16 => exact lkM_ok_16
  | 17 => exact lkM_ok_17
  | 18 => exact lkM_ok_18
  | 19 => exact lkM_ok_19
  | 20 => exact lkM_ok_20
  | n + 21 => rfl
set_option maxRecDepth 100000 in
theorem lkC_ok : lkC.all (fun q => decide (tbw q.2.2.2 = some (Cond.classLink (rnm q.1) q.2.1 (bif Nat.beq q.2.2.1 103 then RX7 else bif Nat.beq q.2.2.1 104 then RX10 else rnm q.2.2.1)))) = true := by decide +kernel
set_option maxRecDepth 100000 in
theorem lkI_ok : lkI.all (fun q => decide (tbw q.2.2.2 = some (Cond.constant (rnm q.1) q.2.1 (Int32.ofInt q.2.2.1)))) = true := by decide +kernel
set_option maxRecDepth 100000 in
theorem lkJ_ok : lkJ.all (fun q => decide (tbw q.2.2.2 = some (Cond.constantLong (rnm q.1) q.2.1 (Int64.ofInt q.2.2.1)))) = true := by decide +kernel
set_option maxRecDepth 100000 in
theorem lkO_ok : lkO.all (fun q => decide (tbw q.2.2 = some (Cond.methodLink (rnm q.1) q.2.1 objectInit))) = true := by decide +kernel
set_option maxRecDepth 100000 in
theorem lkA_ok : lkA.all (fun q => decide (tbw q.2.2 = some (Cond.methodLink (rnm q.1) q.2.1 arraycopyName))) = true := by decide +kernel
set_option maxRecDepth 100000 in
theorem lkV_ok : lkV.all (fun q => decide (tbw q.2.2.2 = some (Cond.fieldLink (rnm q.1) q.2.1 "java/lang/String" (bif Nat.beq q.2.2.1 31 then "value" else "coder") (bif Nat.beq q.2.2.1 31 then "[B" else "B")))) = true := by decide +kernel
set_option maxRecDepth 100000 in
theorem lkX_ok : lkX.all (fun q => decide (tbw q.2.2.2 = some (Cond.methodLink (rnm q.1) q.2.1 (mnm q.2.2.1)))) = true := by decide +kernel
set_option maxRecDepth 100000 in
theorem lkG_ok : lkG.all (fun q => decide (tbw q.2.2.2 = some (bif Nat.beq q.2.2.1 35 then Cond.fieldLink (rnm q.1) q.2.1 "java/lang/String" "COMPACT_STRINGS" "Z" else Cond.fieldLink (rnm q.1) q.2.1 "jdk/internal/util/Preconditions" "SIOOBE_FORMATTER" "Ljava/util/function/BiFunction;"))) = true := by decide +kernel
end
section
/-! the methods' own words -/
theorem mk_0 : tbw 2183 = some (Cond.code yX0_init cX0_init 3 none) := by rfl
theorem mk_1 : tbw 6089 = some (Cond.code yX0_pass cX0_pass 5 none) := by rfl
theorem mk_2 : tbw 6111 = some (Cond.code yX0_yearsOf cX0_yearsOf 2 (some .int)) := by rfl
theorem mk_3 : tbw 6094 = some (Cond.code yX0_paintOne cX0_paintOne 8 none) := by rfl
theorem mk_4 : tbw 6098 = some (Cond.code yX0_draw cX0_draw 2 (some .int)) := by rfl
theorem mk_5 : tbw 2140 = some (Cond.code yX1_init cX1_init 5 none) := by rfl
theorem mk_6 : tbw 4043 = some (Cond.code yX1_runAll cX1_runAll 6 (some .int)) := by rfl
theorem mk_7 : tbw 4052 = some (Cond.code yX1_learnWords cX1_learnWords 3 none) := by rfl
theorem mk_8 : tbw 4116 = some (Cond.code yX1_isWanted cX1_isWanted 4 (some .boolean)) := by rfl
theorem mk_9 : tbw 4121 = some (Cond.code yX1_sumsWork cX1_sumsWork 5 (some .boolean)) := by rfl
theorem mk_10 : tbw 4125 = some (Cond.code yX1_paints cX1_paints 4 (some .int)) := by rfl
theorem mk_11 : tbw 4190 = some (Cond.code yX1_changes cX1_changes 2 (some .int)) := by rfl
theorem mk_12 : tbw 2112 = some (Cond.code yX2_init cX2_init 3 none) := by rfl
theorem mk_13 : tbw 6044 = some (Cond.code yX2_crownTill cX2_crownTill 4 none) := by rfl
theorem mk_14 : tbw 6059 = some (Cond.code yX2_reigns cX2_reigns 3 (some .int)) := by rfl
theorem mk_15 : tbw 6067 = some (Cond.code yX2_reignOf cX2_reignOf 5 (some .int)) := by rfl
theorem mk_16 : tbw 6049 = some (Cond.code yX2_standInLine cX2_standInLine 5 none) := by rfl
theorem mk_17 : tbw 6063 = some (Cond.code yX2_begins cX2_begins 2 (some .boolean)) := by rfl
theorem mk_18 : tbw 6071 = some (Cond.code yX2_lasts cX2_lasts 3 (some .int)) := by rfl
theorem mk_19 : tbw 1172 = some (Cond.code yX3_init cX3_init 1 none) := by rfl
theorem mk_20 : tbw 4086 = some (Cond.code yX3_works cX3_works 8 (some .boolean)) := by rfl
theorem mk_21 : tbw 4091 = some (Cond.code yX3_joins cX3_joins 8 (some .boolean)) := by rfl
theorem mk_22 : tbw 1166 = some (Cond.code yX4_init cX4_init 2 none) := by rfl
theorem mk_23 : tbw 4068 = some (Cond.code yX4_looksOf cX4_looksOf 4 (some .int)) := by rfl
theorem mk_24 : tbw 4136 = some (Cond.code yX4_letsOf cX4_letsOf 3 (some .int)) := by rfl
theorem mk_25 : tbw 4108 = some (Cond.code yX4_asksOf cX4_asksOf 3 (some .int)) := by rfl
theorem mk_26 : tbw 4140 = some (Cond.code yX4_barsPainter cX4_barsPainter 3 (some .boolean)) := by rfl
theorem mk_27 : tbw 6021 = some (Cond.code yX4_ranksOf cX4_ranksOf 3 (some .int)) := by rfl
theorem mk_28 : tbw 6035 = some (Cond.code yX4_barsClaimant cX4_barsClaimant 3 (some .boolean)) := by rfl
theorem mk_29 : tbw 4072 = some (Cond.code yX4_scarOn cX4_scarOn 7 (some .int)) := by rfl
theorem mk_30 : tbw 4076 = some (Cond.code yX4_ask cX4_ask 3 none) := by rfl
theorem mk_31 : tbw 4112 = some (Cond.code yX4_askPainter cX4_askPainter 3 none) := by rfl
theorem mk_32 : tbw 6025 = some (Cond.code yX4_askClaimant cX4_askClaimant 5 none) := by rfl
theorem mk_33 : tbw 4081 = some (Cond.code yX4_tells cX4_tells 7 (some .boolean)) := by rfl
theorem mk_34 : tbw 1222 = some (Cond.code yX5_init cX5_init 3 none) := by rfl
theorem mk_35 : tbw 4129 = some (Cond.code yX5_seek cX5_seek 6 none) := by rfl
theorem mk_36 : tbw 4144 = some (Cond.code yX5_walk cX5_walk 6 none) := by rfl
theorem mk_37 : tbw 4157 = some (Cond.code yX5_mayPaint cX5_mayPaint 5 (some .boolean)) := by rfl
theorem mk_38 : tbw 4168 = some (Cond.code yX5_paintOver cX5_paintOver 5 none) := by rfl
theorem mk_39 : tbw 4177 = some (Cond.code yX5_isGood cX5_isGood 5 (some .boolean)) := by rfl
theorem mk_40 : tbw 4148 = some (Cond.code yX5_weigh cX5_weigh 5 none) := by rfl
theorem mk_41 : tbw 4153 = some (Cond.code yX5_isBetter cX5_isBetter 3 (some .boolean)) := by rfl
theorem mk_42 : tbw 2042 = some (Cond.code yX6_init cX6_init 3 none) := by rfl
theorem mk_43 : tbw 3111 = some (Cond.code yX6_faultIn cX6_faultIn 5 (some .int)) := by rfl
theorem mk_44 : tbw 3129 = some (Cond.code yX6_clearRow cX6_clearRow 3 none) := by rfl
theorem mk_45 : tbw 4000 = some (Cond.code yX6_readClause cX6_readClause 3 (some .boolean)) := by rfl
theorem mk_46 : tbw 3133 = some (Cond.code yX6_readOrder cX6_readOrder 3 (some .boolean)) := by rfl
theorem mk_47 : tbw 3235 = some (Cond.code yX6_readTimes cX6_readTimes 2 (some .boolean)) := by rfl
theorem mk_48 : tbw 4005 = some (Cond.code yX6_readIf cX6_readIf 3 (some .boolean)) := by rfl
theorem mk_49 : tbw 3195 = some (Cond.code yX6_readSumOf cX6_readSumOf 4 (some .boolean)) := by rfl
theorem mk_50 : tbw 4010 = some (Cond.code yX6_readTest cX6_readTest 5 (some .boolean)) := by rfl
theorem mk_51 : tbw 4014 = some (Cond.code yX6_readBoth cX6_readBoth 5 (some .boolean)) := by rfl
theorem mk_52 : tbw 4018 = some (Cond.code yX6_readPlain cX6_readPlain 5 (some .boolean)) := by rfl
theorem mk_53 : tbw 3199 = some (Cond.code yX6_readSum cX6_readSum 5 (some .boolean)) := by rfl
theorem mk_54 : tbw 3203 = some (Cond.code yX6_readTerm cX6_readTerm 5 (some .boolean)) := by rfl
theorem mk_55 : tbw 3207 = some (Cond.code yX6_readPart cX6_readPart 3 (some .boolean)) := by rfl
theorem mk_56 : tbw 3215 = some (Cond.code yX6_opens cX6_opens 2 (some .boolean)) := by rfl
theorem mk_57 : tbw 3211 = some (Cond.code yX6_isSign cX6_isSign 2 (some .boolean)) := by rfl
theorem mk_58 : tbw 3219 = some (Cond.code yX6_takes cX6_takes 3 (some .boolean)) := by rfl
theorem mk_59 : tbw 3230 = some (Cond.code yX6_takesWord cX6_takesWord 3 (some .boolean)) := by rfl
theorem mk_60 : tbw 3138 = some (Cond.code yX6_placeIn cX6_placeIn 5 (some .int)) := by rfl
theorem mk_61 : tbw 3190 = some (Cond.code yX6_isSame cX6_isSame 5 (some .boolean)) := by rfl
theorem mk_62 : tbw 3122 = some (Cond.code yX6_next cX6_next 1 none) := by rfl
theorem mk_63 : tbw 3125 = some (Cond.code yX6_kindOf cX6_kindOf 1 (some .int)) := by rfl
theorem mk_64 : tbw 1033 = some (Cond.code yX7_init cX7_init 1 none) := by rfl
theorem mk_65 : tbw 4047 = some (Cond.code yX7_takeFrom cX7_takeFrom 3 none) := by rfl
theorem mk_66 : tbw 3063 = some (Cond.code yX7_hasPainter cX7_hasPainter 2 (some .boolean)) := by rfl
theorem mk_67 : tbw 5004 = some (Cond.code yX7_hasLayer cX7_hasLayer 2 (some .boolean)) := by rfl
theorem mk_68 : tbw 6005 = some (Cond.code yX7_hasClaimant cX7_hasClaimant 2 (some .boolean)) := by rfl
theorem mk_69 : tbw 4056 = some (Cond.code yX7_ageIn cX7_ageIn 3 (some .int)) := by rfl
theorem mk_70 : tbw 4161 = some (Cond.code yX7_rests cX7_rests 5 (some .boolean)) := by rfl
theorem mk_71 : tbw 4060 = some (Cond.code yX7_seenAt cX7_seenAt 2 (some .int)) := by rfl
theorem mk_72 : tbw 4194 = some (Cond.code yX7_addCopy cX7_addCopy 1 none) := by rfl
theorem mk_73 : tbw 5092 = some (Cond.code yX7_nearOf cX7_nearOf 4 (some .int)) := by rfl
theorem mk_74 : tbw 6017 = some (Cond.code yX7_isAlive cX7_isAlive 4 (some .boolean)) := by rfl
theorem mk_75 : tbw 6030 = some (Cond.code yX7_childrenOf cX7_childrenOf 5 (some .int)) := by rfl
theorem mk_76 : tbw 4172 = some (Cond.code yX7_brushed cX7_brushed 8 (some .int)) := by rfl
theorem mk_77 : tbw 2076 = some (Cond.code yX8_init cX8_init 2 none) := by rfl
theorem mk_78 : tbw 5104 = some (Cond.code yX8_between cX8_between 5 (some .int)) := by rfl
theorem mk_79 : tbw 5116 = some (Cond.code yX8_weigh cX8_weigh 3 none) := by rfl
theorem mk_80 : tbw 5131 = some (Cond.code yX8_changed cX8_changed 1 (some .int)) := by rfl
theorem mk_81 : tbw 5156 = some (Cond.code yX8_waysInAll cX8_waysInAll 1 (some .int)) := by rfl
theorem mk_82 : tbw 5135 = some (Cond.code yX8_parentOf cX8_parentOf 3 (some .int)) := by rfl
theorem mk_83 : tbw 5164 = some (Cond.code yX8_datedBy cX8_datedBy 9 (some .int)) := by rfl
theorem mk_84 : tbw 5176 = some (Cond.code yX8_learn cX8_learn 7 none) := by rfl
theorem mk_85 : tbw 5180 = some (Cond.code yX8_needBehind cX8_needBehind 7 (some .int)) := by rfl
theorem mk_86 : tbw 5184 = some (Cond.code yX8_sameIn cX8_sameIn 6 (some .int)) := by rfl
theorem mk_87 : tbw 5108 = some (Cond.code yX8_toneIn cX8_toneIn 3 (some .int)) := by rfl
theorem mk_88 : tbw 5168 = some (Cond.code yX8_fromLayer cX8_fromLayer 5 (some .int)) := by rfl
theorem mk_89 : tbw 5121 = some (Cond.code yX8_weighSet cX8_weighSet 6 none) := by rfl
theorem mk_90 : tbw 5125 = some (Cond.code yX8_joinBranch cX8_joinBranch 8 none) := by rfl
theorem mk_91 : tbw 5138 = some (Cond.code yX8_fits cX8_fits 4 (some .boolean)) := by rfl
theorem mk_92 : tbw 5143 = some (Cond.code yX8_leastFrom cX8_leastFrom 6 (some .int)) := by rfl
theorem mk_93 : tbw 5148 = some (Cond.code yX8_comesFrom cX8_comesFrom 5 (some .boolean)) := by rfl
theorem mk_94 : tbw 1203 = some (Cond.code yX9_init cX9_init 3 none) := by rfl
theorem mk_95 : tbw 4184 = some (Cond.code yX9_paintNext cX9_paintNext 5 none) := by rfl
theorem mk_96 : tbw 4064 = some (Cond.code yX9_unlikeOf cX9_unlikeOf 4 (some .int)) := by rfl
theorem mk_97 : tbw 5012 = some (Cond.code yX9_farCell cX9_farCell 4 (some .int)) := by rfl
theorem mk_98 : tbw 4104 = some (Cond.code yX9_moneyBehind cX9_moneyBehind 4 (some .int)) := by rfl
theorem mk_99 : tbw 5192 = some (Cond.code yX9_whoCan cX9_whoCan 4 (some .int)) := by rfl
theorem mk_100 : tbw 5212 = some (Cond.code yX9_rowsInto cX9_rowsInto 6 (some .int)) := by rfl
theorem mk_101 : tbw 5040 = some (Cond.code yX9_driftOf cX9_driftOf 8 (some .int)) := by rfl
theorem mk_102 : tbw 5059 = some (Cond.code yX9_undoingPair cX9_undoingPair 5 (some .int)) := by rfl
theorem mk_103 : tbw 5220 = some (Cond.code yX9_firstTones cX9_firstTones 8 (some .int)) := by rfl
theorem mk_104 : tbw 5063 = some (Cond.code yX9_aimAt cX9_aimAt 4 none) := by rfl
theorem mk_105 : tbw 5196 = some (Cond.code yX9_comesOut cX9_comesOut 8 (some .boolean)) := by rfl
theorem mk_106 : tbw 5045 = some (Cond.code yX9_carried cX9_carried 7 (some .int)) := by rfl
theorem mk_107 : tbw 5067 = some (Cond.code yX9_undo cX9_undo 6 (some .boolean)) := by rfl
theorem mk_108 : tbw 1133 = some (Cond.code yX10_init cX10_init 3 none) := by rfl
theorem mk_109 : tbw 3118 = some (Cond.code yX10_clear cX10_clear 1 none) := by rfl
theorem mk_110 : tbw 3223 = some (Cond.code yX10_add cX10_add 3 none) := by rfl
theorem mk_111 : tbw 4024 = some (Cond.code yX10_jumpHere cX10_jumpHere 2 none) := by rfl
theorem mk_112 : tbw 4029 = some (Cond.code yX10_trimmed cX10_trimmed 2 (some (.object "AgingPortrait$Text"))) := by rfl
theorem mk_113 : tbw 1025 = some (Cond.code yX11_init cX11_init 7 none) := by rfl
theorem mk_114 : tbw 3034 = some (Cond.code yX11_first cX11_first 4 (some .int)) := by rfl
theorem mk_115 : tbw 3055 = some (Cond.code yX11_painter cX11_painter 5 (some .int)) := by rfl
theorem mk_116 : tbw 3059 = some (Cond.code yX11_err cX11_err 6 (some .int)) := by rfl
theorem mk_117 : tbw 3068 = some (Cond.code yX11_of cX11_of 3 (some .int)) := by rfl
theorem mk_118 : tbw 3072 = some (Cond.code yX11_terms cX11_terms 4 (some .int)) := by rfl
theorem mk_119 : tbw 3079 = some (Cond.code yX11_scar cX11_scar 5 (some .int)) := by rfl
theorem mk_120 : tbw 3083 = some (Cond.code yX11_heal cX11_heal 3 (some .int)) := by rfl
theorem mk_121 : tbw 3087 = some (Cond.code yX11_feed cX11_feed 6 (some .int)) := by rfl
theorem mk_122 : tbw 3095 = some (Cond.code yX11_end cX11_end 2 (some .int)) := by rfl
theorem mk_123 : tbw 3099 = some (Cond.code yX11_row cX11_row 3 (some .int)) := by rfl
theorem mk_124 : tbw 3103 = some (Cond.code yX11_flakes cX11_flakes 1 (some .int)) := by rfl
theorem mk_125 : tbw 3107 = some (Cond.code yX11_law cX11_law 2 (some .int)) := by rfl
theorem mk_126 : tbw 4039 = some (Cond.code yX11_orders cX11_orders 3 (some .int)) := by rfl
theorem mk_127 : tbw 4201 = some (Cond.code yX11_fault cX11_fault 1 (some .int)) := by rfl
theorem mk_128 : tbw 4205 = some (Cond.code yX11_stopped cX11_stopped 1 (some .int)) := by rfl
theorem mk_129 : tbw 4209 = some (Cond.code yX11_force cX11_force 3 (some .int)) := by rfl
theorem mk_130 : tbw 4213 = some (Cond.code yX11_looks cX11_looks 4 (some .int)) := by rfl
theorem mk_131 : tbw 4220 = some (Cond.code yX11_asks cX11_asks 4 (some .int)) := by rfl
theorem mk_132 : tbw 4229 = some (Cond.code yX11_paint cX11_paint 3 (some .int)) := by rfl
theorem mk_133 : tbw 4236 = some (Cond.code yX11_scrape cX11_scrape 1 (some .int)) := by rfl
theorem mk_134 : tbw 5000 = some (Cond.code yX11_tone cX11_tone 3 (some .int)) := by rfl
theorem mk_135 : tbw 5008 = some (Cond.code yX11_layer cX11_layer 3 (some .int)) := by rfl
theorem mk_136 : tbw 5017 = some (Cond.code yX11_unlawful cX11_unlawful 2 (some .int)) := by rfl
theorem mk_137 : tbw 5021 = some (Cond.code yX11_money cX11_money 2 (some .int)) := by rfl
theorem mk_138 : tbw 5027 = some (Cond.code yX11_broke cX11_broke 2 (some .int)) := by rfl
theorem mk_139 : tbw 5031 = some (Cond.code yX11_plan cX11_plan 4 (some .int)) := by rfl
theorem mk_140 : tbw 5036 = some (Cond.code yX11_drift cX11_drift 5 (some .int)) := by rfl
theorem mk_141 : tbw 5055 = some (Cond.code yX11_undoing cX11_undoing 2 (some .int)) := by rfl
theorem mk_142 : tbw 5071 = some (Cond.code yX11_copy cX11_copy 1 (some .int)) := by rfl
theorem mk_143 : tbw 5076 = some (Cond.code yX11_touch cX11_touch 5 (some .int)) := by rfl
theorem mk_144 : tbw 5080 = some (Cond.code yX11_burn cX11_burn 2 (some .int)) := by rfl
theorem mk_145 : tbw 5084 = some (Cond.code yX11_near cX11_near 2 (some .int)) := by rfl
theorem mk_146 : tbw 5096 = some (Cond.code yX11_like cX11_like 3 (some .int)) := by rfl
theorem mk_147 : tbw 5112 = some (Cond.code yX11_tree cX11_tree 3 (some .int)) := by rfl
theorem mk_148 : tbw 5152 = some (Cond.code yX11_trees cX11_trees 1 (some .int)) := by rfl
theorem mk_149 : tbw 5160 = some (Cond.code yX11_dated cX11_dated 3 (some .int)) := by rfl
theorem mk_150 : tbw 5172 = some (Cond.code yX11_know cX11_know 2 (some .int)) := by rfl
theorem mk_151 : tbw 5188 = some (Cond.code yX11_who cX11_who 2 (some .int)) := by rfl
theorem mk_152 : tbw 5200 = some (Cond.code yX11_forge cX11_forge 5 (some .int)) := by rfl
theorem mk_153 : tbw 5204 = some (Cond.code yX11_skipped cX11_skipped 2 (some .int)) := by rfl
theorem mk_154 : tbw 5208 = some (Cond.code yX11_missing cX11_missing 3 (some .int)) := by rfl
theorem mk_155 : tbw 5216 = some (Cond.code yX11_was cX11_was 2 (some .int)) := by rfl
theorem mk_156 : tbw 5224 = some (Cond.code yX11_ways cX11_ways 4 (some .long)) := by rfl
theorem mk_157 : tbw 5234 = some (Cond.code yX11_claimant cX11_claimant 6 (some .int)) := by rfl
theorem mk_158 : tbw 6001 = some (Cond.code yX11_claim cX11_claim 6 (some .int)) := by rfl
theorem mk_159 : tbw 6009 = some (Cond.code yX11_born cX11_born 3 (some .int)) := by rfl
theorem mk_160 : tbw 6013 = some (Cond.code yX11_stands cX11_stands 4 (some .int)) := by rfl
theorem mk_161 : tbw 6040 = some (Cond.code yX11_ruler cX11_ruler 2 (some .int)) := by rfl
theorem mk_162 : tbw 6055 = some (Cond.code yX11_reign cX11_reign 3 (some .int)) := by rfl
theorem mk_163 : tbw 6075 = some (Cond.code yX11_vacant cX11_vacant 3 (some .int)) := by rfl
theorem mk_164 : tbw 6079 = some (Cond.code yX11_line cX11_line 3 (some .int)) := by rfl
theorem mk_165 : tbw 6084 = some (Cond.code yX11_century cX11_century 3 (some .int)) := by rfl
theorem mk_166 : tbw 6107 = some (Cond.code yX11_drawn cX11_drawn 2 (some .int)) := by rfl
theorem mk_167 : tbw 6116 = some (Cond.code yX11_image cX11_image 2 (some .int)) := by rfl
theorem mk_168 : tbw 6121 = some (Cond.code yX11_back cX11_back 2 (some .int)) := by rfl
theorem mk_169 : tbw 6125 = some (Cond.code yX11_count cX11_count 2 (some .int)) := by rfl
theorem mk_170 : tbw 6129 = some (Cond.code yX11_status cX11_status 1 (some .int)) := by rfl
theorem mk_171 : tbw 3051 = some (Cond.code yX11_answer cX11_answer 2 (some .int)) := by rfl
theorem mk_172 : tbw 3044 = some (Cond.code yX11_refuse cX11_refuse 3 (some .int)) := by rfl
theorem mk_173 : tbw 3091 = some (Cond.code yX11_putBytes cX11_putBytes 3 none) := by rfl
theorem mk_174 : tbw 5088 = some (Cond.code yX11_heirs cX11_heirs 5 (some .int)) := by rfl
theorem mk_175 : tbw 5100 = some (Cond.code yX11_isRootOrCopy cX11_isRootOrCopy 2 (some .boolean)) := by rfl
theorem mk_176 : tbw 3075 = some (Cond.code yX11_highestTerm cX11_highestTerm 1 (some .int)) := by rfl
theorem mk_177 : tbw 3047 = some (Cond.code yX11_inside cX11_inside 2 (some .boolean)) := by rfl
theorem mk_178 : tbw 3037 = some (Cond.code yX11_isCell cX11_isCell 1 (some .boolean)) := by rfl
theorem mk_179 : tbw 3040 = some (Cond.code yX11_isTone cX11_isTone 1 (some .boolean)) := by rfl
theorem mk_180 : tbw 5237 = some (Cond.code yX11_canBeCopy cX11_canBeCopy 1 (some .boolean)) := by rfl
theorem mk_181 : tbw 4225 = some (Cond.code yX11_bit cX11_bit 1 (some .int)) := by rfl
theorem mk_182 : tbw 5048 = some (Cond.code yX11_lowestIn cX11_lowestIn 2 (some .int)) := by rfl
theorem mk_183 : tbw 5051 = some (Cond.code yX11_highestIn cX11_highestIn 2 (some .int)) := by rfl
theorem mk_184 : tbw 4096 = some (Cond.code yX11_nearest cX11_nearest 3 (some .int)) := by rfl
theorem mk_185 : tbw 6134 = some (Cond.code yX12_init cX12_init 1 none) := by rfl
theorem mk_186 : tbw 7108 = some (Cond.code yX12_in cX12_in 6 (some .boolean)) := by rfl
theorem mk_187 : tbw 9017 = some (Cond.code yX12_is cX12_is 2 (some .boolean)) := by rfl
theorem mk_188 : tbw 8185 = some (Cond.code yX12_size cX12_size 1 (some .int)) := by rfl
theorem mk_189 : tbw 8092 = some (Cond.code yX12_within cX12_within 4 (some .int)) := by rfl
theorem mk_190 : tbw 7112 = some (Cond.code yX12_tell cX12_tell 2 (some .int)) := by rfl
theorem mk_191 : tbw 7132 = some (Cond.code yX12_change cX12_change 4 (some .int)) := by rfl
theorem mk_192 : tbw 7105 = some (Cond.code yX12_image cX12_image 3 (some .int)) := by rfl
theorem mk_193 : tbw 7116 = some (Cond.code yX12_back cX12_back 3 (some .int)) := by rfl
theorem mk_194 : tbw 7123 = some (Cond.code yX12_isCell cX12_isCell 1 (some .boolean)) := by rfl
theorem mk_195 : tbw 7127 = some (Cond.code yX12_isTone cX12_isTone 1 (some .boolean)) := by rfl
theorem mk_196 : tbw 7169 = some (Cond.code yX12_isYear cX12_isYear 1 (some .boolean)) := by rfl
theorem mk_197 : tbw 8120 = some (Cond.code yX12_years cX12_years 1 (some .int)) := by rfl
theorem mk_198 : tbw 8197 = some (Cond.code yX12_isLayer cX12_isLayer 2 (some .boolean)) := by rfl
theorem mk_199 : tbw 7147 = some (Cond.code yX12_isPainter cX12_isPainter 2 (some .boolean)) := by rfl
theorem mk_200 : tbw 9041 = some (Cond.code yX12_isCopy cX12_isCopy 2 (some .boolean)) := by rfl
theorem mk_201 : tbw 9142 = some (Cond.code yX12_isClaimant cX12_isClaimant 2 (some .boolean)) := by rfl
theorem mk_202 : tbw 8124 = some (Cond.code yX12_toneAt cX12_toneAt 3 (some .int)) := by rfl
theorem mk_203 : tbw 8116 = some (Cond.code yX12_seen cX12_seen 2 (some .int)) := by rfl
theorem mk_204 : tbw 7120 = some (Cond.code yX12_first cX12_first 3 (some .int)) := by rfl
theorem mk_205 : tbw 7136 = some (Cond.code yX12_painter cX12_painter 6 (some .int)) := by rfl
theorem mk_206 : tbw 7141 = some (Cond.code yX12_err cX12_err 4 (some .int)) := by rfl
theorem mk_207 : tbw 7151 = some (Cond.code yX12_of cX12_of 3 (some .int)) := by rfl
theorem mk_208 : tbw 7159 = some (Cond.code yX12_isTerm cX12_isTerm 2 (some .boolean)) := by rfl
theorem mk_209 : tbw 7156 = some (Cond.code yX12_terms cX12_terms 3 (some .int)) := by rfl
theorem mk_210 : tbw 7166 = some (Cond.code yX12_scar cX12_scar 5 (some .int)) := by rfl
theorem mk_211 : tbw 7173 = some (Cond.code yX12_heal cX12_heal 3 (some .int)) := by rfl
theorem mk_212 : tbw 7177 = some (Cond.code yX12_row cX12_row 4 (some .int)) := by rfl
theorem mk_213 : tbw 7181 = some (Cond.code yX12_flakes cX12_flakes 1 (some .int)) := by rfl
theorem mk_214 : tbw 7189 = some (Cond.code yX12_four cX12_four 3 none) := by rfl
theorem mk_215 : tbw 7185 = some (Cond.code yX12_feed cX12_feed 6 (some .int)) := by rfl
theorem mk_216 : tbw 7193 = some (Cond.code yX12_end cX12_end 2 (some .int)) := by rfl
theorem mk_217 : tbw 7216 = some (Cond.code yX12_isSmall cX12_isSmall 1 (some .boolean)) := by rfl
theorem mk_218 : tbw 7219 = some (Cond.code yX12_isDigit cX12_isDigit 1 (some .boolean)) := by rfl
theorem mk_219 : tbw 7209 = some (Cond.code yX12_begin cX12_begin 1 none) := by rfl
theorem mk_220 : tbw 7213 = some (Cond.code yX12_next cX12_next 1 none) := by rfl
theorem mk_221 : tbw 7233 = some (Cond.code yX12_isWord cX12_isWord 3 (some .boolean)) := by rfl
theorem mk_222 : tbw 8014 = some (Cond.code yX12_isSign cX12_isSign 2 (some .boolean)) := by rfl
theorem mk_223 : tbw 7237 = some (Cond.code yX12_must cX12_must 2 none) := by rfl
theorem mk_224 : tbw 8043 = some (Cond.code yX12_number cX12_number 6 (some .int)) := by rfl
theorem mk_225 : tbw 7197 = some (Cond.code yX12_fault cX12_fault 1 (some .int)) := by rfl
theorem mk_226 : tbw 8039 = some (Cond.code yX12_emit cX12_emit 3 none) := by rfl
theorem mk_227 : tbw 8010 = some (Cond.code yX12_push cX12_push 3 none) := by rfl
theorem mk_228 : tbw 8050 = some (Cond.code yX12_binds cX12_binds 1 (some .int)) := by rfl
theorem mk_229 : tbw 8054 = some (Cond.code yX12_settle cX12_settle 2 none) := by rfl
theorem mk_230 : tbw 8058 = some (Cond.code yX12_inner cX12_inner 3 (some .int)) := by rfl
theorem mk_231 : tbw 8062 = some (Cond.code yX12_isCompared cX12_isCompared 2 (some .boolean)) := by rfl
theorem mk_232 : tbw 8030 = some (Cond.code yX12_partAt cX12_partAt 3 (some .int)) := by rfl
theorem mk_233 : tbw 8026 = some (Cond.code yX12_orderPartAt cX12_orderPartAt 3 (some .int)) := by rfl
theorem mk_234 : tbw 8018 = some (Cond.code yX12_openBracket cX12_openBracket 2 none) := by rfl
theorem mk_235 : tbw 8035 = some (Cond.code yX12_leaf cX12_leaf 4 none) := by rfl
theorem mk_236 : tbw 8022 = some (Cond.code yX12_readPart cX12_readPart 4 (some .int)) := by rfl
theorem mk_237 : tbw 8005 = some (Cond.code yX12_readPlain cX12_readPlain 1 (some .int)) := by rfl
theorem mk_238 : tbw 8047 = some (Cond.code yX12_behindSum cX12_behindSum 4 (some .int)) := by rfl
theorem mk_239 : tbw 8070 = some (Cond.code yX12_behindTest cX12_behindTest 2 (some .int)) := by rfl
theorem mk_240 : tbw 8001 = some (Cond.code yX12_readExpression cX12_readExpression 3 none) := by rfl
theorem mk_241 : tbw 7229 = some (Cond.code yX12_readClause cX12_readClause 4 none) := by rfl
theorem mk_242 : tbw 7205 = some (Cond.code yX12_beginText cX12_beginText 2 none) := by rfl
theorem mk_243 : tbw 8077 = some (Cond.code yX12_endText cX12_endText 1 none) := by rfl
theorem mk_244 : tbw 7201 = some (Cond.code yX12_law cX12_law 3 (some .int)) := by rfl
theorem mk_245 : tbw 8081 = some (Cond.code yX12_force cX12_force 2 (some .int)) := by rfl
theorem mk_246 : tbw 8128 = some (Cond.code yX12_reckon cX12_reckon 6 (some .long)) := by rfl
theorem mk_247 : tbw 8112 = some (Cond.code yX12_reckonAll cX12_reckonAll 7 none) := by rfl
theorem mk_248 : tbw 8108 = some (Cond.code yX12_isSo cX12_isSo 2 (some .boolean)) := by rfl
theorem mk_249 : tbw 8104 = some (Cond.code yX12_tells cX12_tells 8 (some .long)) := by rfl
theorem mk_250 : tbw 8100 = some (Cond.code yX12_setNone cX12_setNone 3 none) := by rfl
theorem mk_251 : tbw 8089 = some (Cond.code yX12_ageIn cX12_ageIn 2 (some .int)) := by rfl
theorem mk_252 : tbw 8096 = some (Cond.code yX12_looksOf cX12_looksOf 7 (some .int)) := by rfl
theorem mk_253 : tbw 8134 = some (Cond.code yX12_letsOf cX12_letsOf 3 (some .int)) := by rfl
theorem mk_254 : tbw 8146 = some (Cond.code yX12_setPainter cX12_setPainter 3 none) := by rfl
theorem mk_255 : tbw 8142 = some (Cond.code yX12_asksOf cX12_asksOf 3 (some .int)) := by rfl
theorem mk_256 : tbw 8150 = some (Cond.code yX12_isBarred cX12_isBarred 3 (some .boolean)) := by rfl
theorem mk_257 : tbw 8085 = some (Cond.code yX12_looks cX12_looks 4 (some .int)) := by rfl
theorem mk_258 : tbw 8138 = some (Cond.code yX12_asks cX12_asks 4 (some .int)) := by rfl
theorem mk_259 : tbw 8166 = some (Cond.code yX12_layLooks cX12_layLooks 3 none) := by rfl
theorem mk_260 : tbw 8178 = some (Cond.code yX12_painted cX12_painted 7 (some .int)) := by rfl
theorem mk_261 : tbw 8174 = some (Cond.code yX12_paintPaper cX12_paintPaper 6 none) := by rfl
theorem mk_262 : tbw 8170 = some (Cond.code yX12_loadPaper cX12_loadPaper 4 none) := by rfl
theorem mk_263 : tbw 8182 = some (Cond.code yX12_unlikePaper cX12_unlikePaper 5 (some .int)) := by rfl
theorem mk_264 : tbw 8205 = some (Cond.code yX12_unlikeOf cX12_unlikeOf 2 (some .int)) := by rfl
theorem mk_265 : tbw 8162 = some (Cond.code yX12_rests cX12_rests 5 (some .boolean)) := by rfl
theorem mk_266 : tbw 8158 = some (Cond.code yX12_paintNow cX12_paintNow 4 (some .int)) := by rfl
theorem mk_267 : tbw 8154 = some (Cond.code yX12_paint cX12_paint 2 (some .int)) := by rfl
theorem mk_268 : tbw 8189 = some (Cond.code yX12_scrape cX12_scrape 1 (some .int)) := by rfl
theorem mk_269 : tbw 8193 = some (Cond.code yX12_tone cX12_tone 3 (some .int)) := by rfl
theorem mk_270 : tbw 8213 = some (Cond.code yX12_tooFar cX12_tooFar 4 (some .int)) := by rfl
theorem mk_271 : tbw 8209 = some (Cond.code yX12_tooFarIn cX12_tooFarIn 2 (some .int)) := by rfl
theorem mk_272 : tbw 8201 = some (Cond.code yX12_layer cX12_layer 3 (some .int)) := by rfl
theorem mk_273 : tbw 8217 = some (Cond.code yX12_unlawful cX12_unlawful 2 (some .int)) := by rfl
theorem mk_274 : tbw 8225 = some (Cond.code yX12_moneyBehind cX12_moneyBehind 4 (some .int)) := by rfl
theorem mk_275 : tbw 8221 = some (Cond.code yX12_money cX12_money 2 (some .int)) := by rfl
theorem mk_276 : tbw 8230 = some (Cond.code yX12_broke cX12_broke 2 (some .int)) := by rfl
theorem mk_277 : tbw 9006 = some (Cond.code yX12_restsInRow cX12_restsInRow 6 (some .boolean)) := by rfl
theorem mk_278 : tbw 8238 = some (Cond.code yX12_goThrough cX12_goThrough 6 none) := by rfl
theorem mk_279 : tbw 9002 = some (Cond.code yX12_weigh cX12_weigh 11 none) := by rfl
theorem mk_280 : tbw 8234 = some (Cond.code yX12_plan cX12_plan 4 (some .int)) := by rfl
theorem mk_281 : tbw 9014 = some (Cond.code yX12_driftOf cX12_driftOf 8 (some .int)) := by rfl
theorem mk_282 : tbw 9010 = some (Cond.code yX12_drift cX12_drift 7 (some .int)) := by rfl
theorem mk_283 : tbw 9021 = some (Cond.code yX12_undoing cX12_undoing 7 (some .int)) := by rfl
theorem mk_284 : tbw 9025 = some (Cond.code yX12_isSame cX12_isSame 5 (some .boolean)) := by rfl
theorem mk_285 : tbw 9033 = some (Cond.code yX12_copyNow cX12_copyNow 3 (some .int)) := by rfl
theorem mk_286 : tbw 9029 = some (Cond.code yX12_copy cX12_copy 1 (some .int)) := by rfl
theorem mk_287 : tbw 9037 = some (Cond.code yX12_touch cX12_touch 4 (some .int)) := by rfl
theorem mk_288 : tbw 9045 = some (Cond.code yX12_burn cX12_burn 2 (some .int)) := by rfl
theorem mk_289 : tbw 9057 = some (Cond.code yX12_apart cX12_apart 5 (some .int)) := by rfl
theorem mk_290 : tbw 9053 = some (Cond.code yX12_nearOf cX12_nearOf 2 (some .int)) := by rfl
theorem mk_291 : tbw 9049 = some (Cond.code yX12_near cX12_near 6 (some .int)) := by rfl
theorem mk_292 : tbw 9066 = some (Cond.code yX12_pictureAt cX12_pictureAt 2 (some .int)) := by rfl
theorem mk_293 : tbw 9062 = some (Cond.code yX12_like cX12_like 4 (some .int)) := by rfl
theorem mk_294 : tbw 9078 = some (Cond.code yX12_isTree cX12_isTree 5 (some .boolean)) := by rfl
theorem mk_295 : tbw 9074 = some (Cond.code yX12_findTree cX12_findTree 7 none) := by rfl
theorem mk_296 : tbw 9070 = some (Cond.code yX12_tree cX12_tree 2 (some .int)) := by rfl
theorem mk_297 : tbw 9082 = some (Cond.code yX12_trees cX12_trees 1 (some .int)) := by rfl
theorem mk_298 : tbw 9086 = some (Cond.code yX12_dated cX12_dated 9 (some .int)) := by rfl
theorem mk_299 : tbw 9098 = some (Cond.code yX12_worst cX12_worst 7 (some .int)) := by rfl
theorem mk_300 : tbw 9094 = some (Cond.code yX12_findDepths cX12_findDepths 5 none) := by rfl
theorem mk_301 : tbw 9090 = some (Cond.code yX12_know cX12_know 4 (some .int)) := by rfl
theorem mk_302 : tbw 9106 = some (Cond.code yX12_whoOf cX12_whoOf 4 (some .int)) := by rfl
theorem mk_303 : tbw 9102 = some (Cond.code yX12_who cX12_who 2 (some .int)) := by rfl
theorem mk_304 : tbw 9110 = some (Cond.code yX12_forge cX12_forge 4 (some .int)) := by rfl
theorem mk_305 : tbw 9114 = some (Cond.code yX12_skipped cX12_skipped 2 (some .int)) := by rfl
theorem mk_306 : tbw 9118 = some (Cond.code yX12_missing cX12_missing 8 (some .int)) := by rfl
theorem mk_307 : tbw 9130 = some (Cond.code yX12_wasOf cX12_wasOf 6 (some .int)) := by rfl
theorem mk_308 : tbw 9126 = some (Cond.code yX12_layAll cX12_layAll 2 none) := by rfl
theorem mk_309 : tbw 9122 = some (Cond.code yX12_was cX12_was 2 (some .int)) := by rfl
theorem mk_310 : tbw 9134 = some (Cond.code yX12_ways cX12_ways 7 (some .long)) := by rfl
theorem mk_311 : tbw 9138 = some (Cond.code yX12_claimant cX12_claimant 7 (some .int)) := by rfl
theorem mk_312 : tbw 9151 = some (Cond.code yX12_ofClaimant cX12_ofClaimant 3 (some .int)) := by rfl
theorem mk_313 : tbw 9146 = some (Cond.code yX12_claim cX12_claim 5 (some .int)) := by rfl
theorem mk_314 : tbw 9155 = some (Cond.code yX12_born cX12_born 3 (some .int)) := by rfl
theorem mk_315 : tbw 9163 = some (Cond.code yX12_isAlive cX12_isAlive 3 (some .boolean)) := by rfl
theorem mk_316 : tbw 9175 = some (Cond.code yX12_childrenOf cX12_childrenOf 5 (some .int)) := by rfl
theorem mk_317 : tbw 9171 = some (Cond.code yX12_setClaimant cX12_setClaimant 4 none) := by rfl
theorem mk_318 : tbw 9167 = some (Cond.code yX12_ranks cX12_ranks 3 (some .int)) := by rfl
theorem mk_319 : tbw 9179 = some (Cond.code yX12_isOut cX12_isOut 3 (some .boolean)) := by rfl
theorem mk_320 : tbw 9159 = some (Cond.code yX12_stands cX12_stands 4 (some .int)) := by rfl
theorem mk_321 : tbw 9187 = some (Cond.code yX12_findRulers cX12_findRulers 7 none) := by rfl
theorem mk_322 : tbw 9183 = some (Cond.code yX12_ruler cX12_ruler 2 (some .int)) := by rfl
theorem mk_323 : tbw 9191 = some (Cond.code yX12_reign cX12_reign 6 (some .int)) := by rfl
theorem mk_324 : tbw 9195 = some (Cond.code yX12_vacant cX12_vacant 3 (some .int)) := by rfl
theorem mk_325 : tbw 9199 = some (Cond.code yX12_line cX12_line 7 (some .int)) := by rfl
theorem mk_326 : tbw 9222 = some (Cond.code yX12_readSum cX12_readSum 2 none) := by rfl
theorem mk_327 : tbw 9211 = some (Cond.code yX12_readHead cX12_readHead 3 (some .int)) := by rfl
theorem mk_328 : tbw 9207 = some (Cond.code yX12_readOrder cX12_readOrder 3 none) := by rfl
theorem mk_329 : tbw 9233 = some (Cond.code yX12_setNow cX12_setNow 1 none) := by rfl
theorem mk_330 : tbw 9237 = some (Cond.code yX12_sumOf cX12_sumOf 2 (some .long)) := by rfl
theorem mk_331 : tbw 9229 = some (Cond.code yX12_run cX12_run 4 (some .int)) := by rfl
theorem mk_332 : tbw 10001 = some (Cond.code yX12_act cX12_act 5 (some .int)) := by rfl
theorem mk_333 : tbw 10005 = some (Cond.code yX12_touchNow cX12_touchNow 9 (some .int)) := by rfl
theorem mk_334 : tbw 9203 = some (Cond.code yX12_orders cX12_orders 5 (some .int)) := by rfl
theorem mk_335 : tbw 10009 = some (Cond.code yX12_stopped cX12_stopped 1 (some .int)) := by rfl
theorem mk_336 : tbw 10018 = some (Cond.code yX12_draw cX12_draw 2 (some .int)) := by rfl
theorem mk_337 : tbw 10013 = some (Cond.code yX12_century cX12_century 8 (some .int)) := by rfl
theorem mk_338 : tbw 10025 = some (Cond.code yX12_drawn cX12_drawn 2 (some .int)) := by rfl
theorem mk_339 : tbw 10030 = some (Cond.code yX12_count cX12_count 2 (some .int)) := by rfl
theorem mk_340 : tbw 10036 = some (Cond.code yX12_status cX12_status 1 (some .int)) := by rfl
theorem mk_341 : tbw 5227 = some (Cond.code yJ6_bitCount_0f7a4 cJ6_bitCount_0f7a4 1 (some .int)) := by rfl
theorem mk_342 : tbw 4100 = some (Cond.code yJ9_abs_0f7a4 cJ9_abs_0f7a4 1 (some .int)) := by rfl
theorem mk_343 : tbw 4164 = some (Cond.code yJ9_max_7cf53 cJ9_max_7cf53 2 (some .int)) := by rfl
theorem mk_344 : tbw 3114 = some (Cond.code yJ9_min_7cf53 cJ9_min_7cf53 2 (some .int)) := by rfl
theorem mk_345 : tbw 3142 = some (Cond.code yJ0_length_8abf5 cJ0_length_8abf5 1 (some .int)) := by rfl
theorem mk_346 : tbw 3152 = some (Cond.code yJ0_charAt_5068e cJ0_charAt_5068e 2 (some .char)) := by rfl
theorem mk_347 : tbw 3146 = some (Cond.code yJ0_coder_7d493 cJ0_coder_7d493 1 (some .byte)) := by rfl
theorem mk_348 : tbw 3156 = some (Cond.code yJ0_isLatin1_aae02 cJ0_isLatin1_aae02 1 (some .boolean)) := by rfl
theorem mk_349 : tbw 3162 = some (Cond.code yJ0_checkIndex_df160 cJ0_checkIndex_df160 2 none) := by rfl
theorem mk_350 : tbw 3159 = some (Cond.code yJ1_charAt_3b067 cJ1_charAt_3b067 2 (some .char)) := by rfl
theorem mk_351 : tbw 3180 = some (Cond.code yJ2_getChar_3b067 cJ2_getChar_3b067 2 (some .char)) := by rfl
theorem mk_352 : tbw 3176 = some (Cond.code yJ2_length_9d52b cJ2_length_9d52b 1 (some .int)) := by rfl
theorem mk_353 : tbw 3170 = some (Cond.code yJ2_charAt_3b067 cJ2_charAt_3b067 2 (some .char)) := by rfl
theorem mk_354 : tbw 3173 = some (Cond.code yJ2_checkIndex_2214a cJ2_checkIndex_2214a 2 none) := by rfl
theorem mk_355 : tbw 3167 = some (Cond.code yJ3_checkIndex_8e157 cJ3_checkIndex_8e157 3 (some .int)) := by rfl
def MCD (m : Nat) : Prop := Cond.code (mtb m).2.1 (mtb m).1 (inf m).1 (mtb m).2.2.1 ∈ TB
theorem mcd_0 : ∀ m, 0 ≤ m → m < 40 → MCD m := by
  intro m h1 h2
  match m, h1, h2 with
  | 0, _, _ => exact tbg mk_0 rfl
  | 1, _, _ => exact tbg mk_1 rfl
  | 2, _, _ => exact tbg mk_2 rfl
  | 3, _, _ => exact tbg mk_3 rfl
  | 4, _, _ => exact tbg mk_4 rfl
  | 5, _, _ => exact tbg mk_5 rfl
  | 6, _, _ => exact tbg mk_6 rfl
  | 7, _, _ => exact tbg mk_7 rfl
  | 8, _, _ => exact tbg mk_8 rfl
  | 9, _, _ => exact tbg mk_9 rfl
  | 10, _, _ => exact tbg mk_10 rfl
  | 11, _, _ => exact tbg mk_11 rfl
  | 12, _, _ => exact tbg mk_12 rfl
  | 13, _, _ => exact tbg mk_13 rfl
  | 14, _, _ => exact tbg mk_14 rfl
  | 15, _, _ => exact tbg mk_15 rfl
  | 16, _, _ => exact tbg mk_16 rfl
  | 17, _, _ => exact tbg mk_17 rfl
  | 18, _, _ => exact tbg mk_18 rfl
  | 19, _, _ => exact tbg mk_19 rfl
  | 20, _, _ => exact tbg mk_20 rfl
  | 21, _, _ => exact tbg mk_21 rfl
  | 22, _, _ => exact tbg mk_22 rfl
  | 23, _, _ => exact tbg mk_23 rfl
  | 24, _, _ => exact tbg mk_24 rfl
  | 25, _, _ => exact tbg mk_25 rfl
  | 26, _, _ => exact tbg mk_26 rfl
  | 27, _, _ => exact tbg mk_27 rfl
  | 28, _, _ => exact tbg mk_28 rfl
  | 29, _, _ => exact tbg mk_29 rfl
  | 30, _, _ => exact tbg mk_30 rfl
  | 31, _, _ => exact tbg mk_31 rfl
  | 32, _, _ => exact tbg mk_32 rfl
  | 33, _, _ => exact tbg mk_33 rfl
  | 34, _, _ => exact tbg mk_34 rfl
  | 35, _, _ => exact tbg mk_35 rfl
  | 36, _, _ => exact tbg mk_36 rfl
  | 37, _, _ => exact tbg mk_37 rfl
  | 38, _, _ => exact tbg mk_38 rfl
  | 39, _, _ => exact tbg mk_39 rfl
  | n + 40, _, h2 => exact absurd h2 (by omega)
theorem mcd_40 : ∀ m, 40 ≤ m → m < 80 → MCD m := by
  intro m h1 h2
  match m, h1, h2 with
  | 40, _, _ => exact tbg mk_40 rfl
  | 41, _, _ => exact tbg mk_41 rfl
  | 42, _, _ => exact tbg mk_42 rfl
  | 43, _, _ => exact tbg mk_43 rfl
  | 44, _, _ => exact tbg mk_44 rfl
  | 45, _, _ => exact tbg mk_45 rfl
  | 46, _, _ => exact tbg mk_46 rfl
  | 47, _, _ => exact tbg mk_47 rfl
  | 48, _, _ => exact tbg mk_48 rfl
  | 49, _, _ => exact tbg mk_49 rfl
  | 50, _, _ => exact tbg mk_50 rfl
  | 51, _, _ => exact tbg mk_51 rfl
  | 52, _, _ => exact tbg mk_52 rfl
  | 53, _, _ => exact tbg mk_53 rfl
  | 54, _, _ => exact tbg mk_54 rfl
  | 55, _, _ => exact tbg mk_55 rfl
  | 56, _, _ => exact tbg mk_56 rfl
  | 57, _, _ => exact tbg mk_57 rfl
  | 58, _, _ => exact tbg mk_58 rfl
  | 59, _, _ => exact tbg mk_59 rfl
  | 60, _, _ => exact tbg mk_60 rfl
  | 61, _, _ => exact tbg mk_61 rfl
  | 62, _, _ => exact tbg mk_62 rfl
  | 63, _, _ => exact tbg mk_63 rfl
  | 64, _, _ => exact tbg mk_64 rfl
  | 65, _, _ => exact tbg mk_65 rfl
  | 66, _, _ => exact tbg mk_66 rfl
  | 67, _, _ => exact tbg mk_67 rfl
  | 68, _, _ => exact tbg mk_68 rfl
  | 69, _, _ => exact tbg mk_69 rfl
  | 70, _, _ => exact tbg mk_70 rfl
  | 71, _, _ => exact tbg mk_71 rfl
  | 72, _, _ => exact tbg mk_72 rfl
  | 73, _, _ => exact tbg mk_73 rfl
  | 74, _, _ => exact tbg mk_74 rfl
  | 75, _, _ => exact tbg mk_75 rfl
  | 76, _, _ => exact tbg mk_76 rfl
  | 77, _, _ => exact tbg mk_77 rfl
  | 78, _, _ => exact tbg mk_78 rfl
  | 79, _, _ => exact tbg mk_79 rfl
  | n + 80, _, h2 => exact absurd h2 (by omega)
theorem mcd_80 : ∀ m, 80 ≤ m → m < 120 → MCD m := by
  intro m h1 h2
  match m, h1, h2 with
  | 80, _, _ => exact tbg mk_80 rfl
  | 81, _, _ => exact tbg mk_81 rfl
  | 82, _, _ => exact tbg mk_82 rfl
  | 83, _, _ => exact tbg mk_83 rfl
  | 84, _, _ => exact tbg mk_84 rfl
  | 85, _, _ => exact tbg mk_85 rfl
  | 86, _, _ => exact tbg mk_86 rfl
  | 87, _, _ => exact tbg mk_87 rfl
  | 88, _, _ => exact tbg mk_88 rfl
  | 89, _, _ => exact tbg mk_89 rfl
  | 90, _, _ => exact tbg mk_90 rfl
  | 91, _, _ => exact tbg mk_91 rfl
  | 92, _, _ => exact tbg mk_92 rfl
  | 93, _, _ => exact tbg mk_93 rfl
  | 94, _, _ => exact tbg mk_94 rfl
  | 95, _, _ => exact tbg mk_95 rfl
  | 96, _, _ => exact tbg mk_96 rfl
  | 97, _, _ => exact tbg mk_97 rfl
  | 98, _, _ => exact tbg mk_98 rfl
  | 99, _, _ => exact tbg mk_99 rfl
  | 100, _, _ => exact tbg mk_100 rfl
  | 101, _, _ => exact tbg mk_101 rfl
  | 102, _, _ => exact tbg mk_102 rfl
  | 103, _, _ => exact tbg mk_103 rfl
  | 104, _, _ => exact tbg mk_104 rfl
  | 105, _, _ => exact tbg mk_105 rfl
  | 106, _, _ => exact tbg mk_106 rfl
  | 107, _, _ => exact tbg mk_107 rfl
  | 108, _, _ => exact tbg mk_108 rfl
  | 109, _, _ => exact tbg mk_109 rfl
  | 110, _, _ => exact tbg mk_110 rfl
  | 111, _, _ => exact tbg mk_111 rfl
  | 112, _, _ => exact tbg mk_112 rfl
  | 113, _, _ => exact tbg mk_113 rfl
  | 114, _, _ => exact tbg mk_114 rfl
  | 115, _, _ => exact tbg mk_115 rfl
  | 116, _, _ => exact tbg mk_116 rfl
  | 117, _, _ => exact tbg mk_117 rfl
  | 118, _, _ => exact tbg mk_118 rfl
  | 119, _, _ => exact tbg mk_119 rfl
  | n + 120, _, h2 => exact absurd h2 (by omega)
theorem mcd_120 : ∀ m, 120 ≤ m → m < 160 → MCD m := by
  intro m h1 h2
  match m, h1, h2 with
  | 120, _, _ => exact tbg mk_120 rfl
  | 121, _, _ => exact tbg mk_121 rfl
  | 122, _, _ => exact tbg mk_122 rfl
  | 123, _, _ => exact tbg mk_123 rfl
  | 124, _, _ => exact tbg mk_124 rfl
  | 125, _, _ => exact tbg mk_125 rfl
  | 126, _, _ => exact tbg mk_126 rfl
  | 127, _, _ => exact tbg mk_127 rfl
  | 128, _, _ => exact tbg mk_128 rfl
  | 129, _, _ => exact tbg mk_129 rfl
  | 130, _, _ => exact tbg mk_130 rfl
  | 131, _, _ => exact tbg mk_131 rfl
  | 132, _, _ => exact tbg mk_132 rfl
  | 133, _, _ => exact tbg mk_133 rfl
  | 134, _, _ => exact tbg mk_134 rfl
  | 135, _, _ => exact tbg mk_135 rfl
  | 136, _, _ => exact tbg mk_136 rfl
  | 137, _, _ => exact tbg mk_137 rfl
  | 138, _, _ => exact tbg mk_138 rfl
  | 139, _, _ => exact tbg mk_139 rfl
  | 140, _, _ => exact tbg mk_140 rfl
  | 141, _, _ => exact tbg mk_141 rfl
  | 142, _, _ => exact tbg mk_142 rfl
  | 143, _, _ => exact tbg mk_143 rfl
  | 144, _, _ => exact tbg mk_144 rfl
  | 145, _, _ => exact tbg mk_145 rfl
  | 146, _, _ => exact tbg mk_146 rfl
  | 147, _, _ => exact tbg mk_147 rfl
  | 148, _, _ => exact tbg mk_148 rfl
  | 149, _, _ => exact tbg mk_149 rfl
  | 150, _, _ => exact tbg mk_150 rfl
  | 151, _, _ => exact tbg mk_151 rfl
  | 152, _, _ => exact tbg mk_152 rfl
  | 153, _, _ => exact tbg mk_153 rfl
  | 154, _, _ => exact tbg mk_154 rfl
  | 155, _, _ => exact tbg mk_155 rfl
  | 156, _, _ => exact tbg mk_156 rfl
  | 157, _, _ => exact tbg mk_157 rfl
  | 158, _, _ => exact tbg mk_158 rfl
  | 159, _, _ => exact tbg mk_159 rfl
  | n + 160, _, h2 => exact absurd h2 (by omega)
theorem mcd_160 : ∀ m, 160 ≤ m → m < 200 → MCD m := by
  intro m h1 h2
  match m, h1, h2 with
  | 160, _, _ => exact tbg mk_160 rfl
  | 161, _, _ => exact tbg mk_161 rfl
  | 162, _, _ => exact tbg mk_162 rfl
  | 163, _, _ => exact tbg mk_163 rfl
  | 164, _, _ => exact tbg mk_164 rfl
  | 165, _, _ => exact tbg mk_165 rfl
  | 166, _, _ => exact tbg mk_166 rfl
  | 167, _, _ => exact tbg mk_167 rfl
  | 168, _, _ => exact tbg mk_168 rfl
  | 169, _, _ => exact tbg mk_169 rfl
  | 170, _, _ => exact tbg mk_170 rfl
  | 171, _, _ => exact tbg mk_171 rfl
  | 172, _, _ => exact tbg mk_172 rfl
  | 173, _, _ => exact tbg mk_173 rfl
  | 174, _, _ => exact tbg mk_174 rfl
  | 175, _, _ => exact tbg mk_175 rfl
  | 176, _, _ => exact tbg mk_176 rfl
  | 177, _, _ => exact tbg mk_177 rfl
  | 178, _, _ => exact tbg mk_178 rfl
  | 179, _, _ => exact tbg mk_179 rfl
  | 180, _, _ => exact tbg mk_180 rfl
  | 181, _, _ => exact tbg mk_181 rfl
  | 182, _, _ => exact tbg mk_182 rfl
  | 183, _, _ => exact tbg mk_183 rfl
  | 184, _, _ => exact tbg mk_184 rfl
  | 185, _, _ => exact tbg mk_185 rfl
  | 186, _, _ => exact tbg mk_186 rfl
  | 187, _, _ => exact tbg mk_187 rfl
  | 188, _, _ => exact tbg mk_188 rfl
  | 189, _, _ => exact tbg mk_189 rfl
  | 190, _, _ => exact tbg mk_190 rfl
  | 191, _, _ => exact tbg mk_191 rfl
  | 192, _, _ => exact tbg mk_192 rfl
  | 193, _, _ => exact tbg mk_193 rfl
  | 194, _, _ => exact tbg mk_194 rfl
  | 195, _, _ => exact tbg mk_195 rfl
  | 196, _, _ => exact tbg mk_196 rfl
  | 197, _, _ => exact tbg mk_197 rfl
  | 198, _, _ => exact tbg mk_198 rfl
  | 199, _, _ => exact tbg mk_199 rfl
  | n + 200, _, h2 => exact absurd h2 (by omega)
theorem mcd_200 : ∀ m, 200 ≤ m → m < 240 → MCD m := by
  intro m h1 h2
  match m, h1, h2 with
  | 200, _, _ => exact tbg mk_200 rfl
  | 201, _, _ => exact tbg mk_201 rfl
  | 202, _, _ => exact tbg mk_202 rfl
  | 203, _, _ => exact tbg mk_203 rfl
  | 204, _, _ => exact tbg mk_204 rfl
  | 205, _, _ => exact tbg mk_205 rfl
  | 206, _, _ => exact tbg mk_206 rfl
  | 207, _, _ => exact tbg mk_207 rfl
  | 208, _, _ => exact tbg mk_208 rfl
  | 209, _, _ => exact tbg mk_209 rfl
  | 210, _, _ => exact tbg mk_210 rfl
  | 211, _, _ => exact tbg mk_211 rfl
  | 212, _, _ => exact tbg mk_212 rfl
  | 213, _, _ => exact tbg mk_213 rfl
  | 214, _, _ => exact tbg mk_214 rfl
  | 215, _, _ => exact tbg mk_215 rfl
  | 216, _, _ => exact tbg mk_216 rfl
  | 217, _, _ => exact tbg mk_217 rfl
  | 218, _, _ => exact tbg mk_218 rfl
  | 219, _, _ => exact tbg mk_219 rfl
  | 220, _, _ => exact tbg mk_220 rfl
  | 221, _, _ => exact tbg mk_221 rfl
  | 222, _, _ => exact tbg mk_222 rfl
  | 223, _, _ => exact tbg mk_223 rfl
  | 224, _, _ => exact tbg mk_224 rfl
  | 225, _, _ => exact tbg mk_225 rfl
  | 226, _, _ => exact tbg mk_226 rfl
  | 227, _, _ => exact tbg mk_227 rfl
  | 228, _, _ => exact tbg mk_228 rfl
  | 229, _, _ => exact tbg mk_229 rfl
  | 230, _, _ => exact tbg mk_230 rfl
  | 231, _, _ => exact tbg mk_231 rfl
  | 232, _, _ => exact tbg mk_232 rfl
  | 233, _, _ => exact tbg mk_233 rfl
  | 234, _, _ => exact tbg mk_234 rfl
  | 235, _, _ => exact tbg mk_235 rfl
  | 236, _, _ => exact tbg mk_236 rfl
  | 237, _, _ => exact tbg mk_237 rfl
  | 238, _, _ => exact tbg mk_238 rfl
  | 239, _, _ => exact tbg mk_239 rfl
  | n + 240, _, h2 => exact absurd h2 (by omega)
theorem mcd_240 : ∀ m, 240 ≤ m → m < 280 → MCD m := by
  intro m h1 h2
  match m, h1, h2 with
  | 240, _, _ => exact tbg mk_240 rfl
  | 241, _, _ => exact tbg mk_241 rfl
  | 242, _, _ => exact tbg mk_242 rfl
  | 243, _, _ => exact tbg mk_243 rfl
  | 244, _, _ => exact tbg mk_244 rfl
  | 245, _, _ => exact tbg mk_245 rfl
  | 246, _, _ => exact tbg mk_246 rfl
  | 247, _, _ => exact tbg mk_247 rfl
  | 248, _, _ => exact tbg mk_248 rfl
  | 249, _, _ => exact tbg mk_249 rfl
  | 250, _, _ => exact tbg mk_250 rfl
  | 251, _, _ => exact tbg mk_251 rfl
  | 252, _, _ => exact tbg mk_252 rfl
  | 253, _, _ => exact tbg mk_253 rfl
  | 254, _, _ => exact tbg mk_254 rfl
  | 255, _, _ => exact tbg mk_255 rfl
  | 256, _, _ => exact tbg mk_256 rfl
  | 257, _, _ => exact tbg mk_257 rfl
  | 258, _, _ => exact tbg mk_258 rfl
  | 259, _, _ => exact tbg mk_259 rfl
  | 260, _, _ => exact tbg mk_260 rfl
  | 261, _, _ => exact tbg mk_261 rfl
  | 262, _, _ => exact tbg mk_262 rfl
  | 263, _, _ => exact tbg mk_263 rfl
  | 264, _, _ => exact tbg mk_264 rfl
  | 265, _, _ => exact tbg mk_265 rfl
  | 266, _, _ => exact tbg mk_266 rfl
  | 267, _, _ => exact tbg mk_267 rfl
  | 268, _, _ => exact tbg mk_268 rfl
  | 269, _, _ => exact tbg mk_269 rfl
  | 270, _, _ => exact tbg mk_270 rfl
  | 271, _, _ => exact tbg mk_271 rfl
  | 272, _, _ => exact tbg mk_272 rfl
  | 273, _, _ => exact tbg mk_273 rfl
  | 274, _, _ => exact tbg mk_274 rfl
  | 275, _, _ => exact tbg mk_275 rfl
  | 276, _, _ => exact tbg mk_276 rfl
  | 277, _, _ => exact tbg mk_277 rfl
  | 278, _, _ => exact tbg mk_278 rfl
  | 279, _, _ => exact tbg mk_279 rfl
  | n + 280, _, h2 => exact absurd h2 (by omega)
theorem mcd_280 : ∀ m, 280 ≤ m → m < 320 → MCD m := by
  intro m h1 h2
  match m, h1, h2 with
  | 280, _, _ => exact tbg mk_280 rfl
  | 281, _, _ => exact tbg mk_281 rfl
  | 282, _, _ => exact tbg mk_282 rfl
  | 283, _, _ => exact tbg mk_283 rfl
  | 284, _, _ => exact tbg mk_284 rfl
  | 285, _, _ => exact tbg mk_285 rfl
  | 286, _, _ => exact tbg mk_286 rfl
  | 287, _, _ => exact tbg mk_287 rfl
  | 288, _, _ => exact tbg mk_288 rfl
  | 289, _, _ => exact tbg mk_289 rfl
  | 290, _, _ => exact tbg mk_290 rfl
  | 291, _, _ => exact tbg mk_291 rfl
  | 292, _, _ => exact tbg mk_292 rfl
  | 293, _, _ => exact tbg mk_293 rfl
  | 294, _, _ => exact tbg mk_294 rfl
  | 295, _, _ => exact tbg mk_295 rfl
  | 296, _, _ => exact tbg mk_296 rfl
  | 297, _, _ => exact tbg mk_297 rfl
  | 298, _, _ => exact tbg mk_298 rfl
  | 299, _, _ => exact tbg mk_299 rfl
  | 300, _, _ => exact tbg mk_300 rfl
  | 301, _, _ => exact tbg mk_301 rfl
  | 302, _, _ => exact tbg mk_302 rfl
  | 303, _, _ => exact tbg mk_303 rfl
  | 304, _, _ => exact tbg mk_304 rfl
  | 305, _, _ => exact tbg mk_305 rfl
  | 306, _, _ => exact tbg mk_306 rfl
  | 307, _, _ => exact tbg mk_307 rfl
  | 308, _, _ => exact tbg mk_308 rfl
  | 309, _, _ => exact tbg mk_309 rfl
  | 310, _, _ => exact tbg mk_310 rfl
  | 311, _, _ => exact tbg mk_311 rfl
  | 312, _, _ => exact tbg mk_312 rfl
  | 313, _, _ => exact tbg mk_313 rfl
  | 314, _, _ => exact tbg mk_314 rfl
  | 315, _, _ => exact tbg mk_315 rfl
  | 316, _, _ => exact tbg mk_316 rfl
  | 317, _, _ => exact tbg mk_317 rfl
  | 318, _, _ => exact tbg mk_318 rfl
  | 319, _, _ => exact tbg mk_319 rfl
  | n + 320, _, h2 => exact absurd h2 (by omega)
theorem mcd_320 : ∀ m, 320 ≤ m → m < 356 → MCD m := by
  intro m h1 h2
  match m, h1, h2 with
  | 320, _, _ => exact tbg mk_320 rfl
  | 321, _, _ => exact tbg mk_321 rfl
  | 322, _, _ => exact tbg mk_322 rfl
  | 323, _, _ => exact tbg mk_323 rfl
  | 324, _, _ => exact tbg mk_324 rfl
  | 325, _, _ => exact tbg mk_325 rfl
  | 326, _, _ => exact tbg mk_326 rfl
  | 327, _, _ => exact tbg mk_327 rfl
  | 328, _, _ => exact tbg mk_328 rfl
  | 329, _, _ => exact tbg mk_329 rfl
  | 330, _, _ => exact tbg mk_330 rfl
  | 331, _, _ => exact tbg mk_331 rfl
  | 332, _, _ => exact tbg mk_332 rfl
  | 333, _, _ => exact tbg mk_333 rfl
  | 334, _, _ => exact tbg mk_334 rfl
  | 335, _, _ => exact tbg mk_335 rfl
  | 336, _, _ => exact tbg mk_336 rfl
  | 337, _, _ => exact tbg mk_337 rfl
  | 338, _, _ => exact tbg mk_338 rfl
  | 339, _, _ => exact tbg mk_339 rfl
  | 340, _, _ => exact tbg mk_340 rfl
  | 341, _, _ => exact tbg mk_341 rfl
  | 342, _, _ => exact tbg mk_342 rfl
  | 343, _, _ => exact tbg mk_343 rfl
  | 344, _, _ => exact tbg mk_344 rfl
  | 345, _, _ => exact tbg mk_345 rfl
  | 346, _, _ => exact tbg mk_346 rfl
  | 347, _, _ => exact tbg mk_347 rfl
  | 348, _, _ => exact tbg mk_348 rfl
  | 349, _, _ => exact tbg mk_349 rfl
  | 350, _, _ => exact tbg mk_350 rfl
  | 351, _, _ => exact tbg mk_351 rfl
  | 352, _, _ => exact tbg mk_352 rfl
  | 353, _, _ => exact tbg mk_353 rfl
  | 354, _, _ => exact tbg mk_354 rfl
  | 355, _, _ => exact tbg mk_355 rfl
  | n + 356, _, h2 => exact absurd h2 (by omega)
theorem mcd : ∀ m, m < 356 → MCD m := by
  intro m h
  by_cases h0 : m < 40
  · exact mcd_0 m (by omega) h0
  by_cases h40 : m < 80
  · exact mcd_40 m (by omega) h40
  by_cases h80 : m < 120
  · exact mcd_80 m (by omega) h80
  by_cases h120 : m < 160
  · exact mcd_120 m (by omega) h120
  by_cases h160 : m < 200
  · exact mcd_160 m (by omega) h160
  by_cases h200 : m < 240
  · exact mcd_200 m (by omega) h200
  by_cases h240 : m < 280
  · exact mcd_240 m (by omega) h240
  by_cases h280 : m < 320
  · exact mcd_280 m (by omega) h280
  by_cases h320 : m < 356
  · exact mcd_320 m (by omega) h320
  · omega
end
section
/-! NUMBERS: int and long of the machine beside whole numbers (own work) -/
def In32 (x : Int) : Prop := -2147483648 ≤ x ∧ x < 2147483648
def In64 (x : Int) : Prop := -9223372036854775808 ≤ x ∧ x < 9223372036854775808
theorem in32_w (x : Int) : In32 (w32 x) := by unfold In32 w32; omega
theorem in64_w (x : Int) : In64 (w64 x) := by unfold In64 w64; omega
theorem in32_i (x : Int32) : In32 x.toInt := ⟨x.le_toInt, x.toInt_lt⟩
theorem in64_i (x : Int64) : In64 x.toInt := ⟨x.le_toInt, x.toInt_lt⟩
theorem w32_id {x : Int} (h : In32 x) : w32 x = x := by unfold In32 at h; unfold w32; omega
theorem w64_id {x : Int} (h : In64 x) : w64 x = x := by unfold In64 at h; unfold w64; omega
theorem w32_of {x : Int} (h1 : -2147483648 ≤ x) (h2 : x < 2147483648) : w32 x = x := w32_id ⟨h1, h2⟩
theorem w64_of {x : Int} (h1 : -9223372036854775808 ≤ x) (h2 : x < 9223372036854775808) : w64 x = x := w64_id ⟨h1, h2⟩
theorem w32_bmod (x : Int) : w32 x = x.bmod 4294967296 := by
  unfold w32 Int.bmod
  simp only []
  split <;> omega
theorem w64_bmod (x : Int) : w64 x = x.bmod 18446744073709551616 := by
  unfold w64 Int.bmod
  simp only []
  split <;> omega
theorem t32 {x : Int} (h : In32 x) : (Int32.ofInt x).toInt = x := Int32.toInt_ofInt_of_le h.1 h.2
theorem t64 {x : Int} (h : In64 x) : (Int64.ofInt x).toInt = x := Int64.toInt_ofInt_of_le h.1 h.2
theorem o32_w (x : Int) : Int32.ofInt (w32 x) = Int32.ofInt x := by
  rw [← Int32.toInt_inj, t32 (in32_w x), Int32.toInt_ofInt, w32_bmod]
theorem o64_w (x : Int) : Int64.ofInt (w64 x) = Int64.ofInt x := by
  rw [← Int64.toInt_inj, t64 (in64_w x), Int64.toInt_ofInt, w64_bmod]
theorem o32_inj {x y : Int} (hx : In32 x) (hy : In32 y) : Int32.ofInt x = Int32.ofInt y ↔ x = y := by
  rw [← Int32.toInt_inj, t32 hx, t32 hy]
theorem o32_lt {x y : Int} (hx : In32 x) (hy : In32 y) : Int32.ofInt x < Int32.ofInt y ↔ x < y := by
  rw [Int32.lt_iff_toInt_lt, t32 hx, t32 hy]
theorem o32_le {x y : Int} (hx : In32 x) (hy : In32 y) : Int32.ofInt x ≤ Int32.ofInt y ↔ x ≤ y := by
  rw [Int32.le_iff_toInt_le, t32 hx, t32 hy]
theorem o64_inj {x y : Int} (hx : In64 x) (hy : In64 y) : Int64.ofInt x = Int64.ofInt y ↔ x = y := by
  rw [← Int64.toInt_inj, t64 hx, t64 hy]
theorem o64_lt {x y : Int} (hx : In64 x) (hy : In64 y) : Int64.ofInt x < Int64.ofInt y ↔ x < y := by
  rw [Int64.lt_iff_toInt_lt, t64 hx, t64 hy]
theorem in32_0 : In32 0 := by unfold In32; omega
theorem in64_0 : In64 0 := by unfold In64; omega
theorem o32_0 : Int32.ofInt 0 = 0 := by decide
theorem o64_0 : Int64.ofInt 0 = 0 := by decide
theorem o32_add (x y : Int) : Int32.ofInt (w32 (x + y)) = Int32.ofInt x + Int32.ofInt y := by rw [o32_w, Int32.ofInt_add]
theorem o32_sub (x y : Int) : Int32.ofInt (w32 (x - y)) = Int32.ofInt x - Int32.ofInt y := by rw [o32_w, Int32.ofInt_sub]
theorem o32_mul (x y : Int) : Int32.ofInt (w32 (x * y)) = Int32.ofInt x * Int32.ofInt y := by rw [o32_w, Int32.ofInt_mul]
theorem o32_neg (x : Int) : Int32.ofInt (w32 (-x)) = -Int32.ofInt x := by rw [o32_w, Int32.ofInt_neg]
theorem o64_add (x y : Int) : Int64.ofInt (w64 (x + y)) = Int64.ofInt x + Int64.ofInt y := by rw [o64_w, Int64.ofInt_add]
theorem o64_sub (x y : Int) : Int64.ofInt (w64 (x - y)) = Int64.ofInt x - Int64.ofInt y := by rw [o64_w, Int64.ofInt_sub]
theorem o64_mul (x y : Int) : Int64.ofInt (w64 (x * y)) = Int64.ofInt x * Int64.ofInt y := by rw [o64_w, Int64.ofInt_mul]
theorem o32_tdiv {x y : Int} (hx : In32 x) (hy : In32 y) : Int32.ofInt (w32 (Int.tdiv x y)) = Int32.ofInt x / Int32.ofInt y := by
  rw [← Int32.toInt_inj, t32 (in32_w _), Int32.toInt_div, t32 hx, t32 hy, w32_bmod]
theorem o64_tdiv {x y : Int} (hx : In64 x) (hy : In64 y) : Int64.ofInt (w64 (Int.tdiv x y)) = Int64.ofInt x / Int64.ofInt y := by
  rw [← Int64.toInt_inj, t64 (in64_w _), Int64.toInt_div, t64 hx, t64 hy, w64_bmod]
theorem o32_tmod {x y : Int} (hx : In32 x) (hy : In32 y) : Int32.ofInt (w32 (Int.tmod x y)) = Int32.ofInt x - Int32.ofInt x / Int32.ofInt y * Int32.ofInt y := by
  rw [← o32_tdiv hx hy, o32_w, o32_w, ← Int32.ofInt_mul, ← Int32.ofInt_sub]
  congr 1
  have h := Int.mul_tdiv_add_tmod x y
  have h2 := Int.mul_comm y (x.tdiv y)
  omega
theorem o64_tmod {x y : Int} (hx : In64 x) (hy : In64 y) : Int64.ofInt (w64 (Int.tmod x y)) = Int64.ofInt x - Int64.ofInt x / Int64.ofInt y * Int64.ofInt y := by
  rw [← o64_tdiv hx hy, o64_w, o64_w, ← Int64.ofInt_mul, ← Int64.ofInt_sub]
  congr 1
  have h := Int.mul_tdiv_add_tmod x y
  have h2 := Int.mul_comm y (x.tdiv y)
  omega
theorem o32_i2l {x : Int} (hx : In32 x) : (Int32.ofInt x).toInt64 = Int64.ofInt x := by
  have h : In64 x := ⟨by have := hx.1; omega, by have := hx.2; omega⟩
  rw [← Int64.toInt_inj, Int32.toInt_toInt64, t32 hx, t64 h]
theorem o64_l2i {x : Int} (hx : In64 x) : (Int64.ofInt x).toInt32 = Int32.ofInt (w32 x) := by
  rw [← Int32.toInt_inj, Int64.toInt_toInt32, t64 hx, t32 (in32_w x), w32_bmod]
theorem o32_ibin (a : Nat) (x y : Int) : In32 (ibin a x y) := by
  rcases a with _ | _ | _ | _ | _ | _ | _ | _ | a <;> first | exact in32_w _ | exact in32_i _
theorem o64_lbin (a : Nat) (x y : Int) : In64 (lbin a x y) := by
  rcases a with _ | _ | a <;> exact in64_w _
theorem o32_in {i : Int} {n : Int} (hi : In32 i) (h0 : 0 ≤ i) (h : i < n) : vp_in (Int32.ofInt i) n.toNat := by
  have e : (Int32.ofInt i).toNatClampNeg = i.toNat := by rw [← Int32.toNat_toInt, t32 hi]
  rintro (q | q)
  · rw [← o32_0, o32_lt hi in32_0] at q; omega
  · rw [e] at q; omega
theorem o32_clamp {i : Int} (hi : In32 i) : (Int32.ofInt i).toNatClampNeg = i.toNat := by rw [← Int32.toNat_toInt, t32 hi]
theorem o32_nat {n : Nat} : Int32.ofInt (n : Int) = Int32.ofNat n := by
  rw [Int32.ofInt_eq_ofNat]
end
section
/-! THE MACHINE'S WORLD of an interpreter's memory (own work) -/
abbrev AdX : Type := (Nat → Nat) × (Nat → Nat) × Nat × Option Nat
def rof (ad : Nat → Nat) (X : AdX) (r : Int) : Option Nat := match r with
  | .ofNat 0 => none
  | .ofNat (k + 1) => some (ad k)
  | .negSucc n => bif Nat.beq n 0 then some X.2.2.1 else bif Nat.beq n 4 then X.2.2.2 else bif Nat.ble n 110 then some (X.1 (n - 99)) else some (X.2.1 (n - 199))
def mv (ad : Nat → Nat) (X : AdX) (v : V) : Value := match v with
  | .inl x => .int (Int32.ofInt x)
  | .inr (.inl x) => .long (Int64.ofInt x)
  | .inr (.inr (.inl r)) => va_rf (rof ad X r)
  | .inr (.inr (.inr _)) => .null
def vok (N : Nat) (v : V) : Prop := match v with
  | .inl x => In32 x
  | .inr (.inl x) => In64 x
  | .inr (.inr (.inl r)) => r ≤ (N : Int)
  | .inr (.inr (.inr _)) => True
def cok (N : Nat) (s : Shp) (f : Int → Int) : Prop :=
  (s.1 ≤ 4 → 0 ≤ s.2.1 ∧ s.2.1 ≤ 60000000) ∧ (s.1 = 0 ∨ s.1 = 2 → ∀ j, In32 (f j)) ∧ (s.1 = 1 → ∀ j, In64 (f j)) ∧ (s.1 = 3 ∨ s.1 = 4 → ∀ j, 0 ≤ f j ∧ f j ≤ (N : Int)) ∧
  (¬ s.1 ≤ 4 → 10 ≤ s.1 ∧ s.1 ≤ 22 ∧ s.2.2.length = (ftb (s.1 - 10)).length ∧ (∀ x ∈ s.2.2, x ≤ (N : Int)) ∧ ∀ j : Nat, ((ftb (s.1 - 10)).getD j 9 = 1 → In64 (f j)) ∧ ((ftb (s.1 - 10)).getD j 9 ≠ 1 → In32 (f j)))
def mok (L : List Shp) (c : Nat → Int → Int) : Prop := ∀ k s, L[k]? = some s → cok L.length s (c k)
def fvl (ad : Nat → Nat) (X : AdX) (t : Nat) (x r : Int) : Value := match t with
  | 0 => .int (Int32.ofInt x)
  | 1 => .long (Int64.ofInt x)
  | 2 => .int (Int32.ofInt x)
  | _ => va_rf (rof ad X r)
def flds (ad : Nat → Nat) (X : AdX) (ci : Nat) (f : Int → Int) (fin : List Int) : List Value := (List.range (ftb ci).length).map (fun k => fvl ad X ((ftb ci).getD k 9) (f (Int.ofNat k)) (fin.getD k 0))
def ent (ad : Nat → Nat) (X : AdX) (cA : Nat → ClassId) (s : Shp) (f : Int → Int) : va_E := match s.1 with
  | 0 => .inl (cA 0, (s.2.1.toNat, .inl (fun j => Int32.ofInt (f (Int.ofNat j)))))
  | 1 => .inl (cA 1, (s.2.1.toNat, .inr (.inl (fun j => Int64.ofInt (f (Int.ofNat j))))))
  | 2 => .inl (cA 2, (s.2.1.toNat, .inl (fun j => Int32.ofInt (f (Int.ofNat j)))))
  | 3 => .inl (cA 3, (s.2.1.toNat, .inr (.inr (.inr (.inr (fun j => rof ad X (f (Int.ofNat j))))))))
  | 4 => .inl (cA 4, (s.2.1.toNat, .inr (.inr (.inr (.inr (fun j => rof ad X (f (Int.ofNat j))))))))
  | n => .inr (n - 10, flds ad X (n - 10) f s.2.2)
def wsl (ad : Nat → Nat) (X : AdX) (cA : Nat → ClassId) (L : List Shp) (c : Nat → Int → Int) : va_W := (List.range L.length).map (fun k => (ad k, ent ad X cA (L.getD k (0, 0, [])) (c k)))
theorem rof_keep {ad ad' : Nat → Nat} {X : AdX} {N : Nat} {r : Int} (h : ∀ k, k < N → ad' k = ad k) (hr : r ≤ (N : Int)) : rof ad' X r = rof ad X r := by
  rcases r with (_ | k) | n
  · rfl
  · show some (ad' k) = some (ad k)
    rw [h k (by have : ((k + 1 : Nat) : Int) ≤ N := hr; omega)]
  · rfl
theorem mv_keep {ad ad' : Nat → Nat} {X : AdX} {N : Nat} {v : V} (h : ∀ k, k < N → ad' k = ad k) (hv : vok N v) : mv ad' X v = mv ad X v := by
  rcases v with x | x | r | u
  · rfl
  · rfl
  · show va_rf _ = va_rf _
    rw [rof_keep h hv]
  · rfl
theorem vok_mono {N N' : Nat} {v : V} (h : N ≤ N') (hv : vok N v) : vok N' v := by
  rcases v with x | x | r | u
  · exact hv
  · exact hv
  · have : r ≤ (N : Int) := hv
    show r ≤ (N' : Int)
    omega
  · trivial
theorem cok_mono {N N' : Nat} {s : Shp} {f : Int → Int} (h : N ≤ N') (hc : cok N s f) : cok N' s f := by
  obtain ⟨h1, h2, h3, h4, h5⟩ := hc
  refine ⟨h1, h2, h3, fun q j => ⟨(h4 q j).1, by have := (h4 q j).2; omega⟩, fun q => ?_⟩
  obtain ⟨g1, g2, g3, g4, g5⟩ := h5 q
  exact ⟨g1, g2, g3, fun x hx => by have := g4 x hx; omega, g5⟩
theorem kind_cases {n : Nat} : n = 0 ∨ n = 1 ∨ n = 2 ∨ n = 3 ∨ n = 4 ∨ 5 ≤ n := by omega
theorem ent_5 {ad : Nat → Nat} {X : AdX} {cA : Nat → ClassId} {s : Shp} {f : Int → Int} (h : 5 ≤ s.1) : ent ad X cA s f = .inr (s.1 - 10, flds ad X (s.1 - 10) f s.2.2) := by
  unfold ent
  split <;> first | omega | rfl
theorem ent_keep {ad ad' : Nat → Nat} {X : AdX} {cA : Nat → ClassId} {N : Nat} {s : Shp} {f : Int → Int} (h : ∀ k, k < N → ad' k = ad k) (hc : cok N s f) : ent ad' X cA s f = ent ad X cA s f := by
  obtain ⟨kd, sz, fin⟩ := s
  obtain ⟨h1, h2, h3, h4, h5⟩ := hc
  rcases (kind_cases (n := kd)) with q | q | q | q | q | q
  · subst q; rfl
  · subst q; rfl
  · subst q; rfl
  · subst q
    show (Sum.inl (cA 3, (sz.toNat, _)) : va_E) = Sum.inl (cA 3, (sz.toNat, _))
    have e : (fun j : Nat => rof ad' X (f (Int.ofNat j))) = fun j : Nat => rof ad X (f (Int.ofNat j)) := funext fun j => rof_keep h (h4 (Or.inl rfl) _).2
    rw [e]
  · subst q
    show (Sum.inl (cA 4, (sz.toNat, _)) : va_E) = Sum.inl (cA 4, (sz.toNat, _))
    have e : (fun j : Nat => rof ad' X (f (Int.ofNat j))) = fun j : Nat => rof ad X (f (Int.ofNat j)) := funext fun j => rof_keep h (h4 (Or.inr rfl) _).2
    rw [e]
  · rw [ent_5 (s := (kd, sz, fin)) q, ent_5 (s := (kd, sz, fin)) q]
    obtain ⟨g1, g2, g3, g4, g5⟩ := h5 (by show ¬ kd ≤ 4; omega)
    congr 2
    unfold flds
    refine List.map_congr_left fun k hk => ?_
    have hr : fin.getD k 0 ≤ (N : Int) := by
      by_cases hk2 : k < fin.length
      · rw [List.getD_eq_getElem?_getD, List.getElem?_eq_getElem hk2]
        exact g4 _ (List.getElem_mem hk2)
      · rw [List.getD_eq_getElem?_getD, List.getElem?_eq_none (by omega)]
        show (0 : Int) ≤ N
        omega
    unfold fvl
    split
    · rfl
    · rfl
    · rfl
    · rw [rof_keep h hr]
theorem wsl_len {ad : Nat → Nat} {X : AdX} {cA : Nat → ClassId} {L : List Shp} {c : Nat → Int → Int} : (wsl ad X cA L c).length = L.length := by simp [wsl]
theorem wsl_at {ad : Nat → Nat} {X : AdX} {cA : Nat → ClassId} {L : List Shp} {c : Nat → Int → Int} {k : Nat} {s : Shp} (h : L[k]? = some s) : (wsl ad X cA L c)[k]? = some (ad k, ent ad X cA s (c k)) := by
  have hk : k < L.length := (List.getElem?_eq_some_iff.mp h).1
  unfold wsl
  rw [List.getElem?_map, List.getElem?_range hk]
  show some (ad k, ent ad X cA (L.getD k (0, 0, [])) (c k)) = _
  rw [List.getD_eq_getElem?_getD, h]
  rfl
theorem wsl_set {ad : Nat → Nat} {X : AdX} {cA : Nat → ClassId} {L L' : List Shp} {c c' : Nat → Int → Int} {k : Nat} {s' : Shp} {e : va_E} (hl : L'.length = L.length) (hk : L'[k]? = some s') (ho : ∀ j, j ≠ k → L'[j]? = L[j]?) (hc : ∀ j, j ≠ k → c' j = c j) (he : e = ent ad X cA s' (c' k)) : (wsl ad X cA L c).set k (ad k, e) = wsl ad X cA L' c' := by
  apply List.ext_getElem?
  intro j
  have hkl : k < L.length := by rw [← hl]; exact (List.getElem?_eq_some_iff.mp hk).1
  by_cases hj : j = k
  · subst hj
    rw [List.getElem?_set_self (by rw [wsl_len]; exact hkl), wsl_at hk, he]
  · rw [List.getElem?_set_ne (fun q => hj q.symm)]
    cases hq : L[j]? with
    | none =>
      have h1 : L.length ≤ j := by simpa using hq
      rw [List.getElem?_eq_none (by rw [wsl_len]; exact h1), List.getElem?_eq_none (by rw [wsl_len, hl]; exact h1)]
    | some s => rw [wsl_at hq, wsl_at ((ho j hj).trans hq), hc j hj]
/-- where a new cell lies -/
def adp (ad : Nat → Nat) (n q : Nat) : Nat → Nat := fun k => if k = n then q else ad k
theorem adp_lt {ad : Nat → Nat} {n q k : Nat} (h : k < n) : adp ad n q k = ad k := by unfold adp; rw [if_neg (by omega)]
theorem adp_eq {ad : Nat → Nat} {n q : Nat} : adp ad n q n = q := by unfold adp; rw [if_pos rfl]
theorem wsl_push {ad : Nat → Nat} {X : AdX} {cA : Nat → ClassId} {L : List Shp} {c c' : Nat → Int → Int} {s' : Shp} {q : Nat} (hm : mok L c) (hc : ∀ j, j ≠ L.length → c' j = c j) : wsl ad X cA L c ++ [(q, ent (adp ad L.length q) X cA s' (c' L.length))] = wsl (adp ad L.length q) X cA (L ++ [s']) c' := by
  apply List.ext_getElem?
  intro j
  rcases Nat.lt_trichotomy j L.length with hj | hj | hj
  · have hq : L[j]? = some L[j] := List.getElem?_eq_getElem hj
    rw [List.getElem?_append_left (by rw [wsl_len]; exact hj), wsl_at hq, wsl_at (s := L[j]) (by rw [List.getElem?_append_left hj]; exact hq), adp_lt hj, hc j (by omega), ent_keep (fun k hk => adp_lt hk) (hm j _ hq)]
  · subst hj
    rw [wsl_at (s := s') (by simp), adp_eq, List.getElem?_append_right (by rw [wsl_len]; exact Nat.le_refl _), wsl_len, Nat.sub_self]
    rfl
  · rw [List.getElem?_eq_none (by rw [List.length_append, wsl_len]; simp; omega), List.getElem?_eq_none (by rw [wsl_len, List.length_append]; simp; omega)]
/-- the script's numbers lie in two places that no cell has -/
def SCR (n : Nat) (xs : Nat → Int32) (c : Nat → Int → Int) : Prop := c 1000001 0 = (n : Int) ∧ ∀ j : Nat, j < n → c 1000000 (j : Int) = (xs j).toInt
/-- the places of all cells together -/
def slz (L : List Shp) : Nat := (L.map (fun s => s.2.1.toNat)).sum
theorem slz_app {L : List Shp} {s : Shp} : slz (L ++ [s]) = slz L + s.2.1.toNat := by simp [slz]
theorem slz_set : ∀ {L : List Shp} {k : Nat} {s s' : Shp}, L[k]? = some s → s'.2.1 = s.2.1 → slz (L.set k s') = slz L
  | [], k, s, s', h, _ => by simp at h
  | a :: L, 0, s, s', h, e => by
    have h : a = s := by simpa using h
    subst h
    simp [slz, e]
  | a :: L, k + 1, s, s', h, e => by
    have h : L[k]? = some s := by simpa using h
    have := slz_set h e
    simp only [slz, List.set_cons_succ, List.map_cons, List.sum_cons] at this ⊢
    omega
end
section
/-! THE CLASSES: their words among the tables' words; kinds of fields (by program) -/
theorem mem_places {ws : List Cond} (ps : List Nat) (h : ws = ps.filterMap tbw) (hg : ws.all goodWord = true) : ∀ w ∈ ws, w ∈ TB := by
  intro w hw
  have hg := List.all_eq_true.mp hg w hw
  rw [h] at hw
  obtain ⟨i, -, hi⟩ := List.mem_filterMap.mp hw
  exact tbg hi hg
set_option maxRecDepth 100000 in
theorem uin_0 : ∀ w ∈ u_ws RX0 TX0 8, w ∈ TB := mem_places [2196, 2198, 2200, 2202, 2204, 2206, 2208, 2210] (by decide +kernel) (by decide +kernel)
set_option maxRecDepth 100000 in
theorem uin_1 : ∀ w ∈ u_ws RX1 TX1 10, w ∈ TB := mem_places [2158, 2160, 2162, 2164, 2166, 2168, 2170, 2172, 2174, 2176] (by decide +kernel) (by decide +kernel)
set_option maxRecDepth 100000 in
theorem uin_2 : ∀ w ∈ u_ws RX2 TX2 6, w ∈ TB := mem_places [2123, 2125, 2127, 2129, 2131, 2133] (by decide +kernel) (by decide +kernel)
set_option maxRecDepth 100000 in
theorem uin_3 : ∀ w ∈ u_ws RX3 TX3 3, w ∈ TB := mem_places [1179, 1181, 1183] (by decide +kernel) (by decide +kernel)
set_option maxRecDepth 100000 in
theorem uin_4 : ∀ w ∈ u_ws RX4 TX4 4, w ∈ TB := mem_places [1190, 1192, 1194, 1196] (by decide +kernel) (by decide +kernel)
set_option maxRecDepth 100000 in
theorem uin_5 : ∀ w ∈ u_ws RX5 TX5 15, w ∈ TB := mem_places [2005, 2007, 2009, 2011, 2013, 2015, 2017, 2019, 2021, 2023, 2025, 2027, 2029, 2031, 2033] (by decide +kernel) (by decide +kernel)
set_option maxRecDepth 100000 in
theorem uin_6 : ∀ w ∈ u_ws RX6 TX6 9, w ∈ TB := mem_places [2053, 2055, 2057, 2059, 2061, 2063, 2065, 2067, 2069] (by decide +kernel) (by decide +kernel)
set_option maxRecDepth 100000 in
theorem uin_7 : ∀ w ∈ u_ws RX7 TX7 15, w ∈ TB := mem_places [1097, 1099, 1101, 1103, 1105, 1107, 1109, 1111, 1113, 1115, 1117, 1119, 1121, 1123, 1125] (by decide +kernel) (by decide +kernel)
set_option maxRecDepth 100000 in
theorem uin_8 : ∀ w ∈ u_ws RX8 TX8 9, w ∈ TB := mem_places [2089, 2091, 2093, 2095, 2097, 2099, 2101, 2103, 2105] (by decide +kernel) (by decide +kernel)
set_option maxRecDepth 100000 in
theorem uin_9 : ∀ w ∈ u_ws RX9 TX9 4, w ∈ TB := mem_places [1209, 1211, 1213, 1215] (by decide +kernel) (by decide +kernel)
set_option maxRecDepth 100000 in
theorem uin_10 : ∀ w ∈ u_ws RX10 TX10 5, w ∈ TB := mem_places [1151, 1153, 1155, 1157, 1159] (by decide +kernel) (by decide +kernel)
set_option maxRecDepth 100000 in
theorem uin_11 : ∀ w ∈ u_ws RX11 TX11 19, w ∈ TB := mem_places [2232, 2234, 2236, 2238, 3000, 3002, 3004, 3006, 3008, 3010, 3012, 3014, 3016, 3018, 3020, 3022, 3024, 3026, 3028] (by decide +kernel) (by decide +kernel)
set_option maxRecDepth 100000 in
theorem uin_12 : ∀ w ∈ u_ws RX12 TX12 61, w ∈ TB := mem_places [6218, 6220, 6222, 6224, 6226, 6228, 6230, 6232, 6234, 6236, 6238, 7000, 7002, 7004, 7006, 7008, 7010, 7012, 7014, 7016, 7018, 7020, 7022, 7024, 7026, 7028, 7030, 7032, 7034, 7036, 7038, 7040, 7042, 7044, 7046, 7048, 7050, 7052, 7054, 7056, 7058, 7060, 7062, 7064, 7066, 7068, 7070, 7072, 7074, 7076, 7078, 7080, 7082, 7084, 7086, 7088, 7090, 7092, 7094, 7096, 7098] (by decide +kernel) (by decide +kernel)
/-- what a field's kind says of its type -/
def tyk (t : Nat) (ty : FieldType) (fin : Bool) : Bool := match t, ty with
  | 0, .int => !fin
  | 1, .long => !fin
  | 2, .boolean => !fin
  | 3, .object _ => fin
  | 3, .array _ => fin
  | _, _ => false
theorem tyk_0 : (List.range 8).all (fun k => tyk ((ftb 0).getD k 9) (tyX0 k) (TX0 k).2.2.2 && decide ((TX0 k).1 = RX0)) = true := by decide +kernel
theorem tyk_1 : (List.range 10).all (fun k => tyk ((ftb 1).getD k 9) (tyX1 k) (TX1 k).2.2.2 && decide ((TX1 k).1 = RX1)) = true := by decide +kernel
theorem tyk_2 : (List.range 6).all (fun k => tyk ((ftb 2).getD k 9) (tyX2 k) (TX2 k).2.2.2 && decide ((TX2 k).1 = RX2)) = true := by decide +kernel
theorem tyk_3 : (List.range 3).all (fun k => tyk ((ftb 3).getD k 9) (tyX3 k) (TX3 k).2.2.2 && decide ((TX3 k).1 = RX3)) = true := by decide +kernel
theorem tyk_4 : (List.range 4).all (fun k => tyk ((ftb 4).getD k 9) (tyX4 k) (TX4 k).2.2.2 && decide ((TX4 k).1 = RX4)) = true := by decide +kernel
theorem tyk_5 : (List.range 15).all (fun k => tyk ((ftb 5).getD k 9) (tyX5 k) (TX5 k).2.2.2 && decide ((TX5 k).1 = RX5)) = true := by decide +kernel
theorem tyk_6 : (List.range 9).all (fun k => tyk ((ftb 6).getD k 9) (tyX6 k) (TX6 k).2.2.2 && decide ((TX6 k).1 = RX6)) = true := by decide +kernel
theorem tyk_7 : (List.range 15).all (fun k => tyk ((ftb 7).getD k 9) (tyX7 k) (TX7 k).2.2.2 && decide ((TX7 k).1 = RX7)) = true := by decide +kernel
theorem tyk_8 : (List.range 9).all (fun k => tyk ((ftb 8).getD k 9) (tyX8 k) (TX8 k).2.2.2 && decide ((TX8 k).1 = RX8)) = true := by decide +kernel
theorem tyk_9 : (List.range 4).all (fun k => tyk ((ftb 9).getD k 9) (tyX9 k) (TX9 k).2.2.2 && decide ((TX9 k).1 = RX9)) = true := by decide +kernel
theorem tyk_10 : (List.range 5).all (fun k => tyk ((ftb 10).getD k 9) (tyX10 k) (TX10 k).2.2.2 && decide ((TX10 k).1 = RX10)) = true := by decide +kernel
theorem tyk_11 : (List.range 19).all (fun k => tyk ((ftb 11).getD k 9) (tyX11 k) (TX11 k).2.2.2 && decide ((TX11 k).1 = RX11)) = true := by decide +kernel
theorem tyk_12 : (List.range 61).all (fun k => tyk ((ftb 12).getD k 9) (tyX12 k) (TX12 k).2.2.2 && decide ((TX12 k).1 = RX12)) = true := by decide +kernel
/-- all that is wanted of a class -/
def CLS (ci : Nat) (q : vw_C) (ty : Nat → FieldType) : Prop := vwCl[ci]? = some q ∧ q.1 = rnm ci ∧ (∀ w ∈ u_ws q.1 q.2.1 q.2.2, w ∈ TB) ∧ (∀ k, k < q.2.2 → parseFieldDescriptor (q.2.1 k).2.2.1 = some (ty k)) ∧ (∀ a, a < q.2.2 → ∀ b, b < q.2.2 → a ≠ b → (q.2.1 a).2.1 ≠ (q.2.1 b).2.1) ∧ q.2.2 = (ftb ci).length ∧ (∀ k, k < q.2.2 → tyk ((ftb ci).getD k 9) (ty k) (q.2.1 k).2.2.2 = true ∧ (q.2.1 k).1 = q.1)
theorem cls_0 : CLS 0 (RX0, TX0, 8) tyX0 := ⟨rfl, rfl, uin_0, tyX0_ok, nmX0, rfl, fun k hk => by
  have h := List.all_eq_true.mp tyk_0 k (List.mem_range.mpr hk)
  rw [Bool.and_eq_true, decide_eq_true_eq] at h
  exact h⟩
theorem cls_1 : CLS 1 (RX1, TX1, 10) tyX1 := ⟨rfl, rfl, uin_1, tyX1_ok, nmX1, rfl, fun k hk => by
  have h := List.all_eq_true.mp tyk_1 k (List.mem_range.mpr hk)
  rw [Bool.and_eq_true, decide_eq_true_eq] at h
  exact h⟩
theorem cls_2 : CLS 2 (RX2, TX2, 6) tyX2 := ⟨rfl, rfl, uin_2, tyX2_ok, nmX2, rfl, fun k hk => by
  have h := List.all_eq_true.mp tyk_2 k (List.mem_range.mpr hk)
  rw [Bool.and_eq_true, decide_eq_true_eq] at h
  exact h⟩
theorem cls_3 : CLS 3 (RX3, TX3, 3) tyX3 := ⟨rfl, rfl, uin_3, tyX3_ok, nmX3, rfl, fun k hk => by
  have h := List.all_eq_true.mp tyk_3 k (List.mem_range.mpr hk)
  rw [Bool.and_eq_true, decide_eq_true_eq] at h
  exact h⟩
theorem cls_4 : CLS 4 (RX4, TX4, 4) tyX4 := ⟨rfl, rfl, uin_4, tyX4_ok, nmX4, rfl, fun k hk => by
  have h := List.all_eq_true.mp tyk_4 k (List.mem_range.mpr hk)
  rw [Bool.and_eq_true, decide_eq_true_eq] at h
  exact h⟩
theorem cls_5 : CLS 5 (RX5, TX5, 15) tyX5 := ⟨rfl, rfl, uin_5, tyX5_ok, nmX5, rfl, fun k hk => by
  have h := List.all_eq_true.mp tyk_5 k (List.mem_range.mpr hk)
  rw [Bool.and_eq_true, decide_eq_true_eq] at h
  exact h⟩
theorem cls_6 : CLS 6 (RX6, TX6, 9) tyX6 := ⟨rfl, rfl, uin_6, tyX6_ok, nmX6, rfl, fun k hk => by
  have h := List.all_eq_true.mp tyk_6 k (List.mem_range.mpr hk)
  rw [Bool.and_eq_true, decide_eq_true_eq] at h
  exact h⟩
theorem cls_7 : CLS 7 (RX7, TX7, 15) tyX7 := ⟨rfl, rfl, uin_7, tyX7_ok, nmX7, rfl, fun k hk => by
  have h := List.all_eq_true.mp tyk_7 k (List.mem_range.mpr hk)
  rw [Bool.and_eq_true, decide_eq_true_eq] at h
  exact h⟩
theorem cls_8 : CLS 8 (RX8, TX8, 9) tyX8 := ⟨rfl, rfl, uin_8, tyX8_ok, nmX8, rfl, fun k hk => by
  have h := List.all_eq_true.mp tyk_8 k (List.mem_range.mpr hk)
  rw [Bool.and_eq_true, decide_eq_true_eq] at h
  exact h⟩
theorem cls_9 : CLS 9 (RX9, TX9, 4) tyX9 := ⟨rfl, rfl, uin_9, tyX9_ok, nmX9, rfl, fun k hk => by
  have h := List.all_eq_true.mp tyk_9 k (List.mem_range.mpr hk)
  rw [Bool.and_eq_true, decide_eq_true_eq] at h
  exact h⟩
theorem cls_10 : CLS 10 (RX10, TX10, 5) tyX10 := ⟨rfl, rfl, uin_10, tyX10_ok, nmX10, rfl, fun k hk => by
  have h := List.all_eq_true.mp tyk_10 k (List.mem_range.mpr hk)
  rw [Bool.and_eq_true, decide_eq_true_eq] at h
  exact h⟩
theorem cls_11 : CLS 11 (RX11, TX11, 19) tyX11 := ⟨rfl, rfl, uin_11, tyX11_ok, nmX11, rfl, fun k hk => by
  have h := List.all_eq_true.mp tyk_11 k (List.mem_range.mpr hk)
  rw [Bool.and_eq_true, decide_eq_true_eq] at h
  exact h⟩
theorem cls_12 : CLS 12 (RX12, TX12, 61) tyX12 := ⟨rfl, rfl, uin_12, tyX12_ok, nmX12, rfl, fun k hk => by
  have h := List.all_eq_true.mp tyk_12 k (List.mem_range.mpr hk)
  rw [Bool.and_eq_true, decide_eq_true_eq] at h
  exact h⟩
theorem cls_all : ∀ ci, ci ≤ 12 → ∃ (q : vw_C) (ty : Nat → FieldType), CLS ci q ty := by
  intro ci h
  match ci, h with
  | 0, _ => exact ⟨_, _, cls_0⟩
  | 1, _ => exact ⟨_, _, cls_1⟩
  | 2, _ => exact ⟨_, _, cls_2⟩
  | 3, _ => exact ⟨_, _, cls_3⟩
  | 4, _ => exact ⟨_, _, cls_4⟩
  | 5, _ => exact ⟨_, _, cls_5⟩
  | 6, _ => exact ⟨_, _, cls_6⟩
  | 7, _ => exact ⟨_, _, cls_7⟩
  | 8, _ => exact ⟨_, _, cls_8⟩
  | 9, _ => exact ⟨_, _, cls_9⟩
  | 10, _ => exact ⟨_, _, cls_10⟩
  | 11, _ => exact ⟨_, _, cls_11⟩
  | 12, _ => exact ⟨_, _, cls_12⟩
  | n + 13, h => exact absurd h (by omega)
set_option maxRecDepth 100000 in
theorem inst_ok : (List.range 13).all (fun ci => decide (tbw ([2180, 2137, 2109, 1169, 1163, 1219, 2039, 1030, 2073, 1200, 1130, 1022, 6131].getD ci 0) = some (Cond.instantiable (rnm ci) (ftb ci).length)) && decide (tbw ([1012, 1011, 1010, 1005, 1004, 1007, 1008, 1002, 1009, 1006, 1003, 1001, 1013].getD ci 0) = some (Cond.initialized (rnm ci)))) = true := by decide +kernel
theorem acI : Cond.arrayClass .int ∈ TB := tbg (z := 1128) (by decide +kernel) rfl
theorem acJ : Cond.arrayClass .long ∈ TB := tbg (z := 7101) (by decide +kernel) rfl
theorem acZ : Cond.arrayClass .boolean ∈ TB := tbg (z := 2036) (by decide +kernel) rfl
theorem aoS : Cond.arrayOver (.object RX7) ∈ lw_tbl := tbw_mem (z := 2037) (by decide +kernel)
theorem aoT : Cond.arrayOver (.object RX10) ∈ lw_tbl := tbw_mem (z := 1036) (by decide +kernel)
theorem natC : Cond.native arraycopyName ∈ TB := tbg (z := 4034) (by decide +kernel) rfl
theorem statC : Cond.static arraycopyName ∈ TB := tbg (z := 4033) (by decide +kernel) rfl
theorem iniC : Cond.initialized "java/lang/System" ∈ TB := tbg (z := 1019) (by decide +kernel) rfl
theorem objI : Cond.instanceMethod objectInit ∈ TB := tbg (z := 1027) (by decide +kernel) rfl
theorem objC : Cond.code objectInit ⟨#[0xb1]⟩ 1 none ∈ TB := tbg (z := 1028) (by decide +kernel) rfl
theorem mS_max : Cond.static Lib.Math.max.name ∈ TB := tbg (z := 4163) (by decide +kernel) rfl
theorem mC_max : Cond.code Lib.Math.max.name Lib.Math.max.code 2 (some .int) ∈ TB := tbg (z := 4164) (by rfl) rfl
theorem mS_min : Cond.static Lib.Math.min.name ∈ TB := tbg (z := 3113) (by decide +kernel) rfl
theorem mC_min : Cond.code Lib.Math.min.name Lib.Math.min.code 2 (some .int) ∈ TB := tbg (z := 3114) (by rfl) rfl
theorem mS_abs : Cond.static Lib.Math.abs.name ∈ TB := tbg (z := 4099) (by decide +kernel) rfl
theorem mC_abs : Cond.code Lib.Math.abs.name Lib.Math.abs.code 1 (some .int) ∈ TB := tbg (z := 4100) (by rfl) rfl
theorem mI : Cond.initialized "java/lang/Math" ∈ TB := tbg (z := 1014) (by decide +kernel) rfl
/-- every store lies within the locals, every constant within its kind -/
def oks (n : Nat) (i : Ins) : Bool := match i.1 with
  | 0 => match i.2.1 with
    | 1 => decide (-128 ≤ i.2.2.2 ∧ i.2.2.2 < 128)
    | 2 => decide (-32768 ≤ i.2.2.2 ∧ i.2.2.2 < 32768)
    | _ => decide (-2147483648 ≤ i.2.2.2 ∧ i.2.2.2 < 2147483648)
  | 1 => decide (-9223372036854775808 ≤ i.2.2.2 ∧ i.2.2.2 < 9223372036854775808)
  | 4 => Nat.ble (i.2.1 + 1 + (bif Nat.beq i.2.2.1 1 then 1 else 0)) n
  | 5 => Nat.ble (i.2.1 + 1) n
  | _ => true
set_option maxRecDepth 100000 in
theorem oks_ok : (List.range 357).all (fun m => (inf m).2.2.all (fun b => b.2.2.all (oks (inf m).1))) = true := by decide +kernel
end
section
/-! SOUNDNESS, 1: what stands between an interpreter's state and the machine's (own work) -/
def tysOf (cA : Nat → ClassId) : List (ClassId × FieldType) := [(cA 0, .int), (cA 1, .long), (cA 2, .boolean), (cA 3, .object RX7), (cA 4, .object RX10)]
def lenT : List Nat := (List.range 12).map (fun j => (strb j).length)
def bytT : List (List Int32) := (List.range 12).map (fun j => (strb j).map Int32.ofInt)
def sTx (j : Nat) : String := match j with
  | 0 => "looks lets asks ranks bars"
  | 1 => "paint scrape copy touch"
  | 2 => "likest cheapest by"
  | 3 => "at"
  | 4 => "with"
  | 5 => "times"
  | 6 => "if"
  | 7 => "or"
  | 8 => "and"
  | 9 => "not"
  | 10 => "years unlike money copies age done tone"
  | _ => "cell age year painter price mood claimant born near children"
/-- what of the machine nobody writes: String constants, two statics, the script -/
def STR (A : Nat → Prop) (X : AdX) (n : Nat) (xs : Nat → Int32) (s : State) : Prop :=
  vk_S 12 lenT bytT X.1 X.2.1 A s s.heap ∧ (∀ q ∈ lkS, vk_R (rnm q.1) q.2.1 (sTx q.2.2.1) (X.1 q.2.2.1) s) ∧ va_Z "java/lang/String" "COMPACT_STRINGS" "Z" (.int 1) A s s.heap ∧ va_Z "jdk/internal/util/Preconditions" "SIOOBE_FORMATTER" "Ljava/util/function/BiFunction;" (va_rf X.2.2.2) A s s.heap ∧ va_X X.2.2.1 n xs s s.heap ∧ X.2.2.1 < s.heap.size ∧ ¬ A X.2.2.1 ∧ n ≤ 3072 ∧ va_AO RX7 s ∧ va_AO RX10 s ∧ ∀ w idx y, Cond.methodLinkNest w idx y RX11 ∈ lw_tbl → va_Nw (.methodLinkNest w idx y RX11) s
/-- the fixed part of a walk -/
def CX (p : Program) (s : State) (m : MethodId) (args : Array Value) (meth : Method) (c0 : Code) (f : Nat) (A : Nat → Prop) (D : va_G) (cA : Nat → ClassId) (X : AdX) (n : Nat) (xs : Nat → Int32) : Prop :=
  p.tables.exec = Jvm.exec ∧ c0.code = (mtb f).1 ∧ c0.maxLocals = (inf f).1 ∧ s.vm.findClass (rnm (mtb f).2.2.2.2) = some m.cls ∧ (∀ w ∈ TB, w.before args s = true) ∧ va_K D vwCl (tysOf cA) s ∧ STR A X n xs s ∧ (∀ q, s.heap.size ≤ q → A q) ∧ meth.sig.returnType = (mtb f).2.2.1 ∧ meth.locks = false ∧ ((mtb f).2.1.name = "<init>" → meth.name = "<init>")
def LRl (nL : Nat) (ad : Nat → Nat) (X : AdX) (ls : List V) (lsM : Array Slot) : Prop := ls.length = nL ∧ lsM.size = nL ∧ lv_wf lsM ∧ ∀ (i : Nat) (v : V), ls[i]? = some v → tyV v ≠ 3 → lsM[i]? = some (.val (mv ad X v))
/-- the state: memory, locals, stack; since the method's start (addresses ad0 of the n0 cells then) -/
def SR (f : Nat) (A : Nat → Prop) (s : State) (D : va_G) (cA : Nat → ClassId) (X : AdX) (n : Nat) (xs : Nat → Int32) (ad0 : Nat → Nat) (n0 z0 : Nat) (ad : Nat → Nat) (ls st : List V) (L : List Shp) (c : Nat → Int → Int) (H : Heap) (locs : List Loc) (lsM : Array Slot) : Prop :=
  va_P D vwCl (wsl ad X cA L c) H ∧ va_D A (wsl ad X cA L c) ∧ va_S A s.heap H locs ∧ mok L c ∧ SCR n xs c ∧ (n0 ≤ L.length ∧ z0 ≤ slz L ∧ ∀ k, k < n0 → ad k = ad0 k) ∧ LRl (inf f).1 ad X ls lsM ∧ (∀ v ∈ ls, vok L.length v) ∧ ∀ v ∈ st, vok L.length v
section SO
variable {p : Program} {l : Launch} {e : Env} {R : Room} {s : State} {m : MethodId} {args : Array Value} {below : List Frame} {meth : Method} {c0 : Code} {Q : State → Prop} {f : Nat} {A : Nat → Prop} {D : va_G} {cA : Nat → ClassId} {X : AdX} {n : Nat} {xs : Nat → Int32} {ad0 ad : Nat → Nat} {n0 z0 : Nat}
variable {ls st : List V} {L : List Shp} {c : Nat → Int → Int} {H : Heap} {locs : List Loc} {lsM : Array Slot}
/-- from every machine state that stands for this one, the walk comes to its end -/
def WS (p : Program) (l : Launch) (e : Env) (R : Room) (s : State) (m : MethodId) (args : Array Value) (below : List Frame) (meth : Method) (c0 : Code) (Q : State → Prop) (f : Nat) (A : Nat → Prop) (D : va_G) (cA : Nat → ClassId) (X : AdX) (n : Nat) (xs : Nat → Int32) (ad0 : Nat → Nat) (n0 z0 : Nat) (pc : Nat) (ls st : List V) (L : List Shp) (c : Nat → Int → Int) : Prop :=
  ∀ (ad : Nat → Nat) (H : Heap) (locs : List Loc) (lsM : Array Slot), SR f A s D cA X n xs ad0 n0 z0 ad ls st L c H locs lsM → W p l e R s m args below meth c0 H locs (L.length - n0) (slz L - z0) Q (F0 m pc lsM (st.map (mv ad X)))
theorem SR.stk {st' : List V} (S : SR f A s D cA X n xs ad0 n0 z0 ad ls st L c H locs lsM) (h : ∀ v ∈ st', vok L.length v) : SR f A s D cA X n xs ad0 n0 z0 ad ls st' L c H locs lsM :=
  ⟨S.1, S.2.1, S.2.2.1, S.2.2.2.1, S.2.2.2.2.1, S.2.2.2.2.2.1, S.2.2.2.2.2.2.1, S.2.2.2.2.2.2.2.1, h⟩
theorem SR.stv (S : SR f A s D cA X n xs ad0 n0 z0 ad ls st L c H locs lsM) : ∀ v ∈ st, vok L.length v := S.2.2.2.2.2.2.2.2
theorem SR.lsv (S : SR f A s D cA X n xs ad0 n0 z0 ad ls st L c H locs lsM) : ∀ v ∈ ls, vok L.length v := S.2.2.2.2.2.2.2.1
theorem SR.lr (S : SR f A s D cA X n xs ad0 n0 z0 ad ls st L c H locs lsM) : LRl (inf f).1 ad X ls lsM := S.2.2.2.2.2.2.1
/-- a new memory, the old addresses -/
theorem SR.mem {st' : List V} {L' : List Shp} {c' : Nat → Int → Int} {H' : Heap} {locs' : List Loc} (S : SR f A s D cA X n xs ad0 n0 z0 ad ls st L c H locs lsM) (hl : L'.length = L.length) (hz : slz L' = slz L) (hP : va_P D vwCl (wsl ad X cA L' c') H') (hD : va_D A (wsl ad X cA L' c')) (hS : va_S A s.heap H' locs') (hm : mok L' c') (hc : SCR n xs c') (h : ∀ v ∈ st', vok L.length v) : SR f A s D cA X n xs ad0 n0 z0 ad ls st' L' c' H' locs' lsM :=
  ⟨hP, hD, hS, hm, hc, by rw [hl, hz]; exact S.2.2.2.2.2.1, S.lr, by rw [hl]; exact S.lsv, by rw [hl]; exact h⟩
/-! inverses -/
theorem pI_inv {α : Type} {g : Int → List V → Option α} {r : α} (h : pI none st g = some r) : ∃ x t, st = vI x :: t ∧ g x t = some r := by
  rcases st with _ | ⟨x | x | x | x, t⟩ <;> first | exact ⟨_, _, rfl, h⟩ | (exact absurd h (by simp [pI]))
theorem pL_inv {α : Type} {g : Int → List V → Option α} {r : α} (h : pL none st g = some r) : ∃ x t, st = vL x :: t ∧ g x t = some r := by
  rcases st with _ | ⟨x | x | x | x, t⟩ <;> first | exact ⟨_, _, rfl, h⟩ | (exact absurd h (by simp [pL]))
theorem pR_inv {α : Type} {g : Int → List V → Option α} {r : α} (h : pR none st g = some r) : ∃ x t, st = vR x :: t ∧ g x t = some r := by
  rcases st with _ | ⟨x | x | x | x, t⟩ <;> first | exact ⟨_, _, rfl, h⟩ | (exact absurd h (by simp [pR]))
theorem pV_inv {α : Type} {g : V → List V → Option α} {r : α} (h : pV none st g = some r) : ∃ x t, st = x :: t ∧ g x t = some r := by
  rcases st with _ | ⟨v, t⟩
  · exact absurd h (by simp [pV])
  · exact ⟨_, _, rfl, h⟩
theorem pE_inv {α : Type} {y : Option α} {r : α} (h : pE none st y = some r) : st = [] ∧ y = some r := by
  rcases st with _ | ⟨v, t⟩
  · exact ⟨rfl, h⟩
  · exact absurd h (by simp [pE])
theorem bif_inv {α : Type} {b : Bool} {y : Option α} {r : α} (h : (bif b then y else none) = some r) : b = true ∧ y = some r := by
  cases b with
  | true => exact ⟨rfl, h⟩
  | false => exact absurd h (by simp)
theorem if_inv {α : Type} {q : Prop} {dq : Decidable q} {y : Option α} {r : α} (h : (@ite _ q dq y none) = some r) : q ∧ y = some r := by
  by_cases hq : q
  · rw [if_pos hq] at h; exact ⟨hq, h⟩
  · rw [if_neg hq] at h; exact absurd h (by simp)
theorem ifn_inv {α : Type} {q : Prop} {dq : Decidable q} {y : Option α} {r : α} (h : (@ite _ q dq none y) = some r) : ¬ q ∧ y = some r := by
  by_cases hq : q
  · rw [if_pos hq] at h; exact absurd h (by simp)
  · rw [if_neg hq] at h; exact ⟨hq, h⟩
theorem el_inv {α γ : Type} {o : Option γ} {g : γ → Option α} {r : α} (h : o.elim none g = some r) : ∃ q, o = some q ∧ g q = some r := by
  cases o with
  | none => exact absurd h (by simp)
  | some q => exact ⟨q, rfl, h⟩
theorem drf_inv {r : Int} {q : Nat × Shp} (h : drf L r = some q) : r = (q.1 : Int) + 1 ∧ L[q.1]? = some q.2 := by
  rcases r with (_ | k) | k
  · exact absurd h (by simp [drf])
  · have h' : (L[k]?).elim none (fun s => some (k, s)) = some q := h
    obtain ⟨s, h1, h2⟩ := el_inv h'
    cases h2
    exact ⟨rfl, h1⟩
  · exact absurd h (by simp [drf])
theorem pD_inv {α : Type} {r0 : Int} {g : Nat → Shp → Option α} {r : α} (h : pD none L r0 g = some r) : ∃ (k : Nat) (s : Shp), L[k]? = some s ∧ r0 = (k : Int) + 1 ∧ g k s = some r := by
  obtain ⟨q, h1, h2⟩ := el_inv h
  obtain ⟨h3, h4⟩ := drf_inv h1
  exact ⟨q.1, q.2, h4, h3, h2⟩
theorem rof_cell {k : Nat} : rof ad X ((k : Int) + 1) = some (ad k) := rfl
theorem mv_cell {k : Nat} : mv ad X (vR ((k : Int) + 1)) = .ref (ad k) := rfl
/-- the locals as the kit's rows want them -/
def prs (ad : Nat → Nat) (X : AdX) (ls : List V) : List (Nat × Value) := (List.range ls.length).filterMap (fun i => match ls[i]? with
  | some v => bif Nat.beq (tyV v) 3 then none else some (i, mv ad X v)
  | none => none)
theorem prs_mem {i : Nat} {v : V} (h : ls[i]? = some v) (hv : tyV v ≠ 3) : (i, mv ad X v) ∈ prs ad X ls := by
  unfold prs
  refine List.mem_filterMap.mpr ⟨i, List.mem_range.mpr (List.getElem?_eq_some_iff.mp h).1, ?_⟩
  rw [h]
  show (bif Nat.beq (tyV v) 3 then none else some (i, mv ad X v)) = _
  have : Nat.beq (tyV v) 3 = false := by
    cases hb : Nat.beq (tyV v) 3 with
    | false => rfl
    | true => exact absurd (Nat.eq_of_beq_eq_true hb) hv
  rw [this]
  rfl
theorem prs_inv {q : Nat × Value} (h : q ∈ prs ad X ls) : ∃ v, ls[q.1]? = some v ∧ tyV v ≠ 3 ∧ q.2 = mv ad X v := by
  obtain ⟨i, h1, h2⟩ := List.mem_filterMap.mp h
  cases hv : ls[i]? with
  | none => rw [hv] at h2; exact absurd h2 (by simp)
  | some v =>
    rw [hv] at h2
    have h3 : (bif Nat.beq (tyV v) 3 then none else some (i, mv ad X v)) = some q := h2
    cases hb : Nat.beq (tyV v) 3 with
    | true => rw [hb] at h3; exact absurd h3 (by simp)
    | false =>
      rw [hb] at h3
      cases h3
      exact ⟨v, hv, fun z => by rw [z] at hb; exact absurd hb (by decide), rfl⟩
theorem LRl.has {nL : Nat} (h : LRl nL ad X ls lsM) : lv_has lsM nL (prs ad X ls) := by
  obtain ⟨h1, h2, h3, h4⟩ := h
  refine ⟨h2, h3, fun q hq => ?_⟩
  obtain ⟨v, a1, a2, a3⟩ := prs_inv hq
  rw [a3]
  exact h4 _ _ a1 a2
theorem mv_cat {v : V} (h : tyV v ≠ 3) : (mv ad X v).category = (if tyV v = 1 then 2 else 1) := by
  rcases v with x | x | r | u
  · rfl
  · rfl
  · show (va_rf (rof ad X r)).category = 1
    cases rof ad X r <;> rfl
  · exact absurd rfl h
theorem kil_len {a : Nat} : (kil ls a).length = ls.length := by
  rcases a with _ | b
  · rfl
  · show ((ls[b]?).elim ls (fun v => bif Nat.beq (tyV v) 1 then ls.set b vU else ls)).length = _
    cases ls[b]? with
    | none => rfl
    | some v =>
      show (bif Nat.beq (tyV v) 1 then ls.set b vU else ls).length = _
      cases Nat.beq (tyV v) 1 with
      | true => exact List.length_set
      | false => rfl
theorem sto_len {a b : Nat} {v : V} : (sto ls a b v).length = ls.length := by
  unfold sto
  cases Nat.beq b 1 with
  | true => show (((kil ls a).set a v).set (a + 1) vU).length = _; rw [List.length_set, List.length_set, kil_len]
  | false => show ((kil ls a).set a v).length = _; rw [List.length_set, kil_len]
/-- what is left of the locals ahead of a store -/
theorem kil_inv {a i : Nat} {w : V} (h : (kil ls a)[i]? = some w) (hw : tyV w ≠ 3) : ls[i]? = some w ∧ ¬ (i + 1 = a ∧ tyV w = 1) := by
  rcases a with _ | b
  · exact ⟨h, fun q => by omega⟩
  · have h' : ((ls[b]?).elim ls (fun v => bif Nat.beq (tyV v) 1 then ls.set b vU else ls))[i]? = some w := h
    cases hb : ls[b]? with
    | none =>
      rw [hb] at h'
      have h2 : ls[i]? = some w := h'
      refine ⟨h2, fun q => ?_⟩
      have : i = b := by omega
      rw [this, hb] at h2
      cases h2
    | some v =>
      rw [hb] at h'
      have h2 : (bif Nat.beq (tyV v) 1 then ls.set b vU else ls)[i]? = some w := h'
      cases ht : Nat.beq (tyV v) 1 with
      | true =>
        rw [ht] at h2
        have h3 : (ls.set b vU)[i]? = some w := h2
        by_cases hi : b = i
        · subst hi
          rw [List.getElem?_set_self (List.getElem?_eq_some_iff.mp hb).1] at h3
          cases h3
          exact absurd rfl hw
        · rw [List.getElem?_set_ne hi] at h3
          exact ⟨h3, fun q => by omega⟩
      | false =>
        rw [ht] at h2
        have h3 : ls[i]? = some w := h2
        refine ⟨h3, fun q => ?_⟩
        have : i = b := by omega
        rw [this, hb] at h3
        cases h3
        rw [q.2] at ht
        exact absurd ht (by decide)
theorem kil_mem {a : Nat} {w : V} (h : w ∈ kil ls a) : w ∈ ls ∨ w = vU := by
  rcases a with _ | b
  · exact Or.inl h
  · have h' : w ∈ (ls[b]?).elim ls (fun v => bif Nat.beq (tyV v) 1 then ls.set b vU else ls) := h
    cases hb : ls[b]? with
    | none => rw [hb] at h'; exact Or.inl h'
    | some v =>
      rw [hb] at h'
      have h2 : w ∈ (bif Nat.beq (tyV v) 1 then ls.set b vU else ls) := h'
      cases ht : Nat.beq (tyV v) 1 with
      | true => rw [ht] at h2; exact List.mem_or_eq_of_mem_set h2
      | false => rw [ht] at h2; exact Or.inl h2
theorem sto_ok {N a b : Nat} {v : V} (h : ∀ w ∈ ls, vok N w) (hv : vok N v) : ∀ w ∈ sto ls a b v, vok N w := by
  intro w hw
  have k1 : ∀ w ∈ (kil ls a).set a v, vok N w := by
    intro w hw
    rcases List.mem_or_eq_of_mem_set hw with q | q
    · rcases kil_mem q with q | q
      · exact h w q
      · rw [q]; trivial
    · rw [q]; exact hv
  unfold sto at hw
  cases hb : Nat.beq b 1 with
  | true =>
    rw [hb] at hw
    rcases List.mem_or_eq_of_mem_set (show w ∈ ((kil ls a).set a v).set (a + 1) vU from hw) with q | q
    · exact k1 w q
    · rw [q]; trivial
  | false => rw [hb] at hw; exact k1 w hw
/-- behind a store of one place -/
theorem LRl.sto1 {nL a b : Nat} {v : V} {lsM' : Array Slot} (h : LRl nL ad X ls lsM) (hb : Nat.beq b 1 = false) (hv : tyV v ≠ 3) (ha : a < nL) (h' : lv_has lsM' nL ((a, mv ad X v) :: (prs ad X ls).filter (fun q => !(q.1 == a) && !(q.1 + 1 == a && q.2.category == 2)))) : LRl nL ad X (sto ls a b v) lsM' := by
  obtain ⟨h1, h2, h3, h4⟩ := h
  obtain ⟨g1, g2, g3⟩ := h'
  refine ⟨sto_len.trans h1, g1, g2, fun i w hw ht => ?_⟩
  unfold sto at hw
  rw [hb] at hw
  have hw : ((kil ls a).set a v)[i]? = some w := hw
  by_cases hi : a = i
  · subst hi
    rw [List.getElem?_set_self (by rw [kil_len, h1]; exact ha)] at hw
    cases hw
    exact g3 _ List.mem_cons_self
  · rw [List.getElem?_set_ne hi] at hw
    obtain ⟨k1, k2⟩ := kil_inv hw ht
    refine g3 (i, mv ad X w) (List.mem_cons_of_mem _ (List.mem_filter.mpr ⟨prs_mem k1 ht, ?_⟩))
    have e1 : (i == a) = false := by simpa using fun q => hi q.symm
    have e2 : (i + 1 == a && (mv ad X w).category == 2) = false := by
      rw [mv_cat ht]
      by_cases q1 : i + 1 = a
      · have : tyV w ≠ 1 := fun z => k2 ⟨q1, z⟩
        rw [if_neg this]
        simp
      · simp [q1]
    show (!(i == a) && !(i + 1 == a && (mv ad X w).category == 2)) = true
    rw [e1, e2]
    rfl
theorem LRl.sto2 {nL a b : Nat} {v : V} {lsM' : Array Slot} (h : LRl nL ad X ls lsM) (hb : Nat.beq b 1 = true) (hv : tyV v ≠ 3) (ha : a + 1 < nL) (h' : lv_has lsM' nL ((a, mv ad X v) :: (prs ad X ls).filter (fun q => !(q.1 == a) && (!(q.1 == a + 1) && !(q.1 + 1 == a && q.2.category == 2))))) : LRl nL ad X (sto ls a b v) lsM' := by
  obtain ⟨h1, h2, h3, h4⟩ := h
  obtain ⟨g1, g2, g3⟩ := h'
  refine ⟨sto_len.trans h1, g1, g2, fun i w hw ht => ?_⟩
  unfold sto at hw
  rw [hb] at hw
  have hw : (((kil ls a).set a v).set (a + 1) vU)[i]? = some w := hw
  by_cases hj : a + 1 = i
  · subst hj
    rw [List.getElem?_set_self (by rw [List.length_set, kil_len, h1]; exact ha)] at hw
    cases hw
    exact absurd rfl ht
  · rw [List.getElem?_set_ne hj] at hw
    by_cases hi : a = i
    · subst hi
      rw [List.getElem?_set_self (by rw [kil_len, h1]; omega)] at hw
      cases hw
      exact g3 _ List.mem_cons_self
    · rw [List.getElem?_set_ne hi] at hw
      obtain ⟨k1, k2⟩ := kil_inv hw ht
      refine g3 (i, mv ad X w) (List.mem_cons_of_mem _ (List.mem_filter.mpr ⟨prs_mem k1 ht, ?_⟩))
      have e1 : (i == a) = false := by simpa using fun q => hi q.symm
      have e3 : (i == a + 1) = false := by simpa using fun q => hj q.symm
      have e2 : (i + 1 == a && (mv ad X w).category == 2) = false := by
        rw [mv_cat ht]
        by_cases q1 : i + 1 = a
        · have : tyV w ≠ 1 := fun z => k2 ⟨q1, z⟩
          rw [if_neg this]
          simp
        · simp [q1]
      show (!(i == a) && (!(i == a + 1) && !(i + 1 == a && (mv ad X w).category == 2))) = true
      rw [e1, e2, e3]
      rfl
theorem msk_len : ∀ (ls : List V) (b : Nat), (msk b ls).length = ls.length
  | [], _ => rfl
  | v :: l, b => by show (msk (b / 2) l).length + 1 = l.length + 1; rw [msk_len l]
theorem msk_inv : ∀ (ls : List V) (b i : Nat) (w : V), (msk b ls)[i]? = some w → tyV w ≠ 3 → ls[i]? = some w
  | [], _, i, w, h, _ => h
  | v :: l, b, 0, w, h, hw => by
    have h : (bif Nat.beq (b % 2) 1 then v else vU) = w := by simpa [msk] using h
    cases hb : Nat.beq (b % 2) 1 with
    | true => rw [hb] at h; simpa using h
    | false => rw [hb] at h; exact absurd (show tyV w = 3 by rw [← h]; rfl) hw
  | v :: l, b, i + 1, w, h, hw => by
    have h : (msk (b / 2) l)[i]? = some w := by simpa [msk] using h
    simpa using msk_inv l (b / 2) i w h hw
theorem msk_mem : ∀ (ls : List V) (b : Nat) (w : V), w ∈ msk b ls → w ∈ ls ∨ w = vU
  | [], _, w, h => Or.inl h
  | v :: l, b, w, h => by
    have h : w ∈ (bif Nat.beq (b % 2) 1 then v else vU) :: msk (b / 2) l := h
    rcases List.mem_cons.mp h with q | q
    · cases hb : Nat.beq (b % 2) 1 with
      | true => rw [hb] at q; exact Or.inl (List.mem_cons.mpr (Or.inl q))
      | false => rw [hb] at q; exact Or.inr q
    · rcases msk_mem l (b / 2) w q with q | q
      · exact Or.inl (List.mem_cons_of_mem _ q)
      · exact Or.inr q
theorem LRl.mask {nL b : Nat} (h : LRl nL ad X ls lsM) : LRl nL ad X (msk b ls) lsM := ⟨(msk_len ls b).trans h.1, h.2.1, h.2.2.1, fun i v hv ht => h.2.2.2 i v (msk_inv ls b i v hv ht) ht⟩
/-- locals that nobody looks at may be forgotten -/
theorem WS.mask {pc b : Nat} (h : WS p l e R s m args below meth c0 Q f A D cA X n xs ad0 n0 z0 pc (msk b ls) st L c) : WS p l e R s m args below meth c0 Q f A D cA X n xs ad0 n0 z0 pc ls st L c := by
  intro ad H locs lsM S
  refine h ad H locs lsM ⟨S.1, S.2.1, S.2.2.1, S.2.2.2.1, S.2.2.2.2.1, S.2.2.2.2.2.1, S.lr.mask, fun v hv => ?_, S.stv⟩
  rcases msk_mem ls b v hv with q | q
  · exact S.lsv v q
  · rw [q]; trivial
end SO
end
section
/-! SOUNDNESS, 2: an instruction that goes on (own work) -/
/-- where the next instruction stands -/
def npc (pc : Nat) (i : Ins) : Nat := bif Nat.beq i.1 15 then i.2.2.1 else pc + (raw pc i).2
theorem beq_of {a b : Nat} (h : Nat.beq a b = true) : a = b := Nat.eq_of_beq_eq_true h
theorem lkF_word {w ci k : Nat} {x : Int} (h : (lkF w).any (fun q => Nat.beq q.1 x.toNat && (Nat.beq q.2.1 ci && Nat.beq q.2.2.1 k)) = true) : Cond.fieldLink (rnm w) x.toNat (tnm ci k).1 (tnm ci k).2.1 (tnm ci k).2.2.1 ∈ TB := by
  obtain ⟨⟨q1, q2, q3, q4⟩, hq, h⟩ := List.any_eq_true.mp h
  simp only [Bool.and_eq_true] at h
  obtain ⟨h1, h3, h4⟩ := h
  have h1 : q1 = x.toNat := beq_of h1
  have h3 : q2 = ci := beq_of h3
  have h4 : q3 = k := beq_of h4
  subst h1; subst h3; subst h4
  exact tbg (of_decide_eq_true (List.all_eq_true.mp (lkF_ok w) _ hq)) rfl
theorem lkI_word {w b : Nat} {x : Int} (h : lkI.any (fun q => Nat.beq q.1 w && (Nat.beq q.2.1 b && decide (q.2.2.1 = x))) = true) : Cond.constant (rnm w) b (Int32.ofInt x) ∈ TB := by
  obtain ⟨⟨q1, q2, q3, q4⟩, hq, h⟩ := List.any_eq_true.mp h
  simp only [Bool.and_eq_true, decide_eq_true_eq] at h
  obtain ⟨h1, h2, h3⟩ := h
  obtain rfl := beq_of h1; obtain rfl := beq_of h2; subst h3
  exact tbg (of_decide_eq_true (List.all_eq_true.mp lkI_ok _ hq)) rfl
theorem lkJ_word {w b : Nat} {x : Int} (h : lkJ.any (fun q => Nat.beq q.1 w && (Nat.beq q.2.1 b && decide (q.2.2.1 = x))) = true) : Cond.constantLong (rnm w) b (Int64.ofInt x) ∈ TB := by
  obtain ⟨⟨q1, q2, q3, q4⟩, hq, h⟩ := List.any_eq_true.mp h
  simp only [Bool.and_eq_true, decide_eq_true_eq] at h
  obtain ⟨h1, h2, h3⟩ := h
  obtain rfl := beq_of h1; obtain rfl := beq_of h2; subst h3
  exact tbg (of_decide_eq_true (List.all_eq_true.mp lkJ_ok _ hq)) rfl
theorem lkC_word {w ci : Nat} {x : Int} (h : lkC.any (fun q => Nat.beq q.1 w && (decide ((q.2.1 : Int) = x) && Nat.beq q.2.2.1 ci)) = true) : Cond.classLink (rnm w) x.toNat (bif Nat.beq ci 103 then RX7 else bif Nat.beq ci 104 then RX10 else rnm ci) ∈ TB := by
  obtain ⟨⟨q1, q2, q3, q4⟩, hq, h⟩ := List.any_eq_true.mp h
  simp only [Bool.and_eq_true, decide_eq_true_eq] at h
  obtain ⟨h1, h2, h3⟩ := h
  obtain rfl := beq_of h1; obtain rfl := beq_of h3
  have h5 := of_decide_eq_true (List.all_eq_true.mp lkC_ok _ hq)
  rw [← h2]
  exact tbg h5 (by first | rfl | (cases Nat.beq q3 35 <;> rfl))
theorem lkO_word {w : Nat} {x : Int} (h : lkO.any (fun q => Nat.beq q.1 w && decide ((q.2.1 : Int) = x)) = true) : Cond.methodLink (rnm w) x.toNat objectInit ∈ TB := by
  obtain ⟨⟨q1, q2, q3⟩, hq, h⟩ := List.any_eq_true.mp h
  simp only [Bool.and_eq_true, decide_eq_true_eq] at h
  obtain ⟨h1, h2⟩ := h
  obtain rfl := beq_of h1
  rw [← h2]
  exact tbg (of_decide_eq_true (List.all_eq_true.mp lkO_ok _ hq)) rfl
theorem lkA_word {w : Nat} {x : Int} (h : lkA.any (fun q => Nat.beq q.1 w && decide ((q.2.1 : Int) = x)) = true) : Cond.methodLink (rnm w) x.toNat arraycopyName ∈ TB := by
  obtain ⟨⟨q1, q2, q3⟩, hq, h⟩ := List.any_eq_true.mp h
  simp only [Bool.and_eq_true, decide_eq_true_eq] at h
  obtain ⟨h1, h2⟩ := h
  obtain rfl := beq_of h1
  rw [← h2]
  exact tbg (of_decide_eq_true (List.all_eq_true.mp lkA_ok _ hq)) rfl
theorem lkV_word {w k : Nat} {x : Int} (h : lkV.any (fun q => Nat.beq q.1 w && (decide ((q.2.1 : Int) = x) && Nat.beq q.2.2.1 k)) = true) : Cond.fieldLink (rnm w) x.toNat "java/lang/String" (bif Nat.beq k 31 then "value" else "coder") (bif Nat.beq k 31 then "[B" else "B") ∈ TB := by
  obtain ⟨⟨q1, q2, q3, q4⟩, hq, h⟩ := List.any_eq_true.mp h
  simp only [Bool.and_eq_true, decide_eq_true_eq] at h
  obtain ⟨h1, h2, h3⟩ := h
  obtain rfl := beq_of h1; obtain rfl := beq_of h3
  have h5 := of_decide_eq_true (List.all_eq_true.mp lkV_ok _ hq)
  rw [← h2]
  exact tbg h5 (by first | rfl | (cases Nat.beq q3 35 <;> rfl))
theorem lkX_word {w k : Nat} {x : Int} (h : lkX.any (fun q => Nat.beq q.1 w && (decide ((q.2.1 : Int) = x) && Nat.beq q.2.2.1 k)) = true) : Cond.methodLink (rnm w) x.toNat (mnm k) ∈ TB := by
  obtain ⟨⟨q1, q2, q3, q4⟩, hq, h⟩ := List.any_eq_true.mp h
  simp only [Bool.and_eq_true, decide_eq_true_eq] at h
  obtain ⟨h1, h2, h3⟩ := h
  obtain rfl := beq_of h1; obtain rfl := beq_of h3
  have h5 := of_decide_eq_true (List.all_eq_true.mp lkX_ok _ hq)
  rw [← h2]
  exact tbg h5 rfl
theorem lkG_word {w k : Nat} {x : Int} (h : lkG.any (fun q => Nat.beq q.1 w && (decide ((q.2.1 : Int) = x) && Nat.beq q.2.2.1 k)) = true) : (bif Nat.beq k 35 then Cond.fieldLink (rnm w) x.toNat "java/lang/String" "COMPACT_STRINGS" "Z" else Cond.fieldLink (rnm w) x.toNat "jdk/internal/util/Preconditions" "SIOOBE_FORMATTER" "Ljava/util/function/BiFunction;") ∈ TB := by
  obtain ⟨⟨q1, q2, q3, q4⟩, hq, h⟩ := List.any_eq_true.mp h
  simp only [Bool.and_eq_true, decide_eq_true_eq] at h
  obtain ⟨h1, h2, h3⟩ := h
  obtain rfl := beq_of h1; obtain rfl := beq_of h3
  have h5 := of_decide_eq_true (List.all_eq_true.mp lkG_ok _ hq)
  rw [← h2]
  exact tbg h5 (by first | rfl | (cases Nat.beq q3 35 <;> rfl))
theorem lkS_mem {w b a : Nat} (h : lkS.any (fun q => Nat.beq q.1 w && (Nat.beq q.2.1 b && Nat.beq q.2.2.1 a)) = true) : ∃ z, (w, b, a, z) ∈ lkS := by
  obtain ⟨⟨q1, q2, q3, q4⟩, hq, h⟩ := List.any_eq_true.mp h
  simp only [Bool.and_eq_true] at h
  obtain ⟨h1, h2, h3⟩ := h
  obtain rfl := beq_of h1; obtain rfl := beq_of h2; obtain rfl := beq_of h3
  exact ⟨_, hq⟩
theorem CLS.nam {ci k : Nat} {q : vw_C} {ty : Nat → FieldType} (h : CLS ci q ty) : tnm ci k = q.2.1 k := by
  unfold tnm
  rw [h.1]
  rfl
theorem CLS.fin {ci k : Nat} {q : vw_C} {ty : Nat → FieldType} (h : CLS ci q ty) (hk : (ftb ci).getD k 9 ≠ 9) : k < q.2.2 := by
  rw [h.2.2.2.2.2.1]
  by_cases z : k < (ftb ci).length
  · exact z
  · exact absurd (by rw [List.getD_eq_getElem?_getD, List.getElem?_eq_none (by omega)]; rfl) hk
theorem flds_at {ad : Nat → Nat} {X : AdX} {ci b : Nat} {g : Int → Int} {fin : List Int} (hb : b < (ftb ci).length) : (flds ad X ci g fin)[b]? = some (fvl ad X ((ftb ci).getD b 9) (g (Int.ofNat b)) (fin.getD b 0)) := by
  unfold flds
  rw [List.getElem?_map, List.getElem?_range hb]
  rfl
theorem flds_set {ad : Nat → Nat} {X : AdX} {ci b : Nat} {g g' : Int → Int} {fin : List Int} {v : Value} (hb : b < (ftb ci).length) (hv : v = fvl ad X ((ftb ci).getD b 9) (g' (Int.ofNat b)) (fin.getD b 0)) (ho : ∀ j : Nat, j ≠ b → g' (Int.ofNat j) = g (Int.ofNat j)) : (flds ad X ci g fin).set b v = flds ad X ci g' fin := by
  apply List.ext_getElem?
  intro j
  have hl : (flds ad X ci g fin).length = (ftb ci).length := by simp [flds]
  by_cases hj : b = j
  · subst hj
    rw [List.getElem?_set_self (by rw [hl]; exact hb), flds_at hb, hv]
  · rw [List.getElem?_set_ne hj]
    by_cases h2 : j < (ftb ci).length
    · rw [flds_at h2, flds_at h2, ho j (fun z => hj z.symm)]
    · rw [List.getElem?_eq_none (by rw [hl]; omega), List.getElem?_eq_none (by simp [flds]; omega)]
theorem up_self {c : Nat → Int → Int} {k : Nat} {i v j : Int} : up c k i v k j = if j = i then v else c k j := by unfold up; rw [if_pos rfl]
theorem up_ne {c : Nat → Int → Int} {k a : Nat} {i v : Int} (h : a ≠ k) : up c k i v a = c a := by
  funext j
  unfold up
  rw [if_neg h]
theorem uz_ne {c : Nat → Int → Int} {k a : Nat} (h : a ≠ k) : uz c k a = c a := by
  funext j
  unfold uz
  rw [if_neg h]
theorem uz_self {c : Nat → Int → Int} {k : Nat} {j : Int} : uz c k k j = 0 := by unfold uz; rw [if_pos rfl]
theorem cpy_ne {c : Nat → Int → Int} {k d a : Nat} {sp dp z : Int} (h : a ≠ d) : cpy c k sp d dp z a = c a := by
  funext j
  unfold cpy
  rw [if_neg h]
theorem mok_one {L : List Shp} {c c' : Nat → Int → Int} {k : Nat} {sh : Shp} (hm : mok L c) (hk : L[k]? = some sh) (ho : ∀ a, a ≠ k → c' a = c a) (h : cok L.length sh (c' k)) : mok L c' := by
  intro a s' ha
  by_cases q : a = k
  · subst q
    rw [hk] at ha
    cases ha
    exact h
  · rw [ho a q]
    exact hm a s' ha
theorem SCR.keep {n : Nat} {xs : Nat → Int32} {c c' : Nat → Int → Int} (h : SCR n xs c) (h0 : c' 1000000 = c 1000000) (h1 : c' 1000001 = c 1000001) : SCR n xs c' := by
  refine ⟨by rw [h1]; exact h.1, fun j hj => by rw [h0]; exact h.2 j hj⟩
theorem cok_up {N : Nat} {sh : Shp} {g g' : Int → Int} (h : cok N sh g) (h0 : sh.1 = 0 ∨ sh.1 = 2 → ∀ j, In32 (g' j)) (h1 : sh.1 = 1 → ∀ j, In64 (g' j)) (h3 : sh.1 = 3 ∨ sh.1 = 4 → ∀ j, 0 ≤ g' j ∧ g' j ≤ (N : Int)) (h5 : ¬ sh.1 ≤ 4 → ∀ j : Nat, ((ftb (sh.1 - 10)).getD j 9 = 1 → In64 (g' j)) ∧ ((ftb (sh.1 - 10)).getD j 9 ≠ 1 → In32 (g' j))) : cok N sh g' :=
  ⟨h.1, h0, h1, h3, fun q => ⟨(h.2.2.2.2 q).1, (h.2.2.2.2 q).2.1, (h.2.2.2.2 q).2.2.1, (h.2.2.2.2 q).2.2.2.1, h5 q⟩⟩
theorem cok_f {N k : Nat} {sh : Shp} {g : Int → Int} (h : cok N sh g) (hk : 10 ≤ sh.1) : (∀ x ∈ sh.2.2, x ≤ (N : Int)) ∧ ((ftb (sh.1 - 10)).getD k 9 = 1 → In64 (g (Int.ofNat k))) ∧ ((ftb (sh.1 - 10)).getD k 9 ≠ 1 → In32 (g (Int.ofNat k))) := by
  obtain ⟨-, -, g3, g4, g5⟩ := h.2.2.2.2 (by omega)
  exact ⟨g4, g5 k⟩
section OPS
variable {p : Program} {l : Launch} {e : Env} {R : Room} {s : State} {m : MethodId} {args : Array Value} {below : List Frame} {meth : Method} {c0 : Code} {Q : State → Prop} {f : Nat} {A : Nat → Prop} {D : va_G} {cA : Nat → ClassId} {X : AdX} {n : Nat} {xs : Nat → Int32} {ad0 : Nat → Nat} {n0 z0 : Nat}
variable {ls st ls' st' : List V} {L : List Shp} {c : Nat → Int → Int} {M' : Mem} {pc a b : Nat} {x : Int}
theorem SR.upd {ad : Nat → Nat} {H H' : Heap} {locs locs' : List Loc} {lsM : Array Slot} {c' : Nat → Int → Int} {k : Nat} {sh : Shp} {e0 : va_E} (S : SR f A s D cA X n xs ad0 n0 z0 ad ls st L c H locs lsM) (hL : L.length ≤ 1000000) (hk : L[k]? = some sh) (ho : ∀ a, a ≠ k → c' a = c a) (hc : cok L.length sh (c' k)) (he : e0 = ent ad X cA sh (c' k)) (hP : va_P D vwCl ((wsl ad X cA L c).set k (ad k, e0)) H') (hD : va_D A ((wsl ad X cA L c).set k (ad k, e0))) (hS : va_S A s.heap H' locs') (h : ∀ v ∈ st', vok L.length v) : SR f A s D cA X n xs ad0 n0 z0 ad ls st' L c' H' locs' lsM := by
  have hkl : k < L.length := (List.getElem?_eq_some_iff.mp hk).1
  have e : (wsl ad X cA L c).set k (ad k, e0) = wsl ad X cA L c' := wsl_set rfl hk (fun _ _ => rfl) ho he
  rw [e] at hP hD
  exact S.mem rfl rfl hP hD hS (mok_one S.2.2.2.1 hk ho hc) (S.2.2.2.2.1.keep (ho _ (by omega)) (ho _ (by omega))) h
theorem tyI_ne {y : Int} : tyV (vI y) ≠ 3 := by show (0 : Nat) ≠ 3; decide
theorem tyL_ne {y : Int} : tyV (vL y) ≠ 3 := by show (1 : Nat) ≠ 3; decide
theorem tyR_ne {y : Int} : tyV (vR y) ≠ 3 := by show (2 : Nat) ≠ 3; decide
theorem vokI {N : Nat} {x : Int} (h : In32 x) : vok N (vI x) := h
theorem vokL {N : Nat} {x : Int} (h : In64 x) : vok N (vL x) := h
theorem vok_cons {N : Nat} {v : V} {t : List V} (h1 : vok N v) (h2 : ∀ w ∈ t, vok N w) : ∀ w ∈ v :: t, vok N w := fun w hw => by
  rcases List.mem_cons.mp hw with q | q
  · rw [q]; exact h1
  · exact h2 w q
theorem vok_tl {N : Nat} {v : V} {t : List V} (h : ∀ w ∈ v :: t, vok N w) : ∀ w ∈ t, vok N w := fun w hw => h w (List.mem_cons_of_mem _ hw)
theorem vok_hd {N : Nat} {v : V} {t : List V} (h : ∀ w ∈ v :: t, vok N w) : vok N v := h v List.mem_cons_self
theorem W_top {H : Heap} {locs : List Loc} {cells slots : Nat} {lsM : Array Slot} {v v' : Value} {rest : List Value} (h : v = v') (K : W p l e R s m args below meth c0 H locs cells slots Q (F0 m pc lsM (v :: rest))) : W p l e R s m args below meth c0 H locs cells slots Q (F0 m pc lsM (v' :: rest)) := h ▸ K
theorem SR.sto {ad : Nat → Nat} {H : Heap} {locs : List Loc} {lsM lsM' : Array Slot} {v : V} (S : SR f A s D cA X n xs ad0 n0 z0 ad ls st L c H locs lsM) (hlr : LRl (inf f).1 ad X (sto ls a b v) lsM') (hv : vok L.length v) (h : ∀ v ∈ st', vok L.length v) : SR f A s D cA X n xs ad0 n0 z0 ad (sto ls a b v) st' L c H locs lsM' :=
  ⟨S.1, S.2.1, S.2.2.1, S.2.2.2.1, S.2.2.2.2.1, S.2.2.2.2.2.1, hlr, sto_ok S.lsv hv, h⟩
theorem one1_cat {ad : Nat → Nat} {v : V} (h : one1 v = true) : tyV v ≠ 3 ∧ (mv ad X v).category = 1 := by
  have h3 : tyV v = 0 ∨ tyV v = 2 := by
    unfold one1 at h
    rcases Bool.or_eq_true _ _ |>.mp h with q | q
    · exact Or.inl (beq_of q)
    · exact Or.inr (beq_of q)
  have h4 : tyV v ≠ 3 := by omega
  refine ⟨h4, ?_⟩
  rw [mv_cat h4, if_neg (by omega)]
theorem getD_le {N b : Nat} {l : List Int} (h : ∀ x ∈ l, x ≤ (N : Int)) : l.getD b 0 ≤ (N : Int) := by
  rw [List.getD_eq_getElem?_getD]
  cases hq : l[b]? with
  | none => show (0 : Int) ≤ N; omega
  | some y => exact h y (List.mem_of_getElem? hq)
theorem getD_zero (b j : Nat) : (List.replicate b (0 : Int)).getD j 0 = 0 := by
  rw [List.getD_eq_getElem?_getD]
  cases hq : (List.replicate b (0 : Int))[j]? with
  | none => rfl
  | some y => exact List.eq_of_mem_replicate (List.mem_of_getElem? hq)
theorem tyk_inv0 {ty : FieldType} {fin : Bool} (h : tyk 0 ty fin = true) : ty = .int ∧ fin = false := by
  unfold tyk at h
  split at h <;> simp_all
theorem tyk_inv1 {ty : FieldType} {fin : Bool} (h : tyk 1 ty fin = true) : ty = .long ∧ fin = false := by
  unfold tyk at h
  split at h <;> simp_all
theorem tyk_inv2 {ty : FieldType} {fin : Bool} (h : tyk 2 ty fin = true) : ty = .boolean ∧ fin = false := by
  unfold tyk at h
  split at h <;> simp_all
theorem tyk_inv3 {ty : FieldType} {fin : Bool} (h : tyk 3 ty fin = true) : (∀ a : Nat, narrow ty (.ref a) = .ref a ∧ fits ty (.ref a) = true) ∧ fin = true := by
  unfold tyk at h
  split at h
  · simp_all
  · simp_all
  · simp_all
  · exact ⟨fun a => ⟨rfl, rfl⟩, h⟩
  · exact ⟨fun a => ⟨rfl, rfl⟩, h⟩
  · simp_all
theorem tyk_zero {t : Nat} {ty : FieldType} {fin : Bool} {ad : Nat → Nat} {x r : Int} (h : tyk t ty fin = true) (hx : x = 0) (hr : r = 0) : defaultValue ty = ((some (fvl ad X t x r)).getD .null) := by
  subst hx; subst hr
  unfold tyk at h
  split at h <;> first | rfl | simp_all
theorem cok_fld {N k : Nat} {sh : Shp} {ty : Nat} {y : Int} (hc : cok N sh (c k)) (h1 : sh.1 = 10 + a) (hty : (ftb a).getD b 9 = ty) (hy : if ty = 1 then In64 y else In32 y) : cok N sh (up c k (Int.ofNat b) y k) := by
  refine cok_up hc (fun q => by omega) (fun q => by omega) (fun q => by omega) (fun q j => ?_)
  obtain ⟨-, -, -, -, g5⟩ := hc.2.2.2.2 q
  rw [up_self]
  rw [h1, Nat.add_sub_cancel_left] at g5 ⊢
  by_cases hj : (j : Int) = Int.ofNat b
  · have hj2 : j = b := Int.ofNat.inj hj
    rw [if_pos hj, hj2, hty]
    refine ⟨fun q => ?_, fun q => ?_⟩
    · rw [if_pos q] at hy; exact hy
    · rw [if_neg q] at hy; exact hy
  · rw [if_neg hj]
    exact g5 j
theorem cok_arr02 {N k : Nat} {sh : Shp} {j y : Int} (hc : cok N sh (c k)) (h1 : sh.1 = 0 ∨ sh.1 = 2) (hy : In32 y) : cok N sh (up c k j y k) := by
  refine cok_up hc (fun q i => ?_) (fun q => by omega) (fun q => by omega) (fun q => by omega)
  rw [up_self]
  split
  · exact hy
  · exact hc.2.1 q i
theorem cok_arr1 {N k : Nat} {sh : Shp} {j y : Int} (hc : cok N sh (c k)) (h1 : sh.1 = 1) (hy : In64 y) : cok N sh (up c k j y k) := by
  refine cok_up hc (fun q => by omega) (fun q i => ?_) (fun q => by omega) (fun q => by omega)
  rw [up_self]
  split
  · exact hy
  · exact hc.2.2.1 q i
theorem cok_arr34 {N k : Nat} {sh : Shp} {j y : Int} (hc : cok N sh (c k)) (h1 : sh.1 = 3 ∨ sh.1 = 4) (hy0 : 0 ≤ y) (hy : y ≤ (N : Int)) : cok N sh (up c k j y k) := by
  refine cok_up hc (fun q => by omega) (fun q => by omega) (fun q i => ?_) (fun q => by omega)
  rw [up_self]
  split
  · exact ⟨hy0, hy⟩
  · exact hc.2.2.2.1 q i
theorem cok_cpy {N k k2 : Nat} {sh sh2 : Shp} {sp dp z : Int} (hc : cok N sh (c k)) (hc2 : cok N sh2 (c k2)) (h1 : sh.1 = 0) (h2 : sh2.1 = 0) : cok N sh2 (cpy c k sp k2 dp z k2) := by
  refine cok_up hc2 (fun q i => ?_) (fun q => by omega) (fun q => by omega) (fun q => by omega)
  unfold cpy
  rw [if_pos rfl]
  split
  · exact hc.2.1 (Or.inl h1) _
  · exact hc2.2.1 q i
theorem cok_new {q : vw_C} {ty : Nat → FieldType} {N k : Nat} (hC : CLS a q ty) (hb : b = (ftb a).length) : cok N (10 + a, (b : Int), List.replicate b 0) (uz c k k) := by
  have ha : a ≤ 12 := by
    have h := (List.getElem?_eq_some_iff.mp hC.1).1
    simpa using Nat.le_of_lt_succ h
  refine ⟨fun q => by have q : 10 + a ≤ 4 := q; omega, fun q => by have q : 10 + a = 0 ∨ 10 + a = 2 := q; omega, fun q => by have q : 10 + a = 1 := q; omega, fun q => by have q : 10 + a = 3 ∨ 10 + a = 4 := q; omega, fun _ => ⟨by show 10 ≤ 10 + a; omega, by show 10 + a ≤ 22; omega, ?_, ?_, ?_⟩⟩
  · show (List.replicate b (0 : Int)).length = (ftb (10 + a - 10)).length
    rw [List.length_replicate, Nat.add_sub_cancel_left, hb]
  · intro x hx
    rw [List.eq_of_mem_replicate hx]
    omega
  · intro j
    rw [uz_self]
    exact ⟨fun _ => in64_0, fun _ => in32_0⟩
theorem cok_newa {N k kd : Nat} {z : Int} (h : kd ≤ 4) (hz : 0 ≤ z ∧ z ≤ 60000000) : cok N (kd, z, []) (uz c k k) := by
  refine ⟨fun _ => hz, fun _ j => ?_, fun _ j => ?_, fun _ j => ?_, fun q => absurd h q⟩
  · rw [uz_self]; exact in32_0
  · rw [uz_self]; exact in64_0
  · rw [uz_self]; omega
theorem SR.push {ad : Nat → Nat} {H H1 : Heap} {locs : List Loc} {lsM : Array Slot} {c' : Nat → Int → Int} {q : Nat} {s' : Shp} (S : SR f A s D cA X n xs ad0 n0 z0 ad ls st L c H locs lsM) (hP1 : va_P D vwCl (wsl (adp ad L.length q) X cA (L ++ [s']) c') H1) (hD1 : va_D A (wsl (adp ad L.length q) X cA (L ++ [s']) c')) (hS1 : va_S A s.heap H1 locs) (hc : ∀ j, j ≠ L.length → c' j = c j) (hco : cok (L ++ [s']).length s' (c' L.length)) (hL : L.length + 1 ≤ 1000000) : SR f A s D cA X n xs ad0 n0 z0 (adp ad L.length q) ls (vR ((L.length : Int) + 1) :: st) (L ++ [s']) c' H1 locs lsM := by
  obtain ⟨hP, hD, hS, hm, hsc, ⟨e1, e2, e3⟩, hlr, hls, hst⟩ := S
  have el : (L ++ [s']).length = L.length + 1 := by simp
  refine ⟨hP1, hD1, hS1, ?_, hsc.keep (hc _ (by omega)) (hc _ (by omega)), ⟨by omega, by rw [slz_app]; omega, fun k hk => ?_⟩, ?_, fun v hv => vok_mono (by omega) (hls v hv), ?_⟩
  · intro j sj hj
    rcases Nat.lt_trichotomy j L.length with q1 | q1 | q1
    · rw [List.getElem?_append_left q1] at hj
      rw [hc j (by omega)]
      exact cok_mono (by omega) (hm j sj hj)
    · subst q1
      rw [List.getElem?_append_right (Nat.le_refl _), Nat.sub_self] at hj
      cases hj
      exact hco
    · rw [List.getElem?_eq_none (by omega)] at hj
      cases hj
  · rw [adp_lt (by omega)]
    exact e3 k hk
  · refine ⟨hlr.1, hlr.2.1, hlr.2.2.1, fun i v hv ht => ?_⟩
    rw [mv_keep (fun k hk => adp_lt hk) (hls v (List.mem_of_getElem? hv))]
    exact hlr.2.2.2 i v hv ht
  · intro v hv
    rcases List.mem_cons.mp hv with q1 | q1
    · rw [q1]
      show ((L.length : Int) + 1) ≤ ((L ++ [s']).length : Int)
      rw [el]
      omega
    · exact vok_mono (by omega) (hst v q1)
theorem catS_le {ad : Nat → Nat} : ∀ t : List V, ((t.map (mv ad X)).map fun v => v.category).sum ≤ catS t
  | [] => Nat.le_refl _
  | v :: t => by
    have ih := catS_le (ad := ad) t
    show (mv ad X v).category + ((t.map (mv ad X)).map fun v => v.category).sum ≤ (bif Nat.beq (tyV v) 1 then 2 else 1) + catS t
    have h1 : (mv ad X v).category ≤ (bif Nat.beq (tyV v) 1 then 2 else 1) := by
      rcases v with x | x | r | u
      · exact Nat.le_refl _
      · exact Nat.le_refl _
      · show (va_rf (rof ad X r)).category ≤ 1
        cases rof ad X r <;> exact Nat.le_refl _
      · exact Nat.le_refl _
    omega
theorem strOf_inv {r : Int} {g : Nat} (h : strOf r = some g) : r = -100 - (g : Int) ∧ g < 12 := by
  rcases r with k | k
  · exact absurd h (by simp [strOf])
  · have h : (bif Nat.ble 99 k && Nat.ble k 110 then some (k - 99) else none) = some g := h
    obtain ⟨h1, h2⟩ := bif_inv h
    rw [Bool.and_eq_true] at h1
    have a1 := Nat.le_of_ble_eq_true h1.1
    have a2 := Nat.le_of_ble_eq_true h1.2
    have h2 : k - 99 = g := Option.some.inj h2
    refine ⟨?_, by omega⟩
    rw [Int.negSucc_eq]
    omega
theorem bytOf_inv {r : Int} {g : Nat} (h : bytOf r = some g) : r = -200 - (g : Int) ∧ g < 12 := by
  rcases r with k | k
  · exact absurd h (by simp [bytOf])
  · have h : (bif Nat.ble 199 k && Nat.ble k 210 then some (k - 199) else none) = some g := h
    obtain ⟨h1, h2⟩ := bif_inv h
    rw [Bool.and_eq_true] at h1
    have a1 := Nat.le_of_ble_eq_true h1.1
    have a2 := Nat.le_of_ble_eq_true h1.2
    have h2 : k - 199 = g := Option.some.inj h2
    refine ⟨?_, by omega⟩
    rw [Int.negSucc_eq]
    omega
theorem lt12 {g : Nat} (h : g < 12) : g = 0 ∨ g = 1 ∨ g = 2 ∨ g = 3 ∨ g = 4 ∨ g = 5 ∨ g = 6 ∨ g = 7 ∨ g = 8 ∨ g = 9 ∨ g = 10 ∨ g = 11 := by omega
theorem mv_str {ad : Nat → Nat} {g : Nat} (h : g < 12) : mv ad X (vR (-100 - (g : Int))) = .ref (X.1 g) := by
  rcases lt12 h with q | q | q | q | q | q | q | q | q | q | q | q <;> subst q <;> rfl
theorem mv_byt {ad : Nat → Nat} {g : Nat} (h : g < 12) : mv ad X (vR (-100 - (g : Int) - 100)) = .ref (X.2.1 g) := by
  rcases lt12 h with q | q | q | q | q | q | q | q | q | q | q | q <;> subst q <;> rfl
theorem mv_byt2 {ad : Nat → Nat} {g : Nat} (h : g < 12) : mv ad X (vR (-200 - (g : Int))) = .ref (X.2.1 g) := by
  rcases lt12 h with q | q | q | q | q | q | q | q | q | q | q | q <;> subst q <;> rfl
theorem W_stk_str {ad : Nat → Nat} {g : Nat} {t : List V} (h : g < 12) : (vR (-100 - (g : Int)) :: t).map (mv ad X) = .ref (X.1 g) :: t.map (mv ad X) := by rw [List.map_cons, mv_str h]
theorem W_stk_byt1 {ad : Nat → Nat} {g : Nat} {t : List V} (h : g < 12) : (vR (-200 - (g : Int)) :: t).map (mv ad X) = .ref (X.2.1 g) :: t.map (mv ad X) := by rw [List.map_cons, mv_byt2 h]
theorem W_stk_byt2 {ad : Nat → Nat} {g : Nat} {j : Int} {t : List V} (h : g < 12) : (vI j :: vR (-200 - (g : Int)) :: t).map (mv ad X) = .int (Int32.ofInt j) :: .ref (X.2.1 g) :: t.map (mv ad X) := by rw [List.map_cons, List.map_cons, mv_byt2 h]; rfl
theorem lenT_at {g : Nat} (h : g < 12) : lenT.getD g 0 = (strb g).length := by
  rcases lt12 h with q | q | q | q | q | q | q | q | q | q | q | q <;> subst q <;> rfl
theorem bytT_at0 : (List.range 12).all (fun g => decide (bytT.getD g [] = (strb g).map Int32.ofInt)) = true := by decide +kernel
theorem bytT_at {g k : Nat} (h : g < 12) : Value.int ((bytT.getD g []).getD k 0) = Value.int (Int32.ofInt ((strb g).getD k 0)) := by
  have h1 := of_decide_eq_true (List.all_eq_true.mp bytT_at0 g (List.mem_range.mpr h))
  rw [h1]
  congr 1
  rw [List.getD_eq_getElem?_getD, List.getD_eq_getElem?_getD, List.getElem?_map]
  cases (strb g)[k]? with
  | none => exact o32_0.symm
  | some y => rfl
theorem strb_all : (List.range 12).all (fun g => (strb g).all (fun y => decide (0 ≤ y ∧ y < 128)) && decide ((strb g).length < 100)) = true := by decide +kernel
theorem strb_in {N g k : Nat} (h : g < 12) : vok N (vI ((strb g).getD k 0)) := by
  have h1 := List.all_eq_true.mp strb_all g (List.mem_range.mpr h)
  rw [Bool.and_eq_true] at h1
  rw [List.getD_eq_getElem?_getD]
  cases hq : (strb g)[k]? with
  | none => exact in32_0
  | some y =>
    have h2 : 0 ≤ y ∧ y < 128 := of_decide_eq_true (List.all_eq_true.mp h1.1 y (List.mem_of_getElem? hq))
    exact ⟨by show -2147483648 ≤ y; omega, by show y < 2147483648; omega⟩
theorem strb_len {N g : Nat} (h : g < 12) : vok N (vI ((strb g).length : Int)) := by
  have h1 := List.all_eq_true.mp strb_all g (List.mem_range.mpr h)
  rw [Bool.and_eq_true] at h1
  have h2 := of_decide_eq_true h1.2
  exact ⟨by show -2147483648 ≤ ((strb g).length : Int); omega, by show ((strb g).length : Int) < 2147483648; omega⟩
theorem lkS_lt : lkS.all (fun q => decide (q.2.2.1 < 12)) = true := by decide +kernel
theorem va_AO_of {C : String} (h : (Cond.arrayOver (.object C)).before args s = true) : va_AO C s := h
theorem g_0 (C : CX p s m args meth c0 f A D cA X n xs) (hRf : 1 ≤ R.frames) (hRl : 100 ≤ R.locals) (hd : decode (mtb f).1 pc = .ok (raw pc (0, a, b, x))) (hl : lnk (mtb f).2.2.2.2 (mtb f).2.2.1 (mtb f).2.1.name (0, a, b, x) = true) (hs : oks (inf f).1 (0, a, b, x) = true) (h0 : act (0, a, b, x) ls st (L, c) = some (.inl (ls', st', M'))) (hL : M'.1.length ≤ 1000000) (hRc : M'.1.length - n0 ≤ R.cells) (hRs : slz M'.1 - z0 ≤ R.slots) (hk : WS p l e R s m args below meth c0 Q f A D cA X n xs ad0 n0 z0 (npc pc (0, a, b, x)) ls' st' M'.1 M'.2) : WS p l e R s m args below meth c0 Q f A D cA X n xs ad0 n0 z0 pc ls st L c := by
  intro ad H locs lsM S
  obtain ⟨hx, hb, hml, hown, hts, hK, hST, hA, hr, hlk, hnm⟩ := C
  have h : (some (.inl (ls, vI x :: st, (L, c))) : Act) = some (.inl (ls', st', M')) := h0
  cases h
  rcases a with _ | _ | _ | _ | a
  · have hr : In32 x := of_decide_eq_true (p := -2147483648 ≤ x ∧ x < 2147483648) hs
    exact lv_iconst hx hb hd rfl (hk ad H locs lsM (S.stk (vok_cons hr S.stv)))
  · have hr : -128 ≤ x ∧ x < 128 := of_decide_eq_true hs
    have hr2 : In32 x := ⟨by omega, by omega⟩
    have e8 : (Int8.ofInt x).toInt32 = Int32.ofInt x := by rw [← Int32.toInt_inj, Int8.toInt_toInt32, t32 hr2, Int8.toInt_ofInt_of_le (by omega) (by omega)]
    exact lv_bipush (v := Int32.ofInt x) hx hb hd e8 (hk ad H locs lsM (S.stk (vok_cons hr2 S.stv)))
  · have hr : -32768 ≤ x ∧ x < 32768 := of_decide_eq_true hs
    have hr2 : In32 x := ⟨by omega, by omega⟩
    have e8 : (Int16.ofInt x).toInt32 = Int32.ofInt x := by rw [← Int32.toInt_inj, Int16.toInt_toInt32, t32 hr2, Int16.toInt_ofInt_of_le (by omega) (by omega)]
    exact lv_sipush (v := Int32.ofInt x) hx hb hd e8 (hk ad H locs lsM (S.stk (vok_cons hr2 S.stv)))
  · have hr : In32 x := of_decide_eq_true (p := -2147483648 ≤ x ∧ x < 2147483648) hs
    exact lv_ldc hx hb hown (hts _ (lkI_word hl)) hd (hk ad H locs lsM (S.stk (vok_cons hr S.stv)))
  · have hr : In32 x := of_decide_eq_true (p := -2147483648 ≤ x ∧ x < 2147483648) hs
    exact lv_ldcw hx hb hown (hts _ (lkI_word hl)) hd (hk ad H locs lsM (S.stk (vok_cons hr S.stv)))
theorem g_1 (C : CX p s m args meth c0 f A D cA X n xs) (hRf : 1 ≤ R.frames) (hRl : 100 ≤ R.locals) (hd : decode (mtb f).1 pc = .ok (raw pc (1, a, b, x))) (hl : lnk (mtb f).2.2.2.2 (mtb f).2.2.1 (mtb f).2.1.name (1, a, b, x) = true) (hs : oks (inf f).1 (1, a, b, x) = true) (h0 : act (1, a, b, x) ls st (L, c) = some (.inl (ls', st', M'))) (hL : M'.1.length ≤ 1000000) (hRc : M'.1.length - n0 ≤ R.cells) (hRs : slz M'.1 - z0 ≤ R.slots) (hk : WS p l e R s m args below meth c0 Q f A D cA X n xs ad0 n0 z0 (npc pc (1, a, b, x)) ls' st' M'.1 M'.2) : WS p l e R s m args below meth c0 Q f A D cA X n xs ad0 n0 z0 pc ls st L c := by
  intro ad H locs lsM S
  obtain ⟨hx, hb, hml, hown, hts, hK, hST, hA, hr, hlk, hnm⟩ := C
  have h : (some (.inl (ls, vL x :: st, (L, c))) : Act) = some (.inl (ls', st', M')) := h0
  cases h
  have hr : In64 x := of_decide_eq_true (p := -9223372036854775808 ≤ x ∧ x < 9223372036854775808) hs
  rcases a with _ | _ | a
  · have hl : ((true && (decide (x = 0) || decide (x = 1))) || (false && lkJ.any (fun q => Nat.beq q.1 (mtb f).2.2.2.2 && (Nat.beq q.2.1 b && decide (q.2.2.1 = x))))) = true := hl
    simp only [Bool.true_and, Bool.false_and, Bool.or_false, Bool.or_eq_true, decide_eq_true_eq] at hl
    rcases hl with q | q
    · subst q
      exact lv_lconst (n := 0) (v := Int64.ofInt 0) hx hb hd (by decide) (hk ad H locs lsM (S.stk (vok_cons hr S.stv)))
    · subst q
      exact lv_lconst (n := 1) (v := Int64.ofInt 1) hx hb hd (by decide) (hk ad H locs lsM (S.stk (vok_cons hr S.stv)))
  · have hl : ((false && (decide (x = 0) || decide (x = 1))) || (true && lkJ.any (fun q => Nat.beq q.1 (mtb f).2.2.2.2 && (Nat.beq q.2.1 b && decide (q.2.2.1 = x))))) = true := hl
    simp only [Bool.true_and, Bool.false_and, Bool.false_or] at hl
    exact lv_ldc2 hx hb hown (hts _ (lkJ_word hl)) hd (hk ad H locs lsM (S.stk (vok_cons hr S.stv)))
  · have hl : ((false && (decide (x = 0) || decide (x = 1))) || (false && lkJ.any (fun q => Nat.beq q.1 (mtb f).2.2.2.2 && (Nat.beq q.2.1 b && decide (q.2.2.1 = x))))) = true := hl
    simp at hl
theorem g_2 (C : CX p s m args meth c0 f A D cA X n xs) (hRf : 1 ≤ R.frames) (hRl : 100 ≤ R.locals) (hd : decode (mtb f).1 pc = .ok (raw pc (2, a, b, x))) (hl : lnk (mtb f).2.2.2.2 (mtb f).2.2.1 (mtb f).2.1.name (2, a, b, x) = true) (hs : oks (inf f).1 (2, a, b, x) = true) (h0 : act (2, a, b, x) ls st (L, c) = some (.inl (ls', st', M'))) (hL : M'.1.length ≤ 1000000) (hRc : M'.1.length - n0 ≤ R.cells) (hRs : slz M'.1 - z0 ≤ R.slots) (hk : WS p l e R s m args below meth c0 Q f A D cA X n xs ad0 n0 z0 (npc pc (2, a, b, x)) ls' st' M'.1 M'.2) : WS p l e R s m args below meth c0 Q f A D cA X n xs ad0 n0 z0 pc ls st L c := by
  intro ad H locs lsM S
  obtain ⟨hx, hb, hml, hown, hts, hK, hST, hA, hr, hlk, hnm⟩ := C
  have h : (some (.inl (ls, vR 0 :: st, (L, c))) : Act) = some (.inl (ls', st', M')) := h0
  cases h
  exact lv_null hx hb hd (hk ad H locs lsM (S.stk (vok_cons (show (0 : Int) ≤ (L.length : Int) by omega) S.stv)))
theorem g_3 (C : CX p s m args meth c0 f A D cA X n xs) (hRf : 1 ≤ R.frames) (hRl : 100 ≤ R.locals) (hd : decode (mtb f).1 pc = .ok (raw pc (3, a, b, x))) (hl : lnk (mtb f).2.2.2.2 (mtb f).2.2.1 (mtb f).2.1.name (3, a, b, x) = true) (hs : oks (inf f).1 (3, a, b, x) = true) (h0 : act (3, a, b, x) ls st (L, c) = some (.inl (ls', st', M'))) (hL : M'.1.length ≤ 1000000) (hRc : M'.1.length - n0 ≤ R.cells) (hRs : slz M'.1 - z0 ≤ R.slots) (hk : WS p l e R s m args below meth c0 Q f A D cA X n xs ad0 n0 z0 (npc pc (3, a, b, x)) ls' st' M'.1 M'.2) : WS p l e R s m args below meth c0 Q f A D cA X n xs ad0 n0 z0 pc ls st L c := by
  intro ad H locs lsM S
  obtain ⟨hx, hb, hml, hown, hts, hK, hST, hA, hr, hlk, hnm⟩ := C
  have h9 := el_inv (show (ls[a]?).elim none (fun v => bif Nat.beq (tyV v) b then (some (.inl (ls, v :: st, (L, c))) : Act) else none) = some (.inl (ls', st', M')) from h0)
  clear h0
  obtain ⟨v, hv, h⟩ := h9
  have h9 := bif_inv h
  clear h
  obtain ⟨ht, h⟩ := h9
  have ht := beq_of ht
  have hb2 : b ≤ 2 := Nat.le_of_ble_eq_true hl
  have h : (some (.inl (ls, v :: st, (L, c))) : Act) = some (.inl (ls', st', M')) := h
  cases h
  have hloc := S.lr.2.2.2 a v hv (by omega)
  have K := hk ad H locs lsM (S.stk (vok_cons (S.lsv v (List.mem_of_getElem? hv)) S.stv))
  subst ht
  rcases v with y | y | r | u
  · rcases a with _ | _ | _ | _ | a
    · exact lv_iload_n (k := 0) hx hb hd rfl hloc K
    · exact lv_iload_n (k := 1) hx hb hd rfl hloc K
    · exact lv_iload_n (k := 2) hx hb hd rfl hloc K
    · exact lv_iload_n (k := 3) hx hb hd rfl hloc K
    · exact lv_iload hx hb hd hloc K
  · rcases a with _ | _ | _ | _ | a
    · exact lv_lload_n (k := 0) hx hb hd rfl hloc K
    · exact lv_lload_n (k := 1) hx hb hd rfl hloc K
    · exact lv_lload_n (k := 2) hx hb hd rfl hloc K
    · exact lv_lload_n (k := 3) hx hb hd rfl hloc K
    · exact lv_lload hx hb hd hloc K
  · have hloc : lsM[a]? = some (.val (va_rf (rof ad X r))) := hloc
    have K : W p l e R s m args below meth c0 H locs (L.length - n0) (slz L - z0) Q (F0 m (npc pc (3, a, 2, x)) lsM (va_rf (rof ad X r) :: st.map (mv ad X))) := K
    generalize rof ad X r = o at hloc K
    cases o with
    | none =>
      rcases a with _ | _ | _ | _ | a
      · exact lv_aload_nN (k := 0) hx hb hd rfl hloc K
      · exact lv_aload_nN (k := 1) hx hb hd rfl hloc K
      · exact lv_aload_nN (k := 2) hx hb hd rfl hloc K
      · exact lv_aload_nN (k := 3) hx hb hd rfl hloc K
      · exact lv_aloadN hx hb hd hloc K
    | some q =>
      rcases a with _ | _ | _ | _ | a
      · exact lv_aload_n (k := 0) hx hb hd rfl hloc K
      · exact lv_aload_n (k := 1) hx hb hd rfl hloc K
      · exact lv_aload_n (k := 2) hx hb hd rfl hloc K
      · exact lv_aload_n (k := 3) hx hb hd rfl hloc K
      · exact lv_aload hx hb hd hloc K
  · exact absurd hb2 (by show ¬ 3 ≤ 2; omega)
theorem g_4 (C : CX p s m args meth c0 f A D cA X n xs) (hRf : 1 ≤ R.frames) (hRl : 100 ≤ R.locals) (hd : decode (mtb f).1 pc = .ok (raw pc (4, a, b, x))) (hl : lnk (mtb f).2.2.2.2 (mtb f).2.2.1 (mtb f).2.1.name (4, a, b, x) = true) (hs : oks (inf f).1 (4, a, b, x) = true) (h0 : act (4, a, b, x) ls st (L, c) = some (.inl (ls', st', M'))) (hL : M'.1.length ≤ 1000000) (hRc : M'.1.length - n0 ≤ R.cells) (hRs : slz M'.1 - z0 ≤ R.slots) (hk : WS p l e R s m args below meth c0 Q f A D cA X n xs ad0 n0 z0 (npc pc (4, a, b, x)) ls' st' M'.1 M'.2) : WS p l e R s m args below meth c0 Q f A D cA X n xs ad0 n0 z0 pc ls st L c := by
  intro ad H locs lsM S
  obtain ⟨hx, hb, hml, hown, hts, hK, hST, hA, hr, hlk, hnm⟩ := C
  have h9 := pV_inv h0
  clear h0
  obtain ⟨v, t, rfl, h⟩ := h9
  have h9 := bif_inv h
  clear h
  obtain ⟨ht, h⟩ := h9
  have ht := beq_of ht
  have hb2 : b ≤ 2 := Nat.le_of_ble_eq_true hl
  have h : (some (.inl (sto ls a b v, t, (L, c))) : Act) = some (.inl (ls', st', M')) := h
  cases h
  have hsp : a + 1 + (bif Nat.beq b 1 then 1 else 0) ≤ (inf f).1 := Nat.le_of_ble_eq_true hs
  have hhas := S.lr.has
  have hvo := vok_hd S.stv
  have hto := vok_tl S.stv
  subst ht
  rcases v with y | y | r | u
  · have hsp : a + 1 + 0 ≤ (inf f).1 := hsp
    rcases a with _ | _ | _ | _ | a
    · exact lv_istore_n (k := 0) hx hb hd rfl hhas (by omega) rfl (fun lsM2 h2 => hk ad H locs lsM2 (S.sto (S.lr.sto1 rfl tyI_ne (by omega) h2) hvo hto))
    · exact lv_istore_n (k := 1) hx hb hd rfl hhas (by omega) rfl (fun lsM2 h2 => hk ad H locs lsM2 (S.sto (S.lr.sto1 rfl tyI_ne (by omega) h2) hvo hto))
    · exact lv_istore_n (k := 2) hx hb hd rfl hhas (by omega) rfl (fun lsM2 h2 => hk ad H locs lsM2 (S.sto (S.lr.sto1 rfl tyI_ne (by omega) h2) hvo hto))
    · exact lv_istore_n (k := 3) hx hb hd rfl hhas (by omega) rfl (fun lsM2 h2 => hk ad H locs lsM2 (S.sto (S.lr.sto1 rfl tyI_ne (by omega) h2) hvo hto))
    · exact lv_istore (i := a + 4) hx hb hd hhas (by omega) rfl (fun lsM2 h2 => hk ad H locs lsM2 (S.sto (S.lr.sto1 rfl tyI_ne (by omega) h2) hvo hto))
  · have hsp : a + 1 + 1 ≤ (inf f).1 := hsp
    rcases a with _ | _ | _ | _ | a
    · exact lv_lstore_n (k := 0) hx hb hd rfl hhas (by omega) rfl (fun lsM2 h2 => hk ad H locs lsM2 (S.sto (S.lr.sto2 rfl tyL_ne (by omega) h2) hvo hto))
    · exact lv_lstore_n (k := 1) hx hb hd rfl hhas (by omega) rfl (fun lsM2 h2 => hk ad H locs lsM2 (S.sto (S.lr.sto2 rfl tyL_ne (by omega) h2) hvo hto))
    · exact lv_lstore_n (k := 2) hx hb hd rfl hhas (by omega) rfl (fun lsM2 h2 => hk ad H locs lsM2 (S.sto (S.lr.sto2 rfl tyL_ne (by omega) h2) hvo hto))
    · exact lv_lstore_n (k := 3) hx hb hd rfl hhas (by omega) rfl (fun lsM2 h2 => hk ad H locs lsM2 (S.sto (S.lr.sto2 rfl tyL_ne (by omega) h2) hvo hto))
    · exact lv_lstore (i := a + 4) hx hb hd hhas (by omega) rfl (fun lsM2 h2 => hk ad H locs lsM2 (S.sto (S.lr.sto2 rfl tyL_ne (by omega) h2) hvo hto))
  · have hsp : a + 1 + 0 ≤ (inf f).1 := hsp
    have key : ∀ lsM2, lv_has lsM2 (inf f).1 ((a, va_rf (rof ad X r)) :: (prs ad X ls).filter (fun q => !(q.1 == a) && !(q.1 + 1 == a && q.2.category == 2))) → W p l e R s m args below meth c0 H locs (L.length - n0) (slz L - z0) Q (F0 m (npc pc (4, a, 2, x)) lsM2 (st'.map (mv ad X))) := fun lsM2 h2 => hk ad H locs lsM2 (S.sto (S.lr.sto1 rfl tyR_ne (by omega) h2) hvo hto)
    show W p l e R s m args below meth c0 H locs (L.length - n0) (slz L - z0) Q (F0 m pc lsM (va_rf (rof ad X r) :: st'.map (mv ad X)))
    generalize rof ad X r = o at key
    cases o with
    | none =>
      rcases a with _ | _ | _ | _ | a
      · exact lv_astore_nN (k := 0) hx hb hd rfl hhas (by omega) rfl key
      · exact lv_astore_nN (k := 1) hx hb hd rfl hhas (by omega) rfl key
      · exact lv_astore_nN (k := 2) hx hb hd rfl hhas (by omega) rfl key
      · exact lv_astore_nN (k := 3) hx hb hd rfl hhas (by omega) rfl key
      · exact lv_astoreN (i := a + 4) hx hb hd hhas (by omega) rfl key
    | some q =>
      rcases a with _ | _ | _ | _ | a
      · exact lv_astore_n (k := 0) hx hb hd rfl hhas (by omega) rfl key
      · exact lv_astore_n (k := 1) hx hb hd rfl hhas (by omega) rfl key
      · exact lv_astore_n (k := 2) hx hb hd rfl hhas (by omega) rfl key
      · exact lv_astore_n (k := 3) hx hb hd rfl hhas (by omega) rfl key
      · exact lv_astore (i := a + 4) hx hb hd hhas (by omega) rfl key
  · exact absurd hb2 (by show ¬ 3 ≤ 2; omega)
theorem g_5 (C : CX p s m args meth c0 f A D cA X n xs) (hRf : 1 ≤ R.frames) (hRl : 100 ≤ R.locals) (hd : decode (mtb f).1 pc = .ok (raw pc (5, a, b, x))) (hl : lnk (mtb f).2.2.2.2 (mtb f).2.2.1 (mtb f).2.1.name (5, a, b, x) = true) (hs : oks (inf f).1 (5, a, b, x) = true) (h0 : act (5, a, b, x) ls st (L, c) = some (.inl (ls', st', M'))) (hL : M'.1.length ≤ 1000000) (hRc : M'.1.length - n0 ≤ R.cells) (hRs : slz M'.1 - z0 ≤ R.slots) (hk : WS p l e R s m args below meth c0 Q f A D cA X n xs ad0 n0 z0 (npc pc (5, a, b, x)) ls' st' M'.1 M'.2) : WS p l e R s m args below meth c0 Q f A D cA X n xs ad0 n0 z0 pc ls st L c := by
  intro ad H locs lsM S
  obtain ⟨hx, hb, hml, hown, hts, hK, hST, hA, hr, hlk, hnm⟩ := C
  have h9 := pI_inv h0
  clear h0
  obtain ⟨y, t, hdr, h⟩ := h9
  have h : (some (.inl (sto ls a 0 (vI (w32 (y + x))), st, (L, c))) : Act) = some (.inl (ls', st', M')) := h
  cases h
  have hsp : a + 1 ≤ (inf f).1 := Nat.le_of_ble_eq_true hs
  have hv : ls[a]? = some (vI y) := by
    have h1 : (ls.drop a)[0]? = some (vI y) := by rw [hdr]; rfl
    rw [List.getElem?_drop] at h1
    simpa using h1
  obtain ⟨kp, hkp⟩ := List.getElem?_of_mem (prs_mem (ad := ad) (X := X) hv tyI_ne)
  exact lv_iinc (i := a) (n := x) hx hb hd S.lr.has hkp (o32_add y x).symm (by omega) rfl (fun lsM2 h2 => hk ad H locs lsM2 (S.sto (S.lr.sto1 rfl tyI_ne (by omega) h2) (in32_w _) S.stv))
theorem g_6 (C : CX p s m args meth c0 f A D cA X n xs) (hRf : 1 ≤ R.frames) (hRl : 100 ≤ R.locals) (hd : decode (mtb f).1 pc = .ok (raw pc (6, a, b, x))) (hl : lnk (mtb f).2.2.2.2 (mtb f).2.2.1 (mtb f).2.1.name (6, a, b, x) = true) (hs : oks (inf f).1 (6, a, b, x) = true) (h0 : act (6, a, b, x) ls st (L, c) = some (.inl (ls', st', M'))) (hL : M'.1.length ≤ 1000000) (hRc : M'.1.length - n0 ≤ R.cells) (hRs : slz M'.1 - z0 ≤ R.slots) (hk : WS p l e R s m args below meth c0 Q f A D cA X n xs ad0 n0 z0 (npc pc (6, a, b, x)) ls' st' M'.1 M'.2) : WS p l e R s m args below meth c0 Q f A D cA X n xs ad0 n0 z0 pc ls st L c := by
  intro ad H locs lsM S
  obtain ⟨hx, hb, hml, hown, hts, hK, hST, hA, hr, hlk, hnm⟩ := C
  have h9 := pI_inv h0
  clear h0
  obtain ⟨y, t, rfl, h⟩ := h9
  have h9 := pI_inv h
  clear h
  obtain ⟨z, t, rfl, h⟩ := h9
  have h : (some (.inl (ls, vI (ibin a z y) :: t, (L, c))) : Act) = some (.inl (ls', st', M')) := h
  cases h
  have hy : In32 y := vok_hd S.stv
  have hz : In32 z := vok_hd (vok_tl S.stv)
  have K := hk ad H locs lsM (S.stk (vok_cons (o32_ibin a z y) (vok_tl (vok_tl S.stv))))
  rcases a with _ | _ | _ | _ | _ | _ | _ | _ | a
  · exact lv_iadd hx hb hd (W_top (congrArg Value.int (o32_add z y)) K)
  · exact lv_isub hx hb hd (W_top (congrArg Value.int (o32_sub z y)) K)
  · exact lv_imul hx hb hd (W_top (congrArg Value.int (o32_mul z y)) K)
  · exact lv_iand hx hb hd (W_top (congrArg Value.int (Int32.ofInt_toInt _)) K)
  · exact lv_ior hx hb hd (W_top (congrArg Value.int (Int32.ofInt_toInt _)) K)
  · exact lv_ixor hx hb hd (W_top (congrArg Value.int (Int32.ofInt_toInt _)) K)
  · exact lv_ishl hx hb hd (W_top (congrArg Value.int (Int32.ofInt_toInt _)) K)
  · exact lv_ishr hx hb hd (W_top (congrArg Value.int (Int32.ofInt_toInt _)) K)
  · exact lv_iushr hx hb hd (Int32.ofInt_toInt _).symm K
theorem g_7 (C : CX p s m args meth c0 f A D cA X n xs) (hRf : 1 ≤ R.frames) (hRl : 100 ≤ R.locals) (hd : decode (mtb f).1 pc = .ok (raw pc (7, a, b, x))) (hl : lnk (mtb f).2.2.2.2 (mtb f).2.2.1 (mtb f).2.1.name (7, a, b, x) = true) (hs : oks (inf f).1 (7, a, b, x) = true) (h0 : act (7, a, b, x) ls st (L, c) = some (.inl (ls', st', M'))) (hL : M'.1.length ≤ 1000000) (hRc : M'.1.length - n0 ≤ R.cells) (hRs : slz M'.1 - z0 ≤ R.slots) (hk : WS p l e R s m args below meth c0 Q f A D cA X n xs ad0 n0 z0 (npc pc (7, a, b, x)) ls' st' M'.1 M'.2) : WS p l e R s m args below meth c0 Q f A D cA X n xs ad0 n0 z0 pc ls st L c := by
  intro ad H locs lsM S
  obtain ⟨hx, hb, hml, hown, hts, hK, hST, hA, hr, hlk, hnm⟩ := C
  have h9 := pI_inv h0
  clear h0
  obtain ⟨y, t, rfl, h⟩ := h9
  have h : (some (.inl (ls, vI (w32 (-y)) :: t, (L, c))) : Act) = some (.inl (ls', st', M')) := h
  cases h
  exact lv_ineg hx hb hd (W_top (congrArg Value.int (o32_neg y)) (hk ad H locs lsM (S.stk (vok_cons (in32_w _) (vok_tl S.stv)))))
theorem g_8 (C : CX p s m args meth c0 f A D cA X n xs) (hRf : 1 ≤ R.frames) (hRl : 100 ≤ R.locals) (hd : decode (mtb f).1 pc = .ok (raw pc (8, a, b, x))) (hl : lnk (mtb f).2.2.2.2 (mtb f).2.2.1 (mtb f).2.1.name (8, a, b, x) = true) (hs : oks (inf f).1 (8, a, b, x) = true) (h0 : act (8, a, b, x) ls st (L, c) = some (.inl (ls', st', M'))) (hL : M'.1.length ≤ 1000000) (hRc : M'.1.length - n0 ≤ R.cells) (hRs : slz M'.1 - z0 ≤ R.slots) (hk : WS p l e R s m args below meth c0 Q f A D cA X n xs ad0 n0 z0 (npc pc (8, a, b, x)) ls' st' M'.1 M'.2) : WS p l e R s m args below meth c0 Q f A D cA X n xs ad0 n0 z0 pc ls st L c := by
  intro ad H locs lsM S
  obtain ⟨hx, hb, hml, hown, hts, hK, hST, hA, hr, hlk, hnm⟩ := C
  have h9 := pL_inv h0
  clear h0
  obtain ⟨y, t, rfl, h⟩ := h9
  have h9 := pL_inv h
  clear h
  obtain ⟨z, t, rfl, h⟩ := h9
  have h : (some (.inl (ls, vL (lbin a z y) :: t, (L, c))) : Act) = some (.inl (ls', st', M')) := h
  cases h
  have K := hk ad H locs lsM (S.stk (vok_cons (o64_lbin a z y) (vok_tl (vok_tl S.stv))))
  rcases a with _ | _ | a
  · exact lv_ladd hx hb hd (W_top (congrArg Value.long (o64_add z y)) K)
  · exact lv_lsub hx hb hd (W_top (congrArg Value.long (o64_sub z y)) K)
  · exact lv_lmul hx hb hd (W_top (congrArg Value.long (o64_mul z y)) K)
theorem g_9 (C : CX p s m args meth c0 f A D cA X n xs) (hRf : 1 ≤ R.frames) (hRl : 100 ≤ R.locals) (hd : decode (mtb f).1 pc = .ok (raw pc (9, a, b, x))) (hl : lnk (mtb f).2.2.2.2 (mtb f).2.2.1 (mtb f).2.1.name (9, a, b, x) = true) (hs : oks (inf f).1 (9, a, b, x) = true) (h0 : act (9, a, b, x) ls st (L, c) = some (.inl (ls', st', M'))) (hL : M'.1.length ≤ 1000000) (hRc : M'.1.length - n0 ≤ R.cells) (hRs : slz M'.1 - z0 ≤ R.slots) (hk : WS p l e R s m args below meth c0 Q f A D cA X n xs ad0 n0 z0 (npc pc (9, a, b, x)) ls' st' M'.1 M'.2) : WS p l e R s m args below meth c0 Q f A D cA X n xs ad0 n0 z0 pc ls st L c := by
  intro ad H locs lsM S
  obtain ⟨hx, hb, hml, hown, hts, hK, hST, hA, hr, hlk, hnm⟩ := C
  have h9 := pL_inv h0
  clear h0
  obtain ⟨y, t, rfl, h⟩ := h9
  have h9 := pL_inv h
  clear h
  obtain ⟨z, t, rfl, h⟩ := h9
  have hy : In64 y := vok_hd S.stv
  have hz : In64 z := vok_hd (vok_tl S.stv)
  have h : (if z < y then (some (.inl (ls, vI (-1) :: t, (L, c))) : Act) else if z = y then some (.inl (ls, vI 0 :: t, (L, c))) else some (.inl (ls, vI 1 :: t, (L, c)))) = some (.inl (ls', st', M')) := h
  refine W.lcmp hx hb hd ?_
  by_cases h1 : z < y
  · rw [if_pos h1] at h
    cases h
    refine W_top (congrArg Value.int ?_) (hk ad H locs lsM (S.stk (vok_cons (show In32 (-1) by unfold In32; omega) (vok_tl (vok_tl S.stv)))))
    unfold lg_cmp
    rw [if_neg (show ¬ (Int64.ofInt z > Int64.ofInt y) from fun q => by have := (o64_lt hy hz).mp q; omega), if_neg (fun q => by have := (o64_inj hz hy).mp q; omega)]
    decide
  · rw [if_neg h1] at h
    by_cases h2 : z = y
    · rw [if_pos h2] at h
      cases h
      refine W_top (congrArg Value.int ?_) (hk ad H locs lsM (S.stk (vok_cons in32_0 (vok_tl (vok_tl S.stv)))))
      subst h2
      unfold lg_cmp
      rw [if_neg (show ¬ (Int64.ofInt z > Int64.ofInt z) from fun q => by have := (o64_lt hz hz).mp q; omega), if_pos rfl]
      decide
    · rw [if_neg h2] at h
      cases h
      refine W_top (congrArg Value.int ?_) (hk ad H locs lsM (S.stk (vok_cons (show In32 1 by unfold In32; omega) (vok_tl (vok_tl S.stv)))))
      unfold lg_cmp
      rw [if_pos (show Int64.ofInt z > Int64.ofInt y from (o64_lt hy hz).mpr (by omega))]
      decide
theorem g_10 (C : CX p s m args meth c0 f A D cA X n xs) (hRf : 1 ≤ R.frames) (hRl : 100 ≤ R.locals) (hd : decode (mtb f).1 pc = .ok (raw pc (10, a, b, x))) (hl : lnk (mtb f).2.2.2.2 (mtb f).2.2.1 (mtb f).2.1.name (10, a, b, x) = true) (hs : oks (inf f).1 (10, a, b, x) = true) (h0 : act (10, a, b, x) ls st (L, c) = some (.inl (ls', st', M'))) (hL : M'.1.length ≤ 1000000) (hRc : M'.1.length - n0 ≤ R.cells) (hRs : slz M'.1 - z0 ≤ R.slots) (hk : WS p l e R s m args below meth c0 Q f A D cA X n xs ad0 n0 z0 (npc pc (10, a, b, x)) ls' st' M'.1 M'.2) : WS p l e R s m args below meth c0 Q f A D cA X n xs ad0 n0 z0 pc ls st L c := by
  intro ad H locs lsM S
  obtain ⟨hx, hb, hml, hown, hts, hK, hST, hA, hr, hlk, hnm⟩ := C
  have h9 := pI_inv h0
  clear h0
  obtain ⟨y, t, rfl, h⟩ := h9
  have h : (some (.inl (ls, vL y :: t, (L, c))) : Act) = some (.inl (ls', st', M')) := h
  cases h
  have hy : In32 y := vok_hd S.stv
  have hy2 : In64 y := ⟨by have := hy.1; omega, by have := hy.2; omega⟩
  exact lv_i2l hx hb hd (o32_i2l hy) (hk ad H locs lsM (S.stk (vok_cons hy2 (vok_tl S.stv))))
theorem g_11 (C : CX p s m args meth c0 f A D cA X n xs) (hRf : 1 ≤ R.frames) (hRl : 100 ≤ R.locals) (hd : decode (mtb f).1 pc = .ok (raw pc (11, a, b, x))) (hl : lnk (mtb f).2.2.2.2 (mtb f).2.2.1 (mtb f).2.1.name (11, a, b, x) = true) (hs : oks (inf f).1 (11, a, b, x) = true) (h0 : act (11, a, b, x) ls st (L, c) = some (.inl (ls', st', M'))) (hL : M'.1.length ≤ 1000000) (hRc : M'.1.length - n0 ≤ R.cells) (hRs : slz M'.1 - z0 ≤ R.slots) (hk : WS p l e R s m args below meth c0 Q f A D cA X n xs ad0 n0 z0 (npc pc (11, a, b, x)) ls' st' M'.1 M'.2) : WS p l e R s m args below meth c0 Q f A D cA X n xs ad0 n0 z0 pc ls st L c := by
  intro ad H locs lsM S
  obtain ⟨hx, hb, hml, hown, hts, hK, hST, hA, hr, hlk, hnm⟩ := C
  have h9 := pV_inv h0
  clear h0
  obtain ⟨v, t, rfl, h⟩ := h9
  have h9 := bif_inv h
  clear h
  obtain ⟨h1, h⟩ := h9
  have h : (some (.inl (ls, v :: v :: t, (L, c))) : Act) = some (.inl (ls', st', M')) := h
  cases h
  exact lv_dup hx hb hd (one1_cat h1).2 (hk ad H locs lsM (S.stk (vok_cons (vok_hd S.stv) S.stv)))
theorem g_15 (C : CX p s m args meth c0 f A D cA X n xs) (hRf : 1 ≤ R.frames) (hRl : 100 ≤ R.locals) (hd : decode (mtb f).1 pc = .ok (raw pc (15, a, b, x))) (hl : lnk (mtb f).2.2.2.2 (mtb f).2.2.1 (mtb f).2.1.name (15, a, b, x) = true) (hs : oks (inf f).1 (15, a, b, x) = true) (h0 : act (15, a, b, x) ls st (L, c) = some (.inl (ls', st', M'))) (hL : M'.1.length ≤ 1000000) (hRc : M'.1.length - n0 ≤ R.cells) (hRs : slz M'.1 - z0 ≤ R.slots) (hk : WS p l e R s m args below meth c0 Q f A D cA X n xs ad0 n0 z0 (npc pc (15, a, b, x)) ls' st' M'.1 M'.2) : WS p l e R s m args below meth c0 Q f A D cA X n xs ad0 n0 z0 pc ls st L c := by
  intro ad H locs lsM S
  obtain ⟨hx, hb, hml, hown, hts, hK, hST, hA, hr, hlk, hnm⟩ := C
  have h : (some (.inl (ls, st, (L, c))) : Act) = some (.inl (ls', st', M')) := h0
  cases h
  exact lv_goto (tgt := b) (off := (b : Int) - pc) hx hb hd (by omega) (hk ad H locs lsM S)
theorem g_43 (C : CX p s m args meth c0 f A D cA X n xs) (hRf : 1 ≤ R.frames) (hRl : 100 ≤ R.locals) (hd : decode (mtb f).1 pc = .ok (raw pc (43, a, b, x))) (hl : lnk (mtb f).2.2.2.2 (mtb f).2.2.1 (mtb f).2.1.name (43, a, b, x) = true) (hs : oks (inf f).1 (43, a, b, x) = true) (h0 : act (43, a, b, x) ls st (L, c) = some (.inl (ls', st', M'))) (hL : M'.1.length ≤ 1000000) (hRc : M'.1.length - n0 ≤ R.cells) (hRs : slz M'.1 - z0 ≤ R.slots) (hk : WS p l e R s m args below meth c0 Q f A D cA X n xs ad0 n0 z0 (npc pc (43, a, b, x)) ls' st' M'.1 M'.2) : WS p l e R s m args below meth c0 Q f A D cA X n xs ad0 n0 z0 pc ls st L c := by
  intro ad H locs lsM S
  obtain ⟨hx, hb, hml, hown, hts, hK, hST, hA, hr, hlk, hnm⟩ := C
  have h9 := pI_inv h0
  clear h0
  obtain ⟨y, t, rfl, h⟩ := h9
  have h9 := pI_inv h
  clear h
  obtain ⟨z, t, rfl, h⟩ := h9
  have h9 := ifn_inv h
  clear h
  obtain ⟨hne, h⟩ := h9
  have hy : In32 y := vok_hd S.stv
  have hz : In32 z := vok_hd (vok_tl S.stv)
  have h : (some (.inl (ls, vI (w32 (Int.tdiv z y)) :: t, (L, c))) : Act) = some (.inl (ls', st', M')) := h
  cases h
  exact lv_idiv hx hb hd (fun q => hne ((o32_inj hy in32_0).mp (q.trans o32_0.symm))) (W_top (congrArg Value.int (o32_tdiv hz hy)) (hk ad H locs lsM (S.stk (vok_cons (in32_w _) (vok_tl (vok_tl S.stv))))))
theorem g_44 (C : CX p s m args meth c0 f A D cA X n xs) (hRf : 1 ≤ R.frames) (hRl : 100 ≤ R.locals) (hd : decode (mtb f).1 pc = .ok (raw pc (44, a, b, x))) (hl : lnk (mtb f).2.2.2.2 (mtb f).2.2.1 (mtb f).2.1.name (44, a, b, x) = true) (hs : oks (inf f).1 (44, a, b, x) = true) (h0 : act (44, a, b, x) ls st (L, c) = some (.inl (ls', st', M'))) (hL : M'.1.length ≤ 1000000) (hRc : M'.1.length - n0 ≤ R.cells) (hRs : slz M'.1 - z0 ≤ R.slots) (hk : WS p l e R s m args below meth c0 Q f A D cA X n xs ad0 n0 z0 (npc pc (44, a, b, x)) ls' st' M'.1 M'.2) : WS p l e R s m args below meth c0 Q f A D cA X n xs ad0 n0 z0 pc ls st L c := by
  intro ad H locs lsM S
  obtain ⟨hx, hb, hml, hown, hts, hK, hST, hA, hr, hlk, hnm⟩ := C
  have h9 := pI_inv h0
  clear h0
  obtain ⟨y, t, rfl, h⟩ := h9
  have h9 := pI_inv h
  clear h
  obtain ⟨z, t, rfl, h⟩ := h9
  have h9 := ifn_inv h
  clear h
  obtain ⟨hne, h⟩ := h9
  have hy : In32 y := vok_hd S.stv
  have hz : In32 z := vok_hd (vok_tl S.stv)
  have h : (some (.inl (ls, vI (w32 (Int.tmod z y)) :: t, (L, c))) : Act) = some (.inl (ls', st', M')) := h
  cases h
  exact lv_irem hx hb hd (fun q => hne ((o32_inj hy in32_0).mp (q.trans o32_0.symm))) (W_top (congrArg Value.int (o32_tmod hz hy)) (hk ad H locs lsM (S.stk (vok_cons (in32_w _) (vok_tl (vok_tl S.stv))))))
theorem g_45 (C : CX p s m args meth c0 f A D cA X n xs) (hRf : 1 ≤ R.frames) (hRl : 100 ≤ R.locals) (hd : decode (mtb f).1 pc = .ok (raw pc (45, a, b, x))) (hl : lnk (mtb f).2.2.2.2 (mtb f).2.2.1 (mtb f).2.1.name (45, a, b, x) = true) (hs : oks (inf f).1 (45, a, b, x) = true) (h0 : act (45, a, b, x) ls st (L, c) = some (.inl (ls', st', M'))) (hL : M'.1.length ≤ 1000000) (hRc : M'.1.length - n0 ≤ R.cells) (hRs : slz M'.1 - z0 ≤ R.slots) (hk : WS p l e R s m args below meth c0 Q f A D cA X n xs ad0 n0 z0 (npc pc (45, a, b, x)) ls' st' M'.1 M'.2) : WS p l e R s m args below meth c0 Q f A D cA X n xs ad0 n0 z0 pc ls st L c := by
  intro ad H locs lsM S
  obtain ⟨hx, hb, hml, hown, hts, hK, hST, hA, hr, hlk, hnm⟩ := C
  have h9 := pL_inv h0
  clear h0
  obtain ⟨y, t, rfl, h⟩ := h9
  have h9 := pL_inv h
  clear h
  obtain ⟨z, t, rfl, h⟩ := h9
  have h9 := ifn_inv h
  clear h
  obtain ⟨hne, h⟩ := h9
  have hy : In64 y := vok_hd S.stv
  have hz : In64 z := vok_hd (vok_tl S.stv)
  have h : (some (.inl (ls, vL (w64 (Int.tdiv z y)) :: t, (L, c))) : Act) = some (.inl (ls', st', M')) := h
  cases h
  exact lv_ldiv hx hb hd (fun q => hne ((o64_inj hy in64_0).mp (q.trans o64_0.symm))) (W_top (congrArg Value.long (o64_tdiv hz hy)) (hk ad H locs lsM (S.stk (vok_cons (in64_w _) (vok_tl (vok_tl S.stv))))))
theorem g_46 (C : CX p s m args meth c0 f A D cA X n xs) (hRf : 1 ≤ R.frames) (hRl : 100 ≤ R.locals) (hd : decode (mtb f).1 pc = .ok (raw pc (46, a, b, x))) (hl : lnk (mtb f).2.2.2.2 (mtb f).2.2.1 (mtb f).2.1.name (46, a, b, x) = true) (hs : oks (inf f).1 (46, a, b, x) = true) (h0 : act (46, a, b, x) ls st (L, c) = some (.inl (ls', st', M'))) (hL : M'.1.length ≤ 1000000) (hRc : M'.1.length - n0 ≤ R.cells) (hRs : slz M'.1 - z0 ≤ R.slots) (hk : WS p l e R s m args below meth c0 Q f A D cA X n xs ad0 n0 z0 (npc pc (46, a, b, x)) ls' st' M'.1 M'.2) : WS p l e R s m args below meth c0 Q f A D cA X n xs ad0 n0 z0 pc ls st L c := by
  intro ad H locs lsM S
  obtain ⟨hx, hb, hml, hown, hts, hK, hST, hA, hr, hlk, hnm⟩ := C
  have h9 := pL_inv h0
  clear h0
  obtain ⟨y, t, rfl, h⟩ := h9
  have h9 := pL_inv h
  clear h
  obtain ⟨z, t, rfl, h⟩ := h9
  have h9 := ifn_inv h
  clear h
  obtain ⟨hne, h⟩ := h9
  have hy : In64 y := vok_hd S.stv
  have hz : In64 z := vok_hd (vok_tl S.stv)
  have h : (some (.inl (ls, vL (w64 (Int.tmod z y)) :: t, (L, c))) : Act) = some (.inl (ls', st', M')) := h
  cases h
  exact lv_lrem hx hb hd (fun q => hne ((o64_inj hy in64_0).mp (q.trans o64_0.symm))) (W_top (congrArg Value.long (o64_tmod hz hy)) (hk ad H locs lsM (S.stk (vok_cons (in64_w _) (vok_tl (vok_tl S.stv))))))
theorem g_48 (C : CX p s m args meth c0 f A D cA X n xs) (hRf : 1 ≤ R.frames) (hRl : 100 ≤ R.locals) (hd : decode (mtb f).1 pc = .ok (raw pc (48, a, b, x))) (hl : lnk (mtb f).2.2.2.2 (mtb f).2.2.1 (mtb f).2.1.name (48, a, b, x) = true) (hs : oks (inf f).1 (48, a, b, x) = true) (h0 : act (48, a, b, x) ls st (L, c) = some (.inl (ls', st', M'))) (hL : M'.1.length ≤ 1000000) (hRc : M'.1.length - n0 ≤ R.cells) (hRs : slz M'.1 - z0 ≤ R.slots) (hk : WS p l e R s m args below meth c0 Q f A D cA X n xs ad0 n0 z0 (npc pc (48, a, b, x)) ls' st' M'.1 M'.2) : WS p l e R s m args below meth c0 Q f A D cA X n xs ad0 n0 z0 pc ls st L c := by
  intro ad H locs lsM S
  obtain ⟨hx, hb, hml, hown, hts, hK, hST, hA, hr, hlk, hnm⟩ := C
  have h9 := pL_inv h0
  clear h0
  obtain ⟨y, t, rfl, h⟩ := h9
  have h : (some (.inl (ls, vI (w32 y) :: t, (L, c))) : Act) = some (.inl (ls', st', M')) := h
  cases h
  exact lv_l2i hx hb hd (o64_l2i (vok_hd S.stv)) (hk ad H locs lsM (S.stk (vok_cons (in32_w _) (vok_tl S.stv))))
theorem g_49 (C : CX p s m args meth c0 f A D cA X n xs) (hRf : 1 ≤ R.frames) (hRl : 100 ≤ R.locals) (hd : decode (mtb f).1 pc = .ok (raw pc (49, a, b, x))) (hl : lnk (mtb f).2.2.2.2 (mtb f).2.2.1 (mtb f).2.1.name (49, a, b, x) = true) (hs : oks (inf f).1 (49, a, b, x) = true) (h0 : act (49, a, b, x) ls st (L, c) = some (.inl (ls', st', M'))) (hL : M'.1.length ≤ 1000000) (hRc : M'.1.length - n0 ≤ R.cells) (hRs : slz M'.1 - z0 ≤ R.slots) (hk : WS p l e R s m args below meth c0 Q f A D cA X n xs ad0 n0 z0 (npc pc (49, a, b, x)) ls' st' M'.1 M'.2) : WS p l e R s m args below meth c0 Q f A D cA X n xs ad0 n0 z0 pc ls st L c := by
  intro ad H locs lsM S
  obtain ⟨hx, hb, hml, hown, hts, hK, hST, hA, hr, hlk, hnm⟩ := C
  have h9 := pI_inv h0
  clear h0
  obtain ⟨y, t, rfl, h⟩ := h9
  have h9 := if_inv h
  clear h
  obtain ⟨hy, h⟩ := h9
  have h : (some (.inl (ls, vI y :: t, (L, c))) : Act) = some (.inl (ls', st', M')) := h
  cases h
  have hy2 : In32 y := vok_hd S.stv
  refine lv_i2c hx hb hd ?_ (hk ad H locs lsM (S.stk (vok_cons hy2 (vok_tl S.stv))))
  obtain ⟨q, rfl⟩ := Int.eq_ofNat_of_zero_le hy.1
  have hq : q < 65536 := by omega
  rw [o32_nat]
  apply Int32.toInt_inj.mp
  have e1 : (Int32.ofNat q).toInt = (q : Int) := Int32.toInt_ofNat_of_lt (by omega)
  have e2 : (Int32.ofNat q).toUInt32.toNat = q := by
    rw [Int32.toNat_toUInt32_of_le (by rw [Int32.le_iff_toInt_le, e1]; simp), ← Int32.toNat_toInt, e1]
    rfl
  have e3 : ((Int32.ofNat q).toUInt32 % 65536).toNat = q := by
    rw [UInt32.toNat_mod, e2]
    show q % 65536 = q
    omega
  have e4 : ((Int32.ofNat q).toUInt32 % 65536).toInt32 = Int32.ofNat q := by
    rw [← UInt32.ofNat_toNat (x := (Int32.ofNat q).toUInt32 % 65536), e3]
    rfl
  rw [e4]
theorem g_50 (C : CX p s m args meth c0 f A D cA X n xs) (hRf : 1 ≤ R.frames) (hRl : 100 ≤ R.locals) (hd : decode (mtb f).1 pc = .ok (raw pc (50, a, b, x))) (hl : lnk (mtb f).2.2.2.2 (mtb f).2.2.1 (mtb f).2.1.name (50, a, b, x) = true) (hs : oks (inf f).1 (50, a, b, x) = true) (h0 : act (50, a, b, x) ls st (L, c) = some (.inl (ls', st', M'))) (hL : M'.1.length ≤ 1000000) (hRc : M'.1.length - n0 ≤ R.cells) (hRs : slz M'.1 - z0 ≤ R.slots) (hk : WS p l e R s m args below meth c0 Q f A D cA X n xs ad0 n0 z0 (npc pc (50, a, b, x)) ls' st' M'.1 M'.2) : WS p l e R s m args below meth c0 Q f A D cA X n xs ad0 n0 z0 pc ls st L c := by
  intro ad H locs lsM S
  obtain ⟨hx, hb, hml, hown, hts, hK, hST, hA, hr, hlk, hnm⟩ := C
  have h9 := pV_inv h0
  clear h0
  obtain ⟨v, t, rfl, h⟩ := h9
  have h9 := pV_inv h
  clear h
  obtain ⟨w, t, rfl, h⟩ := h9
  have h9 := bif_inv h
  clear h
  obtain ⟨h1, h⟩ := h9
  rw [Bool.and_eq_true] at h1
  have h : (some (.inl (ls, v :: w :: v :: w :: t, (L, c))) : Act) = some (.inl (ls', st', M')) := h
  cases h
  exact lv_dup2_11 hx hb hd (one1_cat h1.1).2 (one1_cat h1.2).2 (hk ad H locs lsM (S.stk (vok_cons (vok_hd S.stv) (vok_cons (vok_hd (vok_tl S.stv)) S.stv))))
theorem g_51 (C : CX p s m args meth c0 f A D cA X n xs) (hRf : 1 ≤ R.frames) (hRl : 100 ≤ R.locals) (hd : decode (mtb f).1 pc = .ok (raw pc (51, a, b, x))) (hl : lnk (mtb f).2.2.2.2 (mtb f).2.2.1 (mtb f).2.1.name (51, a, b, x) = true) (hs : oks (inf f).1 (51, a, b, x) = true) (h0 : act (51, a, b, x) ls st (L, c) = some (.inl (ls', st', M'))) (hL : M'.1.length ≤ 1000000) (hRc : M'.1.length - n0 ≤ R.cells) (hRs : slz M'.1 - z0 ≤ R.slots) (hk : WS p l e R s m args below meth c0 Q f A D cA X n xs ad0 n0 z0 (npc pc (51, a, b, x)) ls' st' M'.1 M'.2) : WS p l e R s m args below meth c0 Q f A D cA X n xs ad0 n0 z0 pc ls st L c := by
  intro ad H locs lsM S
  obtain ⟨hx, hb, hml, hown, hts, hK, hST, hA, hr, hlk, hnm⟩ := C
  have h9 := pV_inv h0
  clear h0
  obtain ⟨v, t, rfl, h⟩ := h9
  have h9 := bif_inv h
  clear h
  obtain ⟨h1, h⟩ := h9
  have h : (some (.inl (ls, t, (L, c))) : Act) = some (.inl (ls', st', M')) := h
  cases h
  exact lv_pop hx hb hd (one1_cat h1).2 (hk ad H locs lsM (S.stk (vok_tl S.stv)))
theorem g_62 (C : CX p s m args meth c0 f A D cA X n xs) (hRf : 1 ≤ R.frames) (hRl : 100 ≤ R.locals) (hd : decode (mtb f).1 pc = .ok (raw pc (62, a, b, x))) (hl : lnk (mtb f).2.2.2.2 (mtb f).2.2.1 (mtb f).2.1.name (62, a, b, x) = true) (hs : oks (inf f).1 (62, a, b, x) = true) (h0 : act (62, a, b, x) ls st (L, c) = some (.inl (ls', st', M'))) (hL : M'.1.length ≤ 1000000) (hRc : M'.1.length - n0 ≤ R.cells) (hRs : slz M'.1 - z0 ≤ R.slots) (hk : WS p l e R s m args below meth c0 Q f A D cA X n xs ad0 n0 z0 (npc pc (62, a, b, x)) ls' st' M'.1 M'.2) : WS p l e R s m args below meth c0 Q f A D cA X n xs ad0 n0 z0 pc ls st L c := by
  intro ad H locs lsM S
  obtain ⟨hx, hb, hml, hown, hts, hK, hST, hA, hr, hlk, hnm⟩ := C
  have h9 := pI_inv h0
  clear h0
  obtain ⟨y, t, rfl, h⟩ := h9
  have h9 := bif_inv h
  clear h
  obtain ⟨h1, h⟩ := h9
  have h1 := Nat.le_of_ble_eq_true h1
  have h : (some (.inl (ls, vI (if 0 ≤ y then y else w32 (0 - y)) :: t, (L, c))) : Act) = some (.inl (ls', st', M')) := h
  cases h
  have hy : In32 y := vok_hd S.stv
  have hcat := catS_le (ad := ad) (X := X) t
  refine va_mabs hx hb (hml.trans S.lr.2.1.symm) hown (hts _ (lkX_word hl)) (hts _ mS_abs) (hts _ mI) (hts _ mC_abs) hRf (by omega) hRc hRs hd ?_
  refine W_top (v := .int (Int32.ofInt (if 0 ≤ y then y else w32 (0 - y)))) ?_ (hk ad H locs lsM (S.stk (vok_cons (vokI ?_) (vok_tl S.stv))))
  · by_cases q : 0 ≤ y
    · rw [if_pos q, if_pos (by rw [← o32_0]; exact (o32_le in32_0 hy).mpr q)]
    · rw [if_neg q, if_neg (fun w => q (by rw [← o32_0] at w; exact (o32_le in32_0 hy).mp w)), o32_sub, o32_0]
  · split
    · exact hy
    · exact in32_w _
theorem g_63 (C : CX p s m args meth c0 f A D cA X n xs) (hRf : 1 ≤ R.frames) (hRl : 100 ≤ R.locals) (hd : decode (mtb f).1 pc = .ok (raw pc (63, a, b, x))) (hl : lnk (mtb f).2.2.2.2 (mtb f).2.2.1 (mtb f).2.1.name (63, a, b, x) = true) (hs : oks (inf f).1 (63, a, b, x) = true) (h0 : act (63, a, b, x) ls st (L, c) = some (.inl (ls', st', M'))) (hL : M'.1.length ≤ 1000000) (hRc : M'.1.length - n0 ≤ R.cells) (hRs : slz M'.1 - z0 ≤ R.slots) (hk : WS p l e R s m args below meth c0 Q f A D cA X n xs ad0 n0 z0 (npc pc (63, a, b, x)) ls' st' M'.1 M'.2) : WS p l e R s m args below meth c0 Q f A D cA X n xs ad0 n0 z0 pc ls st L c := by
  intro ad H locs lsM S
  obtain ⟨hx, hb, hml, hown, hts, hK, hST, hA, hr, hlk, hnm⟩ := C
  have h9 := pI_inv h0
  clear h0
  obtain ⟨y, t, rfl, h⟩ := h9
  have h9 := pI_inv h
  clear h
  obtain ⟨z, t, rfl, h⟩ := h9
  have h9 := bif_inv h
  clear h
  obtain ⟨h1, h⟩ := h9
  have h1 := Nat.le_of_ble_eq_true h1
  have h : (some (.inl (ls, vI (if z < y then y else z) :: t, (L, c))) : Act) = some (.inl (ls', st', M')) := h
  cases h
  have hy : In32 y := vok_hd S.stv
  have hz : In32 z := vok_hd (vok_tl S.stv)
  have hcat := catS_le (ad := ad) (X := X) t
  refine va_mmax hx hb (hml.trans S.lr.2.1.symm) hown (hts _ (lkX_word hl)) (hts _ mS_max) (hts _ mI) (hts _ mC_max) hRf (by omega) hRc hRs hd ?_
  refine W_top (v := .int (Int32.ofInt (if z < y then y else z))) ?_ (hk ad H locs lsM (S.stk (vok_cons (vokI ?_) (vok_tl (vok_tl S.stv)))))
  · by_cases q : z < y
    · rw [if_pos q, if_pos ((o32_lt hz hy).mpr q)]
    · rw [if_neg q, if_neg (fun w => q ((o32_lt hz hy).mp w))]
  · split
    · exact hy
    · exact hz
theorem g_64 (C : CX p s m args meth c0 f A D cA X n xs) (hRf : 1 ≤ R.frames) (hRl : 100 ≤ R.locals) (hd : decode (mtb f).1 pc = .ok (raw pc (64, a, b, x))) (hl : lnk (mtb f).2.2.2.2 (mtb f).2.2.1 (mtb f).2.1.name (64, a, b, x) = true) (hs : oks (inf f).1 (64, a, b, x) = true) (h0 : act (64, a, b, x) ls st (L, c) = some (.inl (ls', st', M'))) (hL : M'.1.length ≤ 1000000) (hRc : M'.1.length - n0 ≤ R.cells) (hRs : slz M'.1 - z0 ≤ R.slots) (hk : WS p l e R s m args below meth c0 Q f A D cA X n xs ad0 n0 z0 (npc pc (64, a, b, x)) ls' st' M'.1 M'.2) : WS p l e R s m args below meth c0 Q f A D cA X n xs ad0 n0 z0 pc ls st L c := by
  intro ad H locs lsM S
  obtain ⟨hx, hb, hml, hown, hts, hK, hST, hA, hr, hlk, hnm⟩ := C
  have h9 := pI_inv h0
  clear h0
  obtain ⟨y, t, rfl, h⟩ := h9
  have h9 := pI_inv h
  clear h
  obtain ⟨z, t, rfl, h⟩ := h9
  have h9 := bif_inv h
  clear h
  obtain ⟨h1, h⟩ := h9
  have h1 := Nat.le_of_ble_eq_true h1
  have h : (some (.inl (ls, vI (if y < z then y else z) :: t, (L, c))) : Act) = some (.inl (ls', st', M')) := h
  cases h
  have hy : In32 y := vok_hd S.stv
  have hz : In32 z := vok_hd (vok_tl S.stv)
  have hcat := catS_le (ad := ad) (X := X) t
  refine va_mmin hx hb (hml.trans S.lr.2.1.symm) hown (hts _ (lkX_word hl)) (hts _ mS_min) (hts _ mI) (hts _ mC_min) hRf (by omega) hRc hRs hd ?_
  refine W_top (v := .int (Int32.ofInt (if y < z then y else z))) ?_ (hk ad H locs lsM (S.stk (vok_cons (vokI ?_) (vok_tl (vok_tl S.stv)))))
  · by_cases q : y < z
    · rw [if_pos q, if_pos ((o32_lt hy hz).mpr q)]
    · rw [if_neg q, if_neg (fun w => q ((o32_lt hy hz).mp w))]
  · split
    · exact hy
    · exact hz
end OPS
end
section
/-! SOUNDNESS, 3: fields, arrays, text, what is made (own work): 14a.ops2 -/
section OPS
variable {p : Program} {l : Launch} {e : Env} {R : Room} {s : State} {m : MethodId} {args : Array Value} {below : List Frame} {meth : Method} {c0 : Code} {Q : State → Prop} {f : Nat} {A : Nat → Prop} {D : va_G} {cA : Nat → ClassId} {X : AdX} {n : Nat} {xs : Nat → Int32} {ad0 : Nat → Nat} {n0 z0 : Nat}
variable {ls st ls' st' : List V} {L : List Shp} {c : Nat → Int → Int} {M' : Mem} {pc a b : Nat} {x : Int}
theorem g_18 (C : CX p s m args meth c0 f A D cA X n xs) (hRf : 1 ≤ R.frames) (hRl : 100 ≤ R.locals) (hd : decode (mtb f).1 pc = .ok (raw pc (18, a, b, x))) (hl : lnk (mtb f).2.2.2.2 (mtb f).2.2.1 (mtb f).2.1.name (18, a, b, x) = true) (hs : oks (inf f).1 (18, a, b, x) = true) (h0 : act (18, a, b, x) ls st (L, c) = some (.inl (ls', st', M'))) (hL : M'.1.length ≤ 1000000) (hRc : M'.1.length - n0 ≤ R.cells) (hRs : slz M'.1 - z0 ≤ R.slots) (hk : WS p l e R s m args below meth c0 Q f A D cA X n xs ad0 n0 z0 (npc pc (18, a, b, x)) ls' st' M'.1 M'.2) : WS p l e R s m args below meth c0 Q f A D cA X n xs ad0 n0 z0 pc ls st L c := by
  intro ad H locs lsM S
  obtain ⟨hx, hb, hml, hown, hts, hK, hST, hA, hr, hlk, hnm⟩ := C
  have h9 := pR_inv h0
  clear h0
  obtain ⟨r, t, rfl, h⟩ := h9
  have h9 := pD_inv h
  clear h
  obtain ⟨k, sh, hk0, rfl, h⟩ := h9
  have h9 := bif_inv h
  clear h
  obtain ⟨h1, h⟩ := h9
  have h1 : sh.1 = 10 + a := beq_of h1
  have h : (some (.inl (ls, vI (c k (Int.ofNat b)) :: t, (L, c))) : Act) = some (.inl (ls', st', M')) := h
  cases h
  have hl : (Nat.beq ((ftb a).getD b 9) 0 && (lkF (mtb f).2.2.2.2).any (fun q => Nat.beq q.1 x.toNat && (Nat.beq q.2.1 a && Nat.beq q.2.2.1 b))) = true := hl
  rw [Bool.and_eq_true] at hl
  have hty : (ftb a).getD b 9 = 0 := beq_of hl.1
  have hco := S.2.2.2.1 k sh hk0
  have ha12 : a ≤ 12 := by have := (hco.2.2.2.2 (by omega)).2.1; omega
  obtain ⟨q, ty, hC⟩ := cls_all a ha12
  have hb3 : b < q.2.2 := hC.fin (by rw [hty]; decide)
  have hcf := cok_f (k := b) hco (by omega)
  rw [h1, Nat.add_sub_cancel_left] at hcf
  have he := wsl_at (ad := ad) (X := X) (cA := cA) (c := c) hk0
  rw [ent_5 (by omega), h1, Nat.add_sub_cancel_left] at he
  have hw := hts _ (lkF_word hl.2)
  rw [hC.nam] at hw
  refine va_get (D := D) (ci := a) (fs := flds ad X a (c k) sh.2.2) (v := .int (Int32.ofInt (c k (Int.ofNat b)))) hx hb hts hC.2.2.1 hown hK S.1 k he hC.1 b hb3 hw (fun _ h9 => h9) ?_ hd (hk ad H locs lsM (S.stk (vok_cons (vokI (hcf.2.2 (by rw [hty]; decide))) (vok_tl S.stv))))
  rw [flds_at (by rw [← hC.2.2.2.2.2.1]; exact hb3), hty]
  rfl
theorem g_19 (C : CX p s m args meth c0 f A D cA X n xs) (hRf : 1 ≤ R.frames) (hRl : 100 ≤ R.locals) (hd : decode (mtb f).1 pc = .ok (raw pc (19, a, b, x))) (hl : lnk (mtb f).2.2.2.2 (mtb f).2.2.1 (mtb f).2.1.name (19, a, b, x) = true) (hs : oks (inf f).1 (19, a, b, x) = true) (h0 : act (19, a, b, x) ls st (L, c) = some (.inl (ls', st', M'))) (hL : M'.1.length ≤ 1000000) (hRc : M'.1.length - n0 ≤ R.cells) (hRs : slz M'.1 - z0 ≤ R.slots) (hk : WS p l e R s m args below meth c0 Q f A D cA X n xs ad0 n0 z0 (npc pc (19, a, b, x)) ls' st' M'.1 M'.2) : WS p l e R s m args below meth c0 Q f A D cA X n xs ad0 n0 z0 pc ls st L c := by
  intro ad H locs lsM S
  obtain ⟨hx, hb, hml, hown, hts, hK, hST, hA, hr, hlk, hnm⟩ := C
  have h9 := pR_inv h0
  clear h0
  obtain ⟨r, t, rfl, h⟩ := h9
  have h9 := pD_inv h
  clear h
  obtain ⟨k, sh, hk0, rfl, h⟩ := h9
  have h9 := bif_inv h
  clear h
  obtain ⟨h1, h⟩ := h9
  have h1 : sh.1 = 10 + a := beq_of h1
  have h : (some (.inl (ls, vL (c k (Int.ofNat b)) :: t, (L, c))) : Act) = some (.inl (ls', st', M')) := h
  cases h
  have hl : (Nat.beq ((ftb a).getD b 9) 1 && (lkF (mtb f).2.2.2.2).any (fun q => Nat.beq q.1 x.toNat && (Nat.beq q.2.1 a && Nat.beq q.2.2.1 b))) = true := hl
  rw [Bool.and_eq_true] at hl
  have hty : (ftb a).getD b 9 = 1 := beq_of hl.1
  have hco := S.2.2.2.1 k sh hk0
  have ha12 : a ≤ 12 := by have := (hco.2.2.2.2 (by omega)).2.1; omega
  obtain ⟨q, ty, hC⟩ := cls_all a ha12
  have hb3 : b < q.2.2 := hC.fin (by rw [hty]; decide)
  have hcf := cok_f (k := b) hco (by omega)
  rw [h1, Nat.add_sub_cancel_left] at hcf
  have he := wsl_at (ad := ad) (X := X) (cA := cA) (c := c) hk0
  rw [ent_5 (by omega), h1, Nat.add_sub_cancel_left] at he
  have hw := hts _ (lkF_word hl.2)
  rw [hC.nam] at hw
  refine va_get (D := D) (ci := a) (fs := flds ad X a (c k) sh.2.2) (v := .long (Int64.ofInt (c k (Int.ofNat b)))) hx hb hts hC.2.2.1 hown hK S.1 k he hC.1 b hb3 hw (fun _ h9 => h9) ?_ hd (hk ad H locs lsM (S.stk (vok_cons (vokL (hcf.2.1 hty)) (vok_tl S.stv))))
  rw [flds_at (by rw [← hC.2.2.2.2.2.1]; exact hb3), hty]
  rfl
theorem g_20 (C : CX p s m args meth c0 f A D cA X n xs) (hRf : 1 ≤ R.frames) (hRl : 100 ≤ R.locals) (hd : decode (mtb f).1 pc = .ok (raw pc (20, a, b, x))) (hl : lnk (mtb f).2.2.2.2 (mtb f).2.2.1 (mtb f).2.1.name (20, a, b, x) = true) (hs : oks (inf f).1 (20, a, b, x) = true) (h0 : act (20, a, b, x) ls st (L, c) = some (.inl (ls', st', M'))) (hL : M'.1.length ≤ 1000000) (hRc : M'.1.length - n0 ≤ R.cells) (hRs : slz M'.1 - z0 ≤ R.slots) (hk : WS p l e R s m args below meth c0 Q f A D cA X n xs ad0 n0 z0 (npc pc (20, a, b, x)) ls' st' M'.1 M'.2) : WS p l e R s m args below meth c0 Q f A D cA X n xs ad0 n0 z0 pc ls st L c := by
  intro ad H locs lsM S
  obtain ⟨hx, hb, hml, hown, hts, hK, hST, hA, hr, hlk, hnm⟩ := C
  have h9 := pR_inv h0
  clear h0
  obtain ⟨r, t, rfl, h⟩ := h9
  have h9 := pD_inv h
  clear h
  obtain ⟨k, sh, hk0, rfl, h⟩ := h9
  have h9 := bif_inv h
  clear h
  obtain ⟨h1, h⟩ := h9
  have h1 : sh.1 = 10 + a := beq_of h1
  have h : (some (.inl (ls, vI (c k (Int.ofNat b)) :: t, (L, c))) : Act) = some (.inl (ls', st', M')) := h
  cases h
  have hl : (Nat.beq ((ftb a).getD b 9) 2 && (lkF (mtb f).2.2.2.2).any (fun q => Nat.beq q.1 x.toNat && (Nat.beq q.2.1 a && Nat.beq q.2.2.1 b))) = true := hl
  rw [Bool.and_eq_true] at hl
  have hty : (ftb a).getD b 9 = 2 := beq_of hl.1
  have hco := S.2.2.2.1 k sh hk0
  have ha12 : a ≤ 12 := by have := (hco.2.2.2.2 (by omega)).2.1; omega
  obtain ⟨q, ty, hC⟩ := cls_all a ha12
  have hb3 : b < q.2.2 := hC.fin (by rw [hty]; decide)
  have hcf := cok_f (k := b) hco (by omega)
  rw [h1, Nat.add_sub_cancel_left] at hcf
  have he := wsl_at (ad := ad) (X := X) (cA := cA) (c := c) hk0
  rw [ent_5 (by omega), h1, Nat.add_sub_cancel_left] at he
  have hw := hts _ (lkF_word hl.2)
  rw [hC.nam] at hw
  refine va_get (D := D) (ci := a) (fs := flds ad X a (c k) sh.2.2) (v := .int (Int32.ofInt (c k (Int.ofNat b)))) hx hb hts hC.2.2.1 hown hK S.1 k he hC.1 b hb3 hw (fun _ h9 => h9) ?_ hd (hk ad H locs lsM (S.stk (vok_cons (vokI (hcf.2.2 (by rw [hty]; decide))) (vok_tl S.stv))))
  rw [flds_at (by rw [← hC.2.2.2.2.2.1]; exact hb3), hty]
  rfl
theorem g_21 (C : CX p s m args meth c0 f A D cA X n xs) (hRf : 1 ≤ R.frames) (hRl : 100 ≤ R.locals) (hd : decode (mtb f).1 pc = .ok (raw pc (21, a, b, x))) (hl : lnk (mtb f).2.2.2.2 (mtb f).2.2.1 (mtb f).2.1.name (21, a, b, x) = true) (hs : oks (inf f).1 (21, a, b, x) = true) (h0 : act (21, a, b, x) ls st (L, c) = some (.inl (ls', st', M'))) (hL : M'.1.length ≤ 1000000) (hRc : M'.1.length - n0 ≤ R.cells) (hRs : slz M'.1 - z0 ≤ R.slots) (hk : WS p l e R s m args below meth c0 Q f A D cA X n xs ad0 n0 z0 (npc pc (21, a, b, x)) ls' st' M'.1 M'.2) : WS p l e R s m args below meth c0 Q f A D cA X n xs ad0 n0 z0 pc ls st L c := by
  intro ad H locs lsM S
  obtain ⟨hx, hb, hml, hown, hts, hK, hST, hA, hr, hlk, hnm⟩ := C
  have h9 := pR_inv h0
  clear h0
  obtain ⟨r, t, rfl, h⟩ := h9
  have h9 := pD_inv h
  clear h
  obtain ⟨k, sh, hk0, rfl, h⟩ := h9
  have h9 := bif_inv h
  clear h
  obtain ⟨h1, h⟩ := h9
  have h1 : sh.1 = 10 + a := beq_of h1
  have h : (some (.inl (ls, vR (sh.2.2.getD b 0) :: t, (L, c))) : Act) = some (.inl (ls', st', M')) := h
  cases h
  have hl : (Nat.beq ((ftb a).getD b 9) 3 && (lkF (mtb f).2.2.2.2).any (fun q => Nat.beq q.1 x.toNat && (Nat.beq q.2.1 a && Nat.beq q.2.2.1 b))) = true := hl
  rw [Bool.and_eq_true] at hl
  have hty : (ftb a).getD b 9 = 3 := beq_of hl.1
  have hco := S.2.2.2.1 k sh hk0
  have ha12 : a ≤ 12 := by have := (hco.2.2.2.2 (by omega)).2.1; omega
  obtain ⟨q, ty, hC⟩ := cls_all a ha12
  have hb3 : b < q.2.2 := hC.fin (by rw [hty]; decide)
  have hcf := cok_f (k := b) hco (by omega)
  rw [h1, Nat.add_sub_cancel_left] at hcf
  have he := wsl_at (ad := ad) (X := X) (cA := cA) (c := c) hk0
  rw [ent_5 (by omega), h1, Nat.add_sub_cancel_left] at he
  have hw := hts _ (lkF_word hl.2)
  rw [hC.nam] at hw
  refine va_get (D := D) (ci := a) (fs := flds ad X a (c k) sh.2.2) (v := va_rf (rof ad X (sh.2.2.getD b 0))) hx hb hts hC.2.2.1 hown hK S.1 k he hC.1 b hb3 hw (fun _ h9 => h9) ?_ hd (hk ad H locs lsM (S.stk (vok_cons (getD_le hcf.1) (vok_tl S.stv))))
  rw [flds_at (by rw [← hC.2.2.2.2.2.1]; exact hb3), hty]
  rfl
theorem g_22 (C : CX p s m args meth c0 f A D cA X n xs) (hRf : 1 ≤ R.frames) (hRl : 100 ≤ R.locals) (hd : decode (mtb f).1 pc = .ok (raw pc (22, a, b, x))) (hl : lnk (mtb f).2.2.2.2 (mtb f).2.2.1 (mtb f).2.1.name (22, a, b, x) = true) (hs : oks (inf f).1 (22, a, b, x) = true) (h0 : act (22, a, b, x) ls st (L, c) = some (.inl (ls', st', M'))) (hL : M'.1.length ≤ 1000000) (hRc : M'.1.length - n0 ≤ R.cells) (hRs : slz M'.1 - z0 ≤ R.slots) (hk : WS p l e R s m args below meth c0 Q f A D cA X n xs ad0 n0 z0 (npc pc (22, a, b, x)) ls' st' M'.1 M'.2) : WS p l e R s m args below meth c0 Q f A D cA X n xs ad0 n0 z0 pc ls st L c := by
  intro ad H locs lsM S
  obtain ⟨hx, hb, hml, hown, hts, hK, hST, hA, hr, hlk, hnm⟩ := C
  have h9 := pI_inv h0
  clear h0
  obtain ⟨y, t, rfl, h⟩ := h9
  have h9 := pR_inv h
  clear h
  obtain ⟨r, t, rfl, h⟩ := h9
  have h9 := pD_inv h
  clear h
  obtain ⟨k, sh, hk0, rfl, h⟩ := h9
  have h9 := bif_inv h
  clear h
  obtain ⟨h1, h⟩ := h9
  have h1 : sh.1 = 10 + a := beq_of h1
  have h : (some (.inl (ls, t, (L, up c k (Int.ofNat b) y))) : Act) = some (.inl (ls', st', M')) := h
  cases h
  have hl : (Nat.beq ((ftb a).getD b 9) 0 && (lkF (mtb f).2.2.2.2).any (fun q => Nat.beq q.1 x.toNat && (Nat.beq q.2.1 a && Nat.beq q.2.2.1 b))) = true := hl
  rw [Bool.and_eq_true] at hl
  have hty : (ftb a).getD b 9 = 0 := beq_of hl.1
  have hco := S.2.2.2.1 k sh hk0
  have ha12 : a ≤ 12 := by have := (hco.2.2.2.2 (by omega)).2.1; omega
  obtain ⟨q, ty, hC⟩ := cls_all a ha12
  have hb3 : b < q.2.2 := hC.fin (by rw [hty]; decide)
  have hb4 : b < (ftb a).length := by rw [← hC.2.2.2.2.2.1]; exact hb3
  have he := wsl_at (ad := ad) (X := X) (cA := cA) (c := c) hk0
  rw [ent_5 (by omega), h1, Nat.add_sub_cancel_left] at he
  have hw := hts _ (lkF_word hl.2)
  rw [hC.nam] at hw
  have hyo : In32 y := vok_hd S.stv
  obtain ⟨hk1, hk2⟩ := hC.2.2.2.2.2.2 b hb3
  rw [hty] at hk1
  obtain ⟨hty2, hfin⟩ := tyk_inv0 hk1
  have hfl : (flds ad X a (c k) sh.2.2).length = (ftb a).length := by simp [flds]
  refine va_put (D := D) (ci := a) (fs := flds ad X a (c k) sh.2.2) (v := .int (Int32.ofInt y)) (ty := ty b) hx hb hts hC.2.2.1 ty hC.2.2.2.1 hC.2.2.2.2.1 hown hK S.1 S.2.1 S.2.2.1 k he hC.1 b hb3 hw (fun _ h9 => h9) hfin (hC.2.2.2.1 b hb3) (by rw [hty2]; rfl) (by rw [hty2]; rfl) (by rw [hfl]; exact hb4) hd (fun H1 locs1 hP1 hD1 hS1 => hk ad H1 locs1 lsM (S.upd hL hk0 (fun a2 h2 => up_ne h2) (cok_fld hco h1 hty hyo) ?_ hP1 hD1 hS1 (vok_tl (vok_tl S.stv))))
  rw [ent_5 (by omega), h1, Nat.add_sub_cancel_left]
  rw [flds_set (g' := up c k (Int.ofNat b) y k) hb4 (by rw [hty, up_self, if_pos rfl]; rfl) (fun j hj => by rw [up_self, if_neg (by intro q; exact hj (Int.ofNat.inj q))])]
theorem g_23 (C : CX p s m args meth c0 f A D cA X n xs) (hRf : 1 ≤ R.frames) (hRl : 100 ≤ R.locals) (hd : decode (mtb f).1 pc = .ok (raw pc (23, a, b, x))) (hl : lnk (mtb f).2.2.2.2 (mtb f).2.2.1 (mtb f).2.1.name (23, a, b, x) = true) (hs : oks (inf f).1 (23, a, b, x) = true) (h0 : act (23, a, b, x) ls st (L, c) = some (.inl (ls', st', M'))) (hL : M'.1.length ≤ 1000000) (hRc : M'.1.length - n0 ≤ R.cells) (hRs : slz M'.1 - z0 ≤ R.slots) (hk : WS p l e R s m args below meth c0 Q f A D cA X n xs ad0 n0 z0 (npc pc (23, a, b, x)) ls' st' M'.1 M'.2) : WS p l e R s m args below meth c0 Q f A D cA X n xs ad0 n0 z0 pc ls st L c := by
  intro ad H locs lsM S
  obtain ⟨hx, hb, hml, hown, hts, hK, hST, hA, hr, hlk, hnm⟩ := C
  have h9 := pL_inv h0
  clear h0
  obtain ⟨y, t, rfl, h⟩ := h9
  have h9 := pR_inv h
  clear h
  obtain ⟨r, t, rfl, h⟩ := h9
  have h9 := pD_inv h
  clear h
  obtain ⟨k, sh, hk0, rfl, h⟩ := h9
  have h9 := bif_inv h
  clear h
  obtain ⟨h1, h⟩ := h9
  have h1 : sh.1 = 10 + a := beq_of h1
  have h : (some (.inl (ls, t, (L, up c k (Int.ofNat b) y))) : Act) = some (.inl (ls', st', M')) := h
  cases h
  have hl : (Nat.beq ((ftb a).getD b 9) 1 && (lkF (mtb f).2.2.2.2).any (fun q => Nat.beq q.1 x.toNat && (Nat.beq q.2.1 a && Nat.beq q.2.2.1 b))) = true := hl
  rw [Bool.and_eq_true] at hl
  have hty : (ftb a).getD b 9 = 1 := beq_of hl.1
  have hco := S.2.2.2.1 k sh hk0
  have ha12 : a ≤ 12 := by have := (hco.2.2.2.2 (by omega)).2.1; omega
  obtain ⟨q, ty, hC⟩ := cls_all a ha12
  have hb3 : b < q.2.2 := hC.fin (by rw [hty]; decide)
  have hb4 : b < (ftb a).length := by rw [← hC.2.2.2.2.2.1]; exact hb3
  have he := wsl_at (ad := ad) (X := X) (cA := cA) (c := c) hk0
  rw [ent_5 (by omega), h1, Nat.add_sub_cancel_left] at he
  have hw := hts _ (lkF_word hl.2)
  rw [hC.nam] at hw
  have hyo : In64 y := vok_hd S.stv
  obtain ⟨hk1, hk2⟩ := hC.2.2.2.2.2.2 b hb3
  rw [hty] at hk1
  obtain ⟨hty2, hfin⟩ := tyk_inv1 hk1
  have hfl : (flds ad X a (c k) sh.2.2).length = (ftb a).length := by simp [flds]
  refine va_put (D := D) (ci := a) (fs := flds ad X a (c k) sh.2.2) (v := .long (Int64.ofInt y)) (ty := ty b) hx hb hts hC.2.2.1 ty hC.2.2.2.1 hC.2.2.2.2.1 hown hK S.1 S.2.1 S.2.2.1 k he hC.1 b hb3 hw (fun _ h9 => h9) hfin (hC.2.2.2.1 b hb3) (by rw [hty2]; rfl) (by rw [hty2]; rfl) (by rw [hfl]; exact hb4) hd (fun H1 locs1 hP1 hD1 hS1 => hk ad H1 locs1 lsM (S.upd hL hk0 (fun a2 h2 => up_ne h2) (cok_fld hco h1 hty hyo) ?_ hP1 hD1 hS1 (vok_tl (vok_tl S.stv))))
  rw [ent_5 (by omega), h1, Nat.add_sub_cancel_left]
  rw [flds_set (g' := up c k (Int.ofNat b) y k) hb4 (by rw [hty, up_self, if_pos rfl]; rfl) (fun j hj => by rw [up_self, if_neg (by intro q; exact hj (Int.ofNat.inj q))])]
theorem g_24 (C : CX p s m args meth c0 f A D cA X n xs) (hRf : 1 ≤ R.frames) (hRl : 100 ≤ R.locals) (hd : decode (mtb f).1 pc = .ok (raw pc (24, a, b, x))) (hl : lnk (mtb f).2.2.2.2 (mtb f).2.2.1 (mtb f).2.1.name (24, a, b, x) = true) (hs : oks (inf f).1 (24, a, b, x) = true) (h0 : act (24, a, b, x) ls st (L, c) = some (.inl (ls', st', M'))) (hL : M'.1.length ≤ 1000000) (hRc : M'.1.length - n0 ≤ R.cells) (hRs : slz M'.1 - z0 ≤ R.slots) (hk : WS p l e R s m args below meth c0 Q f A D cA X n xs ad0 n0 z0 (npc pc (24, a, b, x)) ls' st' M'.1 M'.2) : WS p l e R s m args below meth c0 Q f A D cA X n xs ad0 n0 z0 pc ls st L c := by
  intro ad H locs lsM S
  obtain ⟨hx, hb, hml, hown, hts, hK, hST, hA, hr, hlk, hnm⟩ := C
  have h9 := pI_inv h0
  clear h0
  obtain ⟨y, t, rfl, h⟩ := h9
  have h9 := pR_inv h
  clear h
  obtain ⟨r, t, rfl, h⟩ := h9
  have h9 := pD_inv h
  clear h
  obtain ⟨k, sh, hk0, rfl, h⟩ := h9
  have h9 := bif_inv h
  clear h
  obtain ⟨h1, h⟩ := h9
  have h1 : sh.1 = 10 + a := beq_of h1
  have h9 := if_inv h
  clear h
  obtain ⟨hy01, h⟩ := h9
  have h : (some (.inl (ls, t, (L, up c k (Int.ofNat b) y))) : Act) = some (.inl (ls', st', M')) := h
  cases h
  have hl : (Nat.beq ((ftb a).getD b 9) 2 && (lkF (mtb f).2.2.2.2).any (fun q => Nat.beq q.1 x.toNat && (Nat.beq q.2.1 a && Nat.beq q.2.2.1 b))) = true := hl
  rw [Bool.and_eq_true] at hl
  have hty : (ftb a).getD b 9 = 2 := beq_of hl.1
  have hco := S.2.2.2.1 k sh hk0
  have ha12 : a ≤ 12 := by have := (hco.2.2.2.2 (by omega)).2.1; omega
  obtain ⟨q, ty, hC⟩ := cls_all a ha12
  have hb3 : b < q.2.2 := hC.fin (by rw [hty]; decide)
  have hb4 : b < (ftb a).length := by rw [← hC.2.2.2.2.2.1]; exact hb3
  have he := wsl_at (ad := ad) (X := X) (cA := cA) (c := c) hk0
  rw [ent_5 (by omega), h1, Nat.add_sub_cancel_left] at he
  have hw := hts _ (lkF_word hl.2)
  rw [hC.nam] at hw
  have hyo : In32 y := vok_hd S.stv
  obtain ⟨hk1, hk2⟩ := hC.2.2.2.2.2.2 b hb3
  rw [hty] at hk1
  obtain ⟨hty2, hfin⟩ := tyk_inv2 hk1
  have hfl : (flds ad X a (c k) sh.2.2).length = (ftb a).length := by simp [flds]
  refine va_put (D := D) (ci := a) (fs := flds ad X a (c k) sh.2.2) (v := .int (Int32.ofInt y)) (ty := ty b) hx hb hts hC.2.2.1 ty hC.2.2.2.1 hC.2.2.2.2.1 hown hK S.1 S.2.1 S.2.2.1 k he hC.1 b hb3 hw (fun _ h9 => h9) hfin (hC.2.2.2.1 b hb3) (by rw [hty2]; rcases hy01 with q | q <;> subst q <;> rfl) (by rw [hty2]; rcases hy01 with q | q <;> subst q <;> rfl) (by rw [hfl]; exact hb4) hd (fun H1 locs1 hP1 hD1 hS1 => hk ad H1 locs1 lsM (S.upd hL hk0 (fun a2 h2 => up_ne h2) (cok_fld hco h1 hty hyo) ?_ hP1 hD1 hS1 (vok_tl (vok_tl S.stv))))
  rw [ent_5 (by omega), h1, Nat.add_sub_cancel_left]
  rw [flds_set (g' := up c k (Int.ofNat b) y k) hb4 (by rw [hty, up_self, if_pos rfl]; rfl) (fun j hj => by rw [up_self, if_neg (by intro q; exact hj (Int.ofNat.inj q))])]
end OPS
end
section
/-! SOUNDNESS, 3: fields, arrays, text, what is made (own work): 14b.ops2 -/
section OPS
variable {p : Program} {l : Launch} {e : Env} {R : Room} {s : State} {m : MethodId} {args : Array Value} {below : List Frame} {meth : Method} {c0 : Code} {Q : State → Prop} {f : Nat} {A : Nat → Prop} {D : va_G} {cA : Nat → ClassId} {X : AdX} {n : Nat} {xs : Nat → Int32} {ad0 : Nat → Nat} {n0 z0 : Nat}
variable {ls st ls' st' : List V} {L : List Shp} {c : Nat → Int → Int} {M' : Mem} {pc a b : Nat} {x : Int}
theorem g_25 (C : CX p s m args meth c0 f A D cA X n xs) (hRf : 1 ≤ R.frames) (hRl : 100 ≤ R.locals) (hd : decode (mtb f).1 pc = .ok (raw pc (25, a, b, x))) (hl : lnk (mtb f).2.2.2.2 (mtb f).2.2.1 (mtb f).2.1.name (25, a, b, x) = true) (hs : oks (inf f).1 (25, a, b, x) = true) (h0 : act (25, a, b, x) ls st (L, c) = some (.inl (ls', st', M'))) (hL : M'.1.length ≤ 1000000) (hRc : M'.1.length - n0 ≤ R.cells) (hRs : slz M'.1 - z0 ≤ R.slots) (hk : WS p l e R s m args below meth c0 Q f A D cA X n xs ad0 n0 z0 (npc pc (25, a, b, x)) ls' st' M'.1 M'.2) : WS p l e R s m args below meth c0 Q f A D cA X n xs ad0 n0 z0 pc ls st L c := by
  intro ad H locs lsM S
  obtain ⟨hx, hb, hml, hown, hts, hK, hST, hA, hr, hlk, hnm⟩ := C
  have h9 := pR_inv h0
  clear h0
  obtain ⟨y, t, rfl, h⟩ := h9
  have h9 := pR_inv h
  clear h
  obtain ⟨r, t, rfl, h⟩ := h9
  have h9 := pD_inv h
  clear h
  obtain ⟨k, sh, hk0, rfl, h⟩ := h9
  have h9 := bif_inv h
  clear h
  obtain ⟨h1, h⟩ := h9
  have h1 : sh.1 = 10 + a := beq_of h1
  have h9 := pD_inv h
  clear h
  obtain ⟨k2, sh2, hk20, rfl, h⟩ := h9
  have h : (some (.inl (ls, t, (L.set k (sh.1, sh.2.1, sh.2.2.set b ((k2 : Int) + 1)), c))) : Act) = some (.inl (ls', st', M')) := h
  cases h
  have hl : (decide ((mtb f).2.1.name = "<init>") && (Nat.beq a (mtb f).2.2.2.2 && (Nat.beq ((ftb a).getD b 9) 3 && (lkF (mtb f).2.2.2.2).any (fun q => Nat.beq q.1 x.toNat && (Nat.beq q.2.1 a && Nat.beq q.2.2.1 b))))) = true := hl
  simp only [Bool.and_eq_true, decide_eq_true_eq] at hl
  obtain ⟨hin, how, hty, hl⟩ := hl
  have how : a = (mtb f).2.2.2.2 := beq_of how
  have hty : (ftb a).getD b 9 = 3 := beq_of hty
  have hco := S.2.2.2.1 k sh hk0
  have ha12 : a ≤ 12 := by have := (hco.2.2.2.2 (by omega)).2.1; omega
  obtain ⟨q, ty, hC⟩ := cls_all a ha12
  have hb3 : b < q.2.2 := hC.fin (by rw [hty]; decide)
  have hb4 : b < (ftb a).length := by rw [← hC.2.2.2.2.2.1]; exact hb3
  have he := wsl_at (ad := ad) (X := X) (cA := cA) (c := c) hk0
  rw [ent_5 (by omega), h1, Nat.add_sub_cancel_left] at he
  have hw := hts _ (lkF_word hl)
  rw [hC.nam] at hw
  obtain ⟨hk1, hk2⟩ := hC.2.2.2.2.2.2 b hb3
  rw [hty] at hk1
  obtain ⟨hty2, hfin⟩ := tyk_inv3 hk1
  have hfl : (flds ad X a (c k) sh.2.2).length = (ftb a).length := by simp [flds]
  have hflen : sh.2.2.length = (ftb a).length := by
    have := (hco.2.2.2.2 (by omega)).2.2.1
    rw [h1, Nat.add_sub_cancel_left] at this
    exact this
  have hkl : k < L.length := (List.getElem?_eq_some_iff.mp hk0).1
  have hset : (L.set k (sh.1, sh.2.1, sh.2.2.set b ((k2 : Int) + 1)))[k]? = some (sh.1, sh.2.1, sh.2.2.set b ((k2 : Int) + 1)) := List.getElem?_set_self hkl
  refine va_putF (D := D) (ci := a) (fs := flds ad X a (c k) sh.2.2) (v := .ref (ad k2)) (ty := ty b) hx hb hts hC.2.2.1 ty hC.2.2.2.1 hC.2.2.2.2.1 hown hK S.1 S.2.1 S.2.2.1 k he hC.1 b hb3 hw (fun _ h9 => h9) hfin (hnm hin) (by rw [hk2, hC.2.1, how]) (hC.2.2.2.1 b hb3) (hty2 _).1 (hty2 _).2 (by rw [hfl]; exact hb4) hd (fun H1 locs1 hP1 hD1 hS1 => ?_)
  have ew : (wsl ad X cA L c).set k (ad k, .inr (a, (flds ad X a (c k) sh.2.2).set b (.ref (ad k2)))) = wsl ad X cA (L.set k (sh.1, sh.2.1, sh.2.2.set b ((k2 : Int) + 1))) c := by
    refine wsl_set List.length_set hset (fun j hj => List.getElem?_set_ne (fun q => hj q.symm)) (fun _ _ => rfl) ?_
    rw [ent_5 (by show 5 ≤ sh.1; omega)]
    show _ = Sum.inr (sh.1 - 10, flds ad X (sh.1 - 10) (c k) (sh.2.2.set b ((k2 : Int) + 1)))
    rw [h1, Nat.add_sub_cancel_left]
    congr 2
    apply List.ext_getElem?
    intro j
    by_cases hj : b = j
    · subst hj
      rw [List.getElem?_set_self (by rw [hfl]; exact hb4), flds_at hb4, hty, List.getD_eq_getElem?_getD, List.getElem?_set_self (by rw [hflen]; exact hb4)]
      rfl
    · rw [List.getElem?_set_ne hj]
      by_cases h2 : j < (ftb a).length
      · rw [flds_at h2, flds_at h2, List.getD_eq_getElem?_getD (l := sh.2.2.set b ((k2 : Int) + 1)), List.getElem?_set_ne hj, ← List.getD_eq_getElem?_getD]
      · rw [List.getElem?_eq_none (by rw [hfl]; omega), List.getElem?_eq_none (by simp [flds]; omega)]
  rw [ew] at hP1 hD1
  have hmk : mok (L.set k (sh.1, sh.2.1, sh.2.2.set b ((k2 : Int) + 1))) c := by
    intro j s' hj
    rw [List.length_set]
    by_cases hjk : k = j
    · subst hjk
      rw [hset] at hj
      cases hj
      refine ⟨hco.1, hco.2.1, hco.2.2.1, hco.2.2.2.1, fun q => ?_⟩
      obtain ⟨g1, g2, g3, g4, g5⟩ := hco.2.2.2.2 q
      refine ⟨g1, g2, by show (sh.2.2.set b _).length = _; rw [List.length_set]; exact g3, fun z hz => ?_, g5⟩
      rcases List.mem_or_eq_of_mem_set hz with h9 | h9
      · exact g4 z h9
      · have : k2 < L.length := (List.getElem?_eq_some_iff.mp hk20).1
        omega
    · rw [List.getElem?_set_ne hjk] at hj
      exact S.2.2.2.1 j s' hj
  have e1 : (L.set k (sh.1, sh.2.1, sh.2.2.set b ((k2 : Int) + 1))).length = L.length := List.length_set
  have e2 : slz (L.set k (sh.1, sh.2.1, sh.2.2.set b ((k2 : Int) + 1))) = slz L := slz_set hk0 rfl
  have K := hk ad H1 locs1 lsM (S.mem e1 e2 hP1 hD1 hS1 hmk S.2.2.2.2.1 (vok_tl (vok_tl S.stv)))
  rw [e1, e2] at K
  exact K
theorem g_26 (C : CX p s m args meth c0 f A D cA X n xs) (hRf : 1 ≤ R.frames) (hRl : 100 ≤ R.locals) (hd : decode (mtb f).1 pc = .ok (raw pc (26, a, b, x))) (hl : lnk (mtb f).2.2.2.2 (mtb f).2.2.1 (mtb f).2.1.name (26, a, b, x) = true) (hs : oks (inf f).1 (26, a, b, x) = true) (h0 : act (26, a, b, x) ls st (L, c) = some (.inl (ls', st', M'))) (hL : M'.1.length ≤ 1000000) (hRc : M'.1.length - n0 ≤ R.cells) (hRs : slz M'.1 - z0 ≤ R.slots) (hk : WS p l e R s m args below meth c0 Q f A D cA X n xs ad0 n0 z0 (npc pc (26, a, b, x)) ls' st' M'.1 M'.2) : WS p l e R s m args below meth c0 Q f A D cA X n xs ad0 n0 z0 pc ls st L c := by
  intro ad H locs lsM S
  obtain ⟨hx, hb, hml, hown, hts, hK, hST, hA, hr, hlk, hnm⟩ := C
  have h9 := pI_inv h0
  clear h0
  obtain ⟨j, t, rfl, h⟩ := h9
  have h9 := pR_inv h
  clear h
  obtain ⟨r, t, rfl, h⟩ := h9
  have h9 := pD_inv h
  clear h
  obtain ⟨k, sh, hk0, rfl, h⟩ := h9
  have hj : In32 j := vok_hd S.stv
  rcases a with _ | _ | _ | _ | _ | a
  · have h9 := bif_inv h
    clear h
    obtain ⟨h1, h⟩ := h9
    have h1 : sh.1 = 0 := beq_of h1
    have h9 := if_inv h
    clear h
    obtain ⟨hij, h⟩ := h9
    have h : (some (.inl (ls, vI (c k j) :: t, (L, c))) : Act) = some (.inl (ls', st', M')) := h
    cases h
    have hco := S.2.2.2.1 k sh hk0
    have he := wsl_at (ad := ad) (X := X) (cA := cA) (c := c) hk0
    have hent : ent ad X cA sh (c k) = .inl (cA 0, (sh.2.1.toNat, .inl (fun j => Int32.ofInt (c k (Int.ofNat j))))) := by unfold ent; rw [h1]; rfl
    rw [hent] at he
    have ej : (Int.ofNat (Int32.ofInt j).toNatClampNeg) = j := by rw [o32_clamp hj]; exact Int.toNat_of_nonneg hij.1
    refine va_iald hx hb hK S.1 k 0 he rfl (o32_in hj hij.1 hij.2) hd (W_top (v := .int (Int32.ofInt (c k j))) ?_ (hk ad H locs lsM (S.stk (vok_cons (vokI (hco.2.1 (Or.inl h1) j)) (vok_tl (vok_tl S.stv))))))
    show _ = Value.int (Int32.ofInt (c k (Int.ofNat (Int32.ofInt j).toNatClampNeg)))
    rw [ej]
  · have h9 := bif_inv h
    clear h
    obtain ⟨h1, h⟩ := h9
    have h1 : sh.1 = 1 := beq_of h1
    have h9 := if_inv h
    clear h
    obtain ⟨hij, h⟩ := h9
    have h : (some (.inl (ls, vL (c k j) :: t, (L, c))) : Act) = some (.inl (ls', st', M')) := h
    cases h
    have hco := S.2.2.2.1 k sh hk0
    have he := wsl_at (ad := ad) (X := X) (cA := cA) (c := c) hk0
    have hent : ent ad X cA sh (c k) = .inl (cA 1, (sh.2.1.toNat, .inr (.inl (fun j => Int64.ofInt (c k (Int.ofNat j)))))) := by unfold ent; rw [h1]; rfl
    rw [hent] at he
    have ej : (Int.ofNat (Int32.ofInt j).toNatClampNeg) = j := by rw [o32_clamp hj]; exact Int.toNat_of_nonneg hij.1
    refine va_lald hx hb hK S.1 k 1 he rfl (o32_in hj hij.1 hij.2) hd (W_top (v := .long (Int64.ofInt (c k j))) ?_ (hk ad H locs lsM (S.stk (vok_cons (vokL (hco.2.2.1 h1 j)) (vok_tl (vok_tl S.stv))))))
    show _ = Value.long (Int64.ofInt (c k (Int.ofNat (Int32.ofInt j).toNatClampNeg)))
    rw [ej]
  · have h9 := bif_inv h
    clear h
    obtain ⟨h1, h⟩ := h9
    have h1 : sh.1 = 2 := beq_of h1
    have h9 := if_inv h
    clear h
    obtain ⟨hij, h⟩ := h9
    have h : (some (.inl (ls, vI (c k j) :: t, (L, c))) : Act) = some (.inl (ls', st', M')) := h
    cases h
    have hco := S.2.2.2.1 k sh hk0
    have he := wsl_at (ad := ad) (X := X) (cA := cA) (c := c) hk0
    have hent : ent ad X cA sh (c k) = .inl (cA 2, (sh.2.1.toNat, .inl (fun j => Int32.ofInt (c k (Int.ofNat j))))) := by unfold ent; rw [h1]; rfl
    rw [hent] at he
    have ej : (Int.ofNat (Int32.ofInt j).toNatClampNeg) = j := by rw [o32_clamp hj]; exact Int.toNat_of_nonneg hij.1
    refine va_zald hx hb hK S.1 k 2 he rfl (o32_in hj hij.1 hij.2) hd (W_top (v := .int (Int32.ofInt (c k j))) ?_ (hk ad H locs lsM (S.stk (vok_cons (vokI (hco.2.1 (Or.inr h1) j)) (vok_tl (vok_tl S.stv))))))
    show _ = Value.int (Int32.ofInt (c k (Int.ofNat (Int32.ofInt j).toNatClampNeg)))
    rw [ej]
  · have h9 := bif_inv h
    clear h
    obtain ⟨h1, h⟩ := h9
    have h1 : sh.1 = 3 := beq_of h1
    have h9 := if_inv h
    clear h
    obtain ⟨hij, h⟩ := h9
    have h : (some (.inl (ls, vR (c k j) :: t, (L, c))) : Act) = some (.inl (ls', st', M')) := h
    cases h
    have hco := S.2.2.2.1 k sh hk0
    have he := wsl_at (ad := ad) (X := X) (cA := cA) (c := c) hk0
    have hent : ent ad X cA sh (c k) = .inl (cA 3, (sh.2.1.toNat, .inr (.inr (.inr (.inr (fun j => rof ad X (c k (Int.ofNat j)))))))) := by unfold ent; rw [h1]; rfl
    rw [hent] at he
    have ej : (Int.ofNat (Int32.ofInt j).toNatClampNeg) = j := by rw [o32_clamp hj]; exact Int.toNat_of_nonneg hij.1
    refine va_aldq hx hb hK S.1 k 3 he rfl (o32_in hj hij.1 hij.2) hd (W_top (v := va_rf (rof ad X (c k j))) ?_ (hk ad H locs lsM (S.stk (vok_cons (show c k j ≤ (L.length : Int) from (hco.2.2.2.1 (Or.inl h1) j).2) (vok_tl (vok_tl S.stv))))))
    show _ = va_rf (rof ad X (c k (Int.ofNat (Int32.ofInt j).toNatClampNeg)))
    rw [ej]
  · have h9 := bif_inv h
    clear h
    obtain ⟨h1, h⟩ := h9
    have h1 : sh.1 = 4 := beq_of h1
    have h9 := if_inv h
    clear h
    obtain ⟨hij, h⟩ := h9
    have h : (some (.inl (ls, vR (c k j) :: t, (L, c))) : Act) = some (.inl (ls', st', M')) := h
    cases h
    have hco := S.2.2.2.1 k sh hk0
    have he := wsl_at (ad := ad) (X := X) (cA := cA) (c := c) hk0
    have hent : ent ad X cA sh (c k) = .inl (cA 4, (sh.2.1.toNat, .inr (.inr (.inr (.inr (fun j => rof ad X (c k (Int.ofNat j)))))))) := by unfold ent; rw [h1]; rfl
    rw [hent] at he
    have ej : (Int.ofNat (Int32.ofInt j).toNatClampNeg) = j := by rw [o32_clamp hj]; exact Int.toNat_of_nonneg hij.1
    refine va_aldq hx hb hK S.1 k 4 he rfl (o32_in hj hij.1 hij.2) hd (W_top (v := va_rf (rof ad X (c k j))) ?_ (hk ad H locs lsM (S.stk (vok_cons (show c k j ≤ (L.length : Int) from (hco.2.2.2.1 (Or.inr h1) j).2) (vok_tl (vok_tl S.stv))))))
    show _ = va_rf (rof ad X (c k (Int.ofNat (Int32.ofInt j).toNatClampNeg)))
    rw [ej]
  · have : Nat.ble (a + 5) 4 = true := hl
    exact absurd (Nat.le_of_ble_eq_true this) (by omega)
theorem g_27 (C : CX p s m args meth c0 f A D cA X n xs) (hRf : 1 ≤ R.frames) (hRl : 100 ≤ R.locals) (hd : decode (mtb f).1 pc = .ok (raw pc (27, a, b, x))) (hl : lnk (mtb f).2.2.2.2 (mtb f).2.2.1 (mtb f).2.1.name (27, a, b, x) = true) (hs : oks (inf f).1 (27, a, b, x) = true) (h0 : act (27, a, b, x) ls st (L, c) = some (.inl (ls', st', M'))) (hL : M'.1.length ≤ 1000000) (hRc : M'.1.length - n0 ≤ R.cells) (hRs : slz M'.1 - z0 ≤ R.slots) (hk : WS p l e R s m args below meth c0 Q f A D cA X n xs ad0 n0 z0 (npc pc (27, a, b, x)) ls' st' M'.1 M'.2) : WS p l e R s m args below meth c0 Q f A D cA X n xs ad0 n0 z0 pc ls st L c := by
  intro ad H locs lsM S
  obtain ⟨hx, hb, hml, hown, hts, hK, hST, hA, hr, hlk, hnm⟩ := C
  have h9 := pI_inv h0
  clear h0
  obtain ⟨y, t, rfl, h⟩ := h9
  have h9 := pI_inv h
  clear h
  obtain ⟨j, t, rfl, h⟩ := h9
  have h9 := pR_inv h
  clear h
  obtain ⟨r, t, rfl, h⟩ := h9
  have h9 := pD_inv h
  clear h
  obtain ⟨k, sh, hk0, rfl, h⟩ := h9
  have h9 := bif_inv h
  clear h
  obtain ⟨h1, h⟩ := h9
  have h1 : sh.1 = 0 := beq_of h1
  have h9 := if_inv h
  clear h
  obtain ⟨hij, h⟩ := h9
  have h : (some (.inl (ls, t, (L, up c k j y))) : Act) = some (.inl (ls', st', M')) := h
  cases h
  have hy : In32 y := vok_hd S.stv
  have hj : In32 j := vok_hd (vok_tl S.stv)
  have hco := S.2.2.2.1 k sh hk0
  have he := wsl_at (ad := ad) (X := X) (cA := cA) (c := c) hk0
  have hent : ∀ g : Int → Int, ent ad X cA sh g = .inl (cA 0, (sh.2.1.toNat, .inl (fun j => Int32.ofInt (g (Int.ofNat j))))) := fun g => by unfold ent; rw [h1]; rfl
  rw [hent] at he
  have hcl : (Int32.ofInt j).toNatClampNeg = j.toNat := o32_clamp hj
  refine va_iast hx hb hK S.1 S.2.1 S.2.2.1 k 0 he rfl (o32_in hj hij.1 hij.2) hd (fun H1 locs1 hP1 hD1 hS1 => hk ad H1 locs1 lsM (S.upd hL hk0 (fun a2 h2 => up_ne h2) (cok_arr02 hco (Or.inl h1) hy) ?_ hP1 hD1 hS1 (vok_tl (vok_tl (vok_tl S.stv)))))
  rw [hent, hcl]
  congr 4
  funext z
  dsimp only
  rw [up_self]
  by_cases hz : z = j.toNat
  · have e9 : (Int.ofNat z) = j := by rw [hz]; exact Int.toNat_of_nonneg hij.1
    rw [if_pos e9]
    unfold upd
    rw [if_pos hz]
  · have e9 : ¬ (Int.ofNat z) = j := fun q => hz (by rw [← q]; rfl)
    rw [if_neg e9]
    unfold upd
    rw [if_neg hz]
theorem g_28 (C : CX p s m args meth c0 f A D cA X n xs) (hRf : 1 ≤ R.frames) (hRl : 100 ≤ R.locals) (hd : decode (mtb f).1 pc = .ok (raw pc (28, a, b, x))) (hl : lnk (mtb f).2.2.2.2 (mtb f).2.2.1 (mtb f).2.1.name (28, a, b, x) = true) (hs : oks (inf f).1 (28, a, b, x) = true) (h0 : act (28, a, b, x) ls st (L, c) = some (.inl (ls', st', M'))) (hL : M'.1.length ≤ 1000000) (hRc : M'.1.length - n0 ≤ R.cells) (hRs : slz M'.1 - z0 ≤ R.slots) (hk : WS p l e R s m args below meth c0 Q f A D cA X n xs ad0 n0 z0 (npc pc (28, a, b, x)) ls' st' M'.1 M'.2) : WS p l e R s m args below meth c0 Q f A D cA X n xs ad0 n0 z0 pc ls st L c := by
  intro ad H locs lsM S
  obtain ⟨hx, hb, hml, hown, hts, hK, hST, hA, hr, hlk, hnm⟩ := C
  have h9 := pR_inv h0
  clear h0
  obtain ⟨r, t, rfl, h⟩ := h9
  have h9 := pD_inv h
  clear h
  obtain ⟨k, sh, hk0, rfl, h⟩ := h9
  have h9 := bif_inv h
  clear h
  obtain ⟨h1, h⟩ := h9
  have h1 : sh.1 ≤ 4 := Nat.le_of_ble_eq_true h1
  have h : (some (.inl (ls, vI sh.2.1 :: t, (L, c))) : Act) = some (.inl (ls', st', M')) := h
  cases h
  have hco := S.2.2.2.1 k sh hk0
  have hsz := hco.1 h1
  have hz32 : In32 sh.2.1 := ⟨by omega, by omega⟩
  have he := wsl_at (ad := ad) (X := X) (cA := cA) (c := c) hk0
  have K := hk ad H locs lsM (S.stk (vok_cons hz32 (vok_tl S.stv)))
  have ev : Int32.ofNat sh.2.1.toNat = Int32.ofInt sh.2.1 := by rw [← o32_nat, Int.toNat_of_nonneg hsz.1]
  rcases (kind_cases (n := sh.1)) with q | q | q | q | q | q
  · have hent : ent ad X cA sh (c k) = .inl (cA 0, (sh.2.1.toNat, .inl (fun j => Int32.ofInt (c k (Int.ofNat j))))) := by unfold ent; rw [q]; rfl
    rw [hent] at he
    exact va_alen (v := Int32.ofInt sh.2.1) hx hb hK S.1 k 0 he rfl ev hd K
  · have hent : ent ad X cA sh (c k) = .inl (cA 1, (sh.2.1.toNat, .inr (.inl (fun j => Int64.ofInt (c k (Int.ofNat j)))))) := by unfold ent; rw [q]; rfl
    rw [hent] at he
    exact va_alen (v := Int32.ofInt sh.2.1) hx hb hK S.1 k 1 he rfl ev hd K
  · have hent : ent ad X cA sh (c k) = .inl (cA 2, (sh.2.1.toNat, .inl (fun j => Int32.ofInt (c k (Int.ofNat j))))) := by unfold ent; rw [q]; rfl
    rw [hent] at he
    exact va_alen (v := Int32.ofInt sh.2.1) hx hb hK S.1 k 2 he rfl ev hd K
  · have hent : ent ad X cA sh (c k) = .inl (cA 3, (sh.2.1.toNat, .inr (.inr (.inr (.inr (fun j => rof ad X (c k (Int.ofNat j)))))))) := by unfold ent; rw [q]; rfl
    rw [hent] at he
    exact va_alen (v := Int32.ofInt sh.2.1) hx hb hK S.1 k 3 he rfl ev hd K
  · have hent : ent ad X cA sh (c k) = .inl (cA 4, (sh.2.1.toNat, .inr (.inr (.inr (.inr (fun j => rof ad X (c k (Int.ofNat j)))))))) := by unfold ent; rw [q]; rfl
    rw [hent] at he
    exact va_alen (v := Int32.ofInt sh.2.1) hx hb hK S.1 k 4 he rfl ev hd K
  · omega
end OPS
end
section
/-! SOUNDNESS, 3: fields, arrays, text, what is made (own work): 14c.ops2 -/
section OPS
variable {p : Program} {l : Launch} {e : Env} {R : Room} {s : State} {m : MethodId} {args : Array Value} {below : List Frame} {meth : Method} {c0 : Code} {Q : State → Prop} {f : Nat} {A : Nat → Prop} {D : va_G} {cA : Nat → ClassId} {X : AdX} {n : Nat} {xs : Nat → Int32} {ad0 : Nat → Nat} {n0 z0 : Nat}
variable {ls st ls' st' : List V} {L : List Shp} {c : Nat → Int → Int} {M' : Mem} {pc a b : Nat} {x : Int}
theorem g_29 (C : CX p s m args meth c0 f A D cA X n xs) (hRf : 1 ≤ R.frames) (hRl : 100 ≤ R.locals) (hd : decode (mtb f).1 pc = .ok (raw pc (29, a, b, x))) (hl : lnk (mtb f).2.2.2.2 (mtb f).2.2.1 (mtb f).2.1.name (29, a, b, x) = true) (hs : oks (inf f).1 (29, a, b, x) = true) (h0 : act (29, a, b, x) ls st (L, c) = some (.inl (ls', st', M'))) (hL : M'.1.length ≤ 1000000) (hRc : M'.1.length - n0 ≤ R.cells) (hRs : slz M'.1 - z0 ≤ R.slots) (hk : WS p l e R s m args below meth c0 Q f A D cA X n xs ad0 n0 z0 (npc pc (29, a, b, x)) ls' st' M'.1 M'.2) : WS p l e R s m args below meth c0 Q f A D cA X n xs ad0 n0 z0 pc ls st L c := by
  intro ad H locs lsM S
  obtain ⟨hx, hb, hml, hown, hts, hK, hST, hA, hr, hlk, hnm⟩ := C
  have h9 := pI_inv h0
  clear h0
  obtain ⟨j, t, rfl, h⟩ := h9
  have h9 := pR_inv h
  clear h
  obtain ⟨r, t, rfl, h⟩ := h9
  have h9 := if_inv h
  clear h
  obtain ⟨hr1, h⟩ := h9
  subst hr1
  have h9 := if_inv h
  clear h
  obtain ⟨hij, h⟩ := h9
  have h : (some (.inl (ls, vI (c 1000000 j) :: t, (L, c))) : Act) = some (.inl (ls', st', M')) := h
  cases h
  have hj : In32 j := vok_hd S.stv
  have hsc := S.2.2.2.2.1
  have hij : 0 ≤ j ∧ j < c 1000001 0 := hij
  rw [hsc.1] at hij
  have hcl : (Int32.ofInt j).toNatClampNeg = j.toNat := o32_clamp hj
  have hval : c 1000000 j = (xs j.toNat).toInt := by
    have := hsc.2 j.toNat (by omega)
    rw [Int.toNat_of_nonneg hij.1] at this
    exact this
  have hin : vp_in (Int32.ofInt j) n := by
    have := o32_in hj hij.1 hij.2
    simpa using this
  refine va_sld hx hb hST.2.2.2.2.1 hST.2.2.2.2.2.1 hST.2.2.2.2.2.2.1 S.2.2.1 hin hd (W_top (v := .int (Int32.ofInt (c 1000000 j))) ?_ (hk ad H locs lsM (S.stk (vok_cons (vokI (by rw [hval]; exact in32_i _)) (vok_tl (vok_tl S.stv))))))
  rw [hval, Int32.ofInt_toInt, hcl]
theorem g_30 (C : CX p s m args meth c0 f A D cA X n xs) (hRf : 1 ≤ R.frames) (hRl : 100 ≤ R.locals) (hd : decode (mtb f).1 pc = .ok (raw pc (30, a, b, x))) (hl : lnk (mtb f).2.2.2.2 (mtb f).2.2.1 (mtb f).2.1.name (30, a, b, x) = true) (hs : oks (inf f).1 (30, a, b, x) = true) (h0 : act (30, a, b, x) ls st (L, c) = some (.inl (ls', st', M'))) (hL : M'.1.length ≤ 1000000) (hRc : M'.1.length - n0 ≤ R.cells) (hRs : slz M'.1 - z0 ≤ R.slots) (hk : WS p l e R s m args below meth c0 Q f A D cA X n xs ad0 n0 z0 (npc pc (30, a, b, x)) ls' st' M'.1 M'.2) : WS p l e R s m args below meth c0 Q f A D cA X n xs ad0 n0 z0 pc ls st L c := by
  intro ad H locs lsM S
  obtain ⟨hx, hb, hml, hown, hts, hK, hST, hA, hr, hlk, hnm⟩ := C
  have h9 := pR_inv h0
  clear h0
  obtain ⟨r, t, rfl, h⟩ := h9
  have h9 := if_inv h
  clear h
  obtain ⟨hr1, h⟩ := h9
  subst hr1
  have h : (some (.inl (ls, vI (c 1000001 0) :: t, (L, c))) : Act) = some (.inl (ls', st', M')) := h
  cases h
  have hsc := S.2.2.2.2.1
  have hn := hST.2.2.2.2.2.2.2.1
  refine va_slen hx hb hST.2.2.2.2.1 hST.2.2.2.2.2.1 hST.2.2.2.2.2.2.1 S.2.2.1 hd (W_top (v := .int (Int32.ofInt (c 1000001 0))) ?_ (hk ad H locs lsM (S.stk (vok_cons (vokI (by rw [hsc.1]; exact ⟨by omega, by omega⟩)) (vok_tl S.stv)))))
  rw [hsc.1, o32_nat]
  try rfl
theorem g_31 (C : CX p s m args meth c0 f A D cA X n xs) (hRf : 1 ≤ R.frames) (hRl : 100 ≤ R.locals) (hd : decode (mtb f).1 pc = .ok (raw pc (31, a, b, x))) (hl : lnk (mtb f).2.2.2.2 (mtb f).2.2.1 (mtb f).2.1.name (31, a, b, x) = true) (hs : oks (inf f).1 (31, a, b, x) = true) (h0 : act (31, a, b, x) ls st (L, c) = some (.inl (ls', st', M'))) (hL : M'.1.length ≤ 1000000) (hRc : M'.1.length - n0 ≤ R.cells) (hRs : slz M'.1 - z0 ≤ R.slots) (hk : WS p l e R s m args below meth c0 Q f A D cA X n xs ad0 n0 z0 (npc pc (31, a, b, x)) ls' st' M'.1 M'.2) : WS p l e R s m args below meth c0 Q f A D cA X n xs ad0 n0 z0 pc ls st L c := by
  intro ad H locs lsM S
  obtain ⟨hx, hb, hml, hown, hts, hK, hST, hA, hr, hlk, hnm⟩ := C
  have h9 := pR_inv h0
  clear h0
  obtain ⟨r, t, rfl, h⟩ := h9
  have h9 := el_inv h
  clear h
  obtain ⟨g, hg, h⟩ := h9
  have h : (some (.inl (ls, vR (r - 100) :: t, (L, c))) : Act) = some (.inl (ls', st', M')) := h
  cases h
  obtain ⟨rfl, hg12⟩ := strOf_inv hg
  have hw := hts _ (lkV_word hl)
  rw [W_stk_str hg12]
  refine vk_getf (q := X.1 g) hx hb (hST.1.1 g hg12).2.2.1 S.2.2.1 hown hw (fun _ h9 => h9) hd ?_
  have K := hk ad H locs lsM (S.stk (vok_cons (show (-100 - (g : Int) - 100) ≤ (L.length : Int) by omega) (vok_tl S.stv)))
  exact W_top (mv_byt hg12) K
theorem g_32 (C : CX p s m args meth c0 f A D cA X n xs) (hRf : 1 ≤ R.frames) (hRl : 100 ≤ R.locals) (hd : decode (mtb f).1 pc = .ok (raw pc (32, a, b, x))) (hl : lnk (mtb f).2.2.2.2 (mtb f).2.2.1 (mtb f).2.1.name (32, a, b, x) = true) (hs : oks (inf f).1 (32, a, b, x) = true) (h0 : act (32, a, b, x) ls st (L, c) = some (.inl (ls', st', M'))) (hL : M'.1.length ≤ 1000000) (hRc : M'.1.length - n0 ≤ R.cells) (hRs : slz M'.1 - z0 ≤ R.slots) (hk : WS p l e R s m args below meth c0 Q f A D cA X n xs ad0 n0 z0 (npc pc (32, a, b, x)) ls' st' M'.1 M'.2) : WS p l e R s m args below meth c0 Q f A D cA X n xs ad0 n0 z0 pc ls st L c := by
  intro ad H locs lsM S
  obtain ⟨hx, hb, hml, hown, hts, hK, hST, hA, hr, hlk, hnm⟩ := C
  have h9 := pR_inv h0
  clear h0
  obtain ⟨r, t, rfl, h⟩ := h9
  have h9 := el_inv h
  clear h
  obtain ⟨g, hg, h⟩ := h9
  have h : (some (.inl (ls, vI 0 :: t, (L, c))) : Act) = some (.inl (ls', st', M')) := h
  cases h
  obtain ⟨rfl, hg12⟩ := strOf_inv hg
  have hw := hts _ (lkV_word hl)
  rw [W_stk_str hg12]
  refine vk_getf (q := X.1 g) hx hb (hST.1.1 g hg12).2.1 S.2.2.1 hown hw (fun _ h9 => h9) hd ?_
  exact hk ad H locs lsM (S.stk (vok_cons in32_0 (vok_tl S.stv)))
theorem g_33 (C : CX p s m args meth c0 f A D cA X n xs) (hRf : 1 ≤ R.frames) (hRl : 100 ≤ R.locals) (hd : decode (mtb f).1 pc = .ok (raw pc (33, a, b, x))) (hl : lnk (mtb f).2.2.2.2 (mtb f).2.2.1 (mtb f).2.1.name (33, a, b, x) = true) (hs : oks (inf f).1 (33, a, b, x) = true) (h0 : act (33, a, b, x) ls st (L, c) = some (.inl (ls', st', M'))) (hL : M'.1.length ≤ 1000000) (hRc : M'.1.length - n0 ≤ R.cells) (hRs : slz M'.1 - z0 ≤ R.slots) (hk : WS p l e R s m args below meth c0 Q f A D cA X n xs ad0 n0 z0 (npc pc (33, a, b, x)) ls' st' M'.1 M'.2) : WS p l e R s m args below meth c0 Q f A D cA X n xs ad0 n0 z0 pc ls st L c := by
  intro ad H locs lsM S
  obtain ⟨hx, hb, hml, hown, hts, hK, hST, hA, hr, hlk, hnm⟩ := C
  have h9 := pI_inv h0
  clear h0
  obtain ⟨j, t, rfl, h⟩ := h9
  have h9 := pR_inv h
  clear h
  obtain ⟨r, t, rfl, h⟩ := h9
  have h9 := el_inv h
  clear h
  obtain ⟨g, hg, h⟩ := h9
  have h9 := if_inv h
  clear h
  obtain ⟨hij, h⟩ := h9
  have h : (some (.inl (ls, vI ((strb g).getD j.toNat 0) :: t, (L, c))) : Act) = some (.inl (ls', st', M')) := h
  cases h
  obtain ⟨rfl, hg12⟩ := bytOf_inv hg
  have hj : In32 j := vok_hd S.stv
  have hcl : (Int32.ofInt j).toNatClampNeg = j.toNat := o32_clamp hj
  have hle : lenT.getD g 0 = (strb g).length := lenT_at hg12
  have hin : vp_in (Int32.ofInt j) (lenT.getD g 0) := by
    have := o32_in hj hij.1 hij.2
    rw [hle]
    simpa using this
  rw [W_stk_byt2 hg12]
  refine va_tb hx hb (hST.1.1 g hg12).2.2.2 S.2.2.1 hin rfl hd ?_
  refine W_top (v := .int (Int32.ofInt ((strb g).getD j.toNat 0))) ?_ (hk ad H locs lsM (S.stk (vok_cons (strb_in hg12) (vok_tl (vok_tl S.stv)))))
  rw [hcl, bytT_at hg12]
theorem g_34 (C : CX p s m args meth c0 f A D cA X n xs) (hRf : 1 ≤ R.frames) (hRl : 100 ≤ R.locals) (hd : decode (mtb f).1 pc = .ok (raw pc (34, a, b, x))) (hl : lnk (mtb f).2.2.2.2 (mtb f).2.2.1 (mtb f).2.1.name (34, a, b, x) = true) (hs : oks (inf f).1 (34, a, b, x) = true) (h0 : act (34, a, b, x) ls st (L, c) = some (.inl (ls', st', M'))) (hL : M'.1.length ≤ 1000000) (hRc : M'.1.length - n0 ≤ R.cells) (hRs : slz M'.1 - z0 ≤ R.slots) (hk : WS p l e R s m args below meth c0 Q f A D cA X n xs ad0 n0 z0 (npc pc (34, a, b, x)) ls' st' M'.1 M'.2) : WS p l e R s m args below meth c0 Q f A D cA X n xs ad0 n0 z0 pc ls st L c := by
  intro ad H locs lsM S
  obtain ⟨hx, hb, hml, hown, hts, hK, hST, hA, hr, hlk, hnm⟩ := C
  have h9 := pR_inv h0
  clear h0
  obtain ⟨r, t, rfl, h⟩ := h9
  have h9 := el_inv h
  clear h
  obtain ⟨g, hg, h⟩ := h9
  have h : (some (.inl (ls, vI ((strb g).length : Int) :: t, (L, c))) : Act) = some (.inl (ls', st', M')) := h
  cases h
  obtain ⟨rfl, hg12⟩ := bytOf_inv hg
  rw [W_stk_byt1 hg12]
  refine va_tlen (v := Int32.ofInt ((strb g).length : Int)) hx hb (hST.1.1 g hg12).2.2.2 S.2.2.1 (by rw [lenT_at hg12, o32_nat]) hd ?_
  exact hk ad H locs lsM (S.stk (vok_cons (strb_len hg12) (vok_tl S.stv)))
theorem g_35 (C : CX p s m args meth c0 f A D cA X n xs) (hRf : 1 ≤ R.frames) (hRl : 100 ≤ R.locals) (hd : decode (mtb f).1 pc = .ok (raw pc (35, a, b, x))) (hl : lnk (mtb f).2.2.2.2 (mtb f).2.2.1 (mtb f).2.1.name (35, a, b, x) = true) (hs : oks (inf f).1 (35, a, b, x) = true) (h0 : act (35, a, b, x) ls st (L, c) = some (.inl (ls', st', M'))) (hL : M'.1.length ≤ 1000000) (hRc : M'.1.length - n0 ≤ R.cells) (hRs : slz M'.1 - z0 ≤ R.slots) (hk : WS p l e R s m args below meth c0 Q f A D cA X n xs ad0 n0 z0 (npc pc (35, a, b, x)) ls' st' M'.1 M'.2) : WS p l e R s m args below meth c0 Q f A D cA X n xs ad0 n0 z0 pc ls st L c := by
  intro ad H locs lsM S
  obtain ⟨hx, hb, hml, hown, hts, hK, hST, hA, hr, hlk, hnm⟩ := C
  have h : (some (.inl (ls, vI 1 :: st, (L, c))) : Act) = some (.inl (ls', st', M')) := h0
  cases h
  have hw := hts _ (lkG_word hl)
  exact va_gets hx hb hST.2.2.1 S.2.2.1 hown hw (fun _ h9 => h9) hd (hk ad H locs lsM (S.stk (vok_cons (vokI (by unfold In32; omega)) S.stv)))
theorem g_36 (C : CX p s m args meth c0 f A D cA X n xs) (hRf : 1 ≤ R.frames) (hRl : 100 ≤ R.locals) (hd : decode (mtb f).1 pc = .ok (raw pc (36, a, b, x))) (hl : lnk (mtb f).2.2.2.2 (mtb f).2.2.1 (mtb f).2.1.name (36, a, b, x) = true) (hs : oks (inf f).1 (36, a, b, x) = true) (h0 : act (36, a, b, x) ls st (L, c) = some (.inl (ls', st', M'))) (hL : M'.1.length ≤ 1000000) (hRc : M'.1.length - n0 ≤ R.cells) (hRs : slz M'.1 - z0 ≤ R.slots) (hk : WS p l e R s m args below meth c0 Q f A D cA X n xs ad0 n0 z0 (npc pc (36, a, b, x)) ls' st' M'.1 M'.2) : WS p l e R s m args below meth c0 Q f A D cA X n xs ad0 n0 z0 pc ls st L c := by
  intro ad H locs lsM S
  obtain ⟨hx, hb, hml, hown, hts, hK, hST, hA, hr, hlk, hnm⟩ := C
  have h : (some (.inl (ls, vR ((L.length : Int) + 1) :: st, (L ++ [(10 + a, (b : Int), List.replicate b 0)], uz c L.length))) : Act) = some (.inl (ls', st', M')) := h0
  cases h
  have hl : (Nat.ble a 12 && (Nat.beq b (ftb a).length && lkC.any (fun q => Nat.beq q.1 (mtb f).2.2.2.2 && (decide ((q.2.1 : Int) = x) && Nat.beq q.2.2.1 a)))) = true := hl
  simp only [Bool.and_eq_true] at hl
  obtain ⟨ha12, hbl, hl⟩ := hl
  have ha12 := Nat.le_of_ble_eq_true ha12
  have hbl : b = (ftb a).length := beq_of hbl
  obtain ⟨q, ty, hC⟩ := cls_all a ha12
  have hw := hts _ (lkC_word hl)
  have e103 : Nat.beq a 103 = false := by
    cases hq : Nat.beq a 103 with
    | false => rfl
    | true => have := beq_of hq; omega
  have e104 : Nat.beq a 104 = false := by
    cases hq : Nat.beq a 104 with
    | false => rfl
    | true => have := beq_of hq; omega
  rw [e103, e104] at hw
  have hw : (Cond.classLink (rnm (mtb f).2.2.2.2) x.toNat (rnm a)).before args s = true := hw
  rw [← hC.2.1] at hw
  have hii := List.all_eq_true.mp inst_ok a (List.mem_range.mpr (by omega))
  rw [Bool.and_eq_true] at hii
  have hins := hts _ (tbg (of_decide_eq_true hii.1) rfl)
  have hini := hts _ (tbg (of_decide_eq_true hii.2) rfl)
  rw [← hC.2.1] at hins hini
  rw [← hC.2.2.2.2.2.1] at hins
  have hbq : b = q.2.2 := hbl.trans hC.2.2.2.2.2.1.symm
  have e1 : (L ++ [(10 + a, (b : Int), List.replicate b 0)]).length = L.length + 1 := by simp
  have e2 : slz (L ++ [(10 + a, (b : Int), List.replicate b 0)]) = slz L + b := by rw [slz_app] <;> rfl
  have b1 : n0 ≤ L.length := S.2.2.2.2.2.1.1
  have b2 : z0 ≤ slz L := S.2.2.2.2.2.1.2.1
  have f1 : (L ++ [(10 + a, (b : Int), List.replicate b 0)]).length - n0 = L.length - n0 + 1 := by omega
  have f2 : slz (L ++ [(10 + a, (b : Int), List.replicate b 0)]) - z0 = slz L - z0 + b := by omega
  have hRc : (L ++ [(10 + a, (b : Int), List.replicate b 0)]).length - n0 ≤ R.cells := hRc
  have hRs : slz (L ++ [(10 + a, (b : Int), List.replicate b 0)]) - z0 ≤ R.slots := hRs
  have hL : (L ++ [(10 + a, (b : Int), List.replicate b 0)]).length ≤ 1000000 := hL
  refine va_new (ci := a) (C := q.1) (T := q.2.1) (N := q.2.2) (fs := flds (adp ad L.length 0) X a (uz c L.length L.length) (List.replicate b 0)) hx hb hts hC.2.2.1 ty hC.2.2.2.1 hown hw hins hini hK S.1 S.2.1 S.2.2.1 hA hC.1 ?_ (by omega) (by omega) hd (fun q1 H1 hP1 hD1 hS1 => ?_)
  · intro j hj
    obtain ⟨hk1, -⟩ := hC.2.2.2.2.2.2 j hj
    have hjl : j < (ftb a).length := by rw [← hC.2.2.2.2.2.1]; exact hj
    unfold vp_V
    rw [List.getD_eq_getElem?_getD, flds_at hjl]
    exact tyk_zero hk1 uz_self (getD_zero b j)
  · have eflds : flds (adp ad L.length 0) X a (uz c L.length L.length) (List.replicate b 0) = flds (adp ad L.length q1) X a (uz c L.length L.length) (List.replicate b 0) := by
      unfold flds
      refine List.map_congr_left fun k hk => ?_
      rw [getD_zero]
      unfold fvl
      split <;> rfl
    rw [eflds] at hP1 hD1
    have epush := wsl_push (ad := ad) (X := X) (cA := cA) (q := q1) (c' := uz c L.length) (s' := (10 + a, (b : Int), List.replicate b 0)) S.2.2.2.1 (fun j hj => uz_ne hj)
    rw [ent_5 (by show 5 ≤ 10 + a; omega)] at epush
    have epush : wsl ad X cA L c ++ [(q1, .inr (10 + a - 10, flds (adp ad L.length q1) X (10 + a - 10) (uz c L.length L.length) (List.replicate b 0)))] = _ := epush
    rw [Nat.add_sub_cancel_left] at epush
    rw [epush] at hP1 hD1
    have S2 := S.push (q := q1) (c' := uz c L.length) (hP1 := hP1) (hD1 := hD1) (hS1 := hS1) (fun j hj => uz_ne hj) (cok_new hC hbl) (by omega)
    have K := hk (adp ad L.length q1) H1 locs lsM S2
    rw [f1, f2, hbq] at K
    have est : (vR ((L.length : Int) + 1) :: st).map (mv (adp ad L.length q1) X) = .ref q1 :: st.map (mv ad X) := by
      rw [List.map_cons]
      congr 1
      · show Value.ref (adp ad L.length q1 L.length) = .ref q1
        rw [adp_eq]
      · exact List.map_congr_left fun v hv => mv_keep (fun k hk => adp_lt hk) (S.stv v hv)
    rw [est] at K
    exact K
end OPS
end
section
/-! SOUNDNESS, 3: fields, arrays, text, what is made (own work): 14d.ops2 -/
section OPS
variable {p : Program} {l : Launch} {e : Env} {R : Room} {s : State} {m : MethodId} {args : Array Value} {below : List Frame} {meth : Method} {c0 : Code} {Q : State → Prop} {f : Nat} {A : Nat → Prop} {D : va_G} {cA : Nat → ClassId} {X : AdX} {n : Nat} {xs : Nat → Int32} {ad0 : Nat → Nat} {n0 z0 : Nat}
variable {ls st ls' st' : List V} {L : List Shp} {c : Nat → Int → Int} {M' : Mem} {pc a b : Nat} {x : Int}
theorem g_37 (C : CX p s m args meth c0 f A D cA X n xs) (hRf : 1 ≤ R.frames) (hRl : 100 ≤ R.locals) (hd : decode (mtb f).1 pc = .ok (raw pc (37, a, b, x))) (hl : lnk (mtb f).2.2.2.2 (mtb f).2.2.1 (mtb f).2.1.name (37, a, b, x) = true) (hs : oks (inf f).1 (37, a, b, x) = true) (h0 : act (37, a, b, x) ls st (L, c) = some (.inl (ls', st', M'))) (hL : M'.1.length ≤ 1000000) (hRc : M'.1.length - n0 ≤ R.cells) (hRs : slz M'.1 - z0 ≤ R.slots) (hk : WS p l e R s m args below meth c0 Q f A D cA X n xs ad0 n0 z0 (npc pc (37, a, b, x)) ls' st' M'.1 M'.2) : WS p l e R s m args below meth c0 Q f A D cA X n xs ad0 n0 z0 pc ls st L c := by
  intro ad H locs lsM S
  obtain ⟨hx, hb, hml, hown, hts, hK, hST, hA, hr, hlk, hnm⟩ := C
  have h9 := pI_inv h0
  clear h0
  obtain ⟨z, t, rfl, h⟩ := h9
  have h9 := if_inv h
  clear h
  obtain ⟨hz9, h⟩ := h9
  have h : (some (.inl (ls, vR ((L.length : Int) + 1) :: t, (L ++ [(a, z, [])], uz c L.length))) : Act) = some (.inl (ls', st', M')) := h
  cases h
  have hz : In32 z := vok_hd S.stv
  have hcl : (Int32.ofInt z).toNatClampNeg = z.toNat := o32_clamp hz
  have hneg : ¬ Int32.ofInt z < 0 := fun q => by
    rw [← o32_0, o32_lt hz in32_0] at q
    omega
  have e1 : (L ++ [(a, z, [])]).length = L.length + 1 := by simp
  have e2 : slz (L ++ [(a, z, [])]) = slz L + z.toNat := by rw [slz_app] <;> rfl
  have b1 : n0 ≤ L.length := S.2.2.2.2.2.1.1
  have b2 : z0 ≤ slz L := S.2.2.2.2.2.1.2.1
  have f1 : (L ++ [(a, z, [])]).length - n0 = L.length - n0 + 1 := by omega
  have f2 : slz (L ++ [(a, z, [])]) - z0 = slz L - z0 + z.toNat := by omega
  have hRc : (L ++ [(a, z, [])]).length - n0 ≤ R.cells := hRc
  have hRs : slz (L ++ [(a, z, [])]) - z0 ≤ R.slots := hRs
  have hL : (L ++ [(a, z, [])]).length ≤ 1000000 := hL
  have est : ∀ q1, (vR ((L.length : Int) + 1) :: t).map (mv (adp ad L.length q1) X) = .ref q1 :: t.map (mv ad X) := fun q1 => by
    rw [List.map_cons]
    congr 1
    · show Value.ref (adp ad L.length q1 L.length) = .ref q1
      rw [adp_eq]
    · exact List.map_congr_left fun v hv => mv_keep (fun k hk => adp_lt hk) (vok_tl S.stv v hv)
  rcases a with _ | _ | _ | a
  · have hac := hts _ acI
    refine va_newa (atype := .int) (ty := .int) (a0 := (z.toNat, .inl (fun _ => Int32.ofInt 0))) hx hb hac rfl hK S.1 S.2.1 S.2.2.1 hA (fun _ => rfl) hneg hcl (by show z.toNat * 4 ≤ _; omega) (by omega) (by omega) hd (fun q1 cA2 H1 hK1 hP1 hD1 hS1 => ?_)
    have hcA : cA2 = cA 0 := by
      have h1 := (hK1.2 5 (cA2, .int) rfl).2
      have h2 := (hK.2 0 (cA 0, .int) rfl).2
      exact Option.some.inj (h1.symm.trans h2)
    subst hcA
    have epush := wsl_push (ad := ad) (X := X) (cA := cA) (q := q1) (c' := uz c L.length) (s' := (0, z, [])) S.2.2.2.1 (fun j hj => uz_ne hj)
    have eent : ent (adp ad L.length q1) X cA (0, z, []) (uz c L.length L.length) = .inl (cA 0, (z.toNat, .inl (fun _ => Int32.ofInt 0))) := by
      unfold ent
      simp only [uz_self] <;> rfl
    rw [eent] at epush
    rw [epush] at hP1 hD1
    have S2 := S.push (q := q1) (c' := uz c L.length) (hP1 := hP1) (hD1 := hD1) (hS1 := hS1) (fun j hj => uz_ne hj) (cok_newa (by decide) hz9) (by omega)
    have K := hk (adp ad L.length q1) H1 locs lsM (S2.stk (vok_cons (vok_hd S2.stv) (vok_tl (vok_tl S2.stv))))
    rw [f1, f2] at K
    rw [est q1] at K
    exact K
  · have hac := hts _ acJ
    refine va_newa (atype := .long) (ty := .long) (a0 := (z.toNat, .inr (.inl (fun _ => Int64.ofInt 0)))) hx hb hac rfl hK S.1 S.2.1 S.2.2.1 hA (fun _ => rfl) hneg hcl (by show z.toNat * 8 ≤ _; omega) (by omega) (by omega) hd (fun q1 cA2 H1 hK1 hP1 hD1 hS1 => ?_)
    have hcA : cA2 = cA 1 := by
      have h1 := (hK1.2 5 (cA2, .long) rfl).2
      have h2 := (hK.2 1 (cA 1, .long) rfl).2
      exact Option.some.inj (h1.symm.trans h2)
    subst hcA
    have epush := wsl_push (ad := ad) (X := X) (cA := cA) (q := q1) (c' := uz c L.length) (s' := (1, z, [])) S.2.2.2.1 (fun j hj => uz_ne hj)
    have eent : ent (adp ad L.length q1) X cA (1, z, []) (uz c L.length L.length) = .inl (cA 1, (z.toNat, .inr (.inl (fun _ => Int64.ofInt 0)))) := by
      unfold ent
      simp only [uz_self] <;> rfl
    rw [eent] at epush
    rw [epush] at hP1 hD1
    have S2 := S.push (q := q1) (c' := uz c L.length) (hP1 := hP1) (hD1 := hD1) (hS1 := hS1) (fun j hj => uz_ne hj) (cok_newa (by decide) hz9) (by omega)
    have K := hk (adp ad L.length q1) H1 locs lsM (S2.stk (vok_cons (vok_hd S2.stv) (vok_tl (vok_tl S2.stv))))
    rw [f1, f2] at K
    rw [est q1] at K
    exact K
  · have hac := hts _ acZ
    refine va_newa (atype := .boolean) (ty := .boolean) (a0 := (z.toNat, .inl (fun _ => Int32.ofInt 0))) hx hb hac rfl hK S.1 S.2.1 S.2.2.1 hA (fun _ => rfl) hneg hcl (by show z.toNat * 1 ≤ _; omega) (by omega) (by omega) hd (fun q1 cA2 H1 hK1 hP1 hD1 hS1 => ?_)
    have hcA : cA2 = cA 2 := by
      have h1 := (hK1.2 5 (cA2, .boolean) rfl).2
      have h2 := (hK.2 2 (cA 2, .boolean) rfl).2
      exact Option.some.inj (h1.symm.trans h2)
    subst hcA
    have epush := wsl_push (ad := ad) (X := X) (cA := cA) (q := q1) (c' := uz c L.length) (s' := (2, z, [])) S.2.2.2.1 (fun j hj => uz_ne hj)
    have eent : ent (adp ad L.length q1) X cA (2, z, []) (uz c L.length L.length) = .inl (cA 2, (z.toNat, .inl (fun _ => Int32.ofInt 0))) := by
      unfold ent
      simp only [uz_self] <;> rfl
    rw [eent] at epush
    rw [epush] at hP1 hD1
    have S2 := S.push (q := q1) (c' := uz c L.length) (hP1 := hP1) (hD1 := hD1) (hS1 := hS1) (fun j hj => uz_ne hj) (cok_newa (by decide) hz9) (by omega)
    have K := hk (adp ad L.length q1) H1 locs lsM (S2.stk (vok_cons (vok_hd S2.stv) (vok_tl (vok_tl S2.stv))))
    rw [f1, f2] at K
    rw [est q1] at K
    exact K
  · have : Nat.ble (a + 3) 2 = true := hl
    exact absurd (Nat.le_of_ble_eq_true this) (by omega)
theorem g_38 (C : CX p s m args meth c0 f A D cA X n xs) (hRf : 1 ≤ R.frames) (hRl : 100 ≤ R.locals) (hd : decode (mtb f).1 pc = .ok (raw pc (38, a, b, x))) (hl : lnk (mtb f).2.2.2.2 (mtb f).2.2.1 (mtb f).2.1.name (38, a, b, x) = true) (hs : oks (inf f).1 (38, a, b, x) = true) (h0 : act (38, a, b, x) ls st (L, c) = some (.inl (ls', st', M'))) (hL : M'.1.length ≤ 1000000) (hRc : M'.1.length - n0 ≤ R.cells) (hRs : slz M'.1 - z0 ≤ R.slots) (hk : WS p l e R s m args below meth c0 Q f A D cA X n xs ad0 n0 z0 (npc pc (38, a, b, x)) ls' st' M'.1 M'.2) : WS p l e R s m args below meth c0 Q f A D cA X n xs ad0 n0 z0 pc ls st L c := by
  intro ad H locs lsM S
  obtain ⟨hx, hb, hml, hown, hts, hK, hST, hA, hr, hlk, hnm⟩ := C
  have h9 := pI_inv h0
  clear h0
  obtain ⟨z, t, rfl, h⟩ := h9
  have h9 := if_inv h
  clear h
  obtain ⟨hz9, h⟩ := h9
  have h : (some (.inl (ls, vR ((L.length : Int) + 1) :: t, (L ++ [(a, z, [])], uz c L.length))) : Act) = some (.inl (ls', st', M')) := h
  cases h
  have hz : In32 z := vok_hd S.stv
  have hcl : (Int32.ofInt z).toNatClampNeg = z.toNat := o32_clamp hz
  have hneg : ¬ Int32.ofInt z < 0 := fun q => by
    rw [← o32_0, o32_lt hz in32_0] at q
    omega
  have e1 : (L ++ [(a, z, [])]).length = L.length + 1 := by simp
  have e2 : slz (L ++ [(a, z, [])]) = slz L + z.toNat := by rw [slz_app] <;> rfl
  have b1 : n0 ≤ L.length := S.2.2.2.2.2.1.1
  have b2 : z0 ≤ slz L := S.2.2.2.2.2.1.2.1
  have f1 : (L ++ [(a, z, [])]).length - n0 = L.length - n0 + 1 := by omega
  have f2 : slz (L ++ [(a, z, [])]) - z0 = slz L - z0 + z.toNat := by omega
  have hRc : (L ++ [(a, z, [])]).length - n0 ≤ R.cells := hRc
  have hRs : slz (L ++ [(a, z, [])]) - z0 ≤ R.slots := hRs
  have hL : (L ++ [(a, z, [])]).length ≤ 1000000 := hL
  have est : ∀ q1, (vR ((L.length : Int) + 1) :: t).map (mv (adp ad L.length q1) X) = .ref q1 :: t.map (mv ad X) := fun q1 => by
    rw [List.map_cons]
    congr 1
    · show Value.ref (adp ad L.length q1 L.length) = .ref q1
      rw [adp_eq]
    · exact List.map_congr_left fun v hv => mv_keep (fun k hk => adp_lt hk) (vok_tl S.stv v hv)
  have hl : ((Nat.beq a 3 || Nat.beq a 4) && lkC.any (fun q => Nat.beq q.1 (mtb f).2.2.2.2 && (decide ((q.2.1 : Int) = x) && Nat.beq q.2.2.1 (a + 100)))) = true := hl
  simp only [Bool.and_eq_true, Bool.or_eq_true] at hl
  obtain ⟨hkd, hl⟩ := hl
  have hkd : a = 3 ∨ a = 4 := hkd.imp beq_of beq_of
  rcases hkd with hkd | hkd
  · subst hkd
    have hw := hts _ (lkC_word hl)
    refine va_newq (C := RX7) hx hb hown hw hST.2.2.2.2.2.2.2.2.1 hK S.1 S.2.1 S.2.2.1 hA hneg hcl (by omega) (by omega) (by omega) hd (fun q1 cA2 H1 hK1 hP1 hD1 hS1 => ?_)
    have hcA : cA2 = cA 3 := by
      obtain ⟨_, _, _, _, _, h1⟩ := (hK1.2 5 (cA2, .object RX7) rfl).2
      obtain ⟨_, _, _, _, _, h2⟩ := (hK.2 3 (cA 3, .object RX7) rfl).2
      exact Option.some.inj (h1.symm.trans h2)
    subst hcA
    have epush := wsl_push (ad := ad) (X := X) (cA := cA) (q := q1) (c' := uz c L.length) (s' := (3, z, [])) S.2.2.2.1 (fun j hj => uz_ne hj)
    have eent : ent (adp ad L.length q1) X cA (3, z, []) (uz c L.length L.length) = .inl (cA 3, (z.toNat, .inr (.inr (.inr (.inr (fun _ => none)))))) := by
      unfold ent
      simp only [uz_self] <;> rfl
    rw [eent] at epush
    rw [epush] at hP1 hD1
    have S2 := S.push (q := q1) (c' := uz c L.length) (hP1 := hP1) (hD1 := hD1) (hS1 := hS1) (fun j hj => uz_ne hj) (cok_newa (by decide) hz9) (by omega)
    have K := hk (adp ad L.length q1) H1 locs lsM (S2.stk (vok_cons (vok_hd S2.stv) (vok_tl (vok_tl S2.stv))))
    rw [f1, f2] at K
    rw [est q1] at K
    exact K
  · subst hkd
    have hw := hts _ (lkC_word hl)
    refine va_newq (C := RX10) hx hb hown hw hST.2.2.2.2.2.2.2.2.2.1 hK S.1 S.2.1 S.2.2.1 hA hneg hcl (by omega) (by omega) (by omega) hd (fun q1 cA2 H1 hK1 hP1 hD1 hS1 => ?_)
    have hcA : cA2 = cA 4 := by
      obtain ⟨_, _, _, _, _, h1⟩ := (hK1.2 5 (cA2, .object RX10) rfl).2
      obtain ⟨_, _, _, _, _, h2⟩ := (hK.2 4 (cA 4, .object RX10) rfl).2
      exact Option.some.inj (h1.symm.trans h2)
    subst hcA
    have epush := wsl_push (ad := ad) (X := X) (cA := cA) (q := q1) (c' := uz c L.length) (s' := (4, z, [])) S.2.2.2.1 (fun j hj => uz_ne hj)
    have eent : ent (adp ad L.length q1) X cA (4, z, []) (uz c L.length L.length) = .inl (cA 4, (z.toNat, .inr (.inr (.inr (.inr (fun _ => none)))))) := by
      unfold ent
      simp only [uz_self] <;> rfl
    rw [eent] at epush
    rw [epush] at hP1 hD1
    have S2 := S.push (q := q1) (c' := uz c L.length) (hP1 := hP1) (hD1 := hD1) (hS1 := hS1) (fun j hj => uz_ne hj) (cok_newa (by decide) hz9) (by omega)
    have K := hk (adp ad L.length q1) H1 locs lsM (S2.stk (vok_cons (vok_hd S2.stv) (vok_tl (vok_tl S2.stv))))
    rw [f1, f2] at K
    rw [est q1] at K
    exact K
theorem g_40 (C : CX p s m args meth c0 f A D cA X n xs) (hRf : 1 ≤ R.frames) (hRl : 100 ≤ R.locals) (hd : decode (mtb f).1 pc = .ok (raw pc (40, a, b, x))) (hl : lnk (mtb f).2.2.2.2 (mtb f).2.2.1 (mtb f).2.1.name (40, a, b, x) = true) (hs : oks (inf f).1 (40, a, b, x) = true) (h0 : act (40, a, b, x) ls st (L, c) = some (.inl (ls', st', M'))) (hL : M'.1.length ≤ 1000000) (hRc : M'.1.length - n0 ≤ R.cells) (hRs : slz M'.1 - z0 ≤ R.slots) (hk : WS p l e R s m args below meth c0 Q f A D cA X n xs ad0 n0 z0 (npc pc (40, a, b, x)) ls' st' M'.1 M'.2) : WS p l e R s m args below meth c0 Q f A D cA X n xs ad0 n0 z0 pc ls st L c := by
  intro ad H locs lsM S
  obtain ⟨hx, hb, hml, hown, hts, hK, hST, hA, hr, hlk, hnm⟩ := C
  have h9 := pR_inv h0
  clear h0
  obtain ⟨r, t, rfl, h⟩ := h9
  have h9 := pD_inv h
  clear h
  obtain ⟨k, sh, hk0, rfl, h⟩ := h9
  have h9 := bif_inv h
  clear h
  obtain ⟨h1, h⟩ := h9
  have h : (some (.inl (ls, t, (L, c))) : Act) = some (.inl (ls', st', M')) := h
  cases h
  have hcat := catS_le (ad := ad) (X := X) st'
  have h1 := Nat.le_of_ble_eq_true h1
  refine W.objInit (g := F0 m pc lsM ((vR ((k : Int) + 1) :: st').map (mv ad X))) (a := ad k) (rest := st'.map (mv ad X)) hx hb hown (hts _ (lkO_word hl)) (hts _ objI) (hts _ objC) rfl (S.lr.2.1.trans hml.symm) rfl hd hRf ?_ (hk ad H locs lsM (S.stk (vok_tl S.stv)))
  show 2 * 0 + ((st'.map (mv ad X)).map fun v => v.category).sum + 12 ≤ R.locals
  omega
end OPS
end
section
/-! SOUNDNESS, 3: fields, arrays, text, what is made (own work): 14e.ops2 -/
section OPS
variable {p : Program} {l : Launch} {e : Env} {R : Room} {s : State} {m : MethodId} {args : Array Value} {below : List Frame} {meth : Method} {c0 : Code} {Q : State → Prop} {f : Nat} {A : Nat → Prop} {D : va_G} {cA : Nat → ClassId} {X : AdX} {n : Nat} {xs : Nat → Int32} {ad0 : Nat → Nat} {n0 z0 : Nat}
variable {ls st ls' st' : List V} {L : List Shp} {c : Nat → Int → Int} {M' : Mem} {pc a b : Nat} {x : Int}
theorem g_41 (C : CX p s m args meth c0 f A D cA X n xs) (hRf : 1 ≤ R.frames) (hRl : 100 ≤ R.locals) (hd : decode (mtb f).1 pc = .ok (raw pc (41, a, b, x))) (hl : lnk (mtb f).2.2.2.2 (mtb f).2.2.1 (mtb f).2.1.name (41, a, b, x) = true) (hs : oks (inf f).1 (41, a, b, x) = true) (h0 : act (41, a, b, x) ls st (L, c) = some (.inl (ls', st', M'))) (hL : M'.1.length ≤ 1000000) (hRc : M'.1.length - n0 ≤ R.cells) (hRs : slz M'.1 - z0 ≤ R.slots) (hk : WS p l e R s m args below meth c0 Q f A D cA X n xs ad0 n0 z0 (npc pc (41, a, b, x)) ls' st' M'.1 M'.2) : WS p l e R s m args below meth c0 Q f A D cA X n xs ad0 n0 z0 pc ls st L c := by
  intro ad H locs lsM S
  obtain ⟨hx, hb, hml, hown, hts, hK, hST, hA, hr, hlk, hnm⟩ := C
  have h9 := pI_inv h0
  clear h0
  obtain ⟨z, t, rfl, h⟩ := h9
  have h9 := pI_inv h
  clear h
  obtain ⟨dp, t, rfl, h⟩ := h9
  have h9 := pR_inv h
  clear h
  obtain ⟨r2, t, rfl, h⟩ := h9
  have h9 := pI_inv h
  clear h
  obtain ⟨sp, t, rfl, h⟩ := h9
  have h9 := pR_inv h
  clear h
  obtain ⟨r, t, rfl, h⟩ := h9
  have h9 := pD_inv h
  clear h
  obtain ⟨k, sh, hk0, rfl, h⟩ := h9
  have h9 := pD_inv h
  clear h
  obtain ⟨k2, sh2, hk20, rfl, h⟩ := h9
  have h9 := bif_inv h
  clear h
  obtain ⟨h1, h⟩ := h9
  simp only [Bool.and_eq_true, Bool.not_eq_true'] at h1
  obtain ⟨⟨⟨q1, q2⟩, q3⟩, q4⟩ := h1
  have q1 : sh.1 = 0 := beq_of q1
  have q2 : sh2.1 = 0 := beq_of q2
  have q3 : k ≠ k2 := fun w => by rw [w, Nat.beq_refl] at q3; cases q3
  have q4 := Nat.le_of_ble_eq_true q4
  have h9 := if_inv h
  clear h
  obtain ⟨hr9, h⟩ := h9
  have h : (some (.inl (ls, t, (L, cpy c k sp k2 dp z))) : Act) = some (.inl (ls', st', M')) := h
  cases h
  have hz : In32 z := vok_hd S.stv
  have hdp : In32 dp := vok_hd (vok_tl S.stv)
  have hsp : In32 sp := vok_hd (vok_tl (vok_tl (vok_tl S.stv)))
  have hco := S.2.2.2.1 k sh hk0
  have hco2 := S.2.2.2.1 k2 sh2 hk20
  have he := wsl_at (ad := ad) (X := X) (cA := cA) (c := c) hk0
  have hent : ent ad X cA sh (c k) = .inl (cA 0, (sh.2.1.toNat, .inl (fun j => Int32.ofInt (c k (Int.ofNat j))))) := by unfold ent; rw [q1]; rfl
  rw [hent] at he
  have he2 := wsl_at (ad := ad) (X := X) (cA := cA) (c := c) hk20
  have hent2 : ∀ g : Int → Int, ent ad X cA sh2 g = .inl (cA 0, (sh2.2.1.toNat, .inl (fun j => Int32.ofInt (g (Int.ofNat j))))) := fun g => by unfold ent; rw [q2]; rfl
  rw [hent2] at he2
  have c1 : (Int32.ofInt sp).toNatClampNeg = sp.toNat := o32_clamp hsp
  have c2 : (Int32.ofInt dp).toNatClampNeg = dp.toNat := o32_clamp hdp
  have c3 : (Int32.ofInt z).toNatClampNeg = z.toNat := o32_clamp hz
  have nneg : ∀ {w : Int}, In32 w → 0 ≤ w → ¬ Int32.ofInt w < 0 := fun {w} h1 h2 q => by
    rw [← o32_0, o32_lt h1 in32_0] at q
    omega
  have hcat := catS_le (ad := ad) (X := X) st'
  refine va_copyi hx hb (hml.trans S.lr.2.1.symm) hown (hts _ (lkA_word hl)) (hts _ natC) (hts _ statC) (hts _ iniC) hK S.1 S.2.1 S.2.2.1 k k2 0 0 he he2 rfl rfl rfl (nneg hsp hr9.1.1) (nneg hdp hr9.1.2.1) (nneg hz hr9.1.2.2) (by rw [c1, c3]; omega) (by rw [c2, c3]; omega) (fun _ _ => rfl) hRf ?_ hd (fun H1 locs1 hP1 hD1 hS1 => hk ad H1 locs1 lsM (S.upd hL hk20 (fun a2 h2 => cpy_ne h2) (cok_cpy hco hco2 q1 q2) ?_ hP1 hD1 hS1 (vok_tl (vok_tl (vok_tl (vok_tl (vok_tl S.stv)))))))
  · have : nativeFrameWords "java/lang/System" "arraycopy" 5 ≤ 60 := by decide +kernel
    omega
  · rw [hent2, c1, c2, c3]
    congr 4
    funext j
    unfold va_cpy cpy
    dsimp only
    rw [if_pos (rfl : k2 = k2)]
    by_cases hj : dp.toNat ≤ j ∧ j < dp.toNat + z.toNat
    · rw [if_pos hj, if_pos (by have e9 : (Int.ofNat j) = (j : Int) := rfl; rw [e9]; omega)]
      have e9 : (Int.ofNat (sp.toNat + (j - dp.toNat))) = sp + (Int.ofNat j - dp) := by
        show ((sp.toNat + (j - dp.toNat) : Nat) : Int) = sp + ((j : Int) - dp)
        omega
      rw [e9]
    · rw [if_neg hj, if_neg (by have e9 : (Int.ofNat j) = (j : Int) := rfl; rw [e9]; omega)]
end OPS
end
section
/-! SOUNDNESS, 3: fields, arrays, text, what is made (own work): 14f.ops2 -/
section OPS
variable {p : Program} {l : Launch} {e : Env} {R : Room} {s : State} {m : MethodId} {args : Array Value} {below : List Frame} {meth : Method} {c0 : Code} {Q : State → Prop} {f : Nat} {A : Nat → Prop} {D : va_G} {cA : Nat → ClassId} {X : AdX} {n : Nat} {xs : Nat → Int32} {ad0 : Nat → Nat} {n0 z0 : Nat}
variable {ls st ls' st' : List V} {L : List Shp} {c : Nat → Int → Int} {M' : Mem} {pc a b : Nat} {x : Int}
theorem g_52 (C : CX p s m args meth c0 f A D cA X n xs) (hRf : 1 ≤ R.frames) (hRl : 100 ≤ R.locals) (hd : decode (mtb f).1 pc = .ok (raw pc (52, a, b, x))) (hl : lnk (mtb f).2.2.2.2 (mtb f).2.2.1 (mtb f).2.1.name (52, a, b, x) = true) (hs : oks (inf f).1 (52, a, b, x) = true) (h0 : act (52, a, b, x) ls st (L, c) = some (.inl (ls', st', M'))) (hL : M'.1.length ≤ 1000000) (hRc : M'.1.length - n0 ≤ R.cells) (hRs : slz M'.1 - z0 ≤ R.slots) (hk : WS p l e R s m args below meth c0 Q f A D cA X n xs ad0 n0 z0 (npc pc (52, a, b, x)) ls' st' M'.1 M'.2) : WS p l e R s m args below meth c0 Q f A D cA X n xs ad0 n0 z0 pc ls st L c := by
  intro ad H locs lsM S
  obtain ⟨hx, hb, hml, hown, hts, hK, hST, hA, hr, hlk, hnm⟩ := C
  have h9 := pL_inv h0
  clear h0
  obtain ⟨y, t, rfl, h⟩ := h9
  have h9 := pI_inv h
  clear h
  obtain ⟨j, t, rfl, h⟩ := h9
  have h9 := pR_inv h
  clear h
  obtain ⟨r, t, rfl, h⟩ := h9
  have h9 := pD_inv h
  clear h
  obtain ⟨k, sh, hk0, rfl, h⟩ := h9
  have h9 := bif_inv h
  clear h
  obtain ⟨h1, h⟩ := h9
  have h1 : sh.1 = 1 := beq_of h1
  have h9 := if_inv h
  clear h
  obtain ⟨hij, h⟩ := h9
  have h : (some (.inl (ls, t, (L, up c k j y))) : Act) = some (.inl (ls', st', M')) := h
  cases h
  have hy : In64 y := vok_hd S.stv
  have hj : In32 j := vok_hd (vok_tl S.stv)
  have hco := S.2.2.2.1 k sh hk0
  have he := wsl_at (ad := ad) (X := X) (cA := cA) (c := c) hk0
  have hent : ∀ g : Int → Int, ent ad X cA sh g = .inl (cA 1, (sh.2.1.toNat, .inr (.inl (fun j => Int64.ofInt (g (Int.ofNat j)))))) := fun g => by unfold ent; rw [h1]; rfl
  rw [hent] at he
  have hcl : (Int32.ofInt j).toNatClampNeg = j.toNat := o32_clamp hj
  refine va_last hx hb hK S.1 S.2.1 S.2.2.1 k 1 he rfl (o32_in hj hij.1 hij.2) hd (fun H1 locs1 hP1 hD1 hS1 => hk ad H1 locs1 lsM (S.upd hL hk0 (fun a2 h2 => up_ne h2) (cok_arr1 hco h1 hy) ?_ hP1 hD1 hS1 (vok_tl (vok_tl (vok_tl S.stv)))))
  rw [hent, hcl]
  congr 5
  funext z
  dsimp only
  rw [up_self]
  by_cases hz : z = j.toNat
  · have e9 : (Int.ofNat z) = j := by rw [hz]; exact Int.toNat_of_nonneg hij.1
    rw [if_pos e9]
    unfold vp_updL
    rw [if_pos hz]
  · have e9 : ¬ (Int.ofNat z) = j := fun q => hz (by rw [← q]; rfl)
    rw [if_neg e9]
    unfold vp_updL
    rw [if_neg hz]
theorem g_53 (C : CX p s m args meth c0 f A D cA X n xs) (hRf : 1 ≤ R.frames) (hRl : 100 ≤ R.locals) (hd : decode (mtb f).1 pc = .ok (raw pc (53, a, b, x))) (hl : lnk (mtb f).2.2.2.2 (mtb f).2.2.1 (mtb f).2.1.name (53, a, b, x) = true) (hs : oks (inf f).1 (53, a, b, x) = true) (h0 : act (53, a, b, x) ls st (L, c) = some (.inl (ls', st', M'))) (hL : M'.1.length ≤ 1000000) (hRc : M'.1.length - n0 ≤ R.cells) (hRs : slz M'.1 - z0 ≤ R.slots) (hk : WS p l e R s m args below meth c0 Q f A D cA X n xs ad0 n0 z0 (npc pc (53, a, b, x)) ls' st' M'.1 M'.2) : WS p l e R s m args below meth c0 Q f A D cA X n xs ad0 n0 z0 pc ls st L c := by
  intro ad H locs lsM S
  obtain ⟨hx, hb, hml, hown, hts, hK, hST, hA, hr, hlk, hnm⟩ := C
  have h9 := pI_inv h0
  clear h0
  obtain ⟨y, t, rfl, h⟩ := h9
  have h9 := pI_inv h
  clear h
  obtain ⟨j, t, rfl, h⟩ := h9
  have h9 := pR_inv h
  clear h
  obtain ⟨r, t, rfl, h⟩ := h9
  have h9 := pD_inv h
  clear h
  obtain ⟨k, sh, hk0, rfl, h⟩ := h9
  have h9 := bif_inv h
  clear h
  obtain ⟨h1, h⟩ := h9
  have h1 : sh.1 = 2 := beq_of h1
  have h9 := if_inv h
  clear h
  obtain ⟨hij, h⟩ := h9
  have h9 := if_inv h
  clear h
  obtain ⟨hy01, h⟩ := h9
  have h : (some (.inl (ls, t, (L, up c k j y))) : Act) = some (.inl (ls', st', M')) := h
  cases h
  have hy : In32 y := vok_hd S.stv
  have hj : In32 j := vok_hd (vok_tl S.stv)
  have hco := S.2.2.2.1 k sh hk0
  have he := wsl_at (ad := ad) (X := X) (cA := cA) (c := c) hk0
  have hent : ∀ g : Int → Int, ent ad X cA sh g = .inl (cA 2, (sh.2.1.toNat, .inl (fun j => Int32.ofInt (g (Int.ofNat j))))) := fun g => by unfold ent; rw [h1]; rfl
  rw [hent] at he
  have hcl : (Int32.ofInt j).toNatClampNeg = j.toNat := o32_clamp hj
  refine va_zast hx hb hK S.1 S.2.1 S.2.2.1 k 2 he rfl (o32_in hj hij.1 hij.2) hd (fun H1 locs1 hP1 hD1 hS1 => hk ad H1 locs1 lsM (S.upd hL hk0 (fun a2 h2 => up_ne h2) (cok_arr02 hco (Or.inr h1) hy) ?_ hP1 hD1 hS1 (vok_tl (vok_tl (vok_tl S.stv)))))
  rw [hent, hcl]
  congr 4
  funext z
  dsimp only
  rw [up_self]
  by_cases hz : z = j.toNat
  · have e9 : (Int.ofNat z) = j := by rw [hz]; exact Int.toNat_of_nonneg hij.1
    rw [if_pos e9]
    unfold upd
    rw [if_pos hz]
    rcases hy01 with q | q <;> subst q <;> rfl
  · have e9 : ¬ (Int.ofNat z) = j := fun q => hz (by rw [← q]; rfl)
    rw [if_neg e9]
    unfold upd
    rw [if_neg hz]
theorem g_54 (C : CX p s m args meth c0 f A D cA X n xs) (hRf : 1 ≤ R.frames) (hRl : 100 ≤ R.locals) (hd : decode (mtb f).1 pc = .ok (raw pc (54, a, b, x))) (hl : lnk (mtb f).2.2.2.2 (mtb f).2.2.1 (mtb f).2.1.name (54, a, b, x) = true) (hs : oks (inf f).1 (54, a, b, x) = true) (h0 : act (54, a, b, x) ls st (L, c) = some (.inl (ls', st', M'))) (hL : M'.1.length ≤ 1000000) (hRc : M'.1.length - n0 ≤ R.cells) (hRs : slz M'.1 - z0 ≤ R.slots) (hk : WS p l e R s m args below meth c0 Q f A D cA X n xs ad0 n0 z0 (npc pc (54, a, b, x)) ls' st' M'.1 M'.2) : WS p l e R s m args below meth c0 Q f A D cA X n xs ad0 n0 z0 pc ls st L c := by
  intro ad H locs lsM S
  obtain ⟨hx, hb, hml, hown, hts, hK, hST, hA, hr, hlk, hnm⟩ := C
  have h9 := pR_inv h0
  clear h0
  obtain ⟨y, t, rfl, h⟩ := h9
  have h9 := pI_inv h
  clear h
  obtain ⟨j, t, rfl, h⟩ := h9
  have h9 := pR_inv h
  clear h
  obtain ⟨r, t, rfl, h⟩ := h9
  have h9 := pD_inv h
  clear h
  obtain ⟨k, sh, hk0, rfl, h⟩ := h9
  have h9 := bif_inv h
  clear h
  obtain ⟨h1, h⟩ := h9
  have h9 := if_inv h
  clear h
  obtain ⟨hij, h⟩ := h9
  have h9 := pD_inv h
  clear h
  obtain ⟨k2, sh2, hk20, rfl, h⟩ := h9
  have h9 := bif_inv h
  clear h
  obtain ⟨h2, h⟩ := h9
  have h : (some (.inl (ls, t, (L, up c k j ((k2 : Int) + 1)))) : Act) = some (.inl (ls', st', M')) := h
  cases h
  have hj : In32 j := vok_hd (vok_tl S.stv)
  have hl : ((Nat.beq a 3 && Nat.beq b 17) || (Nat.beq a 4 && Nat.beq b 20)) = true := hl
  simp only [Bool.or_eq_true, Bool.and_eq_true] at hl
  have hl : (a = 3 ∧ b = 17) ∨ (a = 4 ∧ b = 20) := hl.imp (fun q => ⟨beq_of q.1, beq_of q.2⟩) (fun q => ⟨beq_of q.1, beq_of q.2⟩)
  rcases hl with ⟨hkd1, hkd2⟩ | ⟨hkd1, hkd2⟩
  · subst hkd1; subst hkd2
    have h1 : sh.1 = 3 := beq_of h1
    have h2 : sh2.1 = 17 := beq_of h2
    have hco := S.2.2.2.1 k sh hk0
    have he := wsl_at (ad := ad) (X := X) (cA := cA) (c := c) hk0
    have hent : ∀ g : Int → Int, ent ad X cA sh g = .inl (cA 3, (sh.2.1.toNat, .inr (.inr (.inr (.inr (fun j => rof ad X (g (Int.ofNat j)))))))) := fun g => by unfold ent; rw [h1]; rfl
    rw [hent] at he
    have he2 := wsl_at (ad := ad) (X := X) (cA := cA) (c := c) hk20
    rw [ent_5 (by omega), h2] at he2
    have hcl : (Int32.ofInt j).toNatClampNeg = j.toNat := o32_clamp hj
    have hkl2 : k2 < L.length := (List.getElem?_eq_some_iff.mp hk20).1
    refine va_astq (r := (RX7, TX7, 15)) hx hb hK S.1 S.2.1 S.2.2.1 k 3 k2 7 he rfl he2 rfl (o32_in hj hij.1 hij.2) hd (fun H1 locs1 hP1 hD1 hS1 => hk ad H1 locs1 lsM (S.upd hL hk0 (fun a2 h2 => up_ne h2) (cok_arr34 hco (Or.inl h1) (by omega) (by omega)) ?_ hP1 hD1 hS1 (vok_tl (vok_tl (vok_tl S.stv)))))
    rw [hent, hcl]
    congr 7
    funext z
    dsimp only
    rw [up_self]
    by_cases hz : z = j.toNat
    · have e9 : (Int.ofNat z) = j := by rw [hz]; exact Int.toNat_of_nonneg hij.1
      rw [if_pos e9]
      unfold va_up
      rw [if_pos hz]
      rfl
    · have e9 : ¬ (Int.ofNat z) = j := fun q => hz (by rw [← q]; rfl)
      rw [if_neg e9]
      unfold va_up
      rw [if_neg hz]
  · subst hkd1; subst hkd2
    have h1 : sh.1 = 4 := beq_of h1
    have h2 : sh2.1 = 20 := beq_of h2
    have hco := S.2.2.2.1 k sh hk0
    have he := wsl_at (ad := ad) (X := X) (cA := cA) (c := c) hk0
    have hent : ∀ g : Int → Int, ent ad X cA sh g = .inl (cA 4, (sh.2.1.toNat, .inr (.inr (.inr (.inr (fun j => rof ad X (g (Int.ofNat j)))))))) := fun g => by unfold ent; rw [h1]; rfl
    rw [hent] at he
    have he2 := wsl_at (ad := ad) (X := X) (cA := cA) (c := c) hk20
    rw [ent_5 (by omega), h2] at he2
    have hcl : (Int32.ofInt j).toNatClampNeg = j.toNat := o32_clamp hj
    have hkl2 : k2 < L.length := (List.getElem?_eq_some_iff.mp hk20).1
    refine va_astq (r := (RX10, TX10, 5)) hx hb hK S.1 S.2.1 S.2.2.1 k 4 k2 10 he rfl he2 rfl (o32_in hj hij.1 hij.2) hd (fun H1 locs1 hP1 hD1 hS1 => hk ad H1 locs1 lsM (S.upd hL hk0 (fun a2 h2 => up_ne h2) (cok_arr34 hco (Or.inr h1) (by omega) (by omega)) ?_ hP1 hD1 hS1 (vok_tl (vok_tl (vok_tl S.stv)))))
    rw [hent, hcl]
    congr 7
    funext z
    dsimp only
    rw [up_self]
    by_cases hz : z = j.toNat
    · have e9 : (Int.ofNat z) = j := by rw [hz]; exact Int.toNat_of_nonneg hij.1
      rw [if_pos e9]
      unfold va_up
      rw [if_pos hz]
      rfl
    · have e9 : ¬ (Int.ofNat z) = j := fun q => hz (by rw [← q]; rfl)
      rw [if_neg e9]
      unfold va_up
      rw [if_neg hz]
theorem g_61 (C : CX p s m args meth c0 f A D cA X n xs) (hRf : 1 ≤ R.frames) (hRl : 100 ≤ R.locals) (hd : decode (mtb f).1 pc = .ok (raw pc (61, a, b, x))) (hl : lnk (mtb f).2.2.2.2 (mtb f).2.2.1 (mtb f).2.1.name (61, a, b, x) = true) (hs : oks (inf f).1 (61, a, b, x) = true) (h0 : act (61, a, b, x) ls st (L, c) = some (.inl (ls', st', M'))) (hL : M'.1.length ≤ 1000000) (hRc : M'.1.length - n0 ≤ R.cells) (hRs : slz M'.1 - z0 ≤ R.slots) (hk : WS p l e R s m args below meth c0 Q f A D cA X n xs ad0 n0 z0 (npc pc (61, a, b, x)) ls' st' M'.1 M'.2) : WS p l e R s m args below meth c0 Q f A D cA X n xs ad0 n0 z0 pc ls st L c := by
  intro ad H locs lsM S
  obtain ⟨hx, hb, hml, hown, hts, hK, hST, hA, hr, hlk, hnm⟩ := C
  have h : (some (.inl (ls, vR (-5) :: st, (L, c))) : Act) = some (.inl (ls', st', M')) := h0
  cases h
  have hw := hts _ (lkG_word hl)
  exact va_gets hx hb hST.2.2.2.1 S.2.2.1 hown hw (fun _ h9 => h9) hd (hk ad H locs lsM (S.stk (vok_cons (show (-5 : Int) ≤ (L.length : Int) by omega) S.stv)))
end OPS
end
section
/-! SOUNDNESS, 3: fields, arrays, text, what is made (own work): 14g.ops2 -/
section OPS
variable {p : Program} {l : Launch} {e : Env} {R : Room} {s : State} {m : MethodId} {args : Array Value} {below : List Frame} {meth : Method} {c0 : Code} {Q : State → Prop} {f : Nat} {A : Nat → Prop} {D : va_G} {cA : Nat → ClassId} {X : AdX} {n : Nat} {xs : Nat → Int32} {ad0 : Nat → Nat} {n0 z0 : Nat}
variable {ls st ls' st' : List V} {L : List Shp} {c : Nat → Int → Int} {M' : Mem} {pc a b : Nat} {x : Int}
theorem g_47 (C : CX p s m args meth c0 f A D cA X n xs) (hRf : 1 ≤ R.frames) (hRl : 100 ≤ R.locals) (hd : decode (mtb f).1 pc = .ok (raw pc (47, a, b, x))) (hl : lnk (mtb f).2.2.2.2 (mtb f).2.2.1 (mtb f).2.1.name (47, a, b, x) = true) (hs : oks (inf f).1 (47, a, b, x) = true) (h0 : act (47, a, b, x) ls st (L, c) = some (.inl (ls', st', M'))) (hL : M'.1.length ≤ 1000000) (hRc : M'.1.length - n0 ≤ R.cells) (hRs : slz M'.1 - z0 ≤ R.slots) (hk : WS p l e R s m args below meth c0 Q f A D cA X n xs ad0 n0 z0 (npc pc (47, a, b, x)) ls' st' M'.1 M'.2) : WS p l e R s m args below meth c0 Q f A D cA X n xs ad0 n0 z0 pc ls st L c := by
  intro ad H locs lsM S
  obtain ⟨hx, hb, hml, hown, hts, hK, hST, hA, hr, hlk, hnm⟩ := C
  have h : (some (.inl (ls, vR (-100 - (a : Int)) :: st, (L, c))) : Act) = some (.inl (ls', st', M')) := h0
  cases h
  have hl : lkS.any (fun q => Nat.beq q.1 (mtb f).2.2.2.2 && (Nat.beq q.2.1 b && Nat.beq q.2.2.1 a)) = true := hl
  obtain ⟨z, hz⟩ := lkS_mem hl
  have ha12 : a < 12 := of_decide_eq_true (List.all_eq_true.mp lkS_lt ((mtb f).2.2.2.2, b, a, z) hz)
  have K := hk ad H locs lsM (S.stk (vok_cons (show -100 - (a : Int) ≤ (L.length : Int) by omega) S.stv))
  have hv : vk_R (rnm (mtb f).2.2.2.2) b (sTx a) (X.1 a) s := by
    have h9 := hST.2.1 ((mtb f).2.2.2.2, b, a, z) hz
    exact h9
  have hd : decode (mtb f).1 pc = .ok (.ldc b, 2) := hd
  exact va_ldcS (tx := sTx a) hx hb hown hv hd (W_top (mv_str ha12) K)
end OPS
end
section
/-! SOUNDNESS, 4: branches (own work) -/
theorem swc_inv {l0 : List (Int × Nat)} {y : Int} {d : Nat} {g : Nat → Act} {r : (List V × List V × Mem) ⊕ (Nat × List V × List V × Mem) ⊕ (Nat × List V × List V × List V × Mem) ⊕ (Option V × Mem)} (h : swc y g d l0 = some r) : ∃ z, ((∃ j : Nat, l0[j]? = some (y, z)) ∨ (z = d ∧ ∀ q ∈ l0, q.1 ≠ y)) ∧ g z = some r := by
  induction l0 with
  | nil => exact ⟨d, Or.inr ⟨rfl, fun q hq => by cases hq⟩, h⟩
  | cons q l0 ih =>
    obtain ⟨v, t⟩ := q
    have h9 : (if y = v then g t else swc y g d l0) = some r := h
    clear h
    have h := h9
    clear h9
    by_cases hv : y = v
    · rw [if_pos hv] at h
      subst hv
      exact ⟨t, Or.inl ⟨0, rfl⟩, h⟩
    · rw [if_neg hv] at h
      obtain ⟨z, hz, h⟩ := ih h
      refine ⟨z, ?_, h⟩
      rcases hz with ⟨j, hj⟩ | ⟨hz, hno⟩
      · exact Or.inl ⟨j + 1, hj⟩
      · refine Or.inr ⟨hz, fun q hq => ?_⟩
        rcases List.mem_cons.mp hq with q1 | q1
        · rw [q1]; exact fun w => hv w.symm
        · exact hno q q1
def swk (a : Nat) : Bool := match (swt a).1 with
  | [] => false
  | (lo, _) :: _ => (List.range (swt a).1.length).all (fun j => decide (((swt a).1[j]?).map (fun q => q.1) = some (lo + (j : Int)))) && decide ((((swt a).1.getLast?.map (fun q => q.1)).getD 0) = lo + ((swt a).1.length : Int) - 1)
theorem swk_all : (List.range 13).all swk = true := by decide +kernel
theorem swt_ok (a : Nat) (ha : a ≤ 12) : ∃ lo : Int, 0 < (swt a).1.length ∧ (((swt a).1.head?.map (fun q => q.1)).getD 0) = lo ∧ (((swt a).1.getLast?.map (fun q => q.1)).getD 0) = lo + ((swt a).1.length : Int) - 1 ∧ ∀ (j : Nat) (q : Int × Nat), (swt a).1[j]? = some q → q.1 = lo + (j : Int) := by
  have h := List.all_eq_true.mp swk_all a (List.mem_range.mpr (by omega))
  unfold swk at h
  generalize hl : (swt a).1 = l0 at h ⊢
  cases l0 with
  | nil => exact absurd h (by simp)
  | cons q l0 =>
    obtain ⟨lo, t⟩ := q
    have h : ((List.range ((lo, t) :: l0).length).all (fun j => decide ((((lo, t) :: l0)[j]?).map (fun q => q.1) = some (lo + (j : Int)))) && decide (((((lo, t) :: l0).getLast?.map (fun q => q.1)).getD 0) = lo + (((lo, t) :: l0).length : Int) - 1)) = true := h
    rw [Bool.and_eq_true] at h
    refine ⟨lo, Nat.succ_pos _, rfl, of_decide_eq_true h.2, fun j q hq => ?_⟩
    have hj : j < ((lo, t) :: l0).length := (List.getElem?_eq_some_iff.mp hq).1
    have h3 := of_decide_eq_true (List.all_eq_true.mp h.1 j (List.mem_range.mpr hj))
    rw [hq] at h3
    exact Option.some.inj h3
section OPS
variable {p : Program} {l : Launch} {e : Env} {R : Room} {s : State} {m : MethodId} {args : Array Value} {below : List Frame} {meth : Method} {c0 : Code} {Q : State → Prop} {f : Nat} {A : Nat → Prop} {D : va_G} {cA : Nat → ClassId} {X : AdX} {n : Nat} {xs : Nat → Int32} {ad0 : Nat → Nat} {n0 z0 : Nat}
variable {ls st ls' st' : List V} {L : List Shp} {c : Nat → Int → Int} {M' : Mem} {pc a b : Nat} {x : Int}
theorem t_12 {r : (List V × List V × Mem) ⊕ (Nat × List V × List V × Mem) ⊕ (Nat × List V × List V × List V × Mem) ⊕ (Option V × Mem)} (C : CX p s m args meth c0 f A D cA X n xs) (hd : decode (mtb f).1 pc = .ok (raw pc (12, a, b, x))) (hl : lnk (mtb f).2.2.2.2 (mtb f).2.2.1 (mtb f).2.1.name (12, a, b, x) = true) (h0 : act (12, a, b, x) ls st (L, c) = some r) (hg : ∀ ls' st' M', r = .inl (ls', st', M') → WS p l e R s m args below meth c0 Q f A D cA X n xs ad0 n0 z0 (npc pc (12, a, b, x)) ls' st' M'.1 M'.2) (hj : ∀ p' ls' st' M', r = .inr (.inl (p', ls', st', M')) → WS p l e R s m args below meth c0 Q f A D cA X n xs ad0 n0 z0 p' ls' st' M'.1 M'.2) : WS p l e R s m args below meth c0 Q f A D cA X n xs ad0 n0 z0 pc ls st L c := by
  intro ad H locs lsM S
  obtain ⟨hx, hb, hml, hown, hts, hK, hST, hA, hr, hlk, hnm⟩ := C
  have h9 := pI_inv h0
  clear h0
  obtain ⟨y, t, rfl, h⟩ := h9
  have hy : In32 y := vok_hd S.stv
  have ht := vok_tl S.stv
  rcases a with _ | _ | _ | _ | _ | _ | a
  · have h : (if y = 0 then (some (.inr (.inl (b, ls, t, (L, c)))) : Act) else (some (.inl (ls, t, (L, c))) : Act)) = some r := h
    refine lv_if_eq (tgt := b) (off := (b : Int) - pc) hx hb hd (by omega) (fun q => ?_) (fun q => ?_)
    · have q2 : y = 0 := by
        exact (o32_inj hy in32_0).mp (q.trans o32_0.symm)
      rw [if_pos q2] at h
      cases h
      exact hj _ _ _ _ rfl ad H locs lsM (S.stk ht)
    · have q2 : ¬ y = 0 := by
        exact fun z => q ((congrArg Int32.ofInt z).trans o32_0)
      rw [if_neg q2] at h
      cases h
      exact hg _ _ _ rfl ad H locs lsM (S.stk ht)
  · have h : (if y = 0 then (some (.inl (ls, t, (L, c))) : Act) else (some (.inr (.inl (b, ls, t, (L, c)))) : Act)) = some r := h
    refine lv_if_ne (tgt := b) (off := (b : Int) - pc) hx hb hd (by omega) (fun q => ?_) (fun q => ?_)
    · have q2 : ¬ y = 0 := by
        exact fun z => q ((congrArg Int32.ofInt z).trans o32_0)
      rw [if_neg q2] at h
      cases h
      exact hj _ _ _ _ rfl ad H locs lsM (S.stk ht)
    · have q2 : y = 0 := by
        exact (o32_inj hy in32_0).mp (q.trans o32_0.symm)
      rw [if_pos q2] at h
      cases h
      exact hg _ _ _ rfl ad H locs lsM (S.stk ht)
  · have h : (if y < 0 then (some (.inr (.inl (b, ls, t, (L, c)))) : Act) else (some (.inl (ls, t, (L, c))) : Act)) = some r := h
    refine lv_if_lt (tgt := b) (off := (b : Int) - pc) hx hb hd (by omega) (fun q => ?_) (fun q => ?_)
    · have q2 : y < 0 := by
        rw [← o32_0] at q
        exact (o32_lt hy in32_0).mp q
      rw [if_pos q2] at h
      cases h
      exact hj _ _ _ _ rfl ad H locs lsM (S.stk ht)
    · have q2 : ¬ y < 0 := by
        rw [← o32_0] at q
        exact fun z => q ((o32_lt hy in32_0).mpr z)
      rw [if_neg q2] at h
      cases h
      exact hg _ _ _ rfl ad H locs lsM (S.stk ht)
  · have h : (if y < 0 then (some (.inl (ls, t, (L, c))) : Act) else (some (.inr (.inl (b, ls, t, (L, c)))) : Act)) = some r := h
    refine lv_if_ge (tgt := b) (off := (b : Int) - pc) hx hb hd (by omega) (fun q => ?_) (fun q => ?_)
    · have q2 : ¬ y < 0 := by
        rw [← o32_0] at q
        have q := (o32_le in32_0 hy).mp q
        omega
      rw [if_neg q2] at h
      cases h
      exact hj _ _ _ _ rfl ad H locs lsM (S.stk ht)
    · have q2 : y < 0 := by
        rw [← o32_0] at q
        have q : ¬ 0 ≤ y := fun z => q ((o32_le in32_0 hy).mpr z)
        omega
      rw [if_pos q2] at h
      cases h
      exact hg _ _ _ rfl ad H locs lsM (S.stk ht)
  · have h : (if 0 < y then (some (.inr (.inl (b, ls, t, (L, c)))) : Act) else (some (.inl (ls, t, (L, c))) : Act)) = some r := h
    refine lv_if_gt (tgt := b) (off := (b : Int) - pc) hx hb hd (by omega) (fun q => ?_) (fun q => ?_)
    · have q2 : 0 < y := by
        rw [← o32_0] at q
        exact (o32_lt in32_0 hy).mp q
      rw [if_pos q2] at h
      cases h
      exact hj _ _ _ _ rfl ad H locs lsM (S.stk ht)
    · have q2 : ¬ 0 < y := by
        rw [← o32_0] at q
        exact fun z => q ((o32_lt in32_0 hy).mpr z)
      rw [if_neg q2] at h
      cases h
      exact hg _ _ _ rfl ad H locs lsM (S.stk ht)
  · have h : (if 0 < y then (some (.inl (ls, t, (L, c))) : Act) else (some (.inr (.inl (b, ls, t, (L, c)))) : Act)) = some r := h
    refine lv_if_le (tgt := b) (off := (b : Int) - pc) hx hb hd (by omega) (fun q => ?_) (fun q => ?_)
    · have q2 : ¬ 0 < y := by
        rw [← o32_0] at q
        have q := (o32_le hy in32_0).mp q
        omega
      rw [if_neg q2] at h
      cases h
      exact hj _ _ _ _ rfl ad H locs lsM (S.stk ht)
    · have q2 : 0 < y := by
        rw [← o32_0] at q
        have q : ¬ y ≤ 0 := fun z => q ((o32_le hy in32_0).mpr z)
        omega
      rw [if_pos q2] at h
      cases h
      exact hg _ _ _ rfl ad H locs lsM (S.stk ht)
  · have : Nat.ble (a + 6) 5 = true := hl
    exact absurd (Nat.le_of_ble_eq_true this) (by omega)
theorem t_13 {r : (List V × List V × Mem) ⊕ (Nat × List V × List V × Mem) ⊕ (Nat × List V × List V × List V × Mem) ⊕ (Option V × Mem)} (C : CX p s m args meth c0 f A D cA X n xs) (hd : decode (mtb f).1 pc = .ok (raw pc (13, a, b, x))) (hl : lnk (mtb f).2.2.2.2 (mtb f).2.2.1 (mtb f).2.1.name (13, a, b, x) = true) (h0 : act (13, a, b, x) ls st (L, c) = some r) (hg : ∀ ls' st' M', r = .inl (ls', st', M') → WS p l e R s m args below meth c0 Q f A D cA X n xs ad0 n0 z0 (npc pc (13, a, b, x)) ls' st' M'.1 M'.2) (hj : ∀ p' ls' st' M', r = .inr (.inl (p', ls', st', M')) → WS p l e R s m args below meth c0 Q f A D cA X n xs ad0 n0 z0 p' ls' st' M'.1 M'.2) : WS p l e R s m args below meth c0 Q f A D cA X n xs ad0 n0 z0 pc ls st L c := by
  intro ad H locs lsM S
  obtain ⟨hx, hb, hml, hown, hts, hK, hST, hA, hr, hlk, hnm⟩ := C
  have h9 := pI_inv h0
  clear h0
  obtain ⟨w, t, rfl, h⟩ := h9
  have h9 := pI_inv h
  clear h
  obtain ⟨y, t, rfl, h⟩ := h9
  have hw : In32 w := vok_hd S.stv
  have hy : In32 y := vok_hd (vok_tl S.stv)
  have ht := vok_tl (vok_tl S.stv)
  rcases a with _ | _ | _ | _ | _ | _ | a
  · have h : (if y = w then (some (.inr (.inl (b, ls, t, (L, c)))) : Act) else (some (.inl (ls, t, (L, c))) : Act)) = some r := h
    refine lv_icmp_eq (tgt := b) (off := (b : Int) - pc) hx hb hd (by omega) (fun q => ?_) (fun q => ?_)
    · have q2 : y = w := by
        exact (o32_inj hy hw).mp q
      rw [if_pos q2] at h
      cases h
      exact hj _ _ _ _ rfl ad H locs lsM (S.stk ht)
    · have q2 : ¬ y = w := by
        exact fun z => q ((o32_inj hy hw).mpr z)
      rw [if_neg q2] at h
      cases h
      exact hg _ _ _ rfl ad H locs lsM (S.stk ht)
  · have h : (if y = w then (some (.inl (ls, t, (L, c))) : Act) else (some (.inr (.inl (b, ls, t, (L, c)))) : Act)) = some r := h
    refine lv_icmp_ne (tgt := b) (off := (b : Int) - pc) hx hb hd (by omega) (fun q => ?_) (fun q => ?_)
    · have q2 : ¬ y = w := by
        exact fun z => q ((o32_inj hy hw).mpr z)
      rw [if_neg q2] at h
      cases h
      exact hj _ _ _ _ rfl ad H locs lsM (S.stk ht)
    · have q2 : y = w := by
        exact (o32_inj hy hw).mp q
      rw [if_pos q2] at h
      cases h
      exact hg _ _ _ rfl ad H locs lsM (S.stk ht)
  · have h : (if y < w then (some (.inr (.inl (b, ls, t, (L, c)))) : Act) else (some (.inl (ls, t, (L, c))) : Act)) = some r := h
    refine lv_icmp_lt (tgt := b) (off := (b : Int) - pc) hx hb hd (by omega) (fun q => ?_) (fun q => ?_)
    · have q2 : y < w := by
        exact (o32_lt hy hw).mp q
      rw [if_pos q2] at h
      cases h
      exact hj _ _ _ _ rfl ad H locs lsM (S.stk ht)
    · have q2 : ¬ y < w := by
        exact fun z => q ((o32_lt hy hw).mpr z)
      rw [if_neg q2] at h
      cases h
      exact hg _ _ _ rfl ad H locs lsM (S.stk ht)
  · have h : (if y < w then (some (.inl (ls, t, (L, c))) : Act) else (some (.inr (.inl (b, ls, t, (L, c)))) : Act)) = some r := h
    refine lv_icmp_ge (tgt := b) (off := (b : Int) - pc) hx hb hd (by omega) (fun q => ?_) (fun q => ?_)
    · have q2 : ¬ y < w := by
        have q := (o32_le hw hy).mp q
        omega
      rw [if_neg q2] at h
      cases h
      exact hj _ _ _ _ rfl ad H locs lsM (S.stk ht)
    · have q2 : y < w := by
        have q : ¬ w ≤ y := fun z => q ((o32_le hw hy).mpr z)
        omega
      rw [if_pos q2] at h
      cases h
      exact hg _ _ _ rfl ad H locs lsM (S.stk ht)
  · have h : (if w < y then (some (.inr (.inl (b, ls, t, (L, c)))) : Act) else (some (.inl (ls, t, (L, c))) : Act)) = some r := h
    refine lv_icmp_gt (tgt := b) (off := (b : Int) - pc) hx hb hd (by omega) (fun q => ?_) (fun q => ?_)
    · have q2 : w < y := by
        exact (o32_lt hw hy).mp q
      rw [if_pos q2] at h
      cases h
      exact hj _ _ _ _ rfl ad H locs lsM (S.stk ht)
    · have q2 : ¬ w < y := by
        exact fun z => q ((o32_lt hw hy).mpr z)
      rw [if_neg q2] at h
      cases h
      exact hg _ _ _ rfl ad H locs lsM (S.stk ht)
  · have h : (if w < y then (some (.inl (ls, t, (L, c))) : Act) else (some (.inr (.inl (b, ls, t, (L, c)))) : Act)) = some r := h
    refine lv_icmp_le (tgt := b) (off := (b : Int) - pc) hx hb hd (by omega) (fun q => ?_) (fun q => ?_)
    · have q2 : ¬ w < y := by
        have q := (o32_le hy hw).mp q
        omega
      rw [if_neg q2] at h
      cases h
      exact hj _ _ _ _ rfl ad H locs lsM (S.stk ht)
    · have q2 : w < y := by
        have q : ¬ y ≤ w := fun z => q ((o32_le hy hw).mpr z)
        omega
      rw [if_pos q2] at h
      cases h
      exact hg _ _ _ rfl ad H locs lsM (S.stk ht)
  · have : Nat.ble (a + 6) 5 = true := hl
    exact absurd (Nat.le_of_ble_eq_true this) (by omega)
theorem t_14 {r : (List V × List V × Mem) ⊕ (Nat × List V × List V × Mem) ⊕ (Nat × List V × List V × List V × Mem) ⊕ (Option V × Mem)} (C : CX p s m args meth c0 f A D cA X n xs) (hd : decode (mtb f).1 pc = .ok (raw pc (14, a, b, x))) (hl : lnk (mtb f).2.2.2.2 (mtb f).2.2.1 (mtb f).2.1.name (14, a, b, x) = true) (h0 : act (14, a, b, x) ls st (L, c) = some r) (hg : ∀ ls' st' M', r = .inl (ls', st', M') → WS p l e R s m args below meth c0 Q f A D cA X n xs ad0 n0 z0 (npc pc (14, a, b, x)) ls' st' M'.1 M'.2) (hj : ∀ p' ls' st' M', r = .inr (.inl (p', ls', st', M')) → WS p l e R s m args below meth c0 Q f A D cA X n xs ad0 n0 z0 p' ls' st' M'.1 M'.2) : WS p l e R s m args below meth c0 Q f A D cA X n xs ad0 n0 z0 pc ls st L c := by
  intro ad H locs lsM S
  obtain ⟨hx, hb, hml, hown, hts, hK, hST, hA, hr, hlk, hnm⟩ := C
  have h9 := pR_inv h0
  clear h0
  obtain ⟨y, t, rfl, h⟩ := h9
  have ht := vok_tl S.stv
  have h8 : (if y = 0 then (some (.inl (ls, t, (L, c))) : Act) else pD none L y (fun _ _ => some (.inr (.inl (b, ls, t, (L, c)))))) = some r := h
  clear h
  have h := h8
  clear h8
  by_cases q : y = 0
  · rw [if_pos q] at h
    cases h
    subst q
    exact lv_ifnonnullN hx hb hd (hg _ _ _ rfl ad H locs lsM (S.stk ht))
  · rw [if_neg q] at h
    have h9 := pD_inv h
    clear h
    obtain ⟨k, sh, hk0, rfl, h⟩ := h9
    cases h
    exact lv_ifnonnull (tgt := b) (off := (b : Int) - pc) hx hb hd (by omega) (hj _ _ _ _ rfl ad H locs lsM (S.stk ht))
theorem t_17 {r : (List V × List V × Mem) ⊕ (Nat × List V × List V × Mem) ⊕ (Nat × List V × List V × List V × Mem) ⊕ (Option V × Mem)} (C : CX p s m args meth c0 f A D cA X n xs) (hd : decode (mtb f).1 pc = .ok (raw pc (17, a, b, x))) (hl : lnk (mtb f).2.2.2.2 (mtb f).2.2.1 (mtb f).2.1.name (17, a, b, x) = true) (h0 : act (17, a, b, x) ls st (L, c) = some r) (hg : ∀ ls' st' M', r = .inl (ls', st', M') → WS p l e R s m args below meth c0 Q f A D cA X n xs ad0 n0 z0 (npc pc (17, a, b, x)) ls' st' M'.1 M'.2) (hj : ∀ p' ls' st' M', r = .inr (.inl (p', ls', st', M')) → WS p l e R s m args below meth c0 Q f A D cA X n xs ad0 n0 z0 p' ls' st' M'.1 M'.2) : WS p l e R s m args below meth c0 Q f A D cA X n xs ad0 n0 z0 pc ls st L c := by
  intro ad H locs lsM S
  obtain ⟨hx, hb, hml, hown, hts, hK, hST, hA, hr, hlk, hnm⟩ := C
  have h9 := pI_inv h0
  clear h0
  obtain ⟨y, t, rfl, h⟩ := h9
  have hy : In32 y := vok_hd S.stv
  have ht := vok_tl S.stv
  have h : swc y (fun t' => (some (.inr (.inl (t', ls, t, (L, c)))) : Act)) (swt a).2 (swt a).1 = some r := h
  have h9 := swc_inv h
  clear h
  obtain ⟨z, hz, h⟩ := h9
  cases h
  have ha12 : a ≤ 12 := Nat.le_of_ble_eq_true hl
  obtain ⟨lo, hlen, hlo, hhi, hall⟩ := swt_ok a ha12
  have K := hj _ _ _ _ rfl ad H locs lsM (S.stk ht)
  have hd : decode (mtb f).1 pc = .ok (.tableswitch (((swt a).2 : Int) - pc) (((swt a).1.head?.map (fun q => q.1)).getD 0) (((swt a).1.getLast?.map (fun q => q.1)).getD 0) (((swt a).1.map (fun q => (q.2 : Int) - pc)).toArray), x.toNat) := hd
  rw [hlo, hhi] at hd
  rcases hz with ⟨j, hj2⟩ | ⟨hz, hno⟩
  · have hq := hall j _ hj2
    have hq : y = lo + (j : Int) := hq
    have hjl : j < (swt a).1.length := (List.getElem?_eq_some_iff.mp hj2).1
    refine lv_tableIn (tgt := z) (off := (z : Int) - pc) hx hb hd (by rw [t32 hy]; omega) (by rw [t32 hy]; omega) ?_ (by omega) K
    rw [t32 hy]
    have : (y - lo).toNat = j := by omega
    rw [this, List.getElem?_toArray, List.getElem?_map, hj2]
    rfl
  · subst hz
    refine lv_tableOut (tgt := (swt a).2) hx hb hd ?_ (by omega) K
    rw [t32 hy]
    by_cases q1 : y < lo
    · exact Or.inl q1
    · right
      have hlt : ¬ y ≤ lo + ((swt a).1.length : Int) - 1 := by
        intro q2
        have hjl : (y - lo).toNat < (swt a).1.length := by omega
        have e9 := hall (y - lo).toNat _ (List.getElem?_eq_getElem hjl)
        exact hno _ (List.getElem_mem hjl) (by rw [e9]; omega)
      omega
end OPS
end
section
/-! SOUNDNESS, 5: memory only grows (own work) -/
def GR (M M' : Mem) : Prop := M.1.length ≤ M'.1.length ∧ slz M.1 ≤ slz M'.1
theorem GR.rf {M : Mem} : GR M M := ⟨Nat.le_refl _, Nat.le_refl _⟩
theorem GR.tr {M M' M2 : Mem} (h : GR M M') (h2 : GR M' M2) : GR M M2 := ⟨Nat.le_trans h.1 h2.1, Nat.le_trans h.2 h2.2⟩
section RELG
variable {α β : Type} {Rl : α → β → Prop} {Z : α} {Z' : β}
theorem rl_pDG {L : List Shp} {r : Int} {f : Nat → Shp → α} {g : Nat → Shp → β} (hZ : Rl Z Z') (h : ∀ x t, L[x]? = some t → Rl (f x t) (g x t)) : Rl (pD Z L r f) (pD Z' L r g) := by
  unfold pD
  cases hd : drf L r with
  | none => exact hZ
  | some q => exact h _ _ (drf_inv hd).2
set_option maxHeartbeats 4000000 in
theorem stp_relG {J : Nat → List V → List V → Mem → α} {C : Nat → List V → List V → List V → Mem → α} {R : Option V → Mem → α} {k : List V → List V → Mem → α} {J' : Nat → List V → List V → Mem → β} {C' : Nat → List V → List V → List V → Mem → β} {R' : Option V → Mem → β} {k' : List V → List V → Mem → β} (M : Mem)
    (hZ : Rl Z Z') (hJ : ∀ p a b, Rl (J p a b M) (J' p a b M)) (hC : ∀ f a b c, Rl (C f a b c M) (C' f a b c M)) (hR : ∀ v, Rl (R v M) (R' v M)) (hk : ∀ a b M', GR M M' → Rl (k a b M') (k' a b M')) (i : Ins) (ls st : List V) : Rl (stp Z J C R k i ls st M) (stp Z' J' C' R' k' i ls st M) := by
  obtain ⟨op, a, b, x⟩ := i
  unfold stp
  dsimp only
  split
  · exact hk _ _ _ ⟨Nat.le_refl _, Nat.le_refl _⟩
  · exact hk _ _ _ ⟨Nat.le_refl _, Nat.le_refl _⟩
  · exact hk _ _ _ ⟨Nat.le_refl _, Nat.le_refl _⟩
  · exact rl_el hZ fun _ => rl_bif hZ (hk _ _ _ ⟨Nat.le_refl _, Nat.le_refl _⟩)
  · exact rl_pV hZ fun _ _ => rl_bif hZ (hk _ _ _ ⟨Nat.le_refl _, Nat.le_refl _⟩)
  · exact rl_pI hZ fun _ _ => hk _ _ _ ⟨Nat.le_refl _, Nat.le_refl _⟩
  · exact rl_pI hZ fun _ _ => rl_pI hZ fun _ _ => hk _ _ _ ⟨Nat.le_refl _, Nat.le_refl _⟩
  · exact rl_pI hZ fun _ _ => hk _ _ _ ⟨Nat.le_refl _, Nat.le_refl _⟩
  · exact rl_pL hZ fun _ _ => rl_pL hZ fun _ _ => hk _ _ _ ⟨Nat.le_refl _, Nat.le_refl _⟩
  · exact rl_pL hZ fun _ _ => rl_pL hZ fun _ _ => rl_if2 _ (hk _ _ _ ⟨Nat.le_refl _, Nat.le_refl _⟩) (rl_if2 _ (hk _ _ _ ⟨Nat.le_refl _, Nat.le_refl _⟩) (hk _ _ _ ⟨Nat.le_refl _, Nat.le_refl _⟩))
  · exact rl_pI hZ fun _ _ => hk _ _ _ ⟨Nat.le_refl _, Nat.le_refl _⟩
  · exact rl_pV hZ fun _ _ => rl_bif hZ (hk _ _ _ ⟨Nat.le_refl _, Nat.le_refl _⟩)
  · exact rl_pI hZ fun _ _ => rl_cnd (hJ _ _ _) (hk _ _ _ ⟨Nat.le_refl _, Nat.le_refl _⟩)
  · exact rl_pI hZ fun _ _ => rl_pI hZ fun _ _ => rl_cnd (hJ _ _ _) (hk _ _ _ ⟨Nat.le_refl _, Nat.le_refl _⟩)
  · exact rl_pR hZ fun _ _ => rl_if2 _ (hk _ _ _ ⟨Nat.le_refl _, Nat.le_refl _⟩) (rl_pD hZ fun _ _ => hJ _ _ _)
  · exact hk _ _ _ ⟨Nat.le_refl _, Nat.le_refl _⟩
  · exact hJ _ _ _
  · exact rl_pI hZ fun _ _ => rl_swc (fun _ => hJ _ _ _) _
  · exact rl_pR hZ fun _ _ => rl_pD hZ fun _ _ => rl_bif hZ (hk _ _ _ ⟨Nat.le_refl _, Nat.le_refl _⟩)
  · exact rl_pR hZ fun _ _ => rl_pD hZ fun _ _ => rl_bif hZ (hk _ _ _ ⟨Nat.le_refl _, Nat.le_refl _⟩)
  · exact rl_pR hZ fun _ _ => rl_pD hZ fun _ _ => rl_bif hZ (hk _ _ _ ⟨Nat.le_refl _, Nat.le_refl _⟩)
  · exact rl_pR hZ fun _ _ => rl_pD hZ fun _ _ => rl_bif hZ (hk _ _ _ ⟨Nat.le_refl _, Nat.le_refl _⟩)
  · exact rl_pI hZ fun _ _ => rl_pR hZ fun _ _ => rl_pD hZ fun _ _ => rl_bif hZ (hk _ _ _ ⟨Nat.le_refl _, Nat.le_refl _⟩)
  · exact rl_pL hZ fun _ _ => rl_pR hZ fun _ _ => rl_pD hZ fun _ _ => rl_bif hZ (hk _ _ _ ⟨Nat.le_refl _, Nat.le_refl _⟩)
  · exact rl_pI hZ fun _ _ => rl_pR hZ fun _ _ => rl_pD hZ fun _ _ => rl_bif hZ (rl_if _ hZ (hk _ _ _ ⟨Nat.le_refl _, Nat.le_refl _⟩))
  · exact rl_pR hZ fun _ _ => rl_pR hZ fun _ _ => rl_pDG hZ fun _ _ hs => rl_bif hZ (rl_pD hZ fun _ _ => hk _ _ _ ⟨Nat.le_of_eq List.length_set.symm, (by show slz M.1 ≤ slz (M.1.set _ _); rw [slz_set hs] <;> first | exact Nat.le_refl _ | rfl)⟩)
  · exact rl_pI hZ fun _ _ => rl_pR hZ fun _ _ => rl_pD hZ fun _ _ => rl_bif hZ (rl_if _ hZ (hk _ _ _ ⟨Nat.le_refl _, Nat.le_refl _⟩))
  · exact rl_pI hZ fun _ _ => rl_pI hZ fun _ _ => rl_pR hZ fun _ _ => rl_pD hZ fun _ _ => rl_bif hZ (rl_if _ hZ (hk _ _ _ ⟨Nat.le_refl _, Nat.le_refl _⟩))
  · exact rl_pR hZ fun _ _ => rl_pD hZ fun _ _ => rl_bif hZ (hk _ _ _ ⟨Nat.le_refl _, Nat.le_refl _⟩)
  · exact rl_pI hZ fun _ _ => rl_pR hZ fun _ _ => rl_if _ hZ (rl_if _ hZ (hk _ _ _ ⟨Nat.le_refl _, Nat.le_refl _⟩))
  · exact rl_pR hZ fun _ _ => rl_if _ hZ (hk _ _ _ ⟨Nat.le_refl _, Nat.le_refl _⟩)
  · exact rl_pR hZ fun _ _ => rl_el hZ fun _ => hk _ _ _ ⟨Nat.le_refl _, Nat.le_refl _⟩
  · exact rl_pR hZ fun _ _ => rl_el hZ fun _ => hk _ _ _ ⟨Nat.le_refl _, Nat.le_refl _⟩
  · exact rl_pI hZ fun _ _ => rl_pR hZ fun _ _ => rl_el hZ fun _ => rl_if _ hZ (hk _ _ _ ⟨Nat.le_refl _, Nat.le_refl _⟩)
  · exact rl_pR hZ fun _ _ => rl_el hZ fun _ => hk _ _ _ ⟨Nat.le_refl _, Nat.le_refl _⟩
  · exact hk _ _ _ ⟨Nat.le_refl _, Nat.le_refl _⟩
  · exact hk _ _ _ ⟨by rw [List.length_append]; omega, by rw [slz_app]; omega⟩
  · exact rl_pI hZ fun _ _ => rl_if _ hZ (hk _ _ _ ⟨by rw [List.length_append]; omega, by rw [slz_app]; omega⟩)
  · exact rl_pI hZ fun _ _ => rl_if _ hZ (hk _ _ _ ⟨by rw [List.length_append]; omega, by rw [slz_app]; omega⟩)
  · exact rl_bif hZ (rl_rcv hZ (hC _ _ _ _))
  · exact rl_pR hZ fun _ _ => rl_pD hZ fun _ _ => rl_bif hZ (hk _ _ _ ⟨Nat.le_refl _, Nat.le_refl _⟩)
  · exact rl_pI hZ fun _ _ => rl_pI hZ fun _ _ => rl_pR hZ fun _ _ => rl_pI hZ fun _ _ => rl_pR hZ fun _ _ => rl_pD hZ fun _ _ => rl_pD hZ fun _ _ => rl_bif hZ (rl_if _ hZ (hk _ _ _ ⟨Nat.le_refl _, Nat.le_refl _⟩))
  · exact rl_pE hZ (hR _)
  · exact rl_pI hZ fun _ _ => rl_pI hZ fun _ _ => rl_if2 _ hZ (hk _ _ _ ⟨Nat.le_refl _, Nat.le_refl _⟩)
  · exact rl_pI hZ fun _ _ => rl_pI hZ fun _ _ => rl_if2 _ hZ (hk _ _ _ ⟨Nat.le_refl _, Nat.le_refl _⟩)
  · exact rl_pL hZ fun _ _ => rl_pL hZ fun _ _ => rl_if2 _ hZ (hk _ _ _ ⟨Nat.le_refl _, Nat.le_refl _⟩)
  · exact rl_pL hZ fun _ _ => rl_pL hZ fun _ _ => rl_if2 _ hZ (hk _ _ _ ⟨Nat.le_refl _, Nat.le_refl _⟩)
  · exact hk _ _ _ ⟨Nat.le_refl _, Nat.le_refl _⟩
  · exact rl_pL hZ fun _ _ => hk _ _ _ ⟨Nat.le_refl _, Nat.le_refl _⟩
  · exact rl_pI hZ fun _ _ => rl_if _ hZ (hk _ _ _ ⟨Nat.le_refl _, Nat.le_refl _⟩)
  · exact rl_pV hZ fun _ _ => rl_pV hZ fun _ _ => rl_bif hZ (hk _ _ _ ⟨Nat.le_refl _, Nat.le_refl _⟩)
  · exact rl_pV hZ fun _ _ => rl_bif hZ (hk _ _ _ ⟨Nat.le_refl _, Nat.le_refl _⟩)
  · exact rl_pL hZ fun _ _ => rl_pI hZ fun _ _ => rl_pR hZ fun _ _ => rl_pD hZ fun _ _ => rl_bif hZ (rl_if _ hZ (hk _ _ _ ⟨Nat.le_refl _, Nat.le_refl _⟩))
  · exact rl_pI hZ fun _ _ => rl_pI hZ fun _ _ => rl_pR hZ fun _ _ => rl_pD hZ fun _ _ => rl_bif hZ (rl_if _ hZ (rl_if _ hZ (hk _ _ _ ⟨Nat.le_refl _, Nat.le_refl _⟩)))
  · exact rl_pR hZ fun _ _ => rl_pI hZ fun _ _ => rl_pR hZ fun _ _ => rl_pD hZ fun _ _ => rl_bif hZ (rl_if _ hZ (rl_pD hZ fun _ _ => rl_bif hZ (hk _ _ _ ⟨Nat.le_refl _, Nat.le_refl _⟩)))
  · exact rl_pI hZ fun _ _ => rl_pE hZ (hR _)
  · exact rl_pL hZ fun _ _ => rl_pE hZ (hR _)
  · exact rl_pR hZ fun _ _ => rl_pE hZ (hR _)
  · exact rl_pI hZ fun _ _ => rl_pE hZ (rl_if _ hZ (hR _))
  · exact rl_pI hZ fun _ _ => rl_pE hZ (rl_if _ hZ (hR _))
  · exact rl_pI hZ fun _ _ => rl_pE hZ (rl_if _ hZ (hR _))
  · exact hk _ _ _ ⟨Nat.le_refl _, Nat.le_refl _⟩
  · exact rl_pI hZ fun _ _ => rl_bif hZ (hk _ _ _ ⟨Nat.le_refl _, Nat.le_refl _⟩)
  · exact rl_pI hZ fun _ _ => rl_pI hZ fun _ _ => rl_bif hZ (hk _ _ _ ⟨Nat.le_refl _, Nat.le_refl _⟩)
  · exact rl_pI hZ fun _ _ => rl_pI hZ fun _ _ => rl_bif hZ (hk _ _ _ ⟨Nat.le_refl _, Nat.le_refl _⟩)
  · exact hZ
end RELG
/-- an instruction that goes on only adds cells; all others leave the memory -/
def AG (M : Mem) (r : (List V × List V × Mem) ⊕ (Nat × List V × List V × Mem) ⊕ (Nat × List V × List V × List V × Mem) ⊕ (Option V × Mem)) : Prop := match r with
  | .inl (_, _, M') => GR M M'
  | .inr (.inl (_, _, _, M')) => M' = M
  | .inr (.inr (.inl (_, _, _, _, M'))) => M' = M
  | .inr (.inr (.inr (_, M'))) => M' = M
theorem act_grow (i : Ins) (ls st : List V) (M : Mem) : ∀ r, act i ls st M = some r → AG M r := by
  have h := stp_relG (α := Act) (β := Unit) (Rl := fun a _ => ∀ r, a = some r → AG M r) (Z := none) (Z' := ()) (J := fun p a b M => some (.inr (.inl (p, a, b, M)))) (C := fun f a b c M => some (.inr (.inr (.inl (f, a, b, c, M))))) (R := fun v M => some (.inr (.inr (.inr (v, M))))) (k := fun a b M => some (.inl (a, b, M))) (J' := fun _ _ _ _ => ()) (C' := fun _ _ _ _ _ => ()) (R' := fun _ _ => ()) (k' := fun _ _ _ => ()) M (fun r h => by cases h) (fun p a b r h => by cases h; rfl) (fun f a b c r h => by cases h; rfl) (fun v r h => by cases h; rfl) (fun a b M' hg r h => by cases h; exact hg) i ls st
  exact h
theorem runL_grow {J : Nat → List V → List V → Mem → Res} {C : Nat → List V → Mem → Res} (hJ : ∀ p a b M R, J p a b M = some R → GR M R.2) (hC : ∀ f a M R, C f a M = some R → GR M R.2) :
    ∀ (l : List Ins) (ls st : List V) (M : Mem) (R : Option V × Mem), runL J C l ls st M = some R → GR M R.2 := by
  intro l
  induction l with
  | nil => intro ls st M R h; exact absurd h (by simp [runL])
  | cons i l ih =>
    intro ls st M R h
    rw [runL_act] at h
    have hg := act_grow i ls st M
    generalize act i ls st M = ac at h hg
    rcases ac with _ | ⟨⟨a, b, M1⟩ | ⟨p, a, b, M1⟩ | ⟨f, a, b, c, M1⟩ | ⟨v, M1⟩⟩
    · exact absurd h (by simp [elA])
    · exact (show GR M M1 from hg _ rfl).tr (ih a b M1 R h)
    · have e : M1 = M := hg _ rfl
      subst e
      exact hJ p a b M1 R h
    · have e : M1 = M := hg _ rfl
      subst e
      obtain ⟨q, h1, h2⟩ := el_inv (show (C f a M1).elim none (fun q => runL J C l b (pu q.1 c) q.2) = some R from h)
      exact (hC f a M1 q h1).tr (ih b _ _ R h2)
    · have e : M1 = M := hg _ rfl
      subst e
      have h : (some (v, M1) : Res) = some R := h
      cases h
      exact GR.rf
theorem run_grow : ∀ (n m nd pc : Nat) (ls st : List V) (M : Mem) (R : Option V × Mem), run n m nd pc ls st M = some R → GR M R.2 := by
  intro n
  induction n with
  | zero => intro m nd pc ls st M R h; exact absurd h (by simp [run])
  | succ n ih =>
    intro m nd pc ls st M R h
    refine runL_grow (fun p a b M R h => ih _ _ _ _ _ _ _ h) (fun f a M R h => ?_) _ _ _ _ _ (show runL (fun pc' ls' st' M' => run n m nd pc' (msk (blk m pc').1 ls') st' M') (fun f args M' => bif Nat.ble (need f args + 1) nd then run n f (need f args) 0 (mkl (inf f).1 args) [] M' else none) (blk m pc).2 ls st M = some R from h)
    exact ih _ _ _ _ _ _ _ (bif_inv h).2
end
section
/-! SOUNDNESS, 6: calls, and the whole of it: what the interpreter answers, the machine answers (own work) -/
def wsM (f : Nat) : List Cond := Cond.code (mtb f).2.1 (mtb f).1 (inf f).1 (mtb f).2.2.1 :: TB
abbrev rmM (nd mc ms : Nat) : Room := { frames := nd, cells := mc, slots := ms, locals := nd * 100 }
def PcM (D : va_G) (cA : Nat → ClassId) (X : AdX) (n : Nat) (xs : Nat → Int32) (ad0 : Nat → Nat) (sz : Nat) (av : List V) (L : List Shp) (c : Nat → Int → Int) : Array Value → State → Prop :=
  va_Pc (av.map (mv ad0 X)) (fun U => U.heap.size = sz ∧ va_P D vwCl (wsl ad0 X cA L c) U.heap ∧ va_K D vwCl (tysOf cA) U ∧ va_D (fun _ => True) (wsl ad0 X cA L c) ∧ STR (va_A (wsl ad0 X cA L c) sz) X n xs U)
def QcM (D : va_G) (cA : Nat → ClassId) (X : AdX) (n : Nat) (xs : Nat → Int32) (ad0 : Nat → Nat) (sz : Nat) (L : List Shp) (c : Nat → Int → Int) (R : Option V × Mem) : Array Value → State → Outcome → State → Prop :=
  fun _ st oc t => (∃ ad' : Nat → Nat, oc = .returned (R.1.map (mv ad' X)) ∧ (∀ k, k < L.length → ad' k = ad0 k) ∧ va_P D vwCl (wsl ad' X cA R.2.1 R.2.2) t.heap ∧ va_D (va_A (wsl ad0 X cA L c) sz) (wsl ad' X cA R.2.1 R.2.2) ∧ mok R.2.1 R.2.2 ∧ SCR n xs R.2.2 ∧ ∀ v, R.1 = some v → vok R.2.1.length v) ∧ va_F (va_A (wsl ad0 X cA L c) sz) st t
/-- the contract of one call: what it answers is what the interpreter answers -/
def CTR (f nd : Nat) (av : List V) (L : List Shp) (c : Nat → Int → Int) (R : Option V × Mem) : Prop :=
  ∀ (l : Launch) (D : va_G) (cA : Nat → ClassId) (X : AdX) (n : Nat) (xs : Nat → Int32) (ad0 : Nat → Nat) (sz : Nat), mok L c → SCR n xs c → (∀ v ∈ av, vok L.length v) → R.2.1.length ≤ 1000000 →
    Met l (mtb f).2.1 (wsM f) (rmM nd (R.2.1.length - L.length) (slz R.2.1 - slz L)) (PcM D cA X n xs ad0 sz av L c) (QcM D cA X n xs ad0 sz L c R) (R.2.1.length - L.length) (slz R.2.1 - slz L) (va_A (wsl ad0 X cA L c) sz)
theorem STR.go {A A' : Nat → Prop} {X : AdX} {n : Nat} {xs : Nat → Int32} {s U : State} {H : Heap} {locs : List Loc} (h : STR A X n xs s) (hS : va_S A s.heap H locs) (hA : ∀ q, A' q → A q) (hU : U.heap = H) (hW : s.WarmedH U.vm) : STR A' X n xs U := by
  obtain ⟨h1, h2, h3, h4, h5, h6, h7, h8, h9, h10, h11⟩ := h
  subst hU
  have hal := hW.alike
  refine ⟨((h1.kept hS.2.1).narrow hA).moved hal, fun q hq => (h2 q hq).warm hW, ((h3.kept hS.2.1).narrow hA).moved hal, ((h4.kept hS.2.1).narrow hA).moved hal, (h5.kept (hS.2.1 _ h6 h7)).moved hal, Nat.lt_of_lt_of_le h6 hS.1, fun z => h7 (hA _ z), h8, h9.moved hal, h10.moved hal, fun w idx y hw => (h11 w idx y hw).warmM hW⟩
theorem STR.blind {A : Nat → Prop} {X : AdX} {n : Nat} {xs : Nat → Int32} {U : State} (g : JFrame) (mk : MethodId) (a : Array Value) (h : STR A X n xs U) : STR A X n xs (U.calling g mk a) := by
  obtain ⟨h1, h2, h3, h4, h5, h6, h7, h8, h9, h10, h11⟩ := h
  have hal : U.vm.Alike (U.calling g mk a).vm := Vm.Alike.refl U.vm
  exact ⟨h1.moved hal, fun q hq => vk_R.same (u := U) rfl (h2 q hq), h3.moved hal, h4.moved hal, h5.moved hal, h6, h7, h8, h9.moved hal, h10.moved hal, fun w idx y hw => va_Nw.same rfl rfl (h11 w idx y hw)⟩
section CALL
variable {p : Program} {l : Launch} {e : Env} {R : Room} {s : State} {m : MethodId} {args : Array Value} {below : List Frame} {meth : Method} {c0 : Code} {Q : State → Prop} {f : Nat} {A : Nat → Prop} {D : va_G} {cA : Nat → ClassId} {X : AdX} {n : Nat} {xs : Nat → Int32} {ad0 : Nat → Nat} {n0 z0 : Nat}
variable {ls st ls' st' : List V} {L : List Shp} {c : Nat → Int → Int} {pc a b : Nat} {x : Int}
theorem va_callG {H : Heap} {locs : List Loc} {cells slots mc ms : Nat} {lsM : Array Slot} {st0 rest : List Value} {Qa : State → Outcome → State → Prop} {free : Addr → Prop} (hr : va_Run p l e R s m args below meth c0 H locs cells slots mc ms (F0 m pc lsM st0) rest Qa free)
    (kk : ∀ (v : Option Value) (st₀ t : State) (L1 : List Loc), st₀.heap = H → Qa st₀ (.returned v) t → (∀ q ∈ L1, free q.base) → W p l e R s m args below meth c0 t.heap (locs ++ L1) (cells + mc) (slots + ms) Q (F0 m (pc + 3) lsM (v.toList ++ rest))) : W p l e R s m args below meth c0 H locs cells slots Q (F0 m pc lsM st0) := by
  intro T hT X1
  obtain ⟨v, st₀, t, T', L1, h0, X', hL, e1, e2, hq, st⟩ := hr T hT X1
  obtain ⟨t2, a1, b1⟩ := kk v st₀ t L1 h0 hq hL T' e1 X'
  exact ⟨t2, st t2 a1, b1⟩
theorem PcM.blind {sz : Nat} {av : List V} : FrameBlind (PcM D cA X n xs ad0 sz av L c) := by
  intro a U g mk h
  obtain ⟨h1, h2, h3, h4, h5, h6⟩ := h
  exact ⟨h1, h2, h3, va_K.moved (u := U) (U := U.calling g mk a) (Vm.Alike.refl U.vm) h4, h5, h6.blind g mk a⟩
theorem A_sub {ad : Nat → Nat} {H : Heap} {locs : List Loc} {lsM : Array Slot} (S : SR f A s D cA X n xs ad0 n0 z0 ad ls st L c H locs lsM) (hA : ∀ q, s.heap.size ≤ q → A q) : ∀ q, va_A (wsl ad X cA L c) H.size q → A q := by
  intro q hq
  rcases hq with ⟨k, e, h⟩ | h
  · exact S.2.1.2 k _ h
  · exact hA q (Nat.le_trans S.2.2.1.1 h)
/-- ahead of a call: what the callee wants -/
theorem pre_ok {ad : Nat → Nat} {H : Heap} {locs : List Loc} {lsM : Array Slot} {av : List V} (S : SR f A s D cA X n xs ad0 n0 z0 ad ls st L c H locs lsM) (hA : ∀ q, s.heap.size ≤ q → A q) (hK : va_K D vwCl (tysOf cA) s) (hST : STR A X n xs s) : ∀ U : State, U.heap = H → s.WarmedH U.vm → PcM D cA X n xs ad H.size av L c (av.map (mv ad X)).toArray U := by
  intro U hU hW
  exact ⟨rfl, by rw [hU], by rw [hU]; exact S.1, va_K.moved hW.alike hK, S.2.1.weaken (fun _ _ _ _ => trivial), hST.go S.2.2.1 (A_sub S hA) hU hW⟩
/-- behind a call -/
theorem behind {ad : Nat → Nat} {H : Heap} {locs L1 : List Loc} {lsM : Array Slot} {av : List V} {q : Option V × Mem} {v : Option Value} {st₀ t : State} {t1 : List V} (S : SR f A s D cA X n xs ad0 n0 z0 ad ls st L c H locs lsM) (hA : ∀ q, s.heap.size ≤ q → A q) (hg : GR (L, c) q.2) (h0 : st₀.heap = H) (hq : QcM D cA X n xs ad H.size L c q (av.map (mv ad X)).toArray st₀ (.returned v) t) (hL1 : ∀ z ∈ L1, va_A (wsl ad X cA L c) H.size z.base) (ht : ∀ w ∈ t1, vok L.length w) :
    ∃ ad' : Nat → Nat, v = q.1.map (mv ad' X) ∧ SR f A s D cA X n xs ad0 n0 z0 ad' ls (pu q.1 t1) q.2.1 q.2.2 t.heap (locs ++ L1) lsM ∧ t1.map (mv ad' X) = t1.map (mv ad X) := by
  obtain ⟨⟨ad', e1, e2, e3, e4, e5, e6, e7⟩, eF⟩ := hq
  have hsub := A_sub S hA
  have hv : v = q.1.map (mv ad' X) := Outcome.returned.inj e1
  have hlen : L.length ≤ q.2.1.length := hg.1
  refine ⟨ad', hv, ⟨e3, e4.weaken (fun k z _ hz => hsub z.1 hz), ?_, e5, e6, ⟨Nat.le_trans S.2.2.2.2.2.1.1 hlen, Nat.le_trans S.2.2.2.2.2.1.2.1 hg.2, fun k hk => ?_⟩, ?_, fun w hw => vok_mono hlen (S.lsv w hw), ?_⟩, ?_⟩
  · obtain ⟨f1, f2⟩ := eF
    rw [h0] at f1 f2
    refine ⟨Nat.le_trans S.2.2.1.1 f1, fun z h1 h2 => ?_, fun z hz => ?_⟩
    · rw [f2 z (Nat.lt_of_lt_of_le h1 S.2.2.1.1) (fun w => h2 (hsub z w))]
      exact S.2.2.1.2.1 z h1 h2
    · rcases List.mem_append.mp hz with h | h
      · exact S.2.2.1.2.2 z h
      · exact hsub _ (hL1 z h)
  · rw [e2 k (Nat.lt_of_lt_of_le hk S.2.2.2.2.2.1.1)]
    exact S.2.2.2.2.2.1.2.2 k hk
  · obtain ⟨g1, g2, g3, g4⟩ := S.lr
    refine ⟨g1, g2, g3, fun i w hw hty => ?_⟩
    rw [mv_keep e2 (S.lsv w (List.mem_of_getElem? hw))]
    exact g4 i w hw hty
  · intro w hw
    cases hq1 : q.1 with
    | none => rw [hq1] at hw; exact vok_mono hlen (ht w hw)
    | some u =>
      rw [hq1] at hw
      rcases List.mem_cons.mp hw with h | h
      · rw [h]; exact e7 u hq1
      · exact vok_mono hlen (ht w h)
  · exact List.map_congr_left fun w hw => mv_keep e2 (ht w hw)
theorem pu_map {ad' : Nat → Nat} {o : Option V} {t1 : List V} : (pu o t1).map (mv ad' X) = (o.map (mv ad' X)).toList ++ t1.map (mv ad' X) := by
  cases o <;> rfl
theorem rcv_inv {α : Type} {kd rk : Nat} {av : List V} {y : Option α} {r : α} (h : rcv none kd rk L av y = some r) : y = some r ∧ (kd = 2 ∨ kd = 3 → ∃ (k : Nat) (sh : Shp) (t : List V), av = vR ((k : Int) + 1) :: t ∧ L[k]? = some sh ∧ sh.1 = rk) ∧ (kd = 4 ∨ kd = 5 → ∃ (k : Nat) (sh : Shp) (t : List V), av = vR ((k : Int) + 1) :: t ∧ L[k]? = some sh) ∧ (kd = 6 → ∃ (g : Nat) (t : List V), av = vR (-100 - (g : Int)) :: t ∧ g < 12) ∧ kd ≤ 6 := by
  rcases kd with _ | _ | _ | _ | _ | _ | _ | kd
  · exact ⟨h, fun q => by omega, fun q => by omega, fun q => by omega, by omega⟩
  · exact ⟨h, fun q => by omega, fun q => by omega, fun q => by omega, by omega⟩
  · rcases av with _ | ⟨z | z | z | z, t⟩
    · exact absurd h (by simp [rcv])
    · exact absurd h (by simp [rcv])
    · exact absurd h (by simp [rcv])
    · obtain ⟨q, h1, h2⟩ := el_inv (show (drf L z).elim none (fun p => bif Nat.beq p.2.1 rk then y else none) = some r from h)
      obtain ⟨h3, h4⟩ := bif_inv h2
      obtain ⟨h5, h6⟩ := drf_inv h1
      subst h5
      exact ⟨h4, fun _ => ⟨_, _, _, rfl, h6, beq_of h3⟩, fun q => by omega, fun q => by omega, by omega⟩
    · exact absurd h (by simp [rcv])
  · rcases av with _ | ⟨z | z | z | z, t⟩
    · exact absurd h (by simp [rcv])
    · exact absurd h (by simp [rcv])
    · exact absurd h (by simp [rcv])
    · obtain ⟨q, h1, h2⟩ := el_inv (show (drf L z).elim none (fun p => bif Nat.beq p.2.1 rk then y else none) = some r from h)
      obtain ⟨h3, h4⟩ := bif_inv h2
      obtain ⟨h5, h6⟩ := drf_inv h1
      subst h5
      exact ⟨h4, fun _ => ⟨_, _, _, rfl, h6, beq_of h3⟩, fun q => by omega, fun q => by omega, by omega⟩
    · exact absurd h (by simp [rcv])
  · rcases av with _ | ⟨z | z | z | z, t⟩
    · exact absurd h (by simp [rcv])
    · exact absurd h (by simp [rcv])
    · exact absurd h (by simp [rcv])
    · obtain ⟨q, h1, h2⟩ := el_inv (show (drf L z).elim none (fun _ => y) = some r from h)
      obtain ⟨h5, h6⟩ := drf_inv h1
      subst h5
      exact ⟨h2, fun q => by omega, fun _ => ⟨_, _, _, rfl, h6⟩, fun q => by omega, by omega⟩
    · exact absurd h (by simp [rcv])
  · rcases av with _ | ⟨z | z | z | z, t⟩
    · exact absurd h (by simp [rcv])
    · exact absurd h (by simp [rcv])
    · exact absurd h (by simp [rcv])
    · obtain ⟨q, h1, h2⟩ := el_inv (show (drf L z).elim none (fun _ => y) = some r from h)
      obtain ⟨h5, h6⟩ := drf_inv h1
      subst h5
      exact ⟨h2, fun q => by omega, fun _ => ⟨_, _, _, rfl, h6⟩, fun q => by omega, by omega⟩
    · exact absurd h (by simp [rcv])
  · rcases av with _ | ⟨z | z | z | z, t⟩
    · exact absurd h (by simp [rcv])
    · exact absurd h (by simp [rcv])
    · exact absurd h (by simp [rcv])
    · obtain ⟨q, h1, h2⟩ := el_inv (show (strOf z).elim none (fun _ => y) = some r from h)
      obtain ⟨h5, h6⟩ := strOf_inv h1
      subst h5
      exact ⟨h2, fun q => by omega, fun q => by omega, fun _ => ⟨_, _, rfl, h6⟩, by omega⟩
    · exact absurd h (by simp [rcv])
  · exact absurd h (by simp [rcv])
theorem kd7 {k : Nat} (h : k ≤ 6) : k = 0 ∨ k = 1 ∨ k = 2 ∨ k = 3 ∨ k = 4 ∨ k = 5 ∨ k = 6 := by omega
theorem ar1 {n l q r : Nat} (h1 : n ≤ l) (h2 : l ≤ q) (h3 : q - n ≤ r) : l - n + (q - l) ≤ r := by omega
theorem ar2 {n l q : Nat} (h1 : n ≤ l) (h2 : l ≤ q) : q - n = l - n + (q - l) := by omega
theorem TB_in {g : Nat} (h : MCD g) : GoodIn TB (wsM g) := by
  intro w hw
  rcases List.mem_cons.mp hw with q | q
  · rw [q]; exact ⟨h, TB_good _ h⟩
  · exact ⟨q, TB_good _ q⟩
/-- a call -/
theorem g_39 (C : CX p s m args meth c0 f A D cA X n xs) {nd : Nat} (hRn : nd ≤ R.frames ∧ nd * 100 ≤ R.locals) (hd : decode (mtb f).1 pc = .ok (raw pc (39, a, b, x))) (hl : lnk (mtb f).2.2.2.2 (mtb f).2.2.1 (mtb f).2.1.name (39, a, b, x) = true) {g : Nat} {av t1 : List V} {M1 : Mem} (h : act (39, a, b, x) ls st (L, c) = some (.inr (.inr (.inl (g, av, ls', t1, M1))))) {q : Option V × Mem} (hnd : need g av + 1 ≤ nd) (hrun : CTR g (need g av) av L c q) (hgr : GR (L, c) q.2) (hL : q.2.1.length ≤ 1000000) (hRc : q.2.1.length - n0 ≤ R.cells) (hRs : slz q.2.1 - z0 ≤ R.slots) (hk : WS p l e R s m args below meth c0 Q f A D cA X n xs ad0 n0 z0 (pc + 3) ls' (pu q.1 t1) q.2.1 q.2.2) : M1 = (L, c) ∧ WS p l e R s m args below meth c0 Q f A D cA X n xs ad0 n0 z0 pc ls st L c := by
  have h : (bif Nat.ble (a / 10 % 100) st.length && Nat.ble (catS (st.drop (a / 10 % 100))) 8 then rcv none (a % 10) (a / 1000) L (st.take (a / 10 % 100)).reverse (some (.inr (.inr (.inl (b, (st.take (a / 10 % 100)).reverse, ls, st.drop (a / 10 % 100), (L, c)))))) else none : Act) = some (.inr (.inr (.inl (g, av, ls', t1, M1)))) := h
  obtain ⟨h1, h⟩ := bif_inv h
  rw [Bool.and_eq_true] at h1
  have hna := Nat.le_of_ble_eq_true h1.1
  have hcs := Nat.le_of_ble_eq_true h1.2
  obtain ⟨h, hk23, hk45, hk6, hkd⟩ := rcv_inv h
  have h := Option.some.inj h
  injection h with h; injection h with h; injection h with h
  obtain ⟨hbg, h6⟩ := Prod.mk.inj h
  obtain ⟨hav, h7⟩ := Prod.mk.inj h6
  obtain ⟨hls, h8⟩ := Prod.mk.inj h7
  obtain ⟨ht1, hM1⟩ := Prod.mk.inj h8
  clear h6 h7 h8
  subst hbg
  subst hls
  refine ⟨hM1.symm, ?_⟩
  intro ad H locs lsM S
  obtain ⟨hx, hb, hml, hown, hts, hK, hST, hA, hr, hlk, hnm⟩ := C
  rw [hav] at hk23 hk45 hk6
  generalize hnn : a / 10 % 100 = na at *
  -- the stack in two
  have est : st.map (mv ad X) = (av.map (mv ad X)).reverse ++ t1.map (mv ad X) := by
    rw [← List.map_reverse, ← hav, List.reverse_reverse, ← ht1, ← List.map_append, List.take_append_drop]
  have hvav : ∀ w ∈ av, vok L.length w := fun w hw => by
    rw [← hav, List.mem_reverse] at hw
    exact S.stv w (List.mem_of_mem_take hw)
  have hvt : ∀ w ∈ t1, vok L.length w := fun w hw => by
    rw [← ht1] at hw
    exact S.stv w (List.mem_of_mem_drop hw)
  have hlav : av.length = na := by rw [← hav, List.length_reverse, List.length_take]; omega
  have hcat := catS_le (ad := ad) (X := X) t1
  rw [ht1] at hcs
  have hroom : 2 * (F0 m pc lsM (st.map (mv ad X))).monitorRoom + ((t1.map (mv ad X)).map fun v => v.category).sum ≤ 8 := lv_room (by omega)
  -- the words
  have hl : (Nat.ble b 356 && (Nat.beq (a / 10 % 100) ((mtb b).2.2.2.1 + (bif Nat.ble (a % 10) 1 then 0 else 1)) && (lkM (mtb f).2.2.2.2).any (fun q => Nat.beq q.1 x.toNat && (Nat.beq q.2.1 a && Nat.beq q.2.2.1 b)))) = true := hl
  simp only [Bool.and_eq_true] at hl
  obtain ⟨-, hpar, hl⟩ := hl
  have hpar := beq_of hpar
  rw [hnn] at hpar
  obtain ⟨⟨idx, a', b', p1, p2, p3, p4⟩, hqm, hq3⟩ := List.any_eq_true.mp hl
  simp only [Bool.and_eq_true] at hq3
  obtain ⟨q1, q2, q3⟩ := hq3
  have q1 : idx = x.toNat := beq_of q1
  have q2 : a = a' := (beq_of q2).symm
  have q3 : b = b' := (beq_of q3).symm
  subst q1; subst q2; subst q3
  have hok := List.all_eq_true.mp (lkM_ok (mtb f).2.2.2.2) _ hqm
  unfold lkMc at hok
  simp only [Bool.and_eq_true] at hok
  obtain ⟨⟨hm1, hwords⟩, hkind⟩ := hok
  obtain ⟨o1, o2, o3, o4, o5, o6, o7, o8⟩ := of_decide_eq_true hm1
  have hmcd : MCD b := mcd b o8
  have hwd : ∀ z ∈ lmw (mtb f).2.2.2.2 (x.toNat, a, b, p1, p2, p3, p4), tbw z.1 = some z.2 := fun z hz => of_decide_eq_true (List.all_eq_true.mp hwords z hz)
  have hini : (Cond.initialized (mtb b).2.1.cls).before args s = true := hts _ (tbg (hwd (p4, _) List.mem_cons_self) rfl)
  have hM := hrun l D cA X n xs ad H.size S.2.2.2.1 S.2.2.2.2.1 hvav hL
  have hgood := TB_in hmcd
  have hfix : CallFix p m c0 (mtb f).1 (inf f).1 s args TB (rnm (mtb f).2.2.2.2) := ⟨hx, hb, hml, hown, hts⟩
  have hro : (rmM (need b av) (q.2.1.length - L.length) (slz q.2.1 - slz L)).frames + 1 ≤ R.frames ∧ 8 + ((inf b).1 + 11) + (rmM (need b av) (q.2.1.length - L.length) (slz q.2.1 - slz L)).locals ≤ R.locals := by
    refine ⟨Nat.le_trans hnd hRn.1, Nat.le_trans ?_ hRn.2⟩
    show 8 + ((inf b).1 + 11) + need b av * 100 ≤ nd * 100
    omega
  have b1 : n0 ≤ L.length := S.2.2.2.2.2.1.1
  have b2 : z0 ≤ slz L := S.2.2.2.2.2.1.2.1
  have g1 : L.length ≤ q.2.1.length := hgr.1
  have g2 : slz L ≤ slz q.2.1 := hgr.2
  have hroom2 : L.length - n0 + (q.2.1.length - L.length) ≤ R.cells ∧ slz L - z0 + (slz q.2.1 - slz L) ≤ R.slots := ⟨ar1 b1 g1 hRc, ar1 b2 g2 hRs⟩
  have key : ∀ (v : Option Value) (st₀ t : State) (L1 : List Loc), st₀.heap = H → QcM D cA X n xs ad H.size L c q (av.map (mv ad X)).toArray st₀ (.returned v) t → (∀ z ∈ L1, va_A (wsl ad X cA L c) H.size z.base) → W p l e R s m args below meth c0 t.heap (locs ++ L1) (L.length - n0 + (q.2.1.length - L.length)) (slz L - z0 + (slz q.2.1 - slz L)) Q (F0 m (pc + 3) lsM (v.toList ++ t1.map (mv ad X))) := by
    intro v st₀ t L1 h0 hq hL1
    obtain ⟨ad', hv, S2, et⟩ := behind (f := f) (A := A) (s := s) (ad0 := ad0) (n0 := n0) (z0 := z0) (ls := ls) (st := st) (t1 := t1) S hA hgr h0 hq hL1 hvt
    have K := hk ad' t.heap (locs ++ L1) lsM S2
    have f1 : q.2.1.length - n0 = L.length - n0 + (q.2.1.length - L.length) := ar2 b1 g1
    have f2 : slz q.2.1 - z0 = slz L - z0 + (slz q.2.1 - slz L) := ar2 b2 g2
    rw [f1, f2, pu_map, ← hv, et] at K
    exact K
  have hsz : (F0 m pc lsM (st.map (mv ad X))).locals.size = (inf f).1 := S.lr.2.1
  have hpre := pre_ok (av := av) S hA hK hST
  rcases kd7 hkd with hk7 | hk7 | hk7 | hk7 | hk7 | hk7 | hk7
  · -- static
    have hw1 := hts _ (tbg (hwd (p1, Cond.methodLink (rnm (mtb f).2.2.2.2) x.toNat (mtb b).2.1) (by unfold lmw; dsimp only; rw [hk7]; simp)) rfl)
    have hw2 := hts _ (tbg (hwd (p2, Cond.static (mtb b).2.1) (by unfold lmw; dsimp only; rw [hk7]; simp)) rfl)
    have hd : decode (mtb f).1 pc = .ok (.invokestatic x.toNat, 3) := by rw [hd]; unfold raw; dsimp only; rw [hk7] <;> rfl
    rw [hk7] at hpar
    have hpar : na = (mtb b).2.2.2.1 := hpar
    exact va_callG (va_runS (n := (mtb b).2.2.2.1) (g := F0 m pc lsM (st.map (mv ad X))) hfix hM ⟨callB_of _ hts hgood rfl rfl rfl hini hw1 ⟨o3, o4, o5⟩ hro, hw2⟩ ⟨PcM.blind, hpre⟩ rfl (by rw [List.length_map, hlav, hpar]) hsz est hroom hd hroom2) key
  · have hw1 := hST.2.2.2.2.2.2.2.2.2.2 _ _ _ (tbw_mem (hwd (p1, Cond.methodLinkNest (rnm (mtb f).2.2.2.2) x.toNat (mtb b).2.1 RX11) (by unfold lmw; dsimp only; rw [hk7]; simp)))
    have hw2 := hts _ (tbg (hwd (p2, Cond.static (mtb b).2.1) (by unfold lmw; dsimp only; rw [hk7]; simp)) rfl)
    have hd : decode (mtb f).1 pc = .ok (.invokestatic x.toNat, 3) := by rw [hd]; unfold raw; dsimp only; rw [hk7] <;> rfl
    rw [hk7] at hpar
    have hpar : na = (mtb b).2.2.2.1 := hpar
    exact va_callG (va_runSN (n := (mtb b).2.2.2.1) (g := F0 m pc lsM (st.map (mv ad X))) hfix hM ⟨va_cnB _ hts hgood rfl rfl rfl hw1 hini ⟨o3, o4, o5⟩ hro, hw2, trivial⟩ ⟨PcM.blind, hpre⟩ rfl (by rw [List.length_map, hlav, hpar]) hsz est hroom hd hroom2) key
  · obtain ⟨k, sh, t, e1, e2, e3⟩ := hk23 (Or.inl hk7)
    have hw1 := hts _ (tbg (hwd (p1, Cond.methodLink (rnm (mtb f).2.2.2.2) x.toNat (mtb b).2.1) (by unfold lmw; dsimp only; rw [hk7]; simp)) rfl)
    have hw2 := hts _ (tbg (hwd (p2, Cond.instanceMethod (mtb b).2.1) (by unfold lmw; dsimp only; rw [hk7]; simp)) rfl)
    have hw3 := hts _ (tbg (hwd (p3, Cond.selects (mtb b).2.1.cls (mtb b).2.1 (mtb b).2.1) (by unfold lmw; dsimp only; rw [hk7]; simp)) rfl)
    have hd : decode (mtb f).1 pc = .ok (.invokevirtual x.toNat, 3) := by rw [hd]; unfold raw; dsimp only; rw [hk7] <;> rfl
    rw [hk7] at hpar hkind
    have hpar : na = (mtb b).2.2.2.1 + 1 := hpar
    have hkind : (Nat.beq (a / 1000) (10 + (mtb b).2.2.2.2) && Nat.ble (mtb b).2.2.2.2 12) = true := hkind
    rw [Bool.and_eq_true] at hkind
    have hk8 := beq_of hkind.1
    have hk9 := Nat.le_of_ble_eq_true hkind.2
    obtain ⟨qc, ty, hC⟩ := cls_all _ hk9
    have he := wsl_at (ad := ad) (X := X) (cA := cA) (c := c) e2
    rw [ent_5 (by omega), e3, hk8, Nat.add_sub_cancel_left] at he
    have hrc := va_recv hK S.1 hC.1 he
    rw [hC.2.1, ← o2] at hrc
    subst e1
    have est : st.map (mv ad X) = (t.map (mv ad X)).reverse ++ .ref (ad k) :: t1.map (mv ad X) := by rw [est, List.map_cons, List.reverse_cons, List.append_assoc]; rfl
    have hlt : (t.map (mv ad X)).length = (mtb b).2.2.2.1 := by
      have : (vR ((k : Int) + 1) :: t).length = t.length + 1 := rfl
      rw [List.length_map]
      omega
    exact va_callG (va_runV (n := (mtb b).2.2.2.1) (C := (mtb b).2.1.cls) (b := ad k) (As := t.map (mv ad X)) (g := F0 m pc lsM (st.map (mv ad X))) hfix hM ⟨callB_of _ hts hgood rfl rfl rfl hini hw1 ⟨o3, o4, o5⟩ hro, hw2, hw3⟩ ⟨PcM.blind, hrc, hpre⟩ rfl hlt hsz est hroom hd hroom2) key
  · obtain ⟨k, sh, t, e1, e2, e3⟩ := hk23 (Or.inr hk7)
    have hw1 := hST.2.2.2.2.2.2.2.2.2.2 _ _ _ (tbw_mem (hwd (p1, Cond.methodLinkNest (rnm (mtb f).2.2.2.2) x.toNat (mtb b).2.1 RX11) (by unfold lmw; dsimp only; rw [hk7]; simp)))
    have hw2 := hts _ (tbg (hwd (p2, Cond.instanceMethod (mtb b).2.1) (by unfold lmw; dsimp only; rw [hk7]; simp)) rfl)
    have hw3 := hts _ (tbg (hwd (p3, Cond.selects (mtb b).2.1.cls (mtb b).2.1 (mtb b).2.1) (by unfold lmw; dsimp only; rw [hk7]; simp)) rfl)
    have hd : decode (mtb f).1 pc = .ok (.invokevirtual x.toNat, 3) := by rw [hd]; unfold raw; dsimp only; rw [hk7] <;> rfl
    rw [hk7] at hpar hkind
    have hpar : na = (mtb b).2.2.2.1 + 1 := hpar
    have hkind : (Nat.beq (a / 1000) (10 + (mtb b).2.2.2.2) && Nat.ble (mtb b).2.2.2.2 12) = true := hkind
    rw [Bool.and_eq_true] at hkind
    have hk8 := beq_of hkind.1
    have hk9 := Nat.le_of_ble_eq_true hkind.2
    obtain ⟨qc, ty, hC⟩ := cls_all _ hk9
    have he := wsl_at (ad := ad) (X := X) (cA := cA) (c := c) e2
    rw [ent_5 (by omega), e3, hk8, Nat.add_sub_cancel_left] at he
    have hrc := va_recv hK S.1 hC.1 he
    rw [hC.2.1, ← o2] at hrc
    subst e1
    have est : st.map (mv ad X) = (t.map (mv ad X)).reverse ++ .ref (ad k) :: t1.map (mv ad X) := by rw [est, List.map_cons, List.reverse_cons, List.append_assoc]; rfl
    have hlt : (t.map (mv ad X)).length = (mtb b).2.2.2.1 := by
      have : (vR ((k : Int) + 1) :: t).length = t.length + 1 := rfl
      rw [List.length_map]
      omega
    exact va_callG (va_runVN (n := (mtb b).2.2.2.1) (C := (mtb b).2.1.cls) (b := ad k) (As := t.map (mv ad X)) (g := F0 m pc lsM (st.map (mv ad X))) hfix hM ⟨va_cnB _ hts hgood rfl rfl rfl hw1 hini ⟨o3, o4, o5⟩ hro, hw2, hw3⟩ ⟨PcM.blind, hrc, hpre⟩ rfl hlt hsz est hroom hd hroom2) key
  · obtain ⟨k, sh, t, e1, e2⟩ := hk45 (Or.inl hk7)
    have hw1 := hts _ (tbg (hwd (p1, Cond.methodLink (rnm (mtb f).2.2.2.2) x.toNat (mtb b).2.1) (by unfold lmw; dsimp only; rw [hk7]; simp)) rfl)
    have hw2 := hts _ (tbg (hwd (p2, Cond.instanceMethod (mtb b).2.1) (by unfold lmw; dsimp only; rw [hk7]; simp)) rfl)
    have hd : decode (mtb f).1 pc = .ok (.invokespecial x.toNat, 3) := by rw [hd]; unfold raw; dsimp only; rw [hk7] <;> rfl
    rw [hk7] at hpar hkind
    have hpar : na = (mtb b).2.2.2.1 + 1 := hpar
    obtain ⟨hn1, hn2⟩ := of_decide_eq_true hkind
    subst e1
    have est : st.map (mv ad X) = (t.map (mv ad X)).reverse ++ .ref (ad k) :: t1.map (mv ad X) := by rw [est, List.map_cons, List.reverse_cons, List.append_assoc]; rfl
    have hlt : (t.map (mv ad X)).length = (mtb b).2.2.2.1 := by
      have : (vR ((k : Int) + 1) :: t).length = t.length + 1 := rfl
      rw [List.length_map]
      omega
    have hw9 : wsM b = Cond.code (mtb b).2.1 (mtb b).1 (inf b).1 none :: TB := by unfold wsM; rw [hn2]
    exact va_callG (va_runI (n := (mtb b).2.2.2.1) (bytes := (mtb b).1) (maxL := (inf b).1) (b := ad k) (As := t.map (mv ad X)) (g := F0 m pc lsM (st.map (mv ad X))) hfix hM ⟨callB_of _ hts hgood hw9 rfl rfl hini hw1 ⟨o3, o4, o5⟩ hro, hn1, hw2⟩ ⟨PcM.blind, hpre⟩ rfl hlt hsz est hroom hd hroom2) key
  · obtain ⟨k, sh, t, e1, e2⟩ := hk45 (Or.inr hk7)
    have hw1 := hST.2.2.2.2.2.2.2.2.2.2 _ _ _ (tbw_mem (hwd (p1, Cond.methodLinkNest (rnm (mtb f).2.2.2.2) x.toNat (mtb b).2.1 RX11) (by unfold lmw; dsimp only; rw [hk7]; simp)))
    have hw2 := hts _ (tbg (hwd (p2, Cond.instanceMethod (mtb b).2.1) (by unfold lmw; dsimp only; rw [hk7]; simp)) rfl)
    have hd : decode (mtb f).1 pc = .ok (.invokespecial x.toNat, 3) := by rw [hd]; unfold raw; dsimp only; rw [hk7] <;> rfl
    rw [hk7] at hpar hkind
    have hpar : na = (mtb b).2.2.2.1 + 1 := hpar
    obtain ⟨hn1, hn2⟩ := of_decide_eq_true hkind
    subst e1
    have est : st.map (mv ad X) = (t.map (mv ad X)).reverse ++ .ref (ad k) :: t1.map (mv ad X) := by rw [est, List.map_cons, List.reverse_cons, List.append_assoc]; rfl
    have hlt : (t.map (mv ad X)).length = (mtb b).2.2.2.1 := by
      have : (vR ((k : Int) + 1) :: t).length = t.length + 1 := rfl
      rw [List.length_map]
      omega
    have hw9 : wsM b = Cond.code (mtb b).2.1 (mtb b).1 (inf b).1 none :: TB := by unfold wsM; rw [hn2]
    exact va_callG (va_runIN (n := (mtb b).2.2.2.1) (bytes := (mtb b).1) (maxL := (inf b).1) (b := ad k) (As := t.map (mv ad X)) (g := F0 m pc lsM (st.map (mv ad X))) hfix hM ⟨va_cnB _ hts hgood hw9 rfl rfl hw1 hini ⟨o3, o4, o5⟩ hro, hn1, hw2⟩ ⟨PcM.blind, hpre⟩ rfl hlt hsz est hroom hd hroom2) key
  · obtain ⟨gs, t, e1, e2⟩ := hk6 hk7
    have hw1 := hts _ (tbg (hwd (p1, Cond.methodLink (rnm (mtb f).2.2.2.2) x.toNat (mtb b).2.1) (by unfold lmw; dsimp only; rw [hk7]; simp)) rfl)
    have hw2 := hts _ (tbg (hwd (p2, Cond.instanceMethod (mtb b).2.1) (by unfold lmw; dsimp only; rw [hk7]; simp)) rfl)
    have hw3 := hts _ (tbg (hwd (p3, Cond.selects (mtb b).2.1.cls (mtb b).2.1 (mtb b).2.1) (by unfold lmw; dsimp only; rw [hk7]; simp)) rfl)
    have hd : decode (mtb f).1 pc = .ok (.invokevirtual x.toNat, 3) := by rw [hd]; unfold raw; dsimp only; rw [hk7] <;> rfl
    rw [hk7] at hpar hkind
    have hpar : na = (mtb b).2.2.2.1 + 1 := hpar
    have hcls : (mtb b).2.1.cls = "java/lang/String" := of_decide_eq_true hkind
    have hrc := vk_recv hST.1 e2 S.2.2.1
    rw [← hcls] at hrc
    subst e1
    have est : st.map (mv ad X) = (t.map (mv ad X)).reverse ++ .ref (X.1 gs) :: t1.map (mv ad X) := by rw [est, List.map_cons, mv_str e2, List.reverse_cons, List.append_assoc]; rfl
    have hlt : (t.map (mv ad X)).length = (mtb b).2.2.2.1 := by
      have : (vR (-100 - (gs : Int)) :: t).length = t.length + 1 := rfl
      rw [List.length_map]
      omega
    have hpre2 : ∀ U : State, U.heap = H → s.WarmedH U.vm → PcM D cA X n xs ad H.size (vR (-100 - (gs : Int)) :: t) L c (Value.ref (X.1 gs) :: t.map (mv ad X)).toArray U := by
      intro U h1 h2
      have := hpre U h1 h2
      rw [List.map_cons, mv_str e2] at this
      exact this
    rw [List.map_cons, mv_str e2] at key
    exact va_callG (va_runV (n := (mtb b).2.2.2.1) (C := (mtb b).2.1.cls) (b := X.1 gs) (As := t.map (mv ad X)) (g := F0 m pc lsM (st.map (mv ad X))) hfix hM ⟨callB_of _ hts hgood rfl rfl rfl hini hw1 ⟨o3, o4, o5⟩ hro, hw2, hw3⟩ ⟨PcM.blind, hrc, hpre2⟩ rfl hlt hsz est hroom hd hroom2) key
end CALL
end
section
/-! SOUNDNESS, 7: the walk of a method by its rows; the whole theorem (own work) -/
section MAIN
variable {p : Program} {l : Launch} {e : Env} {R : Room} {s : State} {m : MethodId} {args : Array Value} {below : List Frame} {meth : Method} {c0 : Code} {Q : State → Prop} {f : Nat} {A : Nat → Prop} {D : va_G} {cA : Nat → ClassId} {X : AdX} {n : Nat} {xs : Nat → Int32} {ad0 : Nat → Nat} {n0 z0 : Nat}
variable {ls st ls' st' : List V} {L : List Shp} {c : Nat → Int → Int} {M' : Mem} {pc : Nat}
/-- an instruction neither jumps nor calls nor returns -/
def plain (k : Nat) : Bool := !(Nat.beq k 12 || Nat.beq k 13 || Nat.beq k 14 || Nat.beq k 16 || Nat.beq k 17 || Nat.beq k 39 || Nat.beq k 42 || Nat.beq k 55 || Nat.beq k 56 || Nat.beq k 57 || Nat.beq k 58 || Nat.beq k 59 || Nat.beq k 60)
set_option maxHeartbeats 4000000 in
theorem g_all {i : Ins} (hp : plain i.1 = true) (C : CX p s m args meth c0 f A D cA X n xs) (hRf : 1 ≤ R.frames) (hRl : 100 ≤ R.locals) (hd : decode (mtb f).1 pc = .ok (raw pc i)) (hl : lnk (mtb f).2.2.2.2 (mtb f).2.2.1 (mtb f).2.1.name i = true) (hs : oks (inf f).1 i = true) (h : act i ls st (L, c) = some (.inl (ls', st', M'))) (hL : M'.1.length ≤ 1000000) (hRc : M'.1.length - n0 ≤ R.cells) (hRs : slz M'.1 - z0 ≤ R.slots) (hk : WS p l e R s m args below meth c0 Q f A D cA X n xs ad0 n0 z0 (npc pc i) ls' st' M'.1 M'.2) : WS p l e R s m args below meth c0 Q f A D cA X n xs ad0 n0 z0 pc ls st L c := by
  obtain ⟨k, a, b, x⟩ := i
  by_cases hk65 : k < 65
  · match k, hk65 with
    | 0, _ => exact g_0 C hRf hRl hd hl hs h hL hRc hRs hk
    | 1, _ => exact g_1 C hRf hRl hd hl hs h hL hRc hRs hk
    | 2, _ => exact g_2 C hRf hRl hd hl hs h hL hRc hRs hk
    | 3, _ => exact g_3 C hRf hRl hd hl hs h hL hRc hRs hk
    | 4, _ => exact g_4 C hRf hRl hd hl hs h hL hRc hRs hk
    | 5, _ => exact g_5 C hRf hRl hd hl hs h hL hRc hRs hk
    | 6, _ => exact g_6 C hRf hRl hd hl hs h hL hRc hRs hk
    | 7, _ => exact g_7 C hRf hRl hd hl hs h hL hRc hRs hk
    | 8, _ => exact g_8 C hRf hRl hd hl hs h hL hRc hRs hk
    | 9, _ => exact g_9 C hRf hRl hd hl hs h hL hRc hRs hk
    | 10, _ => exact g_10 C hRf hRl hd hl hs h hL hRc hRs hk
    | 11, _ => exact g_11 C hRf hRl hd hl hs h hL hRc hRs hk
    | 15, _ => exact g_15 C hRf hRl hd hl hs h hL hRc hRs hk
    | 18, _ => exact g_18 C hRf hRl hd hl hs h hL hRc hRs hk
    | 19, _ => exact g_19 C hRf hRl hd hl hs h hL hRc hRs hk
    | 20, _ => exact g_20 C hRf hRl hd hl hs h hL hRc hRs hk
    | 21, _ => exact g_21 C hRf hRl hd hl hs h hL hRc hRs hk
    | 22, _ => exact g_22 C hRf hRl hd hl hs h hL hRc hRs hk
    | 23, _ => exact g_23 C hRf hRl hd hl hs h hL hRc hRs hk
    | 24, _ => exact g_24 C hRf hRl hd hl hs h hL hRc hRs hk
    | 25, _ => exact g_25 C hRf hRl hd hl hs h hL hRc hRs hk
    | 26, _ => exact g_26 C hRf hRl hd hl hs h hL hRc hRs hk
    | 27, _ => exact g_27 C hRf hRl hd hl hs h hL hRc hRs hk
    | 28, _ => exact g_28 C hRf hRl hd hl hs h hL hRc hRs hk
    | 29, _ => exact g_29 C hRf hRl hd hl hs h hL hRc hRs hk
    | 30, _ => exact g_30 C hRf hRl hd hl hs h hL hRc hRs hk
    | 31, _ => exact g_31 C hRf hRl hd hl hs h hL hRc hRs hk
    | 32, _ => exact g_32 C hRf hRl hd hl hs h hL hRc hRs hk
    | 33, _ => exact g_33 C hRf hRl hd hl hs h hL hRc hRs hk
    | 34, _ => exact g_34 C hRf hRl hd hl hs h hL hRc hRs hk
    | 35, _ => exact g_35 C hRf hRl hd hl hs h hL hRc hRs hk
    | 36, _ => exact g_36 C hRf hRl hd hl hs h hL hRc hRs hk
    | 37, _ => exact g_37 C hRf hRl hd hl hs h hL hRc hRs hk
    | 38, _ => exact g_38 C hRf hRl hd hl hs h hL hRc hRs hk
    | 40, _ => exact g_40 C hRf hRl hd hl hs h hL hRc hRs hk
    | 41, _ => exact g_41 C hRf hRl hd hl hs h hL hRc hRs hk
    | 43, _ => exact g_43 C hRf hRl hd hl hs h hL hRc hRs hk
    | 44, _ => exact g_44 C hRf hRl hd hl hs h hL hRc hRs hk
    | 45, _ => exact g_45 C hRf hRl hd hl hs h hL hRc hRs hk
    | 46, _ => exact g_46 C hRf hRl hd hl hs h hL hRc hRs hk
    | 47, _ => exact g_47 C hRf hRl hd hl hs h hL hRc hRs hk
    | 48, _ => exact g_48 C hRf hRl hd hl hs h hL hRc hRs hk
    | 49, _ => exact g_49 C hRf hRl hd hl hs h hL hRc hRs hk
    | 50, _ => exact g_50 C hRf hRl hd hl hs h hL hRc hRs hk
    | 51, _ => exact g_51 C hRf hRl hd hl hs h hL hRc hRs hk
    | 52, _ => exact g_52 C hRf hRl hd hl hs h hL hRc hRs hk
    | 53, _ => exact g_53 C hRf hRl hd hl hs h hL hRc hRs hk
    | 54, _ => exact g_54 C hRf hRl hd hl hs h hL hRc hRs hk
    | 61, _ => exact g_61 C hRf hRl hd hl hs h hL hRc hRs hk
    | 62, _ => exact g_62 C hRf hRl hd hl hs h hL hRc hRs hk
    | 63, _ => exact g_63 C hRf hRl hd hl hs h hL hRc hRs hk
    | 64, _ => exact g_64 C hRf hRl hd hl hs h hL hRc hRs hk
    | 12, _ => exact absurd hp (by decide : ¬ plain 12 = true)
    | 13, _ => exact absurd hp (by decide : ¬ plain 13 = true)
    | 14, _ => exact absurd hp (by decide : ¬ plain 14 = true)
    | 16, _ => exact absurd hp (by decide : ¬ plain 16 = true)
    | 17, _ => exact absurd hp (by decide : ¬ plain 17 = true)
    | 39, _ => exact absurd hp (by decide : ¬ plain 39 = true)
    | 42, _ => exact absurd hp (by decide : ¬ plain 42 = true)
    | 55, _ => exact absurd hp (by decide : ¬ plain 55 = true)
    | 56, _ => exact absurd hp (by decide : ¬ plain 56 = true)
    | 57, _ => exact absurd hp (by decide : ¬ plain 57 = true)
    | 58, _ => exact absurd hp (by decide : ¬ plain 58 = true)
    | 59, _ => exact absurd hp (by decide : ¬ plain 59 = true)
    | 60, _ => exact absurd hp (by decide : ¬ plain 60 = true)
    | k + 65, h => exact absurd h (by omega)
  · have : act (k, a, b, x) ls st (L, c) = none := by
      unfold act stp
      split <;> first | rfl | (rename_i q; exact absurd q (by show ¬ k = _; omega))
    rw [this] at h
    cases h
def ISL (y : Act) (_ : Act) : Prop := ∀ r, y = some r → ∃ ls' st' M', r = .inl (ls', st', M')
/-- no plain instruction does anything else -/
theorem plain_inl {i : Ins} (hp : plain i.1 = true) {M : Mem} {r : (List V × List V × Mem) ⊕ (Nat × List V × List V × Mem) ⊕ (Nat × List V × List V × List V × Mem) ⊕ (Option V × Mem)} (h : act i ls st M = some r) : ∃ ls' st' M', r = .inl (ls', st', M') := by
  obtain ⟨k, a, b, x⟩ := i
  have key : ISL (act (k, a, b, x) ls st M) none := by
    have hk : ∀ (a b : List V) (M : Mem), ISL (some (.inl (a, b, M))) none := fun a b M r h => ⟨a, b, M, (Option.some.inj h).symm⟩
    have hZ : ISL none none := fun r h => by cases h
    have gen : ∀ (k2 : List V → List V → Mem → Act), True := fun _ => trivial
    have main : ISL (act (k, a, b, x) ls st M) (stp (α := Act) none (fun _ _ _ _ => none) (fun _ _ _ _ _ => none) (fun _ _ => none) (fun _ _ _ => none) (k, a, b, x) ls st M) := by
      by_cases hk65 : k < 65
      · match k, hk65 with
        | 0, _ => exact hk _ _ _
        | 1, _ => exact hk _ _ _
        | 2, _ => exact hk _ _ _
        | 3, _ => exact rl_el hZ fun _ => rl_bif hZ (hk _ _ _)
        | 4, _ => exact rl_pV hZ fun _ _ => rl_bif hZ (hk _ _ _)
        | 5, _ => exact rl_pI hZ fun _ _ => hk _ _ _
        | 6, _ => exact rl_pI hZ fun _ _ => rl_pI hZ fun _ _ => hk _ _ _
        | 7, _ => exact rl_pI hZ fun _ _ => hk _ _ _
        | 8, _ => exact rl_pL hZ fun _ _ => rl_pL hZ fun _ _ => hk _ _ _
        | 9, _ => exact rl_pL hZ fun _ _ => rl_pL hZ fun _ _ => rl_if2 _ (hk _ _ _) (rl_if2 _ (hk _ _ _) (hk _ _ _))
        | 10, _ => exact rl_pI hZ fun _ _ => hk _ _ _
        | 11, _ => exact rl_pV hZ fun _ _ => rl_bif hZ (hk _ _ _)
        | 15, _ => exact hk _ _ _
        | 18, _ => exact rl_pR hZ fun _ _ => rl_pD hZ fun _ _ => rl_bif hZ (hk _ _ _)
        | 19, _ => exact rl_pR hZ fun _ _ => rl_pD hZ fun _ _ => rl_bif hZ (hk _ _ _)
        | 20, _ => exact rl_pR hZ fun _ _ => rl_pD hZ fun _ _ => rl_bif hZ (hk _ _ _)
        | 21, _ => exact rl_pR hZ fun _ _ => rl_pD hZ fun _ _ => rl_bif hZ (hk _ _ _)
        | 22, _ => exact rl_pI hZ fun _ _ => rl_pR hZ fun _ _ => rl_pD hZ fun _ _ => rl_bif hZ (hk _ _ _)
        | 23, _ => exact rl_pL hZ fun _ _ => rl_pR hZ fun _ _ => rl_pD hZ fun _ _ => rl_bif hZ (hk _ _ _)
        | 24, _ => exact rl_pI hZ fun _ _ => rl_pR hZ fun _ _ => rl_pD hZ fun _ _ => rl_bif hZ (rl_if _ hZ (hk _ _ _))
        | 25, _ => exact rl_pR hZ fun _ _ => rl_pR hZ fun _ _ => rl_pD hZ fun _ _ => rl_bif hZ (rl_pD hZ fun _ _ => hk _ _ _)
        | 26, _ => exact rl_pI hZ fun _ _ => rl_pR hZ fun _ _ => rl_pD hZ fun _ _ => rl_bif hZ (rl_if _ hZ (hk _ _ _))
        | 27, _ => exact rl_pI hZ fun _ _ => rl_pI hZ fun _ _ => rl_pR hZ fun _ _ => rl_pD hZ fun _ _ => rl_bif hZ (rl_if _ hZ (hk _ _ _))
        | 28, _ => exact rl_pR hZ fun _ _ => rl_pD hZ fun _ _ => rl_bif hZ (hk _ _ _)
        | 29, _ => exact rl_pI hZ fun _ _ => rl_pR hZ fun _ _ => rl_if _ hZ (rl_if _ hZ (hk _ _ _))
        | 30, _ => exact rl_pR hZ fun _ _ => rl_if _ hZ (hk _ _ _)
        | 31, _ => exact rl_pR hZ fun _ _ => rl_el hZ fun _ => hk _ _ _
        | 32, _ => exact rl_pR hZ fun _ _ => rl_el hZ fun _ => hk _ _ _
        | 33, _ => exact rl_pI hZ fun _ _ => rl_pR hZ fun _ _ => rl_el hZ fun _ => rl_if _ hZ (hk _ _ _)
        | 34, _ => exact rl_pR hZ fun _ _ => rl_el hZ fun _ => hk _ _ _
        | 35, _ => exact hk _ _ _
        | 36, _ => exact hk _ _ _
        | 37, _ => exact rl_pI hZ fun _ _ => rl_if _ hZ (hk _ _ _)
        | 38, _ => exact rl_pI hZ fun _ _ => rl_if _ hZ (hk _ _ _)
        | 40, _ => exact rl_pR hZ fun _ _ => rl_pD hZ fun _ _ => rl_bif hZ (hk _ _ _)
        | 41, _ => exact rl_pI hZ fun _ _ => rl_pI hZ fun _ _ => rl_pR hZ fun _ _ => rl_pI hZ fun _ _ => rl_pR hZ fun _ _ => rl_pD hZ fun _ _ => rl_pD hZ fun _ _ => rl_bif hZ (rl_if _ hZ (hk _ _ _))
        | 43, _ => exact rl_pI hZ fun _ _ => rl_pI hZ fun _ _ => rl_if2 _ hZ (hk _ _ _)
        | 44, _ => exact rl_pI hZ fun _ _ => rl_pI hZ fun _ _ => rl_if2 _ hZ (hk _ _ _)
        | 45, _ => exact rl_pL hZ fun _ _ => rl_pL hZ fun _ _ => rl_if2 _ hZ (hk _ _ _)
        | 46, _ => exact rl_pL hZ fun _ _ => rl_pL hZ fun _ _ => rl_if2 _ hZ (hk _ _ _)
        | 47, _ => exact hk _ _ _
        | 48, _ => exact rl_pL hZ fun _ _ => hk _ _ _
        | 49, _ => exact rl_pI hZ fun _ _ => rl_if _ hZ (hk _ _ _)
        | 50, _ => exact rl_pV hZ fun _ _ => rl_pV hZ fun _ _ => rl_bif hZ (hk _ _ _)
        | 51, _ => exact rl_pV hZ fun _ _ => rl_bif hZ (hk _ _ _)
        | 52, _ => exact rl_pL hZ fun _ _ => rl_pI hZ fun _ _ => rl_pR hZ fun _ _ => rl_pD hZ fun _ _ => rl_bif hZ (rl_if _ hZ (hk _ _ _))
        | 53, _ => exact rl_pI hZ fun _ _ => rl_pI hZ fun _ _ => rl_pR hZ fun _ _ => rl_pD hZ fun _ _ => rl_bif hZ (rl_if _ hZ (rl_if _ hZ (hk _ _ _)))
        | 54, _ => exact rl_pR hZ fun _ _ => rl_pI hZ fun _ _ => rl_pR hZ fun _ _ => rl_pD hZ fun _ _ => rl_bif hZ (rl_if _ hZ (rl_pD hZ fun _ _ => rl_bif hZ (hk _ _ _)))
        | 61, _ => exact hk _ _ _
        | 62, _ => exact rl_pI hZ fun _ _ => rl_bif hZ (hk _ _ _)
        | 63, _ => exact rl_pI hZ fun _ _ => rl_pI hZ fun _ _ => rl_bif hZ (hk _ _ _)
        | 64, _ => exact rl_pI hZ fun _ _ => rl_pI hZ fun _ _ => rl_bif hZ (hk _ _ _)
        | 12, _ => exact absurd hp (by decide : ¬ plain 12 = true)
        | 13, _ => exact absurd hp (by decide : ¬ plain 13 = true)
        | 14, _ => exact absurd hp (by decide : ¬ plain 14 = true)
        | 16, _ => exact absurd hp (by decide : ¬ plain 16 = true)
        | 17, _ => exact absurd hp (by decide : ¬ plain 17 = true)
        | 39, _ => exact absurd hp (by decide : ¬ plain 39 = true)
        | 42, _ => exact absurd hp (by decide : ¬ plain 42 = true)
        | 55, _ => exact absurd hp (by decide : ¬ plain 55 = true)
        | 56, _ => exact absurd hp (by decide : ¬ plain 56 = true)
        | 57, _ => exact absurd hp (by decide : ¬ plain 57 = true)
        | 58, _ => exact absurd hp (by decide : ¬ plain 58 = true)
        | 59, _ => exact absurd hp (by decide : ¬ plain 59 = true)
        | 60, _ => exact absurd hp (by decide : ¬ plain 60 = true)
        | k + 65, h => exact absurd h (by omega)
      · have : act (k, a, b, x) ls st M = none := by
          unfold act stp
          split <;> first | rfl | (rename_i q; exact absurd q (by show ¬ k = _; omega))
        rw [this]
        exact hZ
    exact main
  exact key r h
end MAIN
end
section
/-! SOUNDNESS, 7b (own work) -/
section MAIN
variable {p : Program} {l : Launch} {e : Env} {R : Room} {s : State} {m : MethodId} {args : Array Value} {below : List Frame} {meth : Method} {c0 : Code} {Q : State → Prop} {f : Nat} {A : Nat → Prop} {D : va_G} {cA : Nat → ClassId} {X : AdX} {n : Nat} {xs : Nat → Int32} {ad0 : Nat → Nat} {n0 z0 : Nat}
variable {ls st ls' st' : List V} {L : List Shp} {c : Nat → Int → Int} {M' : Mem} {pc : Nat}
theorem call_only {a b : Nat} {x : Int} {M : Mem} {r : (List V × List V × Mem) ⊕ (Nat × List V × List V × Mem) ⊕ (Nat × List V × List V × List V × Mem) ⊕ (Option V × Mem)} (h : act (39, a, b, x) ls st M = some r) : ∃ g av ls' t1 M1, r = .inr (.inr (.inl (g, av, ls', t1, M1))) := by
  have h : (bif Nat.ble (a / 10 % 100) st.length && Nat.ble (catS (st.drop (a / 10 % 100))) 8 then rcv none (a % 10) (a / 1000) M.1 (st.take (a / 10 % 100)).reverse (some (.inr (.inr (.inl (b, (st.take (a / 10 % 100)).reverse, ls, st.drop (a / 10 % 100), M))))) else none : Act) = some r := h
  exact ⟨_, _, _, _, _, (Option.some.inj (rcv_inv (bif_inv h).2).1).symm⟩
theorem call_b {a b : Nat} {x : Int} {M : Mem} {g : Nat} {av ls1 t1 : List V} {M1 : Mem} (h : act (39, a, b, x) ls st M = some (.inr (.inr (.inl (g, av, ls1, t1, M1))))) : b = g := by
  have h : (bif Nat.ble (a / 10 % 100) st.length && Nat.ble (catS (st.drop (a / 10 % 100))) 8 then rcv none (a % 10) (a / 1000) M.1 (st.take (a / 10 % 100)).reverse (some (.inr (.inr (.inl (b, (st.take (a / 10 % 100)).reverse, ls, st.drop (a / 10 % 100), M))))) else none : Act) = some (.inr (.inr (.inl (g, av, ls1, t1, M1)))) := h
  have h := Option.some.inj (rcv_inv (bif_inv h).2).1
  injection h with h; injection h with h; injection h with h
  exact (Prod.mk.inj h).1
theorem ret_only {k a b : Nat} {x : Int} {M : Mem} {r : (List V × List V × Mem) ⊕ (Nat × List V × List V × Mem) ⊕ (Nat × List V × List V × List V × Mem) ⊕ (Option V × Mem)} (hk : k = 42 ∨ k = 55 ∨ k = 56 ∨ k = 57 ∨ k = 58 ∨ k = 59 ∨ k = 60) (h : act (k, a, b, x) ls st M = some r) : ∃ v M1, r = .inr (.inr (.inr (v, M1))) := by
  rcases hk with q | q | q | q | q | q | q <;> subst q
  · exact ⟨_, _, (Option.some.inj (pE_inv (show pE none st (some (.inr (.inr (.inr (none, M)))) : Act) = some r from h)).2).symm⟩
  · have h9 := pI_inv h
    clear h
    obtain ⟨y, t, rfl, h⟩ := h9
    exact ⟨_, _, (Option.some.inj (pE_inv (show pE none t (some (.inr (.inr (.inr (some (vI y), M)))) : Act) = some r from h)).2).symm⟩
  · have h9 := pL_inv h
    clear h
    obtain ⟨y, t, rfl, h⟩ := h9
    exact ⟨_, _, (Option.some.inj (pE_inv (show pE none t (some (.inr (.inr (.inr (some (vL y), M)))) : Act) = some r from h)).2).symm⟩
  · have h9 := pR_inv h
    clear h
    obtain ⟨y, t, rfl, h⟩ := h9
    exact ⟨_, _, (Option.some.inj (pE_inv (show pE none t (some (.inr (.inr (.inr (some (vR y), M)))) : Act) = some r from h)).2).symm⟩
  · have h9 := pI_inv h
    clear h
    obtain ⟨y, t, rfl, h⟩ := h9
    exact ⟨_, _, (Option.some.inj (if_inv (pE_inv h).2).2).symm⟩
  · have h9 := pI_inv h
    clear h
    obtain ⟨y, t, rfl, h⟩ := h9
    exact ⟨_, _, (Option.some.inj (if_inv (pE_inv h).2).2).symm⟩
  · have h9 := pI_inv h
    clear h
    obtain ⟨y, t, rfl, h⟩ := h9
    exact ⟨_, _, (Option.some.inj (if_inv (pE_inv h).2).2).symm⟩
end MAIN
end
section
/-! SOUNDNESS, 7c (own work) -/
section MAIN
variable {p : Program} {l : Launch} {e : Env} {R : Room} {s : State} {m : MethodId} {args : Array Value} {below : List Frame} {meth : Method} {c0 : Code} {Q : State → Prop} {f : Nat} {A : Nat → Prop} {D : va_G} {cA : Nat → ClassId} {X : AdX} {n : Nat} {xs : Nat → Int32} {ad0 : Nat → Nat} {n0 z0 : Nat}
variable {ls st ls' st' : List V} {L : List Shp} {c : Nat → Int → Int} {M' : Mem} {pc : Nat}
/-- the end of a method: its frame goes, its answer stays -/
def FIN (p : Program) (l : Launch) (e : Env) (R : Room) (s : State) (m : MethodId) (args : Array Value) (below : List Frame) (meth : Method) (c0 : Code) (Q : State → Prop) (f : Nat) (A : Nat → Prop) (D : va_G) (cA : Nat → ClassId) (X : AdX) (n : Nat) (xs : Nat → Int32) (ad0 : Nat → Nat) (n0 z0 : Nat) (Rv : Option V × Mem) : Prop :=
  ∀ (pc : Nat) (i : Ins) (ls st : List V), (i.1 = 42 ∨ i.1 = 55 ∨ i.1 = 56 ∨ i.1 = 57 ∨ i.1 = 58 ∨ i.1 = 59 ∨ i.1 = 60) → decode (mtb f).1 pc = .ok (raw pc i) → lnk (mtb f).2.2.2.2 (mtb f).2.2.1 (mtb f).2.1.name i = true → act i ls st Rv.2 = some (.inr (.inr (.inr Rv))) → WS p l e R s m args below meth c0 Q f A D cA X n xs ad0 n0 z0 pc ls st Rv.2.1 Rv.2.2
theorem walkL {n' nd : Nat} {Rv : Option V × Mem} (C : CX p s m args meth c0 f A D cA X n xs) (hnd : 1 ≤ nd) (hRn : nd ≤ R.frames ∧ nd * 100 ≤ R.locals) (hfin : FIN p l e R s m args below meth c0 Q f A D cA X n xs ad0 n0 z0 Rv)
    (hL : Rv.2.1.length ≤ 1000000) (hRc : Rv.2.1.length - n0 ≤ R.cells) (hRs : slz Rv.2.1 - z0 ≤ R.slots)
    (IHj : ∀ pc ls st L c, run n' f nd pc ls st (L, c) = some Rv → WS p l e R s m args below meth c0 Q f A D cA X n xs ad0 n0 z0 pc ls st L c)
    (IHc : ∀ g av L c q, run n' g (need g av) 0 (mkl (inf g).1 av) [] (L, c) = some q → need g av + 1 ≤ nd → mok1 g = true → CTR g (need g av) av L c q) :
    ∀ (il : List Ins) (pc : Nat) (ls st : List V) (L : List Shp) (c : Nat → Int → Int), chk (mtb f).1 (mtb f).2.2.2.2 (mtb f).2.2.1 (mtb f).2.1.name pc il = true → il.all (oks (inf f).1) = true →
      runL (fun pc' ls' st' M' => run n' f nd pc' (msk (blk f pc').1 ls') st' M') (fun g av M' => bif Nat.ble (need g av + 1) nd then run n' g (need g av) 0 (mkl (inf g).1 av) [] M' else none) il ls st (L, c) = some Rv → WS p l e R s m args below meth c0 Q f A D cA X n xs ad0 n0 z0 pc ls st L c := by
  intro il
  induction il with
  | nil => intro pc ls st L c _ _ h; exact absurd h (by simp [runL])
  | cons i il ih =>
    intro pc ls st L c hc ho h
    rw [List.all_cons, Bool.and_eq_true] at ho
    have hc : (bif Nat.beq i.1 16 then Nat.beq i.2.2.1 pc else decide (decode (mtb f).1 pc = .ok (raw pc i)) && (lnk (mtb f).2.2.2.2 (mtb f).2.2.1 (mtb f).2.1.name i && chk (mtb f).1 (mtb f).2.2.2.2 (mtb f).2.2.1 (mtb f).2.1.name (bif Nat.beq i.1 15 then i.2.2.1 else pc + (raw pc i).2) il)) = true := hc
    have h0 := h
    rw [runL_act] at h
    cases h16 : Nat.beq i.1 16 with
    | true =>
      rw [h16] at hc
      have hpc : i.2.2.1 = pc := beq_of hc
      have hi : i.1 = 16 := beq_of h16
      obtain ⟨k, a, b, x⟩ := i
      have hi : k = 16 := hi
      have hpc : b = pc := hpc
      subst hi; subst hpc
      exact (IHj _ _ _ _ _ h).mask
    | false =>
      rw [h16] at hc
      have hc : (decide (decode (mtb f).1 pc = .ok (raw pc i)) && (lnk (mtb f).2.2.2.2 (mtb f).2.2.1 (mtb f).2.1.name i && chk (mtb f).1 (mtb f).2.2.2.2 (mtb f).2.2.1 (mtb f).2.1.name (bif Nat.beq i.1 15 then i.2.2.1 else pc + (raw pc i).2) il)) = true := hc
      simp only [Bool.and_eq_true, decide_eq_true_eq] at hc
      obtain ⟨hd, hl, hc⟩ := hc
      have hgrow := act_grow i ls st (L, c)
      cases hac : act i ls st (L, c) with
      | none => rw [hac] at h; exact absurd h (by simp [elA])
      | some r =>
        rw [hac] at h
        have hg := hgrow r hac
        -- what goes on
        have hgo : ∀ ls' st' M', r = .inl (ls', st', M') → WS p l e R s m args below meth c0 Q f A D cA X n xs ad0 n0 z0 (npc pc i) ls' st' M'.1 M'.2 ∧ GR M' Rv.2 := by
          intro ls' st' M' hr
          subst hr
          have h : runL (fun pc' ls' st' M' => run n' f nd pc' (msk (blk f pc').1 ls') st' M') (fun g av M' => bif Nat.ble (need g av + 1) nd then run n' g (need g av) 0 (mkl (inf g).1 av) [] M' else none) il ls' st' M' = some Rv := h
          refine ⟨ih _ _ _ _ _ hc ho.2 h, runL_grow (fun p a b M R h => run_grow _ _ _ _ _ _ _ _ h) (fun g a M R h => run_grow _ _ _ _ _ _ _ _ (bif_inv h).2) _ _ _ _ _ h⟩
        have hju : ∀ p' ls' st' M', r = .inr (.inl (p', ls', st', M')) → WS p l e R s m args below meth c0 Q f A D cA X n xs ad0 n0 z0 p' ls' st' M'.1 M'.2 := by
          intro p' ls' st' M' hr
          subst hr
          exact (IHj _ _ _ _ _ h).mask
        by_cases hp : plain i.1 = true
        · obtain ⟨ls', st', M', hr⟩ := plain_inl hp hac
          obtain ⟨hk, hgr⟩ := hgo ls' st' M' hr
          subst hr
          have hg1 : M'.1.length ≤ Rv.2.1.length := hgr.1
          have hg2 : slz M'.1 ≤ slz Rv.2.1 := hgr.2
          exact g_all hp C (by omega) (by omega) hd hl ho.1 hac (by omega) (by omega) (by omega) hk
        · obtain ⟨k, a, b, x⟩ := i
          have hk16 : k ≠ 16 := fun w => by rw [w] at h16; cases h16
          have hcase : k = 12 ∨ k = 13 ∨ k = 14 ∨ k = 17 ∨ k = 39 ∨ (k = 42 ∨ k = 55 ∨ k = 56 ∨ k = 57 ∨ k = 58 ∨ k = 59 ∨ k = 60) := by
            have hp : ¬ plain k = true := hp
            unfold plain at hp
            simp only [Bool.not_eq_true, Bool.not_eq_false', Bool.or_eq_true] at hp
            rcases hp with (((((((((((q | q) | q) | q) | q) | q) | q) | q) | q) | q) | q) | q) | q <;> have q := beq_of q <;> omega
          rcases hcase with q | q | q | q | q | q
          · subst q; exact t_12 C hd hl hac (fun a b M h => (hgo a b M h).1) hju
          · subst q; exact t_13 C hd hl hac (fun a b M h => (hgo a b M h).1) hju
          · subst q; exact t_14 C hd hl hac (fun a b M h => (hgo a b M h).1) hju
          · subst q; exact t_17 C hd hl hac (fun a b M h => (hgo a b M h).1) hju
          · subst q
            obtain ⟨g, av, ls', t1, M1, hr⟩ := call_only hac
            subst hr
            have h : (bif Nat.ble (need g av + 1) nd then run n' g (need g av) 0 (mkl (inf g).1 av) [] M1 else none).elim none (fun q => runL (fun pc' ls' st' M' => run n' f nd pc' (msk (blk f pc').1 ls') st' M') (fun g av M' => bif Nat.ble (need g av + 1) nd then run n' g (need g av) 0 (mkl (inf g).1 av) [] M' else none) il ls' (pu q.1 t1) q.2) = some Rv := h
            obtain ⟨q, h1, h2⟩ := el_inv h
            obtain ⟨h3, h1⟩ := bif_inv h1
            have hnd3 := Nat.le_of_ble_eq_true h3
            have hM1 : M1 = (L, c) := hg
            subst hM1
            have hgr : GR q.2 Rv.2 := runL_grow (fun p a b M R h => run_grow _ _ _ _ _ _ _ _ h) (fun g a M R h => run_grow _ _ _ _ _ _ _ _ (bif_inv h).2) _ _ _ _ _ h2
            have hg1 : q.2.1.length ≤ Rv.2.1.length := hgr.1
            have hg2 : slz q.2.1 ≤ slz Rv.2.1 := hgr.2
            have hle : mok1 g = true := by
              have hl : (Nat.ble b 356 && (Nat.beq (a / 10 % 100) ((mtb b).2.2.2.1 + (bif Nat.ble (a % 10) 1 then 0 else 1)) && (lkM (mtb f).2.2.2.2).any (fun q => Nat.beq q.1 x.toNat && (Nat.beq q.2.1 a && Nat.beq q.2.2.1 b)))) = true := hl
              simp only [Bool.and_eq_true] at hl
              obtain ⟨-, -, hl⟩ := hl
              obtain ⟨z, hqm, hq3⟩ := List.any_eq_true.mp hl
              simp only [Bool.and_eq_true] at hq3
              have hok := List.all_eq_true.mp (lkM_ok (mtb f).2.2.2.2) z hqm
              unfold lkMc at hok
              simp only [Bool.and_eq_true] at hok
              rw [← call_b hac, ← beq_of hq3.2.2]
              exact hok.1.1
            have hl3 : (raw pc (39, a, b, x)).2 = 3 := by unfold raw; dsimp only; split <;> first | omega | (split <;> rfl) | (exfalso; simp_all; done)
            have hc3 : chk (mtb f).1 (mtb f).2.2.2.2 (mtb f).2.2.1 (mtb f).2.1.name (pc + 3) il = true := by
              have hc : chk (mtb f).1 (mtb f).2.2.2.2 (mtb f).2.2.1 (mtb f).2.1.name (pc + (raw pc (39, a, b, x)).2) il = true := hc
              rw [hl3] at hc
              exact hc
            exact (g_39 C hRn hd hl hac hnd3 (IHc g av L c q h1 hnd3 hle) (run_grow _ _ _ _ _ _ _ _ h1) (by omega) (by omega) (by omega) (ih _ _ _ _ _ hc3 ho.2 h2)).2
          · obtain ⟨v, M1, hr⟩ := ret_only q hac
            subst hr
            have hM1 : M1 = (L, c) := hg
            subst hM1
            have h : (some (v, (L, c)) : Res) = some Rv := h
            have h := Option.some.inj h
            subst h
            exact hfin pc (k, a, b, x) ls st q hd hl hac
end MAIN
end
section
/-! SOUNDNESS, 7d (own work) -/
section MAIN
variable {p : Program} {l : Launch} {e : Env} {R : Room} {s : State} {m : MethodId} {args : Array Value} {below : List Frame} {meth : Method} {c0 : Code} {Q : State → Prop} {f : Nat} {A : Nat → Prop} {D : va_G} {cA : Nat → ClassId} {X : AdX} {n : Nat} {xs : Nat → Int32} {ad0 : Nat → Nat} {n0 z0 : Nat}
variable {ls st ls' st' : List V} {L : List Shp} {c : Nat → Int → Int} {M' : Mem} {pc : Nat}
theorem nar_char {y : Int} (h : 0 ≤ y ∧ y < 65536) : narrow .char (.int (Int32.ofInt y)) = .int (Int32.ofInt y) := by
  show Value.int (Int32.ofInt y).toUInt32.toUInt16.toUInt32.toInt32 = .int (Int32.ofInt y)
  congr 1
  apply Int32.toBitVec_inj.mp
  show BitVec.setWidth 32 (BitVec.setWidth 16 (BitVec.ofInt 32 y)) = BitVec.ofInt 32 y
  apply BitVec.eq_of_toNat_eq
  rw [BitVec.toNat_setWidth, BitVec.toNat_setWidth, BitVec.toNat_ofInt]
  omega
theorem nar_byte {y : Int} (h : -128 ≤ y ∧ y < 128) : narrow .byte (.int (Int32.ofInt y)) = .int (Int32.ofInt y) := by
  show Value.int (Int32.ofInt y).toInt8.toInt32 = .int (Int32.ofInt y)
  congr 1
  have hy : In32 y := ⟨by omega, by omega⟩
  rw [← Int32.toInt_inj, Int8.toInt_toInt32, Int32.toInt_toInt8, t32 hy]
  exact Int.bmod_eq_of_le (by omega) (by omega)
/-- the end of a method that is called -/
theorem fin_met {Rv : Option V × Mem} {av : List V} {L : List Shp} {c : Nat → Int → Int} (C : CX p s m args meth c0 f (va_A (wsl ad0 X cA L c) s.heap.size) D cA X n xs) : FIN p l e R s m args below meth c0 (MQ below (QcM D cA X n xs ad0 s.heap.size L c Rv) args s (Rv.2.1.length - L.length) (slz Rv.2.1 - slz L) (va_A (wsl ad0 X cA L c) s.heap.size)) f (va_A (wsl ad0 X cA L c) s.heap.size) D cA X n xs ad0 L.length (slz L) Rv := by
  obtain ⟨hx, hb, hml, hown, hts, hK, hST, hA, hr, hlk, hnm⟩ := C
  obtain ⟨rv, L', c'⟩ := Rv
  intro pc i ls st hk hd hl hac ad H locs lsM S
  have key : ∀ t : State, t.heap = H → (∀ v, rv = some v → vok L'.length v) → QcM D cA X n xs ad0 s.heap.size L c (rv, (L', c')) args s (.returned (rv.map (mv ad X))) t := by
    intro t ht hv
    exact ⟨⟨ad, rfl, S.2.2.2.2.2.1.2.2, by rw [ht]; exact S.1, S.2.1, S.2.2.2.1, S.2.2.2.2.1, hv⟩, S.2.2.1.F ht⟩
  obtain ⟨k, a, b, x⟩ := i
  have hk : k = 42 ∨ k = 55 ∨ k = 56 ∨ k = 57 ∨ k = 58 ∨ k = 59 ∨ k = 60 := hk
  · rcases hk with q | q | q | q | q | q | q <;> subst q
    · have h9 := pE_inv (show pE none st (some (.inr (.inr (.inr (none, (L', c'))))) : Act) = _ from hac)
      clear hac
      obtain ⟨rfl, h⟩ := h9
      cases h
      have hrt : (mtb f).2.2.1 = none := by
        have hl : rtk 42 (mtb f).2.2.1 = true := hl
        generalize (mtb f).2.2.1 = r at hl
        unfold rtk at hl
        split at hl <;> simp_all
      exact W.vret hx hb (hr.trans hrt) (fun t ht _ => key t ht (fun v hv => by cases hv)) S.2.2.1.2.2 hd
    · have h9 := pI_inv hac
      clear hac
      obtain ⟨y, t, rfl, h⟩ := h9
      have h9 := pE_inv (show pE none t (some (.inr (.inr (.inr (some (vI y), (L', c'))))) : Act) = _ from h)
      clear h
      obtain ⟨rfl, h⟩ := h9
      cases h
      have hrt : (mtb f).2.2.1 = some .int := by
        have hl : rtk 55 (mtb f).2.2.1 = true := hl
        generalize (mtb f).2.2.1 = r at hl
        unfold rtk at hl
        split at hl <;> simp_all
      exact W.iret hx hb (hr.trans hrt) (fun t ht _ => key t ht (fun v hv => by cases hv; exact vok_hd S.stv)) S.2.2.1.2.2 hd
    · have h9 := pL_inv hac
      clear hac
      obtain ⟨y, t, rfl, h⟩ := h9
      have h9 := pE_inv (show pE none t (some (.inr (.inr (.inr (some (vL y), (L', c'))))) : Act) = _ from h)
      clear h
      obtain ⟨rfl, h⟩ := h9
      cases h
      have hrt : (mtb f).2.2.1 = some .long := by
        have hl : rtk 56 (mtb f).2.2.1 = true := hl
        generalize (mtb f).2.2.1 = r at hl
        unfold rtk at hl
        split at hl <;> simp_all
      exact W.lret hx hb (hr.trans hrt) (fun t ht _ => key t ht (fun v hv => by cases hv; exact vok_hd S.stv)) S.2.2.1.2.2 hd
    · have h9 := pR_inv hac
      clear hac
      obtain ⟨y, t, rfl, h⟩ := h9
      have h9 := pE_inv (show pE none t (some (.inr (.inr (.inr (some (vR y), (L', c'))))) : Act) = _ from h)
      clear h
      obtain ⟨rfl, h⟩ := h9
      cases h
      obtain ⟨Cn, hrt⟩ : ∃ Cn, (mtb f).2.2.1 = some (.object Cn) := by
        have hl : rtk 57 (mtb f).2.2.1 = true := hl
        generalize (mtb f).2.2.1 = r at hl
        unfold rtk at hl
        split at hl <;> first | exact ⟨_, rfl⟩ | simp_all
      have K : W p l e R s m args below meth c0 H locs (L'.length - L.length) (slz L' - slz L) (MQ below (QcM D cA X n xs ad0 s.heap.size L c (some (vR y), (L', c'))) args s (L'.length - L.length) (slz L' - slz L) (va_A (wsl ad0 X cA L c) s.heap.size)) (F0 m pc lsM [va_rf (rof ad X y)]) := by
        have hv9 : mv ad X (vR y) = .null ∨ ∃ a, mv ad X (vR y) = .ref a := by
          show va_rf (rof ad X y) = .null ∨ ∃ a, va_rf (rof ad X y) = .ref a
          cases rof ad X y with
          | none => exact Or.inl rfl
          | some a => exact Or.inr ⟨a, rfl⟩
        exact W.aret hx hb (hr.trans hrt) (Or.inl ⟨Cn, rfl⟩) hv9 (fun t ht _ => key t ht (fun v hv => by cases hv; exact vok_hd S.stv)) S.2.2.1.2.2 hd
      exact K
    · have h9 := pI_inv hac
      clear hac
      obtain ⟨y, t, rfl, h⟩ := h9
      have h9 := pE_inv h
      clear h
      obtain ⟨rfl, h⟩ := h9
      have h9 := if_inv h
      clear h
      obtain ⟨hy, h⟩ := h9
      cases h
      have hrt : (mtb f).2.2.1 = some .boolean := by
        have hl : rtk 58 (mtb f).2.2.1 = true := hl
        generalize (mtb f).2.2.1 = r at hl
        unfold rtk at hl
        split at hl <;> simp_all
      exact W.zret hx hb (hr.trans hrt) (by rcases hy with q | q <;> subst q <;> rfl) (fun t ht _ => key t ht (fun v hv => by cases hv; exact vok_hd S.stv)) S.2.2.1.2.2 hd
    · have h9 := pI_inv hac
      clear hac
      obtain ⟨y, t, rfl, h⟩ := h9
      have h9 := pE_inv h
      clear h
      obtain ⟨rfl, h⟩ := h9
      have h9 := if_inv h
      clear h
      obtain ⟨hy, h⟩ := h9
      cases h
      have hrt : (mtb f).2.2.1 = some .char := by
        have hl : rtk 59 (mtb f).2.2.1 = true := hl
        generalize (mtb f).2.2.1 = r at hl
        unfold rtk at hl
        split at hl <;> simp_all
      exact W.zret hx hb (hr.trans hrt) (nar_char hy) (fun t ht _ => key t ht (fun v hv => by cases hv; exact vok_hd S.stv)) S.2.2.1.2.2 hd
    · have h9 := pI_inv hac
      clear hac
      obtain ⟨y, t, rfl, h⟩ := h9
      have h9 := pE_inv h
      clear h
      obtain ⟨rfl, h⟩ := h9
      have h9 := if_inv h
      clear h
      obtain ⟨hy, h⟩ := h9
      cases h
      have hrt : (mtb f).2.2.1 = some .byte := by
        have hl : rtk 60 (mtb f).2.2.1 = true := hl
        generalize (mtb f).2.2.1 = r at hl
        unfold rtk at hl
        split at hl <;> simp_all
      exact W.zret hx hb (hr.trans hrt) (nar_byte hy) (fun t ht _ => key t ht (fun v hv => by cases hv; exact vok_hd S.stv)) S.2.2.1.2.2 hd
end MAIN
end
section
/-! SOUNDNESS, 8: a method begins; what the interpreter answers, the machine answers (own work) -/
section ENTRY
variable {ad : Nat → Nat} {X : AdX}
theorem mv_cat2 (v : V) : (mv ad X v).category = bif Nat.beq (tyV v) 1 then 2 else 1 := by
  rcases v with x | x | x | x
  · rfl
  · rfl
  · show (va_rf (rof ad X x)).category = 1
    cases rof ad X x <;> rfl
  · rfl
theorem lg_len : ∀ av : List V, (lg_sl (av.map (mv ad X))).length = catS av
  | [] => rfl
  | v :: l => by
    have ih := lg_len l
    have hc := mv_cat2 (ad := ad) (X := X) v
    have e : lg_sl ((v :: l).map (mv ad X)) = (if (mv ad X v).category = 2 then [Slot.val (mv ad X v), .second] else [.val (mv ad X v)]) ++ lg_sl (l.map (mv ad X)) := by
      simp [lg_sl]
    have e2 : catS (v :: l) = (bif Nat.beq (tyV v) 1 then 2 else 1) + catS l := rfl
    rw [e, List.length_append, ih, e2, hc]
    cases Nat.beq (tyV v) 1 <;> rfl
theorem mkl_len : ∀ (av : List V) (n : Nat), catS av ≤ n → (mkl n av).length = n
  | [], n, _ => List.length_replicate
  | v :: l, n, h => by
    have e2 : catS (v :: l) = (bif Nat.beq (tyV v) 1 then 2 else 1) + catS l := rfl
    have e3 : mkl n (v :: l) = bif Nat.beq (tyV v) 1 then v :: vU :: mkl (n - 2) l else v :: mkl (n - 1) l := rfl
    rw [e2] at h
    rw [e3]
    cases hb : Nat.beq (tyV v) 1 with
    | true =>
      rw [hb] at h
      have h : 2 + catS l ≤ n := h
      have ih := mkl_len l (n - 2) (by omega)
      show (mkl (n - 2) l).length + 1 + 1 = n
      omega
    | false =>
      rw [hb] at h
      have h : 1 + catS l ≤ n := h
      have ih := mkl_len l (n - 1) (by omega)
      show (mkl (n - 1) l).length + 1 = n
      omega
theorem mkl_mem : ∀ (av : List V) (n : Nat) (v : V), v ∈ mkl n av → v ∈ av ∨ v = vU
  | [], n, v, h => Or.inr (List.eq_of_mem_replicate h)
  | w :: l, n, v, h => by
    have e3 : mkl n (w :: l) = bif Nat.beq (tyV w) 1 then w :: vU :: mkl (n - 2) l else w :: mkl (n - 1) l := rfl
    rw [e3] at h
    cases hb : Nat.beq (tyV w) 1 with
    | true =>
      rw [hb] at h
      rcases List.mem_cons.mp (show v ∈ w :: vU :: mkl (n - 2) l from h) with q | q
      · exact Or.inl (by rw [q]; exact List.mem_cons_self)
      · rcases List.mem_cons.mp q with q | q
        · exact Or.inr q
        · rcases mkl_mem l _ v q with q | q
          · exact Or.inl (List.mem_cons_of_mem _ q)
          · exact Or.inr q
    | false =>
      rw [hb] at h
      rcases List.mem_cons.mp (show v ∈ w :: mkl (n - 1) l from h) with q | q
      · exact Or.inl (by rw [q]; exact List.mem_cons_self)
      · rcases mkl_mem l _ v q with q | q
        · exact Or.inl (List.mem_cons_of_mem _ q)
        · exact Or.inr q
theorem mkl_at : ∀ (av : List V) (n i off : Nat) (v : V), (mkl n av)[i]? = some v → tyV v ≠ 3 → (i + off, mv ad X v) ∈ lv_args off (av.map (mv ad X))
  | [], n, i, off, v, h, ht => by
    have := List.eq_of_mem_replicate (List.mem_of_getElem? h)
    subst this
    exact absurd rfl ht
  | w :: l, n, i, off, v, h, ht => by
    have e3 : mkl n (w :: l) = bif Nat.beq (tyV w) 1 then w :: vU :: mkl (n - 2) l else w :: mkl (n - 1) l := rfl
    have e4 : lv_args off ((w :: l).map (mv ad X)) = (off, mv ad X w) :: lv_args (if (mv ad X w).category = 2 then off + 2 else off + 1) (l.map (mv ad X)) := rfl
    have hc := mv_cat2 (ad := ad) (X := X) w
    rw [e3] at h
    rw [e4]
    cases hb : Nat.beq (tyV w) 1 with
    | true =>
      rw [hb] at h hc
      have h : (w :: vU :: mkl (n - 2) l)[i]? = some v := h
      have hc : (mv ad X w).category = 2 := hc
      rw [if_pos hc]
      match i, h with
      | 0, h =>
        have h : some w = some v := h
        cases h
        rw [Nat.zero_add]
        exact List.mem_cons_self
      | 1, h =>
        have h : some vU = some v := h
        cases h
        exact absurd rfl ht
      | i + 2, h =>
        have h : (mkl (n - 2) l)[i]? = some v := h
        have := mkl_at l (n - 2) i (off + 2) v h ht
        rw [show i + 2 + off = i + (off + 2) by omega]
        exact List.mem_cons_of_mem _ this
    | false =>
      rw [hb] at h hc
      have h : (w :: mkl (n - 1) l)[i]? = some v := h
      have hc : ¬ (mv ad X w).category = 2 := by
        rw [hc]
        decide
      rw [if_neg hc]
      match i, h with
      | 0, h =>
        have h : some w = some v := h
        cases h
        rw [Nat.zero_add]
        exact List.mem_cons_self
      | i + 1, h =>
        have h : (mkl (n - 1) l)[i]? = some v := h
        have := mkl_at l (n - 1) i (off + 1) v h ht
        rw [show i + 1 + off = i + (off + 1) by omega]
        exact List.mem_cons_of_mem _ this
theorem entry_LR {av : List V} {n : Nat} (h : catS av ≤ n) : LRl n ad X (mkl n av) ((lg_sl (av.map (mv ad X)) ++ List.replicate (n - (lg_sl (av.map (mv ad X))).length) Slot.unset).toArray) := by
  obtain ⟨h1, h2, h3⟩ := lv_entry (av.map (mv ad X)) (n := n) (by rw [lg_len]; exact h)
  refine ⟨mkl_len av n h, h1, h2, fun i v hv ht => ?_⟩
  exact h3 (i, mv ad X v) (by have := mkl_at (ad := ad) (X := X) av n i 0 v hv ht; rwa [Nat.add_zero] at this)
end ENTRY
theorem fnd_in : ∀ (p : Nat) (l : List (Nat × Nat × List Ins)), (fnd p l).2 = [] ∨ (p, (fnd p l).1, (fnd p l).2) ∈ l
  | p, [] => Or.inl rfl
  | p, (q, b, i) :: r => by
    have e : fnd p ((q, b, i) :: r) = bif Nat.beq p q then (b, i) else fnd p r := rfl
    rw [e]
    cases hb : Nat.beq p q with
    | true =>
      have := beq_of hb
      subst this
      exact Or.inr List.mem_cons_self
    | false =>
      rcases fnd_in p r with h | h
      · exact Or.inl h
      · exact Or.inr (List.mem_cons_of_mem _ h)
/-- the checks of a method's code -/
def CKM (f : Nat) : Prop := chkM f = true ∧ (inf f).2.2.all (fun b => b.2.2.all (oks (inf f).1)) = true
theorem CKM.bl {f : Nat} (h : CKM f) (pc : Nat) : chk (mtb f).1 (mtb f).2.2.2.2 (mtb f).2.2.1 (mtb f).2.1.name pc (blk f pc).2 = true ∧ (blk f pc).2.all (oks (inf f).1) = true := by
  unfold blk
  rcases fnd_in pc (inf f).2.2 with q | q
  · rw [q]
    exact ⟨rfl, rfl⟩
  · exact ⟨List.all_eq_true.mp h.1 _ q, List.all_eq_true.mp h.2 _ q⟩
theorem ndd_ge (t : Nat × Nat × Nat × Int) (av : List V) : t.1 ≤ ndd t av := by
  unfold ndd
  cases Nat.beq t.2.1 0
  · exact Nat.le_add_right _ _
  · exact Nat.le_refl _
theorem need_ok {g nd : Nat} {av : List V} (h : need g av + 1 ≤ nd) (hn : nd ≤ 1000) (h1 : 1 ≤ (inf g).2.1.1) : catS av ≤ (inf g).1 ∧ 1 ≤ need g av := by
  have e : need g av = bif Nat.ble (catS av) (inf g).1 then ndd (inf g).2.1 av else 1000000 := rfl
  cases hb : Nat.ble (catS av) (inf g).1 with
  | true =>
    rw [hb] at e
    have e : need g av = ndd (inf g).2.1 av := e
    refine ⟨Nat.le_of_ble_eq_true hb, ?_⟩
    rw [e]
    exact Nat.le_trans h1 (ndd_ge _ _)
  | false =>
    rw [hb] at e
    have e : need g av = 1000000 := e
    omega
/-- the walk, for so much fuel -/
def WALK (n' : Nat) : Prop := ∀ (p : Program) (l : Launch) (e : Env) (R : Room) (s : State) (m : MethodId) (args : Array Value) (below : List Frame) (meth : Method) (c0 : Code) (Q : State → Prop) (f : Nat) (A : Nat → Prop) (D : va_G) (cA : Nat → ClassId) (X : AdX) (n : Nat) (xs : Nat → Int32) (ad0 : Nat → Nat) (n0 z0 nd : Nat) (Rv : Option V × Mem), CX p s m args meth c0 f A D cA X n xs → CKM f → 1 ≤ nd → nd ≤ 1000 → nd ≤ R.frames ∧ nd * 100 ≤ R.locals → FIN p l e R s m args below meth c0 Q f A D cA X n xs ad0 n0 z0 Rv → Rv.2.1.length ≤ 1000000 → Rv.2.1.length - n0 ≤ R.cells → slz Rv.2.1 - z0 ≤ R.slots →
  ∀ (pc : Nat) (ls st : List V) (L : List Shp) (c : Nat → Int → Int), run n' f nd pc ls st (L, c) = some Rv → WS p l e R s m args below meth c0 Q f A D cA X n xs ad0 n0 z0 pc ls st L c
theorem met_of {n' : Nat} (HW : WALK n') {g nd : Nat} {av : List V} {L : List Shp} {c : Nat → Int → Int} {Rv : Option V × Mem} (hm : mok1 g = true) (hck : CKM g) (hnd : 1 ≤ nd) (hnd2 : nd ≤ 1000) (hcat : catS av ≤ (inf g).1) (h : run n' g nd 0 (mkl (inf g).1 av) [] (L, c) = some Rv) : CTR g nd av L c Rv := by
  intro l D cA X n xs ad0 sz hmk hsc hav hL
  obtain ⟨hpl, hcls, -, -, -, -, -, -⟩ := of_decide_eq_true hm
  refine Met.ofW (cc := (mtb g).1) (maxL := (inf g).1) (ret := (mtb g).2.2.1) hpl rfl ?_
  intro p e s m args below meth c0 s₁ B hml hv
  obtain ⟨hargs, hsz, hP, hK, hD0, hST⟩ := hv
  subst hargs
  subst hsz
  have hts := atoms_spec (ws := wsM g) B.pre
  have hown : s.vm.findClass (mtb g).2.1.cls = some m.cls := findClass_of_methodNamed B.named
  rw [hcls] at hown
  have C : CX p s m (av.map (mv ad0 X)).toArray meth c0 g (va_A (wsl ad0 X cA L c) s.heap.size) D cA X n xs :=
    ⟨B.exec, B.bytes, hml, hown, fun w hw => hts w (List.mem_cons_of_mem _ hw), hK, hST, fun q hq => Or.inr hq, B.returns, B.notSynchronized, fun h9 => (name_of_methodNamed B.named B.method).1.trans h9⟩
  have K := HW p l e (rmM nd (Rv.2.1.length - L.length) (slz Rv.2.1 - slz L)) s m _ below meth c0 (MQ below (QcM D cA X n xs ad0 s.heap.size L c Rv) (av.map (mv ad0 X)).toArray s (Rv.2.1.length - L.length) (slz Rv.2.1 - slz L) (va_A (wsl ad0 X cA L c) s.heap.size)) g _ D cA X n xs ad0 L.length (slz L) nd Rv C hck hnd hnd2 ⟨Nat.le_refl _, Nat.le_refl _⟩ (fin_met (av := av) C) hL (Nat.le_refl _) (Nat.le_refl _) 0 (mkl (inf g).1 av) [] L c h
    ad0 s.heap [] _ ⟨hP, hD0.self, va_S.rf, hmk, hsc, ⟨Nat.le_refl _, Nat.le_refl _, fun _ _ => rfl⟩, entry_LR hcat, fun v hv => by
      rcases mkl_mem av _ v hv with q | q
      · exact hav v q
      · rw [q]; exact trivial, fun v hv => by cases hv⟩
  rw [Nat.sub_self, Nat.sub_self] at K
  rw [lg_entry_eq]
  exact K
theorem walk_all (hck : ∀ g, mok1 g = true → CKM g) : ∀ n', WALK n'
  | 0 => by
    intro p l e R s m args below meth c0 Q f A D cA X n xs ad0 n0 z0 nd Rv C hk hnd hnd2 hR hfin hL hRc hRs pc ls st L c h
    exact absurd h (by simp [run])
  | n' + 1 => by
    have IH := walk_all hck n'
    intro p l e R s m args below meth c0 Q f A D cA X n xs ad0 n0 z0 nd Rv C hk hnd hnd2 hR hfin hL hRc hRs pc ls st L c h
    obtain ⟨k1, k2⟩ := hk.bl pc
    refine walkL (n' := n') (nd := nd) C hnd hR hfin hL hRc hRs (fun pc ls st L c h => IH p l e R s m args below meth c0 Q f A D cA X n xs ad0 n0 z0 nd Rv C hk hnd hnd2 hR hfin hL hRc hRs pc ls st L c h) (fun g av L c q hq hn hm => ?_) (blk f pc).2 pc ls st L c k1 k2 h
    obtain ⟨-, -, -, -, -, -, h1, -⟩ := of_decide_eq_true hm
    obtain ⟨i1, i2⟩ := need_ok hn hnd2 h1
    exact met_of IH hm (hck g hm) i2 (by omega) i1 hq
end
section
/-! decided: the code of every method, 0 (own work) -/
theorem ck_cut {α : Type} {l : List α} {f : α → Bool} (n : Nat) (h1 : (l.take n).all f = true) (h2 : (l.drop n).all f = true) : l.all f = true := by
  rw [← List.take_append_drop n l, List.all_append, h1, h2]
  rfl
set_option maxRecDepth 100000 in
theorem kc_0 : chkM 0 = true := by decide +kernel
set_option maxRecDepth 100000 in
theorem kc_1 : chkM 1 = true := by decide +kernel
set_option maxRecDepth 100000 in
theorem kc_2 : chkM 2 = true := by decide +kernel
set_option maxRecDepth 100000 in
theorem kc_3 : chkM 3 = true := by decide +kernel
set_option maxRecDepth 100000 in
theorem kc_4 : chkM 4 = true := by decide +kernel
set_option maxRecDepth 100000 in
theorem kc_5 : chkM 5 = true := by decide +kernel
set_option maxRecDepth 100000 in
theorem kc_6 : chkM 6 = true := by decide +kernel
set_option maxRecDepth 100000 in
theorem kc_7 : chkM 7 = true := by decide +kernel
set_option maxRecDepth 100000 in
theorem kc_8 : chkM 8 = true := by decide +kernel
set_option maxRecDepth 100000 in
theorem kc_9 : chkM 9 = true := by decide +kernel
set_option maxRecDepth 100000 in
theorem kc_10 : chkM 10 = true := by decide +kernel
set_option maxRecDepth 100000 in
theorem kc_11 : chkM 11 = true := by decide +kernel
set_option maxRecDepth 100000 in
theorem kc_12 : chkM 12 = true := by decide +kernel
set_option maxRecDepth 100000 in
theorem kc_13 : chkM 13 = true := by decide +kernel
set_option maxRecDepth 100000 in
theorem kc_14 : chkM 14 = true := by decide +kernel
set_option maxRecDepth 100000 in
theorem kc_15 : chkM 15 = true := by decide +kernel
set_option maxRecDepth 100000 in
theorem kc_16 : chkM 16 = true := by decide +kernel
set_option maxRecDepth 100000 in
theorem kc_17 : chkM 17 = true := by decide +kernel
set_option maxRecDepth 100000 in
theorem kc_18 : chkM 18 = true := by decide +kernel
set_option maxRecDepth 100000 in
theorem kc_19 : chkM 19 = true := by decide +kernel
set_option maxRecDepth 100000 in
theorem kc_20_0 : (((inf 20).2.2.drop 0).take 6).all (fun b => chk (mtb 20).1 (mtb 20).2.2.2.2 (mtb 20).2.2.1 (mtb 20).2.1.name b.1 b.2.2) = true := by decide +kernel
set_option maxRecDepth 100000 in
theorem kc_20_1 : (((inf 20).2.2.drop 6).take 6).all (fun b => chk (mtb 20).1 (mtb 20).2.2.2.2 (mtb 20).2.2.1 (mtb 20).2.1.name b.1 b.2.2) = true := by decide +kernel
set_option maxRecDepth 100000 in
theorem kc_20_2 : (((inf 20).2.2.drop 12).take 6).all (fun b => chk (mtb 20).1 (mtb 20).2.2.2.2 (mtb 20).2.2.1 (mtb 20).2.1.name b.1 b.2.2) = true := by decide +kernel
set_option maxRecDepth 100000 in
theorem kc_20_3 : (((inf 20).2.2.drop 18).take 6).all (fun b => chk (mtb 20).1 (mtb 20).2.2.2.2 (mtb 20).2.2.1 (mtb 20).2.1.name b.1 b.2.2) = true := by decide +kernel
set_option maxRecDepth 100000 in
theorem kc_20_4 : (((inf 20).2.2.drop 24).take 6).all (fun b => chk (mtb 20).1 (mtb 20).2.2.2.2 (mtb 20).2.2.1 (mtb 20).2.1.name b.1 b.2.2) = true := by decide +kernel
set_option maxRecDepth 100000 in
theorem kc_20_5 : (((inf 20).2.2.drop 30).take 6).all (fun b => chk (mtb 20).1 (mtb 20).2.2.2.2 (mtb 20).2.2.1 (mtb 20).2.1.name b.1 b.2.2) = true := by decide +kernel
set_option maxRecDepth 100000 in
theorem kc_20_6 : (((inf 20).2.2.drop 36).take 6).all (fun b => chk (mtb 20).1 (mtb 20).2.2.2.2 (mtb 20).2.2.1 (mtb 20).2.1.name b.1 b.2.2) = true := by decide +kernel
set_option maxRecDepth 100000 in
theorem kc_20_7 : ((inf 20).2.2.drop 42).all (fun b => chk (mtb 20).1 (mtb 20).2.2.2.2 (mtb 20).2.2.1 (mtb 20).2.1.name b.1 b.2.2) = true := by decide +kernel
theorem kc_20 : chkM 20 = true := by
  have h := (ck_cut 6 kc_20_0 (by rw [List.drop_drop]; exact (ck_cut 6 kc_20_1 (by rw [List.drop_drop]; exact (ck_cut 6 kc_20_2 (by rw [List.drop_drop]; exact (ck_cut 6 kc_20_3 (by rw [List.drop_drop]; exact (ck_cut 6 kc_20_4 (by rw [List.drop_drop]; exact (ck_cut 6 kc_20_5 (by rw [List.drop_drop]; exact (ck_cut 6 kc_20_6 (by rw [List.drop_drop]; exact kc_20_7))))))))))))))
  exact h
set_option maxRecDepth 100000 in
theorem kc_21 : chkM 21 = true := by decide +kernel
set_option maxRecDepth 100000 in
theorem kc_22 : chkM 22 = true := by decide +kernel
set_option maxRecDepth 100000 in
theorem kc_23 : chkM 23 = true := by decide +kernel
set_option maxRecDepth 100000 in
theorem kc_24 : chkM 24 = true := by decide +kernel
set_option maxRecDepth 100000 in
theorem kc_25 : chkM 25 = true := by decide +kernel
set_option maxRecDepth 100000 in
theorem kc_26 : chkM 26 = true := by decide +kernel
set_option maxRecDepth 100000 in
theorem kc_27 : chkM 27 = true := by decide +kernel
set_option maxRecDepth 100000 in
theorem kc_28 : chkM 28 = true := by decide +kernel
set_option maxRecDepth 100000 in
theorem kc_29 : chkM 29 = true := by decide +kernel
set_option maxRecDepth 100000 in
theorem kc_30 : chkM 30 = true := by decide +kernel
set_option maxRecDepth 100000 in
theorem kc_31 : chkM 31 = true := by decide +kernel
set_option maxRecDepth 100000 in
theorem kc_32 : chkM 32 = true := by decide +kernel
set_option maxRecDepth 100000 in
theorem kc_33 : chkM 33 = true := by decide +kernel
set_option maxRecDepth 100000 in
theorem kc_34 : chkM 34 = true := by decide +kernel
set_option maxRecDepth 100000 in
theorem kc_35_0 : (((inf 35).2.2.drop 0).take 6).all (fun b => chk (mtb 35).1 (mtb 35).2.2.2.2 (mtb 35).2.2.1 (mtb 35).2.1.name b.1 b.2.2) = true := by decide +kernel
set_option maxRecDepth 100000 in
theorem kc_35_1 : (((inf 35).2.2.drop 6).take 6).all (fun b => chk (mtb 35).1 (mtb 35).2.2.2.2 (mtb 35).2.2.1 (mtb 35).2.1.name b.1 b.2.2) = true := by decide +kernel
set_option maxRecDepth 100000 in
theorem kc_35_2 : (((inf 35).2.2.drop 12).take 6).all (fun b => chk (mtb 35).1 (mtb 35).2.2.2.2 (mtb 35).2.2.1 (mtb 35).2.1.name b.1 b.2.2) = true := by decide +kernel
set_option maxRecDepth 100000 in
theorem kc_35_3 : (((inf 35).2.2.drop 18).take 6).all (fun b => chk (mtb 35).1 (mtb 35).2.2.2.2 (mtb 35).2.2.1 (mtb 35).2.1.name b.1 b.2.2) = true := by decide +kernel
set_option maxRecDepth 100000 in
theorem kc_35_4 : (((inf 35).2.2.drop 24).take 6).all (fun b => chk (mtb 35).1 (mtb 35).2.2.2.2 (mtb 35).2.2.1 (mtb 35).2.1.name b.1 b.2.2) = true := by decide +kernel
set_option maxRecDepth 100000 in
theorem kc_35_5 : (((inf 35).2.2.drop 30).take 6).all (fun b => chk (mtb 35).1 (mtb 35).2.2.2.2 (mtb 35).2.2.1 (mtb 35).2.1.name b.1 b.2.2) = true := by decide +kernel
set_option maxRecDepth 100000 in
theorem kc_35_6 : (((inf 35).2.2.drop 36).take 6).all (fun b => chk (mtb 35).1 (mtb 35).2.2.2.2 (mtb 35).2.2.1 (mtb 35).2.1.name b.1 b.2.2) = true := by decide +kernel
set_option maxRecDepth 100000 in
theorem kc_35_7 : ((inf 35).2.2.drop 42).all (fun b => chk (mtb 35).1 (mtb 35).2.2.2.2 (mtb 35).2.2.1 (mtb 35).2.1.name b.1 b.2.2) = true := by decide +kernel
theorem kc_35 : chkM 35 = true := by
  have h := (ck_cut 6 kc_35_0 (by rw [List.drop_drop]; exact (ck_cut 6 kc_35_1 (by rw [List.drop_drop]; exact (ck_cut 6 kc_35_2 (by rw [List.drop_drop]; exact (ck_cut 6 kc_35_3 (by rw [List.drop_drop]; exact (ck_cut 6 kc_35_4 (by rw [List.drop_drop]; exact (ck_cut 6 kc_35_5 (by rw [List.drop_drop]; exact (ck_cut 6 kc_35_6 (by rw [List.drop_drop]; exact kc_35_7))))))))))))))
  exact h
set_option maxRecDepth 100000 in
theorem kc_36 : chkM 36 = true := by decide +kernel
set_option maxRecDepth 100000 in
theorem kc_37 : chkM 37 = true := by decide +kernel
set_option maxRecDepth 100000 in
theorem kc_38 : chkM 38 = true := by decide +kernel
set_option maxRecDepth 100000 in
theorem kc_39 : chkM 39 = true := by decide +kernel
theorem kcr_0 : ∀ m, 0 ≤ m → m < 40 → chkM m = true := by
  intro m h1 h2
  obtain ⟨k, rfl⟩ := Nat.exists_eq_add_of_le h1
  match k, h2 with
  | 0, _ => exact kc_0
  | 1, _ => exact kc_1
  | 2, _ => exact kc_2
  | 3, _ => exact kc_3
  | 4, _ => exact kc_4
  | 5, _ => exact kc_5
  | 6, _ => exact kc_6
  | 7, _ => exact kc_7
  | 8, _ => exact kc_8
  | 9, _ => exact kc_9
  | 10, _ => exact kc_10
  | 11, _ => exact kc_11
  | 12, _ => exact kc_12
  | 13, _ => exact kc_13
  | 14, _ => exact kc_14
  | 15, _ => exact kc_15
  | 16, _ => exact kc_16
  | 17, _ => exact kc_17
  | 18, _ => exact kc_18
  | 19, _ => exact kc_19
  | 20, _ => exact kc_20
  | 21, _ => exact kc_21
  | 22, _ => exact kc_22
  | 23, _ => exact kc_23
  | 24, _ => exact kc_24
  | 25, _ => exact kc_25
  | 26, _ => exact kc_26
  | 27, _ => exact kc_27
  | 28, _ => exact kc_28
  | 29, _ => exact kc_29
  | 30, _ => exact kc_30
  | 31, _ => exact kc_31
  | 32, _ => exact kc_32
  | 33, _ => exact kc_33
  | 34, _ => exact kc_34
  | 35, _ => exact kc_35
  | 36, _ => exact kc_36
  | 37, _ => exact kc_37
  | 38, _ => exact kc_38
  | 39, _ => exact kc_39
  | k + 40, h => exact absurd h (by omega)
end
section
/-! decided: the code of every method, 1 (own work) -/
set_option maxRecDepth 100000 in
theorem kc_40 : chkM 40 = true := by decide +kernel
set_option maxRecDepth 100000 in
theorem kc_41 : chkM 41 = true := by decide +kernel
set_option maxRecDepth 100000 in
theorem kc_42 : chkM 42 = true := by decide +kernel
set_option maxRecDepth 100000 in
theorem kc_43 : chkM 43 = true := by decide +kernel
set_option maxRecDepth 100000 in
theorem kc_44 : chkM 44 = true := by decide +kernel
set_option maxRecDepth 100000 in
theorem kc_45 : chkM 45 = true := by decide +kernel
set_option maxRecDepth 100000 in
theorem kc_46 : chkM 46 = true := by decide +kernel
set_option maxRecDepth 100000 in
theorem kc_47 : chkM 47 = true := by decide +kernel
set_option maxRecDepth 100000 in
theorem kc_48 : chkM 48 = true := by decide +kernel
set_option maxRecDepth 100000 in
theorem kc_49 : chkM 49 = true := by decide +kernel
set_option maxRecDepth 100000 in
theorem kc_50 : chkM 50 = true := by decide +kernel
set_option maxRecDepth 100000 in
theorem kc_51 : chkM 51 = true := by decide +kernel
set_option maxRecDepth 100000 in
theorem kc_52 : chkM 52 = true := by decide +kernel
set_option maxRecDepth 100000 in
theorem kc_53 : chkM 53 = true := by decide +kernel
set_option maxRecDepth 100000 in
theorem kc_54 : chkM 54 = true := by decide +kernel
set_option maxRecDepth 100000 in
theorem kc_55 : chkM 55 = true := by decide +kernel
set_option maxRecDepth 100000 in
theorem kc_56 : chkM 56 = true := by decide +kernel
set_option maxRecDepth 100000 in
theorem kc_57 : chkM 57 = true := by decide +kernel
set_option maxRecDepth 100000 in
theorem kc_58 : chkM 58 = true := by decide +kernel
set_option maxRecDepth 100000 in
theorem kc_59 : chkM 59 = true := by decide +kernel
set_option maxRecDepth 100000 in
theorem kc_60 : chkM 60 = true := by decide +kernel
set_option maxRecDepth 100000 in
theorem kc_61 : chkM 61 = true := by decide +kernel
set_option maxRecDepth 100000 in
theorem kc_62 : chkM 62 = true := by decide +kernel
set_option maxRecDepth 100000 in
theorem kc_63 : chkM 63 = true := by decide +kernel
set_option maxRecDepth 100000 in
theorem kc_64 : chkM 64 = true := by decide +kernel
set_option maxRecDepth 100000 in
theorem kc_65 : chkM 65 = true := by decide +kernel
set_option maxRecDepth 100000 in
theorem kc_66 : chkM 66 = true := by decide +kernel
set_option maxRecDepth 100000 in
theorem kc_67 : chkM 67 = true := by decide +kernel
set_option maxRecDepth 100000 in
theorem kc_68 : chkM 68 = true := by decide +kernel
set_option maxRecDepth 100000 in
theorem kc_69 : chkM 69 = true := by decide +kernel
set_option maxRecDepth 100000 in
theorem kc_70 : chkM 70 = true := by decide +kernel
set_option maxRecDepth 100000 in
theorem kc_71 : chkM 71 = true := by decide +kernel
set_option maxRecDepth 100000 in
theorem kc_72 : chkM 72 = true := by decide +kernel
set_option maxRecDepth 100000 in
theorem kc_73 : chkM 73 = true := by decide +kernel
set_option maxRecDepth 100000 in
theorem kc_74 : chkM 74 = true := by decide +kernel
set_option maxRecDepth 100000 in
theorem kc_75 : chkM 75 = true := by decide +kernel
set_option maxRecDepth 100000 in
theorem kc_76 : chkM 76 = true := by decide +kernel
set_option maxRecDepth 100000 in
theorem kc_77 : chkM 77 = true := by decide +kernel
set_option maxRecDepth 100000 in
theorem kc_78 : chkM 78 = true := by decide +kernel
set_option maxRecDepth 100000 in
theorem kc_79 : chkM 79 = true := by decide +kernel
theorem kcr_1 : ∀ m, 40 ≤ m → m < 80 → chkM m = true := by
  intro m h1 h2
  obtain ⟨k, rfl⟩ := Nat.exists_eq_add_of_le h1
  match k, h2 with
  | 0, _ => exact kc_40
  | 1, _ => exact kc_41
  | 2, _ => exact kc_42
  | 3, _ => exact kc_43
  | 4, _ => exact kc_44
  | 5, _ => exact kc_45
  | 6, _ => exact kc_46
  | 7, _ => exact kc_47
  | 8, _ => exact kc_48
  | 9, _ => exact kc_49
  | 10, _ => exact kc_50
  | 11, _ => exact kc_51
  | 12, _ => exact kc_52
  | 13, _ => exact kc_53
  | 14, _ => exact kc_54
  | 15, _ => exact kc_55
  | 16, _ => exact kc_56
  | 17, _ => exact kc_57
  | 18, _ => exact kc_58
  | 19, _ => exact kc_59
  | 20, _ => exact kc_60
  | 21, _ => exact kc_61
  | 22, _ => exact kc_62
  | 23, _ => exact kc_63
  | 24, _ => exact kc_64
  | 25, _ => exact kc_65
  | 26, _ => exact kc_66
  | 27, _ => exact kc_67
  | 28, _ => exact kc_68
  | 29, _ => exact kc_69
  | 30, _ => exact kc_70
  | 31, _ => exact kc_71
  | 32, _ => exact kc_72
  | 33, _ => exact kc_73
  | 34, _ => exact kc_74
  | 35, _ => exact kc_75
  | 36, _ => exact kc_76
  | 37, _ => exact kc_77
  | 38, _ => exact kc_78
  | 39, _ => exact kc_79
  | k + 40, h => exact absurd h (by omega)
end
section
/-! decided: the code of every method, 2 (own work) -/
set_option maxRecDepth 100000 in
theorem kc_80 : chkM 80 = true := by decide +kernel
set_option maxRecDepth 100000 in
theorem kc_81 : chkM 81 = true := by decide +kernel
set_option maxRecDepth 100000 in
theorem kc_82 : chkM 82 = true := by decide +kernel
set_option maxRecDepth 100000 in
theorem kc_83 : chkM 83 = true := by decide +kernel
set_option maxRecDepth 100000 in
theorem kc_84 : chkM 84 = true := by decide +kernel
set_option maxRecDepth 100000 in
theorem kc_85 : chkM 85 = true := by decide +kernel
set_option maxRecDepth 100000 in
theorem kc_86 : chkM 86 = true := by decide +kernel
set_option maxRecDepth 100000 in
theorem kc_87 : chkM 87 = true := by decide +kernel
set_option maxRecDepth 100000 in
theorem kc_88 : chkM 88 = true := by decide +kernel
set_option maxRecDepth 100000 in
theorem kc_89 : chkM 89 = true := by decide +kernel
set_option maxRecDepth 100000 in
theorem kc_90 : chkM 90 = true := by decide +kernel
set_option maxRecDepth 100000 in
theorem kc_91 : chkM 91 = true := by decide +kernel
set_option maxRecDepth 100000 in
theorem kc_92 : chkM 92 = true := by decide +kernel
set_option maxRecDepth 100000 in
theorem kc_93 : chkM 93 = true := by decide +kernel
set_option maxRecDepth 100000 in
theorem kc_94 : chkM 94 = true := by decide +kernel
set_option maxRecDepth 100000 in
theorem kc_95 : chkM 95 = true := by decide +kernel
set_option maxRecDepth 100000 in
theorem kc_96 : chkM 96 = true := by decide +kernel
set_option maxRecDepth 100000 in
theorem kc_97 : chkM 97 = true := by decide +kernel
set_option maxRecDepth 100000 in
theorem kc_98 : chkM 98 = true := by decide +kernel
set_option maxRecDepth 100000 in
theorem kc_99 : chkM 99 = true := by decide +kernel
set_option maxRecDepth 100000 in
theorem kc_100 : chkM 100 = true := by decide +kernel
set_option maxRecDepth 100000 in
theorem kc_101 : chkM 101 = true := by decide +kernel
set_option maxRecDepth 100000 in
theorem kc_102 : chkM 102 = true := by decide +kernel
set_option maxRecDepth 100000 in
theorem kc_103 : chkM 103 = true := by decide +kernel
set_option maxRecDepth 100000 in
theorem kc_104 : chkM 104 = true := by decide +kernel
set_option maxRecDepth 100000 in
theorem kc_105 : chkM 105 = true := by decide +kernel
set_option maxRecDepth 100000 in
theorem kc_106 : chkM 106 = true := by decide +kernel
set_option maxRecDepth 100000 in
theorem kc_107 : chkM 107 = true := by decide +kernel
set_option maxRecDepth 100000 in
theorem kc_108 : chkM 108 = true := by decide +kernel
set_option maxRecDepth 100000 in
theorem kc_109 : chkM 109 = true := by decide +kernel
set_option maxRecDepth 100000 in
theorem kc_110 : chkM 110 = true := by decide +kernel
set_option maxRecDepth 100000 in
theorem kc_111 : chkM 111 = true := by decide +kernel
set_option maxRecDepth 100000 in
theorem kc_112 : chkM 112 = true := by decide +kernel
set_option maxRecDepth 100000 in
theorem kc_113 : chkM 113 = true := by decide +kernel
set_option maxRecDepth 100000 in
theorem kc_114 : chkM 114 = true := by decide +kernel
set_option maxRecDepth 100000 in
theorem kc_115 : chkM 115 = true := by decide +kernel
set_option maxRecDepth 100000 in
theorem kc_116 : chkM 116 = true := by decide +kernel
set_option maxRecDepth 100000 in
theorem kc_117 : chkM 117 = true := by decide +kernel
set_option maxRecDepth 100000 in
theorem kc_118 : chkM 118 = true := by decide +kernel
set_option maxRecDepth 100000 in
theorem kc_119 : chkM 119 = true := by decide +kernel
theorem kcr_2 : ∀ m, 80 ≤ m → m < 120 → chkM m = true := by
  intro m h1 h2
  obtain ⟨k, rfl⟩ := Nat.exists_eq_add_of_le h1
  match k, h2 with
  | 0, _ => exact kc_80
  | 1, _ => exact kc_81
  | 2, _ => exact kc_82
  | 3, _ => exact kc_83
  | 4, _ => exact kc_84
  | 5, _ => exact kc_85
  | 6, _ => exact kc_86
  | 7, _ => exact kc_87
  | 8, _ => exact kc_88
  | 9, _ => exact kc_89
  | 10, _ => exact kc_90
  | 11, _ => exact kc_91
  | 12, _ => exact kc_92
  | 13, _ => exact kc_93
  | 14, _ => exact kc_94
  | 15, _ => exact kc_95
  | 16, _ => exact kc_96
  | 17, _ => exact kc_97
  | 18, _ => exact kc_98
  | 19, _ => exact kc_99
  | 20, _ => exact kc_100
  | 21, _ => exact kc_101
  | 22, _ => exact kc_102
  | 23, _ => exact kc_103
  | 24, _ => exact kc_104
  | 25, _ => exact kc_105
  | 26, _ => exact kc_106
  | 27, _ => exact kc_107
  | 28, _ => exact kc_108
  | 29, _ => exact kc_109
  | 30, _ => exact kc_110
  | 31, _ => exact kc_111
  | 32, _ => exact kc_112
  | 33, _ => exact kc_113
  | 34, _ => exact kc_114
  | 35, _ => exact kc_115
  | 36, _ => exact kc_116
  | 37, _ => exact kc_117
  | 38, _ => exact kc_118
  | 39, _ => exact kc_119
  | k + 40, h => exact absurd h (by omega)
end
section
/-! decided: the code of every method, 3 (own work) -/
set_option maxRecDepth 100000 in
theorem kc_120 : chkM 120 = true := by decide +kernel
set_option maxRecDepth 100000 in
theorem kc_121 : chkM 121 = true := by decide +kernel
set_option maxRecDepth 100000 in
theorem kc_122 : chkM 122 = true := by decide +kernel
set_option maxRecDepth 100000 in
theorem kc_123 : chkM 123 = true := by decide +kernel
set_option maxRecDepth 100000 in
theorem kc_124 : chkM 124 = true := by decide +kernel
set_option maxRecDepth 100000 in
theorem kc_125 : chkM 125 = true := by decide +kernel
set_option maxRecDepth 100000 in
theorem kc_126 : chkM 126 = true := by decide +kernel
set_option maxRecDepth 100000 in
theorem kc_127 : chkM 127 = true := by decide +kernel
set_option maxRecDepth 100000 in
theorem kc_128 : chkM 128 = true := by decide +kernel
set_option maxRecDepth 100000 in
theorem kc_129 : chkM 129 = true := by decide +kernel
set_option maxRecDepth 100000 in
theorem kc_130 : chkM 130 = true := by decide +kernel
set_option maxRecDepth 100000 in
theorem kc_131 : chkM 131 = true := by decide +kernel
set_option maxRecDepth 100000 in
theorem kc_132 : chkM 132 = true := by decide +kernel
set_option maxRecDepth 100000 in
theorem kc_133 : chkM 133 = true := by decide +kernel
set_option maxRecDepth 100000 in
theorem kc_134 : chkM 134 = true := by decide +kernel
set_option maxRecDepth 100000 in
theorem kc_135 : chkM 135 = true := by decide +kernel
set_option maxRecDepth 100000 in
theorem kc_136 : chkM 136 = true := by decide +kernel
set_option maxRecDepth 100000 in
theorem kc_137 : chkM 137 = true := by decide +kernel
set_option maxRecDepth 100000 in
theorem kc_138 : chkM 138 = true := by decide +kernel
set_option maxRecDepth 100000 in
theorem kc_139 : chkM 139 = true := by decide +kernel
set_option maxRecDepth 100000 in
theorem kc_140 : chkM 140 = true := by decide +kernel
set_option maxRecDepth 100000 in
theorem kc_141 : chkM 141 = true := by decide +kernel
set_option maxRecDepth 100000 in
theorem kc_142 : chkM 142 = true := by decide +kernel
set_option maxRecDepth 100000 in
theorem kc_143 : chkM 143 = true := by decide +kernel
set_option maxRecDepth 100000 in
theorem kc_144 : chkM 144 = true := by decide +kernel
set_option maxRecDepth 100000 in
theorem kc_145 : chkM 145 = true := by decide +kernel
set_option maxRecDepth 100000 in
theorem kc_146 : chkM 146 = true := by decide +kernel
set_option maxRecDepth 100000 in
theorem kc_147 : chkM 147 = true := by decide +kernel
set_option maxRecDepth 100000 in
theorem kc_148 : chkM 148 = true := by decide +kernel
set_option maxRecDepth 100000 in
theorem kc_149 : chkM 149 = true := by decide +kernel
set_option maxRecDepth 100000 in
theorem kc_150 : chkM 150 = true := by decide +kernel
set_option maxRecDepth 100000 in
theorem kc_151 : chkM 151 = true := by decide +kernel
set_option maxRecDepth 100000 in
theorem kc_152 : chkM 152 = true := by decide +kernel
set_option maxRecDepth 100000 in
theorem kc_153 : chkM 153 = true := by decide +kernel
set_option maxRecDepth 100000 in
theorem kc_154 : chkM 154 = true := by decide +kernel
set_option maxRecDepth 100000 in
theorem kc_155 : chkM 155 = true := by decide +kernel
set_option maxRecDepth 100000 in
theorem kc_156 : chkM 156 = true := by decide +kernel
set_option maxRecDepth 100000 in
theorem kc_157 : chkM 157 = true := by decide +kernel
set_option maxRecDepth 100000 in
theorem kc_158 : chkM 158 = true := by decide +kernel
set_option maxRecDepth 100000 in
theorem kc_159 : chkM 159 = true := by decide +kernel
theorem kcr_3 : ∀ m, 120 ≤ m → m < 160 → chkM m = true := by
  intro m h1 h2
  obtain ⟨k, rfl⟩ := Nat.exists_eq_add_of_le h1
  match k, h2 with
  | 0, _ => exact kc_120
  | 1, _ => exact kc_121
  | 2, _ => exact kc_122
  | 3, _ => exact kc_123
  | 4, _ => exact kc_124
  | 5, _ => exact kc_125
  | 6, _ => exact kc_126
  | 7, _ => exact kc_127
  | 8, _ => exact kc_128
  | 9, _ => exact kc_129
  | 10, _ => exact kc_130
  | 11, _ => exact kc_131
  | 12, _ => exact kc_132
  | 13, _ => exact kc_133
  | 14, _ => exact kc_134
  | 15, _ => exact kc_135
  | 16, _ => exact kc_136
  | 17, _ => exact kc_137
  | 18, _ => exact kc_138
  | 19, _ => exact kc_139
  | 20, _ => exact kc_140
  | 21, _ => exact kc_141
  | 22, _ => exact kc_142
  | 23, _ => exact kc_143
  | 24, _ => exact kc_144
  | 25, _ => exact kc_145
  | 26, _ => exact kc_146
  | 27, _ => exact kc_147
  | 28, _ => exact kc_148
  | 29, _ => exact kc_149
  | 30, _ => exact kc_150
  | 31, _ => exact kc_151
  | 32, _ => exact kc_152
  | 33, _ => exact kc_153
  | 34, _ => exact kc_154
  | 35, _ => exact kc_155
  | 36, _ => exact kc_156
  | 37, _ => exact kc_157
  | 38, _ => exact kc_158
  | 39, _ => exact kc_159
  | k + 40, h => exact absurd h (by omega)
end
section
/-! decided: the code of every method, 4 (own work) -/
set_option maxRecDepth 100000 in
theorem kc_160 : chkM 160 = true := by decide +kernel
set_option maxRecDepth 100000 in
theorem kc_161 : chkM 161 = true := by decide +kernel
set_option maxRecDepth 100000 in
theorem kc_162 : chkM 162 = true := by decide +kernel
set_option maxRecDepth 100000 in
theorem kc_163 : chkM 163 = true := by decide +kernel
set_option maxRecDepth 100000 in
theorem kc_164 : chkM 164 = true := by decide +kernel
set_option maxRecDepth 100000 in
theorem kc_165 : chkM 165 = true := by decide +kernel
set_option maxRecDepth 100000 in
theorem kc_166 : chkM 166 = true := by decide +kernel
set_option maxRecDepth 100000 in
theorem kc_167 : chkM 167 = true := by decide +kernel
set_option maxRecDepth 100000 in
theorem kc_168 : chkM 168 = true := by decide +kernel
set_option maxRecDepth 100000 in
theorem kc_169 : chkM 169 = true := by decide +kernel
set_option maxRecDepth 100000 in
theorem kc_170 : chkM 170 = true := by decide +kernel
set_option maxRecDepth 100000 in
theorem kc_171 : chkM 171 = true := by decide +kernel
set_option maxRecDepth 100000 in
theorem kc_172 : chkM 172 = true := by decide +kernel
set_option maxRecDepth 100000 in
theorem kc_173 : chkM 173 = true := by decide +kernel
set_option maxRecDepth 100000 in
theorem kc_174 : chkM 174 = true := by decide +kernel
set_option maxRecDepth 100000 in
theorem kc_175 : chkM 175 = true := by decide +kernel
set_option maxRecDepth 100000 in
theorem kc_176 : chkM 176 = true := by decide +kernel
set_option maxRecDepth 100000 in
theorem kc_177 : chkM 177 = true := by decide +kernel
set_option maxRecDepth 100000 in
theorem kc_178 : chkM 178 = true := by decide +kernel
set_option maxRecDepth 100000 in
theorem kc_179 : chkM 179 = true := by decide +kernel
set_option maxRecDepth 100000 in
theorem kc_180 : chkM 180 = true := by decide +kernel
set_option maxRecDepth 100000 in
theorem kc_181 : chkM 181 = true := by decide +kernel
set_option maxRecDepth 100000 in
theorem kc_182 : chkM 182 = true := by decide +kernel
set_option maxRecDepth 100000 in
theorem kc_183 : chkM 183 = true := by decide +kernel
set_option maxRecDepth 100000 in
theorem kc_184 : chkM 184 = true := by decide +kernel
set_option maxRecDepth 100000 in
theorem kc_185_0 : (((inf 185).2.2.drop 0).take 6).all (fun b => chk (mtb 185).1 (mtb 185).2.2.2.2 (mtb 185).2.2.1 (mtb 185).2.1.name b.1 b.2.2) = true := by decide +kernel
set_option maxRecDepth 100000 in
theorem kc_185_1 : (((inf 185).2.2.drop 6).take 6).all (fun b => chk (mtb 185).1 (mtb 185).2.2.2.2 (mtb 185).2.2.1 (mtb 185).2.1.name b.1 b.2.2) = true := by decide +kernel
set_option maxRecDepth 100000 in
theorem kc_185_2 : (((inf 185).2.2.drop 12).take 6).all (fun b => chk (mtb 185).1 (mtb 185).2.2.2.2 (mtb 185).2.2.1 (mtb 185).2.1.name b.1 b.2.2) = true := by decide +kernel
set_option maxRecDepth 100000 in
theorem kc_185_3 : (((inf 185).2.2.drop 18).take 6).all (fun b => chk (mtb 185).1 (mtb 185).2.2.2.2 (mtb 185).2.2.1 (mtb 185).2.1.name b.1 b.2.2) = true := by decide +kernel
set_option maxRecDepth 100000 in
theorem kc_185_4 : (((inf 185).2.2.drop 24).take 6).all (fun b => chk (mtb 185).1 (mtb 185).2.2.2.2 (mtb 185).2.2.1 (mtb 185).2.1.name b.1 b.2.2) = true := by decide +kernel
set_option maxRecDepth 100000 in
theorem kc_185_5 : (((inf 185).2.2.drop 30).take 6).all (fun b => chk (mtb 185).1 (mtb 185).2.2.2.2 (mtb 185).2.2.1 (mtb 185).2.1.name b.1 b.2.2) = true := by decide +kernel
set_option maxRecDepth 100000 in
theorem kc_185_6 : (((inf 185).2.2.drop 36).take 6).all (fun b => chk (mtb 185).1 (mtb 185).2.2.2.2 (mtb 185).2.2.1 (mtb 185).2.1.name b.1 b.2.2) = true := by decide +kernel
set_option maxRecDepth 100000 in
theorem kc_185_7 : (((inf 185).2.2.drop 42).take 6).all (fun b => chk (mtb 185).1 (mtb 185).2.2.2.2 (mtb 185).2.2.1 (mtb 185).2.1.name b.1 b.2.2) = true := by decide +kernel
set_option maxRecDepth 100000 in
theorem kc_185_8 : (((inf 185).2.2.drop 48).take 6).all (fun b => chk (mtb 185).1 (mtb 185).2.2.2.2 (mtb 185).2.2.1 (mtb 185).2.1.name b.1 b.2.2) = true := by decide +kernel
set_option maxRecDepth 100000 in
theorem kc_185_9 : (((inf 185).2.2.drop 54).take 6).all (fun b => chk (mtb 185).1 (mtb 185).2.2.2.2 (mtb 185).2.2.1 (mtb 185).2.1.name b.1 b.2.2) = true := by decide +kernel
set_option maxRecDepth 100000 in
theorem kc_185_10 : (((inf 185).2.2.drop 60).take 6).all (fun b => chk (mtb 185).1 (mtb 185).2.2.2.2 (mtb 185).2.2.1 (mtb 185).2.1.name b.1 b.2.2) = true := by decide +kernel
set_option maxRecDepth 100000 in
theorem kc_185_11 : ((inf 185).2.2.drop 66).all (fun b => chk (mtb 185).1 (mtb 185).2.2.2.2 (mtb 185).2.2.1 (mtb 185).2.1.name b.1 b.2.2) = true := by decide +kernel
theorem kc_185 : chkM 185 = true := by
  have h := (ck_cut 6 kc_185_0 (by rw [List.drop_drop]; exact (ck_cut 6 kc_185_1 (by rw [List.drop_drop]; exact (ck_cut 6 kc_185_2 (by rw [List.drop_drop]; exact (ck_cut 6 kc_185_3 (by rw [List.drop_drop]; exact (ck_cut 6 kc_185_4 (by rw [List.drop_drop]; exact (ck_cut 6 kc_185_5 (by rw [List.drop_drop]; exact (ck_cut 6 kc_185_6 (by rw [List.drop_drop]; exact (ck_cut 6 kc_185_7 (by rw [List.drop_drop]; exact (ck_cut 6 kc_185_8 (by rw [List.drop_drop]; exact (ck_cut 6 kc_185_9 (by rw [List.drop_drop]; exact (ck_cut 6 kc_185_10 (by rw [List.drop_drop]; exact kc_185_11))))))))))))))))))))))
  exact h
set_option maxRecDepth 100000 in
theorem kc_186 : chkM 186 = true := by decide +kernel
set_option maxRecDepth 100000 in
theorem kc_187 : chkM 187 = true := by decide +kernel
set_option maxRecDepth 100000 in
theorem kc_188 : chkM 188 = true := by decide +kernel
set_option maxRecDepth 100000 in
theorem kc_189 : chkM 189 = true := by decide +kernel
set_option maxRecDepth 100000 in
theorem kc_190 : chkM 190 = true := by decide +kernel
set_option maxRecDepth 100000 in
theorem kc_191 : chkM 191 = true := by decide +kernel
set_option maxRecDepth 100000 in
theorem kc_192 : chkM 192 = true := by decide +kernel
set_option maxRecDepth 100000 in
theorem kc_193 : chkM 193 = true := by decide +kernel
set_option maxRecDepth 100000 in
theorem kc_194 : chkM 194 = true := by decide +kernel
set_option maxRecDepth 100000 in
theorem kc_195 : chkM 195 = true := by decide +kernel
set_option maxRecDepth 100000 in
theorem kc_196 : chkM 196 = true := by decide +kernel
set_option maxRecDepth 100000 in
theorem kc_197 : chkM 197 = true := by decide +kernel
set_option maxRecDepth 100000 in
theorem kc_198 : chkM 198 = true := by decide +kernel
set_option maxRecDepth 100000 in
theorem kc_199 : chkM 199 = true := by decide +kernel
theorem kcr_4 : ∀ m, 160 ≤ m → m < 200 → chkM m = true := by
  intro m h1 h2
  obtain ⟨k, rfl⟩ := Nat.exists_eq_add_of_le h1
  match k, h2 with
  | 0, _ => exact kc_160
  | 1, _ => exact kc_161
  | 2, _ => exact kc_162
  | 3, _ => exact kc_163
  | 4, _ => exact kc_164
  | 5, _ => exact kc_165
  | 6, _ => exact kc_166
  | 7, _ => exact kc_167
  | 8, _ => exact kc_168
  | 9, _ => exact kc_169
  | 10, _ => exact kc_170
  | 11, _ => exact kc_171
  | 12, _ => exact kc_172
  | 13, _ => exact kc_173
  | 14, _ => exact kc_174
  | 15, _ => exact kc_175
  | 16, _ => exact kc_176
  | 17, _ => exact kc_177
  | 18, _ => exact kc_178
  | 19, _ => exact kc_179
  | 20, _ => exact kc_180
  | 21, _ => exact kc_181
  | 22, _ => exact kc_182
  | 23, _ => exact kc_183
  | 24, _ => exact kc_184
  | 25, _ => exact kc_185
  | 26, _ => exact kc_186
  | 27, _ => exact kc_187
  | 28, _ => exact kc_188
  | 29, _ => exact kc_189
  | 30, _ => exact kc_190
  | 31, _ => exact kc_191
  | 32, _ => exact kc_192
  | 33, _ => exact kc_193
  | 34, _ => exact kc_194
  | 35, _ => exact kc_195
  | 36, _ => exact kc_196
  | 37, _ => exact kc_197
  | 38, _ => exact kc_198
  | 39, _ => exact kc_199
  | k + 40, h => exact absurd h (by omega)
end
section
/-! decided: the code of every method, 5 (own work) -/
set_option maxRecDepth 100000 in
theorem kc_200 : chkM 200 = true := by decide +kernel
set_option maxRecDepth 100000 in
theorem kc_201 : chkM 201 = true := by decide +kernel
set_option maxRecDepth 100000 in
theorem kc_202 : chkM 202 = true := by decide +kernel
set_option maxRecDepth 100000 in
theorem kc_203 : chkM 203 = true := by decide +kernel
set_option maxRecDepth 100000 in
theorem kc_204 : chkM 204 = true := by decide +kernel
set_option maxRecDepth 100000 in
theorem kc_205 : chkM 205 = true := by decide +kernel
set_option maxRecDepth 100000 in
theorem kc_206 : chkM 206 = true := by decide +kernel
set_option maxRecDepth 100000 in
theorem kc_207 : chkM 207 = true := by decide +kernel
set_option maxRecDepth 100000 in
theorem kc_208 : chkM 208 = true := by decide +kernel
set_option maxRecDepth 100000 in
theorem kc_209 : chkM 209 = true := by decide +kernel
set_option maxRecDepth 100000 in
theorem kc_210 : chkM 210 = true := by decide +kernel
set_option maxRecDepth 100000 in
theorem kc_211 : chkM 211 = true := by decide +kernel
set_option maxRecDepth 100000 in
theorem kc_212 : chkM 212 = true := by decide +kernel
set_option maxRecDepth 100000 in
theorem kc_213 : chkM 213 = true := by decide +kernel
set_option maxRecDepth 100000 in
theorem kc_214 : chkM 214 = true := by decide +kernel
set_option maxRecDepth 100000 in
theorem kc_215 : chkM 215 = true := by decide +kernel
set_option maxRecDepth 100000 in
theorem kc_216 : chkM 216 = true := by decide +kernel
set_option maxRecDepth 100000 in
theorem kc_217 : chkM 217 = true := by decide +kernel
set_option maxRecDepth 100000 in
theorem kc_218 : chkM 218 = true := by decide +kernel
set_option maxRecDepth 100000 in
theorem kc_219 : chkM 219 = true := by decide +kernel
set_option maxRecDepth 100000 in
theorem kc_220_0 : (((inf 220).2.2.drop 0).take 6).all (fun b => chk (mtb 220).1 (mtb 220).2.2.2.2 (mtb 220).2.2.1 (mtb 220).2.1.name b.1 b.2.2) = true := by decide +kernel
set_option maxRecDepth 100000 in
theorem kc_220_1 : (((inf 220).2.2.drop 6).take 6).all (fun b => chk (mtb 220).1 (mtb 220).2.2.2.2 (mtb 220).2.2.1 (mtb 220).2.1.name b.1 b.2.2) = true := by decide +kernel
set_option maxRecDepth 100000 in
theorem kc_220_2 : (((inf 220).2.2.drop 12).take 6).all (fun b => chk (mtb 220).1 (mtb 220).2.2.2.2 (mtb 220).2.2.1 (mtb 220).2.1.name b.1 b.2.2) = true := by decide +kernel
set_option maxRecDepth 100000 in
theorem kc_220_3 : (((inf 220).2.2.drop 18).take 6).all (fun b => chk (mtb 220).1 (mtb 220).2.2.2.2 (mtb 220).2.2.1 (mtb 220).2.1.name b.1 b.2.2) = true := by decide +kernel
set_option maxRecDepth 100000 in
theorem kc_220_4 : (((inf 220).2.2.drop 24).take 6).all (fun b => chk (mtb 220).1 (mtb 220).2.2.2.2 (mtb 220).2.2.1 (mtb 220).2.1.name b.1 b.2.2) = true := by decide +kernel
set_option maxRecDepth 100000 in
theorem kc_220_5 : (((inf 220).2.2.drop 30).take 6).all (fun b => chk (mtb 220).1 (mtb 220).2.2.2.2 (mtb 220).2.2.1 (mtb 220).2.1.name b.1 b.2.2) = true := by decide +kernel
set_option maxRecDepth 100000 in
theorem kc_220_6 : (((inf 220).2.2.drop 36).take 6).all (fun b => chk (mtb 220).1 (mtb 220).2.2.2.2 (mtb 220).2.2.1 (mtb 220).2.1.name b.1 b.2.2) = true := by decide +kernel
set_option maxRecDepth 100000 in
theorem kc_220_7 : (((inf 220).2.2.drop 42).take 6).all (fun b => chk (mtb 220).1 (mtb 220).2.2.2.2 (mtb 220).2.2.1 (mtb 220).2.1.name b.1 b.2.2) = true := by decide +kernel
set_option maxRecDepth 100000 in
theorem kc_220_8 : ((inf 220).2.2.drop 48).all (fun b => chk (mtb 220).1 (mtb 220).2.2.2.2 (mtb 220).2.2.1 (mtb 220).2.1.name b.1 b.2.2) = true := by decide +kernel
theorem kc_220 : chkM 220 = true := by
  have h := (ck_cut 6 kc_220_0 (by rw [List.drop_drop]; exact (ck_cut 6 kc_220_1 (by rw [List.drop_drop]; exact (ck_cut 6 kc_220_2 (by rw [List.drop_drop]; exact (ck_cut 6 kc_220_3 (by rw [List.drop_drop]; exact (ck_cut 6 kc_220_4 (by rw [List.drop_drop]; exact (ck_cut 6 kc_220_5 (by rw [List.drop_drop]; exact (ck_cut 6 kc_220_6 (by rw [List.drop_drop]; exact (ck_cut 6 kc_220_7 (by rw [List.drop_drop]; exact kc_220_8))))))))))))))))
  exact h
set_option maxRecDepth 100000 in
theorem kc_221 : chkM 221 = true := by decide +kernel
set_option maxRecDepth 100000 in
theorem kc_222 : chkM 222 = true := by decide +kernel
set_option maxRecDepth 100000 in
theorem kc_223 : chkM 223 = true := by decide +kernel
set_option maxRecDepth 100000 in
theorem kc_224 : chkM 224 = true := by decide +kernel
set_option maxRecDepth 100000 in
theorem kc_225 : chkM 225 = true := by decide +kernel
set_option maxRecDepth 100000 in
theorem kc_226 : chkM 226 = true := by decide +kernel
set_option maxRecDepth 100000 in
theorem kc_227 : chkM 227 = true := by decide +kernel
set_option maxRecDepth 100000 in
theorem kc_228 : chkM 228 = true := by decide +kernel
set_option maxRecDepth 100000 in
theorem kc_229 : chkM 229 = true := by decide +kernel
set_option maxRecDepth 100000 in
theorem kc_230 : chkM 230 = true := by decide +kernel
set_option maxRecDepth 100000 in
theorem kc_231 : chkM 231 = true := by decide +kernel
set_option maxRecDepth 100000 in
theorem kc_232 : chkM 232 = true := by decide +kernel
set_option maxRecDepth 100000 in
theorem kc_233 : chkM 233 = true := by decide +kernel
set_option maxRecDepth 100000 in
theorem kc_234 : chkM 234 = true := by decide +kernel
set_option maxRecDepth 100000 in
theorem kc_235 : chkM 235 = true := by decide +kernel
set_option maxRecDepth 100000 in
theorem kc_236 : chkM 236 = true := by decide +kernel
set_option maxRecDepth 100000 in
theorem kc_237 : chkM 237 = true := by decide +kernel
set_option maxRecDepth 100000 in
theorem kc_238 : chkM 238 = true := by decide +kernel
set_option maxRecDepth 100000 in
theorem kc_239 : chkM 239 = true := by decide +kernel
theorem kcr_5 : ∀ m, 200 ≤ m → m < 240 → chkM m = true := by
  intro m h1 h2
  obtain ⟨k, rfl⟩ := Nat.exists_eq_add_of_le h1
  match k, h2 with
  | 0, _ => exact kc_200
  | 1, _ => exact kc_201
  | 2, _ => exact kc_202
  | 3, _ => exact kc_203
  | 4, _ => exact kc_204
  | 5, _ => exact kc_205
  | 6, _ => exact kc_206
  | 7, _ => exact kc_207
  | 8, _ => exact kc_208
  | 9, _ => exact kc_209
  | 10, _ => exact kc_210
  | 11, _ => exact kc_211
  | 12, _ => exact kc_212
  | 13, _ => exact kc_213
  | 14, _ => exact kc_214
  | 15, _ => exact kc_215
  | 16, _ => exact kc_216
  | 17, _ => exact kc_217
  | 18, _ => exact kc_218
  | 19, _ => exact kc_219
  | 20, _ => exact kc_220
  | 21, _ => exact kc_221
  | 22, _ => exact kc_222
  | 23, _ => exact kc_223
  | 24, _ => exact kc_224
  | 25, _ => exact kc_225
  | 26, _ => exact kc_226
  | 27, _ => exact kc_227
  | 28, _ => exact kc_228
  | 29, _ => exact kc_229
  | 30, _ => exact kc_230
  | 31, _ => exact kc_231
  | 32, _ => exact kc_232
  | 33, _ => exact kc_233
  | 34, _ => exact kc_234
  | 35, _ => exact kc_235
  | 36, _ => exact kc_236
  | 37, _ => exact kc_237
  | 38, _ => exact kc_238
  | 39, _ => exact kc_239
  | k + 40, h => exact absurd h (by omega)
end
section
/-! decided: the code of every method, 6 (own work) -/
set_option maxRecDepth 100000 in
theorem kc_240 : chkM 240 = true := by decide +kernel
set_option maxRecDepth 100000 in
theorem kc_241 : chkM 241 = true := by decide +kernel
set_option maxRecDepth 100000 in
theorem kc_242 : chkM 242 = true := by decide +kernel
set_option maxRecDepth 100000 in
theorem kc_243 : chkM 243 = true := by decide +kernel
set_option maxRecDepth 100000 in
theorem kc_244_0 : (((inf 244).2.2.drop 0).take 6).all (fun b => chk (mtb 244).1 (mtb 244).2.2.2.2 (mtb 244).2.2.1 (mtb 244).2.1.name b.1 b.2.2) = true := by decide +kernel
set_option maxRecDepth 100000 in
theorem kc_244_1 : (((inf 244).2.2.drop 6).take 6).all (fun b => chk (mtb 244).1 (mtb 244).2.2.2.2 (mtb 244).2.2.1 (mtb 244).2.1.name b.1 b.2.2) = true := by decide +kernel
set_option maxRecDepth 100000 in
theorem kc_244_2 : (((inf 244).2.2.drop 12).take 6).all (fun b => chk (mtb 244).1 (mtb 244).2.2.2.2 (mtb 244).2.2.1 (mtb 244).2.1.name b.1 b.2.2) = true := by decide +kernel
set_option maxRecDepth 100000 in
theorem kc_244_3 : (((inf 244).2.2.drop 18).take 6).all (fun b => chk (mtb 244).1 (mtb 244).2.2.2.2 (mtb 244).2.2.1 (mtb 244).2.1.name b.1 b.2.2) = true := by decide +kernel
set_option maxRecDepth 100000 in
theorem kc_244_4 : (((inf 244).2.2.drop 24).take 6).all (fun b => chk (mtb 244).1 (mtb 244).2.2.2.2 (mtb 244).2.2.1 (mtb 244).2.1.name b.1 b.2.2) = true := by decide +kernel
set_option maxRecDepth 100000 in
theorem kc_244_5 : (((inf 244).2.2.drop 30).take 6).all (fun b => chk (mtb 244).1 (mtb 244).2.2.2.2 (mtb 244).2.2.1 (mtb 244).2.1.name b.1 b.2.2) = true := by decide +kernel
set_option maxRecDepth 100000 in
theorem kc_244_6 : ((inf 244).2.2.drop 36).all (fun b => chk (mtb 244).1 (mtb 244).2.2.2.2 (mtb 244).2.2.1 (mtb 244).2.1.name b.1 b.2.2) = true := by decide +kernel
theorem kc_244 : chkM 244 = true := by
  have h := (ck_cut 6 kc_244_0 (by rw [List.drop_drop]; exact (ck_cut 6 kc_244_1 (by rw [List.drop_drop]; exact (ck_cut 6 kc_244_2 (by rw [List.drop_drop]; exact (ck_cut 6 kc_244_3 (by rw [List.drop_drop]; exact (ck_cut 6 kc_244_4 (by rw [List.drop_drop]; exact (ck_cut 6 kc_244_5 (by rw [List.drop_drop]; exact kc_244_6))))))))))))
  exact h
set_option maxRecDepth 100000 in
theorem kc_245 : chkM 245 = true := by decide +kernel
set_option maxRecDepth 100000 in
theorem kc_246 : chkM 246 = true := by decide +kernel
set_option maxRecDepth 100000 in
theorem kc_247_0 : (((inf 247).2.2.drop 0).take 6).all (fun b => chk (mtb 247).1 (mtb 247).2.2.2.2 (mtb 247).2.2.1 (mtb 247).2.1.name b.1 b.2.2) = true := by decide +kernel
set_option maxRecDepth 100000 in
theorem kc_247_1 : (((inf 247).2.2.drop 6).take 6).all (fun b => chk (mtb 247).1 (mtb 247).2.2.2.2 (mtb 247).2.2.1 (mtb 247).2.1.name b.1 b.2.2) = true := by decide +kernel
set_option maxRecDepth 100000 in
theorem kc_247_2 : (((inf 247).2.2.drop 12).take 6).all (fun b => chk (mtb 247).1 (mtb 247).2.2.2.2 (mtb 247).2.2.1 (mtb 247).2.1.name b.1 b.2.2) = true := by decide +kernel
set_option maxRecDepth 100000 in
theorem kc_247_3 : (((inf 247).2.2.drop 18).take 6).all (fun b => chk (mtb 247).1 (mtb 247).2.2.2.2 (mtb 247).2.2.1 (mtb 247).2.1.name b.1 b.2.2) = true := by decide +kernel
set_option maxRecDepth 100000 in
theorem kc_247_4 : (((inf 247).2.2.drop 24).take 6).all (fun b => chk (mtb 247).1 (mtb 247).2.2.2.2 (mtb 247).2.2.1 (mtb 247).2.1.name b.1 b.2.2) = true := by decide +kernel
set_option maxRecDepth 100000 in
theorem kc_247_5 : (((inf 247).2.2.drop 30).take 6).all (fun b => chk (mtb 247).1 (mtb 247).2.2.2.2 (mtb 247).2.2.1 (mtb 247).2.1.name b.1 b.2.2) = true := by decide +kernel
set_option maxRecDepth 100000 in
theorem kc_247_6 : (((inf 247).2.2.drop 36).take 6).all (fun b => chk (mtb 247).1 (mtb 247).2.2.2.2 (mtb 247).2.2.1 (mtb 247).2.1.name b.1 b.2.2) = true := by decide +kernel
set_option maxRecDepth 100000 in
theorem kc_247_7 : (((inf 247).2.2.drop 42).take 6).all (fun b => chk (mtb 247).1 (mtb 247).2.2.2.2 (mtb 247).2.2.1 (mtb 247).2.1.name b.1 b.2.2) = true := by decide +kernel
set_option maxRecDepth 100000 in
theorem kc_247_8 : ((inf 247).2.2.drop 48).all (fun b => chk (mtb 247).1 (mtb 247).2.2.2.2 (mtb 247).2.2.1 (mtb 247).2.1.name b.1 b.2.2) = true := by decide +kernel
theorem kc_247 : chkM 247 = true := by
  have h := (ck_cut 6 kc_247_0 (by rw [List.drop_drop]; exact (ck_cut 6 kc_247_1 (by rw [List.drop_drop]; exact (ck_cut 6 kc_247_2 (by rw [List.drop_drop]; exact (ck_cut 6 kc_247_3 (by rw [List.drop_drop]; exact (ck_cut 6 kc_247_4 (by rw [List.drop_drop]; exact (ck_cut 6 kc_247_5 (by rw [List.drop_drop]; exact (ck_cut 6 kc_247_6 (by rw [List.drop_drop]; exact (ck_cut 6 kc_247_7 (by rw [List.drop_drop]; exact kc_247_8))))))))))))))))
  exact h
set_option maxRecDepth 100000 in
theorem kc_248 : chkM 248 = true := by decide +kernel
set_option maxRecDepth 100000 in
theorem kc_249 : chkM 249 = true := by decide +kernel
set_option maxRecDepth 100000 in
theorem kc_250 : chkM 250 = true := by decide +kernel
set_option maxRecDepth 100000 in
theorem kc_251 : chkM 251 = true := by decide +kernel
set_option maxRecDepth 100000 in
theorem kc_252 : chkM 252 = true := by decide +kernel
set_option maxRecDepth 100000 in
theorem kc_253 : chkM 253 = true := by decide +kernel
set_option maxRecDepth 100000 in
theorem kc_254 : chkM 254 = true := by decide +kernel
set_option maxRecDepth 100000 in
theorem kc_255 : chkM 255 = true := by decide +kernel
set_option maxRecDepth 100000 in
theorem kc_256 : chkM 256 = true := by decide +kernel
set_option maxRecDepth 100000 in
theorem kc_257 : chkM 257 = true := by decide +kernel
set_option maxRecDepth 100000 in
theorem kc_258 : chkM 258 = true := by decide +kernel
set_option maxRecDepth 100000 in
theorem kc_259 : chkM 259 = true := by decide +kernel
set_option maxRecDepth 100000 in
theorem kc_260 : chkM 260 = true := by decide +kernel
set_option maxRecDepth 100000 in
theorem kc_261 : chkM 261 = true := by decide +kernel
set_option maxRecDepth 100000 in
theorem kc_262 : chkM 262 = true := by decide +kernel
set_option maxRecDepth 100000 in
theorem kc_263 : chkM 263 = true := by decide +kernel
set_option maxRecDepth 100000 in
theorem kc_264 : chkM 264 = true := by decide +kernel
set_option maxRecDepth 100000 in
theorem kc_265 : chkM 265 = true := by decide +kernel
set_option maxRecDepth 100000 in
theorem kc_266 : chkM 266 = true := by decide +kernel
set_option maxRecDepth 100000 in
theorem kc_267 : chkM 267 = true := by decide +kernel
set_option maxRecDepth 100000 in
theorem kc_268 : chkM 268 = true := by decide +kernel
set_option maxRecDepth 100000 in
theorem kc_269 : chkM 269 = true := by decide +kernel
set_option maxRecDepth 100000 in
theorem kc_270 : chkM 270 = true := by decide +kernel
set_option maxRecDepth 100000 in
theorem kc_271 : chkM 271 = true := by decide +kernel
set_option maxRecDepth 100000 in
theorem kc_272 : chkM 272 = true := by decide +kernel
set_option maxRecDepth 100000 in
theorem kc_273 : chkM 273 = true := by decide +kernel
set_option maxRecDepth 100000 in
theorem kc_274 : chkM 274 = true := by decide +kernel
set_option maxRecDepth 100000 in
theorem kc_275 : chkM 275 = true := by decide +kernel
set_option maxRecDepth 100000 in
theorem kc_276 : chkM 276 = true := by decide +kernel
set_option maxRecDepth 100000 in
theorem kc_277 : chkM 277 = true := by decide +kernel
set_option maxRecDepth 100000 in
theorem kc_278_0 : (((inf 278).2.2.drop 0).take 6).all (fun b => chk (mtb 278).1 (mtb 278).2.2.2.2 (mtb 278).2.2.1 (mtb 278).2.1.name b.1 b.2.2) = true := by decide +kernel
set_option maxRecDepth 100000 in
theorem kc_278_1 : (((inf 278).2.2.drop 6).take 6).all (fun b => chk (mtb 278).1 (mtb 278).2.2.2.2 (mtb 278).2.2.1 (mtb 278).2.1.name b.1 b.2.2) = true := by decide +kernel
set_option maxRecDepth 100000 in
theorem kc_278_2 : (((inf 278).2.2.drop 12).take 6).all (fun b => chk (mtb 278).1 (mtb 278).2.2.2.2 (mtb 278).2.2.1 (mtb 278).2.1.name b.1 b.2.2) = true := by decide +kernel
set_option maxRecDepth 100000 in
theorem kc_278_3 : (((inf 278).2.2.drop 18).take 6).all (fun b => chk (mtb 278).1 (mtb 278).2.2.2.2 (mtb 278).2.2.1 (mtb 278).2.1.name b.1 b.2.2) = true := by decide +kernel
set_option maxRecDepth 100000 in
theorem kc_278_4 : (((inf 278).2.2.drop 24).take 6).all (fun b => chk (mtb 278).1 (mtb 278).2.2.2.2 (mtb 278).2.2.1 (mtb 278).2.1.name b.1 b.2.2) = true := by decide +kernel
set_option maxRecDepth 100000 in
theorem kc_278_5 : (((inf 278).2.2.drop 30).take 6).all (fun b => chk (mtb 278).1 (mtb 278).2.2.2.2 (mtb 278).2.2.1 (mtb 278).2.1.name b.1 b.2.2) = true := by decide +kernel
set_option maxRecDepth 100000 in
theorem kc_278_6 : (((inf 278).2.2.drop 36).take 6).all (fun b => chk (mtb 278).1 (mtb 278).2.2.2.2 (mtb 278).2.2.1 (mtb 278).2.1.name b.1 b.2.2) = true := by decide +kernel
set_option maxRecDepth 100000 in
theorem kc_278_7 : ((inf 278).2.2.drop 42).all (fun b => chk (mtb 278).1 (mtb 278).2.2.2.2 (mtb 278).2.2.1 (mtb 278).2.1.name b.1 b.2.2) = true := by decide +kernel
theorem kc_278 : chkM 278 = true := by
  have h := (ck_cut 6 kc_278_0 (by rw [List.drop_drop]; exact (ck_cut 6 kc_278_1 (by rw [List.drop_drop]; exact (ck_cut 6 kc_278_2 (by rw [List.drop_drop]; exact (ck_cut 6 kc_278_3 (by rw [List.drop_drop]; exact (ck_cut 6 kc_278_4 (by rw [List.drop_drop]; exact (ck_cut 6 kc_278_5 (by rw [List.drop_drop]; exact (ck_cut 6 kc_278_6 (by rw [List.drop_drop]; exact kc_278_7))))))))))))))
  exact h
set_option maxRecDepth 100000 in
theorem kc_279_0 : (((inf 279).2.2.drop 0).take 6).all (fun b => chk (mtb 279).1 (mtb 279).2.2.2.2 (mtb 279).2.2.1 (mtb 279).2.1.name b.1 b.2.2) = true := by decide +kernel
set_option maxRecDepth 100000 in
theorem kc_279_1 : (((inf 279).2.2.drop 6).take 6).all (fun b => chk (mtb 279).1 (mtb 279).2.2.2.2 (mtb 279).2.2.1 (mtb 279).2.1.name b.1 b.2.2) = true := by decide +kernel
set_option maxRecDepth 100000 in
theorem kc_279_2 : (((inf 279).2.2.drop 12).take 6).all (fun b => chk (mtb 279).1 (mtb 279).2.2.2.2 (mtb 279).2.2.1 (mtb 279).2.1.name b.1 b.2.2) = true := by decide +kernel
set_option maxRecDepth 100000 in
theorem kc_279_3 : (((inf 279).2.2.drop 18).take 6).all (fun b => chk (mtb 279).1 (mtb 279).2.2.2.2 (mtb 279).2.2.1 (mtb 279).2.1.name b.1 b.2.2) = true := by decide +kernel
set_option maxRecDepth 100000 in
theorem kc_279_4 : (((inf 279).2.2.drop 24).take 6).all (fun b => chk (mtb 279).1 (mtb 279).2.2.2.2 (mtb 279).2.2.1 (mtb 279).2.1.name b.1 b.2.2) = true := by decide +kernel
set_option maxRecDepth 100000 in
theorem kc_279_5 : (((inf 279).2.2.drop 30).take 6).all (fun b => chk (mtb 279).1 (mtb 279).2.2.2.2 (mtb 279).2.2.1 (mtb 279).2.1.name b.1 b.2.2) = true := by decide +kernel
set_option maxRecDepth 100000 in
theorem kc_279_6 : (((inf 279).2.2.drop 36).take 6).all (fun b => chk (mtb 279).1 (mtb 279).2.2.2.2 (mtb 279).2.2.1 (mtb 279).2.1.name b.1 b.2.2) = true := by decide +kernel
set_option maxRecDepth 100000 in
theorem kc_279_7 : (((inf 279).2.2.drop 42).take 6).all (fun b => chk (mtb 279).1 (mtb 279).2.2.2.2 (mtb 279).2.2.1 (mtb 279).2.1.name b.1 b.2.2) = true := by decide +kernel
set_option maxRecDepth 100000 in
theorem kc_279_8 : ((inf 279).2.2.drop 48).all (fun b => chk (mtb 279).1 (mtb 279).2.2.2.2 (mtb 279).2.2.1 (mtb 279).2.1.name b.1 b.2.2) = true := by decide +kernel
theorem kc_279 : chkM 279 = true := by
  have h := (ck_cut 6 kc_279_0 (by rw [List.drop_drop]; exact (ck_cut 6 kc_279_1 (by rw [List.drop_drop]; exact (ck_cut 6 kc_279_2 (by rw [List.drop_drop]; exact (ck_cut 6 kc_279_3 (by rw [List.drop_drop]; exact (ck_cut 6 kc_279_4 (by rw [List.drop_drop]; exact (ck_cut 6 kc_279_5 (by rw [List.drop_drop]; exact (ck_cut 6 kc_279_6 (by rw [List.drop_drop]; exact (ck_cut 6 kc_279_7 (by rw [List.drop_drop]; exact kc_279_8))))))))))))))))
  exact h
theorem kcr_6 : ∀ m, 240 ≤ m → m < 280 → chkM m = true := by
  intro m h1 h2
  obtain ⟨k, rfl⟩ := Nat.exists_eq_add_of_le h1
  match k, h2 with
  | 0, _ => exact kc_240
  | 1, _ => exact kc_241
  | 2, _ => exact kc_242
  | 3, _ => exact kc_243
  | 4, _ => exact kc_244
  | 5, _ => exact kc_245
  | 6, _ => exact kc_246
  | 7, _ => exact kc_247
  | 8, _ => exact kc_248
  | 9, _ => exact kc_249
  | 10, _ => exact kc_250
  | 11, _ => exact kc_251
  | 12, _ => exact kc_252
  | 13, _ => exact kc_253
  | 14, _ => exact kc_254
  | 15, _ => exact kc_255
  | 16, _ => exact kc_256
  | 17, _ => exact kc_257
  | 18, _ => exact kc_258
  | 19, _ => exact kc_259
  | 20, _ => exact kc_260
  | 21, _ => exact kc_261
  | 22, _ => exact kc_262
  | 23, _ => exact kc_263
  | 24, _ => exact kc_264
  | 25, _ => exact kc_265
  | 26, _ => exact kc_266
  | 27, _ => exact kc_267
  | 28, _ => exact kc_268
  | 29, _ => exact kc_269
  | 30, _ => exact kc_270
  | 31, _ => exact kc_271
  | 32, _ => exact kc_272
  | 33, _ => exact kc_273
  | 34, _ => exact kc_274
  | 35, _ => exact kc_275
  | 36, _ => exact kc_276
  | 37, _ => exact kc_277
  | 38, _ => exact kc_278
  | 39, _ => exact kc_279
  | k + 40, h => exact absurd h (by omega)
end
section
/-! decided: the code of every method, 7 (own work) -/
set_option maxRecDepth 100000 in
theorem kc_280 : chkM 280 = true := by decide +kernel
set_option maxRecDepth 100000 in
theorem kc_281 : chkM 281 = true := by decide +kernel
set_option maxRecDepth 100000 in
theorem kc_282 : chkM 282 = true := by decide +kernel
set_option maxRecDepth 100000 in
theorem kc_283 : chkM 283 = true := by decide +kernel
set_option maxRecDepth 100000 in
theorem kc_284 : chkM 284 = true := by decide +kernel
set_option maxRecDepth 100000 in
theorem kc_285 : chkM 285 = true := by decide +kernel
set_option maxRecDepth 100000 in
theorem kc_286 : chkM 286 = true := by decide +kernel
set_option maxRecDepth 100000 in
theorem kc_287 : chkM 287 = true := by decide +kernel
set_option maxRecDepth 100000 in
theorem kc_288 : chkM 288 = true := by decide +kernel
set_option maxRecDepth 100000 in
theorem kc_289 : chkM 289 = true := by decide +kernel
set_option maxRecDepth 100000 in
theorem kc_290 : chkM 290 = true := by decide +kernel
set_option maxRecDepth 100000 in
theorem kc_291 : chkM 291 = true := by decide +kernel
set_option maxRecDepth 100000 in
theorem kc_292 : chkM 292 = true := by decide +kernel
set_option maxRecDepth 100000 in
theorem kc_293 : chkM 293 = true := by decide +kernel
set_option maxRecDepth 100000 in
theorem kc_294 : chkM 294 = true := by decide +kernel
set_option maxRecDepth 100000 in
theorem kc_295 : chkM 295 = true := by decide +kernel
set_option maxRecDepth 100000 in
theorem kc_296 : chkM 296 = true := by decide +kernel
set_option maxRecDepth 100000 in
theorem kc_297 : chkM 297 = true := by decide +kernel
set_option maxRecDepth 100000 in
theorem kc_298 : chkM 298 = true := by decide +kernel
set_option maxRecDepth 100000 in
theorem kc_299 : chkM 299 = true := by decide +kernel
set_option maxRecDepth 100000 in
theorem kc_300 : chkM 300 = true := by decide +kernel
set_option maxRecDepth 100000 in
theorem kc_301 : chkM 301 = true := by decide +kernel
set_option maxRecDepth 100000 in
theorem kc_302 : chkM 302 = true := by decide +kernel
set_option maxRecDepth 100000 in
theorem kc_303 : chkM 303 = true := by decide +kernel
set_option maxRecDepth 100000 in
theorem kc_304 : chkM 304 = true := by decide +kernel
set_option maxRecDepth 100000 in
theorem kc_305 : chkM 305 = true := by decide +kernel
set_option maxRecDepth 100000 in
theorem kc_306 : chkM 306 = true := by decide +kernel
set_option maxRecDepth 100000 in
theorem kc_307 : chkM 307 = true := by decide +kernel
set_option maxRecDepth 100000 in
theorem kc_308 : chkM 308 = true := by decide +kernel
set_option maxRecDepth 100000 in
theorem kc_309 : chkM 309 = true := by decide +kernel
set_option maxRecDepth 100000 in
theorem kc_310 : chkM 310 = true := by decide +kernel
set_option maxRecDepth 100000 in
theorem kc_311 : chkM 311 = true := by decide +kernel
set_option maxRecDepth 100000 in
theorem kc_312 : chkM 312 = true := by decide +kernel
set_option maxRecDepth 100000 in
theorem kc_313 : chkM 313 = true := by decide +kernel
set_option maxRecDepth 100000 in
theorem kc_314 : chkM 314 = true := by decide +kernel
set_option maxRecDepth 100000 in
theorem kc_315 : chkM 315 = true := by decide +kernel
set_option maxRecDepth 100000 in
theorem kc_316 : chkM 316 = true := by decide +kernel
set_option maxRecDepth 100000 in
theorem kc_317 : chkM 317 = true := by decide +kernel
set_option maxRecDepth 100000 in
theorem kc_318 : chkM 318 = true := by decide +kernel
set_option maxRecDepth 100000 in
theorem kc_319 : chkM 319 = true := by decide +kernel
theorem kcr_7 : ∀ m, 280 ≤ m → m < 320 → chkM m = true := by
  intro m h1 h2
  obtain ⟨k, rfl⟩ := Nat.exists_eq_add_of_le h1
  match k, h2 with
  | 0, _ => exact kc_280
  | 1, _ => exact kc_281
  | 2, _ => exact kc_282
  | 3, _ => exact kc_283
  | 4, _ => exact kc_284
  | 5, _ => exact kc_285
  | 6, _ => exact kc_286
  | 7, _ => exact kc_287
  | 8, _ => exact kc_288
  | 9, _ => exact kc_289
  | 10, _ => exact kc_290
  | 11, _ => exact kc_291
  | 12, _ => exact kc_292
  | 13, _ => exact kc_293
  | 14, _ => exact kc_294
  | 15, _ => exact kc_295
  | 16, _ => exact kc_296
  | 17, _ => exact kc_297
  | 18, _ => exact kc_298
  | 19, _ => exact kc_299
  | 20, _ => exact kc_300
  | 21, _ => exact kc_301
  | 22, _ => exact kc_302
  | 23, _ => exact kc_303
  | 24, _ => exact kc_304
  | 25, _ => exact kc_305
  | 26, _ => exact kc_306
  | 27, _ => exact kc_307
  | 28, _ => exact kc_308
  | 29, _ => exact kc_309
  | 30, _ => exact kc_310
  | 31, _ => exact kc_311
  | 32, _ => exact kc_312
  | 33, _ => exact kc_313
  | 34, _ => exact kc_314
  | 35, _ => exact kc_315
  | 36, _ => exact kc_316
  | 37, _ => exact kc_317
  | 38, _ => exact kc_318
  | 39, _ => exact kc_319
  | k + 40, h => exact absurd h (by omega)
end
section
/-! decided: the code of every method, 8 (own work) -/
set_option maxRecDepth 100000 in
theorem kc_320 : chkM 320 = true := by decide +kernel
set_option maxRecDepth 100000 in
theorem kc_321 : chkM 321 = true := by decide +kernel
set_option maxRecDepth 100000 in
theorem kc_322 : chkM 322 = true := by decide +kernel
set_option maxRecDepth 100000 in
theorem kc_323 : chkM 323 = true := by decide +kernel
set_option maxRecDepth 100000 in
theorem kc_324 : chkM 324 = true := by decide +kernel
set_option maxRecDepth 100000 in
theorem kc_325 : chkM 325 = true := by decide +kernel
set_option maxRecDepth 100000 in
theorem kc_326 : chkM 326 = true := by decide +kernel
set_option maxRecDepth 100000 in
theorem kc_327 : chkM 327 = true := by decide +kernel
set_option maxRecDepth 100000 in
theorem kc_328 : chkM 328 = true := by decide +kernel
set_option maxRecDepth 100000 in
theorem kc_329 : chkM 329 = true := by decide +kernel
set_option maxRecDepth 100000 in
theorem kc_330 : chkM 330 = true := by decide +kernel
set_option maxRecDepth 100000 in
theorem kc_331 : chkM 331 = true := by decide +kernel
set_option maxRecDepth 100000 in
theorem kc_332 : chkM 332 = true := by decide +kernel
set_option maxRecDepth 100000 in
theorem kc_333 : chkM 333 = true := by decide +kernel
set_option maxRecDepth 100000 in
theorem kc_334 : chkM 334 = true := by decide +kernel
set_option maxRecDepth 100000 in
theorem kc_335 : chkM 335 = true := by decide +kernel
set_option maxRecDepth 100000 in
theorem kc_336 : chkM 336 = true := by decide +kernel
set_option maxRecDepth 100000 in
theorem kc_337_0 : (((inf 337).2.2.drop 0).take 6).all (fun b => chk (mtb 337).1 (mtb 337).2.2.2.2 (mtb 337).2.2.1 (mtb 337).2.1.name b.1 b.2.2) = true := by decide +kernel
set_option maxRecDepth 100000 in
theorem kc_337_1 : (((inf 337).2.2.drop 6).take 6).all (fun b => chk (mtb 337).1 (mtb 337).2.2.2.2 (mtb 337).2.2.1 (mtb 337).2.1.name b.1 b.2.2) = true := by decide +kernel
set_option maxRecDepth 100000 in
theorem kc_337_2 : (((inf 337).2.2.drop 12).take 6).all (fun b => chk (mtb 337).1 (mtb 337).2.2.2.2 (mtb 337).2.2.1 (mtb 337).2.1.name b.1 b.2.2) = true := by decide +kernel
set_option maxRecDepth 100000 in
theorem kc_337_3 : (((inf 337).2.2.drop 18).take 6).all (fun b => chk (mtb 337).1 (mtb 337).2.2.2.2 (mtb 337).2.2.1 (mtb 337).2.1.name b.1 b.2.2) = true := by decide +kernel
set_option maxRecDepth 100000 in
theorem kc_337_4 : (((inf 337).2.2.drop 24).take 6).all (fun b => chk (mtb 337).1 (mtb 337).2.2.2.2 (mtb 337).2.2.1 (mtb 337).2.1.name b.1 b.2.2) = true := by decide +kernel
set_option maxRecDepth 100000 in
theorem kc_337_5 : (((inf 337).2.2.drop 30).take 6).all (fun b => chk (mtb 337).1 (mtb 337).2.2.2.2 (mtb 337).2.2.1 (mtb 337).2.1.name b.1 b.2.2) = true := by decide +kernel
set_option maxRecDepth 100000 in
theorem kc_337_6 : (((inf 337).2.2.drop 36).take 6).all (fun b => chk (mtb 337).1 (mtb 337).2.2.2.2 (mtb 337).2.2.1 (mtb 337).2.1.name b.1 b.2.2) = true := by decide +kernel
set_option maxRecDepth 100000 in
theorem kc_337_7 : (((inf 337).2.2.drop 42).take 6).all (fun b => chk (mtb 337).1 (mtb 337).2.2.2.2 (mtb 337).2.2.1 (mtb 337).2.1.name b.1 b.2.2) = true := by decide +kernel
set_option maxRecDepth 100000 in
theorem kc_337_8 : ((inf 337).2.2.drop 48).all (fun b => chk (mtb 337).1 (mtb 337).2.2.2.2 (mtb 337).2.2.1 (mtb 337).2.1.name b.1 b.2.2) = true := by decide +kernel
theorem kc_337 : chkM 337 = true := by
  have h := (ck_cut 6 kc_337_0 (by rw [List.drop_drop]; exact (ck_cut 6 kc_337_1 (by rw [List.drop_drop]; exact (ck_cut 6 kc_337_2 (by rw [List.drop_drop]; exact (ck_cut 6 kc_337_3 (by rw [List.drop_drop]; exact (ck_cut 6 kc_337_4 (by rw [List.drop_drop]; exact (ck_cut 6 kc_337_5 (by rw [List.drop_drop]; exact (ck_cut 6 kc_337_6 (by rw [List.drop_drop]; exact (ck_cut 6 kc_337_7 (by rw [List.drop_drop]; exact kc_337_8))))))))))))))))
  exact h
set_option maxRecDepth 100000 in
theorem kc_338 : chkM 338 = true := by decide +kernel
set_option maxRecDepth 100000 in
theorem kc_339 : chkM 339 = true := by decide +kernel
set_option maxRecDepth 100000 in
theorem kc_340 : chkM 340 = true := by decide +kernel
set_option maxRecDepth 100000 in
theorem kc_341 : chkM 341 = true := by decide +kernel
set_option maxRecDepth 100000 in
theorem kc_342 : chkM 342 = true := by decide +kernel
set_option maxRecDepth 100000 in
theorem kc_343 : chkM 343 = true := by decide +kernel
set_option maxRecDepth 100000 in
theorem kc_344 : chkM 344 = true := by decide +kernel
set_option maxRecDepth 100000 in
theorem kc_345 : chkM 345 = true := by decide +kernel
set_option maxRecDepth 100000 in
theorem kc_346 : chkM 346 = true := by decide +kernel
set_option maxRecDepth 100000 in
theorem kc_347 : chkM 347 = true := by decide +kernel
set_option maxRecDepth 100000 in
theorem kc_348 : chkM 348 = true := by decide +kernel
set_option maxRecDepth 100000 in
theorem kc_349 : chkM 349 = true := by decide +kernel
set_option maxRecDepth 100000 in
theorem kc_350 : chkM 350 = true := by decide +kernel
set_option maxRecDepth 100000 in
theorem kc_351 : chkM 351 = true := by decide +kernel
set_option maxRecDepth 100000 in
theorem kc_352 : chkM 352 = true := by decide +kernel
set_option maxRecDepth 100000 in
theorem kc_353 : chkM 353 = true := by decide +kernel
set_option maxRecDepth 100000 in
theorem kc_354 : chkM 354 = true := by decide +kernel
set_option maxRecDepth 100000 in
theorem kc_355 : chkM 355 = true := by decide +kernel
set_option maxRecDepth 100000 in
theorem kc_356_0 : (((inf 356).2.2.drop 0).take 6).all (fun b => chk (mtb 356).1 (mtb 356).2.2.2.2 (mtb 356).2.2.1 (mtb 356).2.1.name b.1 b.2.2) = true := by decide +kernel
set_option maxRecDepth 100000 in
theorem kc_356_1 : (((inf 356).2.2.drop 6).take 6).all (fun b => chk (mtb 356).1 (mtb 356).2.2.2.2 (mtb 356).2.2.1 (mtb 356).2.1.name b.1 b.2.2) = true := by decide +kernel
set_option maxRecDepth 100000 in
theorem kc_356_2 : (((inf 356).2.2.drop 12).take 6).all (fun b => chk (mtb 356).1 (mtb 356).2.2.2.2 (mtb 356).2.2.1 (mtb 356).2.1.name b.1 b.2.2) = true := by decide +kernel
set_option maxRecDepth 100000 in
theorem kc_356_3 : (((inf 356).2.2.drop 18).take 6).all (fun b => chk (mtb 356).1 (mtb 356).2.2.2.2 (mtb 356).2.2.1 (mtb 356).2.1.name b.1 b.2.2) = true := by decide +kernel
set_option maxRecDepth 100000 in
theorem kc_356_4 : (((inf 356).2.2.drop 24).take 6).all (fun b => chk (mtb 356).1 (mtb 356).2.2.2.2 (mtb 356).2.2.1 (mtb 356).2.1.name b.1 b.2.2) = true := by decide +kernel
set_option maxRecDepth 100000 in
theorem kc_356_5 : (((inf 356).2.2.drop 30).take 6).all (fun b => chk (mtb 356).1 (mtb 356).2.2.2.2 (mtb 356).2.2.1 (mtb 356).2.1.name b.1 b.2.2) = true := by decide +kernel
set_option maxRecDepth 100000 in
theorem kc_356_6 : (((inf 356).2.2.drop 36).take 6).all (fun b => chk (mtb 356).1 (mtb 356).2.2.2.2 (mtb 356).2.2.1 (mtb 356).2.1.name b.1 b.2.2) = true := by decide +kernel
set_option maxRecDepth 100000 in
theorem kc_356_7 : (((inf 356).2.2.drop 42).take 6).all (fun b => chk (mtb 356).1 (mtb 356).2.2.2.2 (mtb 356).2.2.1 (mtb 356).2.1.name b.1 b.2.2) = true := by decide +kernel
set_option maxRecDepth 100000 in
theorem kc_356_8 : (((inf 356).2.2.drop 48).take 6).all (fun b => chk (mtb 356).1 (mtb 356).2.2.2.2 (mtb 356).2.2.1 (mtb 356).2.1.name b.1 b.2.2) = true := by decide +kernel
set_option maxRecDepth 100000 in
theorem kc_356_9 : (((inf 356).2.2.drop 54).take 6).all (fun b => chk (mtb 356).1 (mtb 356).2.2.2.2 (mtb 356).2.2.1 (mtb 356).2.1.name b.1 b.2.2) = true := by decide +kernel
set_option maxRecDepth 100000 in
theorem kc_356_10 : (((inf 356).2.2.drop 60).take 6).all (fun b => chk (mtb 356).1 (mtb 356).2.2.2.2 (mtb 356).2.2.1 (mtb 356).2.1.name b.1 b.2.2) = true := by decide +kernel
set_option maxRecDepth 100000 in
theorem kc_356_11 : (((inf 356).2.2.drop 66).take 6).all (fun b => chk (mtb 356).1 (mtb 356).2.2.2.2 (mtb 356).2.2.1 (mtb 356).2.1.name b.1 b.2.2) = true := by decide +kernel
set_option maxRecDepth 100000 in
theorem kc_356_12 : (((inf 356).2.2.drop 72).take 6).all (fun b => chk (mtb 356).1 (mtb 356).2.2.2.2 (mtb 356).2.2.1 (mtb 356).2.1.name b.1 b.2.2) = true := by decide +kernel
set_option maxRecDepth 100000 in
theorem kc_356_13 : (((inf 356).2.2.drop 78).take 6).all (fun b => chk (mtb 356).1 (mtb 356).2.2.2.2 (mtb 356).2.2.1 (mtb 356).2.1.name b.1 b.2.2) = true := by decide +kernel
set_option maxRecDepth 100000 in
theorem kc_356_14 : (((inf 356).2.2.drop 84).take 6).all (fun b => chk (mtb 356).1 (mtb 356).2.2.2.2 (mtb 356).2.2.1 (mtb 356).2.1.name b.1 b.2.2) = true := by decide +kernel
set_option maxRecDepth 100000 in
theorem kc_356_15 : (((inf 356).2.2.drop 90).take 6).all (fun b => chk (mtb 356).1 (mtb 356).2.2.2.2 (mtb 356).2.2.1 (mtb 356).2.1.name b.1 b.2.2) = true := by decide +kernel
set_option maxRecDepth 100000 in
theorem kc_356_16 : (((inf 356).2.2.drop 96).take 6).all (fun b => chk (mtb 356).1 (mtb 356).2.2.2.2 (mtb 356).2.2.1 (mtb 356).2.1.name b.1 b.2.2) = true := by decide +kernel
set_option maxRecDepth 100000 in
theorem kc_356_17 : (((inf 356).2.2.drop 102).take 6).all (fun b => chk (mtb 356).1 (mtb 356).2.2.2.2 (mtb 356).2.2.1 (mtb 356).2.1.name b.1 b.2.2) = true := by decide +kernel
set_option maxRecDepth 100000 in
theorem kc_356_18 : (((inf 356).2.2.drop 108).take 6).all (fun b => chk (mtb 356).1 (mtb 356).2.2.2.2 (mtb 356).2.2.1 (mtb 356).2.1.name b.1 b.2.2) = true := by decide +kernel
set_option maxRecDepth 100000 in
theorem kc_356_19 : (((inf 356).2.2.drop 114).take 6).all (fun b => chk (mtb 356).1 (mtb 356).2.2.2.2 (mtb 356).2.2.1 (mtb 356).2.1.name b.1 b.2.2) = true := by decide +kernel
set_option maxRecDepth 100000 in
theorem kc_356_20 : (((inf 356).2.2.drop 120).take 6).all (fun b => chk (mtb 356).1 (mtb 356).2.2.2.2 (mtb 356).2.2.1 (mtb 356).2.1.name b.1 b.2.2) = true := by decide +kernel
set_option maxRecDepth 100000 in
theorem kc_356_21 : (((inf 356).2.2.drop 126).take 6).all (fun b => chk (mtb 356).1 (mtb 356).2.2.2.2 (mtb 356).2.2.1 (mtb 356).2.1.name b.1 b.2.2) = true := by decide +kernel
set_option maxRecDepth 100000 in
theorem kc_356_22 : (((inf 356).2.2.drop 132).take 6).all (fun b => chk (mtb 356).1 (mtb 356).2.2.2.2 (mtb 356).2.2.1 (mtb 356).2.1.name b.1 b.2.2) = true := by decide +kernel
set_option maxRecDepth 100000 in
theorem kc_356_23 : (((inf 356).2.2.drop 138).take 6).all (fun b => chk (mtb 356).1 (mtb 356).2.2.2.2 (mtb 356).2.2.1 (mtb 356).2.1.name b.1 b.2.2) = true := by decide +kernel
set_option maxRecDepth 100000 in
theorem kc_356_24 : (((inf 356).2.2.drop 144).take 6).all (fun b => chk (mtb 356).1 (mtb 356).2.2.2.2 (mtb 356).2.2.1 (mtb 356).2.1.name b.1 b.2.2) = true := by decide +kernel
set_option maxRecDepth 100000 in
theorem kc_356_25 : (((inf 356).2.2.drop 150).take 6).all (fun b => chk (mtb 356).1 (mtb 356).2.2.2.2 (mtb 356).2.2.1 (mtb 356).2.1.name b.1 b.2.2) = true := by decide +kernel
set_option maxRecDepth 100000 in
theorem kc_356_26 : (((inf 356).2.2.drop 156).take 6).all (fun b => chk (mtb 356).1 (mtb 356).2.2.2.2 (mtb 356).2.2.1 (mtb 356).2.1.name b.1 b.2.2) = true := by decide +kernel
set_option maxRecDepth 100000 in
theorem kc_356_27 : (((inf 356).2.2.drop 162).take 6).all (fun b => chk (mtb 356).1 (mtb 356).2.2.2.2 (mtb 356).2.2.1 (mtb 356).2.1.name b.1 b.2.2) = true := by decide +kernel
set_option maxRecDepth 100000 in
theorem kc_356_28 : (((inf 356).2.2.drop 168).take 6).all (fun b => chk (mtb 356).1 (mtb 356).2.2.2.2 (mtb 356).2.2.1 (mtb 356).2.1.name b.1 b.2.2) = true := by decide +kernel
set_option maxRecDepth 100000 in
theorem kc_356_29 : (((inf 356).2.2.drop 174).take 6).all (fun b => chk (mtb 356).1 (mtb 356).2.2.2.2 (mtb 356).2.2.1 (mtb 356).2.1.name b.1 b.2.2) = true := by decide +kernel
set_option maxRecDepth 100000 in
theorem kc_356_30 : (((inf 356).2.2.drop 180).take 6).all (fun b => chk (mtb 356).1 (mtb 356).2.2.2.2 (mtb 356).2.2.1 (mtb 356).2.1.name b.1 b.2.2) = true := by decide +kernel
set_option maxRecDepth 100000 in
theorem kc_356_31 : (((inf 356).2.2.drop 186).take 6).all (fun b => chk (mtb 356).1 (mtb 356).2.2.2.2 (mtb 356).2.2.1 (mtb 356).2.1.name b.1 b.2.2) = true := by decide +kernel
set_option maxRecDepth 100000 in
theorem kc_356_32 : (((inf 356).2.2.drop 192).take 6).all (fun b => chk (mtb 356).1 (mtb 356).2.2.2.2 (mtb 356).2.2.1 (mtb 356).2.1.name b.1 b.2.2) = true := by decide +kernel
set_option maxRecDepth 100000 in
theorem kc_356_33 : (((inf 356).2.2.drop 198).take 6).all (fun b => chk (mtb 356).1 (mtb 356).2.2.2.2 (mtb 356).2.2.1 (mtb 356).2.1.name b.1 b.2.2) = true := by decide +kernel
set_option maxRecDepth 100000 in
theorem kc_356_34 : (((inf 356).2.2.drop 204).take 6).all (fun b => chk (mtb 356).1 (mtb 356).2.2.2.2 (mtb 356).2.2.1 (mtb 356).2.1.name b.1 b.2.2) = true := by decide +kernel
set_option maxRecDepth 100000 in
theorem kc_356_35 : (((inf 356).2.2.drop 210).take 6).all (fun b => chk (mtb 356).1 (mtb 356).2.2.2.2 (mtb 356).2.2.1 (mtb 356).2.1.name b.1 b.2.2) = true := by decide +kernel
set_option maxRecDepth 100000 in
theorem kc_356_36 : (((inf 356).2.2.drop 216).take 6).all (fun b => chk (mtb 356).1 (mtb 356).2.2.2.2 (mtb 356).2.2.1 (mtb 356).2.1.name b.1 b.2.2) = true := by decide +kernel
set_option maxRecDepth 100000 in
theorem kc_356_37 : (((inf 356).2.2.drop 222).take 6).all (fun b => chk (mtb 356).1 (mtb 356).2.2.2.2 (mtb 356).2.2.1 (mtb 356).2.1.name b.1 b.2.2) = true := by decide +kernel
set_option maxRecDepth 100000 in
theorem kc_356_38 : (((inf 356).2.2.drop 228).take 6).all (fun b => chk (mtb 356).1 (mtb 356).2.2.2.2 (mtb 356).2.2.1 (mtb 356).2.1.name b.1 b.2.2) = true := by decide +kernel
set_option maxRecDepth 100000 in
theorem kc_356_39 : (((inf 356).2.2.drop 234).take 6).all (fun b => chk (mtb 356).1 (mtb 356).2.2.2.2 (mtb 356).2.2.1 (mtb 356).2.1.name b.1 b.2.2) = true := by decide +kernel
set_option maxRecDepth 100000 in
theorem kc_356_40 : (((inf 356).2.2.drop 240).take 6).all (fun b => chk (mtb 356).1 (mtb 356).2.2.2.2 (mtb 356).2.2.1 (mtb 356).2.1.name b.1 b.2.2) = true := by decide +kernel
set_option maxRecDepth 100000 in
theorem kc_356_41 : (((inf 356).2.2.drop 246).take 6).all (fun b => chk (mtb 356).1 (mtb 356).2.2.2.2 (mtb 356).2.2.1 (mtb 356).2.1.name b.1 b.2.2) = true := by decide +kernel
set_option maxRecDepth 100000 in
theorem kc_356_42 : (((inf 356).2.2.drop 252).take 6).all (fun b => chk (mtb 356).1 (mtb 356).2.2.2.2 (mtb 356).2.2.1 (mtb 356).2.1.name b.1 b.2.2) = true := by decide +kernel
set_option maxRecDepth 100000 in
theorem kc_356_43 : (((inf 356).2.2.drop 258).take 6).all (fun b => chk (mtb 356).1 (mtb 356).2.2.2.2 (mtb 356).2.2.1 (mtb 356).2.1.name b.1 b.2.2) = true := by decide +kernel
set_option maxRecDepth 100000 in
theorem kc_356_44 : (((inf 356).2.2.drop 264).take 6).all (fun b => chk (mtb 356).1 (mtb 356).2.2.2.2 (mtb 356).2.2.1 (mtb 356).2.1.name b.1 b.2.2) = true := by decide +kernel
set_option maxRecDepth 100000 in
theorem kc_356_45 : (((inf 356).2.2.drop 270).take 6).all (fun b => chk (mtb 356).1 (mtb 356).2.2.2.2 (mtb 356).2.2.1 (mtb 356).2.1.name b.1 b.2.2) = true := by decide +kernel
set_option maxRecDepth 100000 in
theorem kc_356_46 : (((inf 356).2.2.drop 276).take 6).all (fun b => chk (mtb 356).1 (mtb 356).2.2.2.2 (mtb 356).2.2.1 (mtb 356).2.1.name b.1 b.2.2) = true := by decide +kernel
set_option maxRecDepth 100000 in
theorem kc_356_47 : (((inf 356).2.2.drop 282).take 6).all (fun b => chk (mtb 356).1 (mtb 356).2.2.2.2 (mtb 356).2.2.1 (mtb 356).2.1.name b.1 b.2.2) = true := by decide +kernel
set_option maxRecDepth 100000 in
theorem kc_356_48 : (((inf 356).2.2.drop 288).take 6).all (fun b => chk (mtb 356).1 (mtb 356).2.2.2.2 (mtb 356).2.2.1 (mtb 356).2.1.name b.1 b.2.2) = true := by decide +kernel
set_option maxRecDepth 100000 in
theorem kc_356_49 : (((inf 356).2.2.drop 294).take 6).all (fun b => chk (mtb 356).1 (mtb 356).2.2.2.2 (mtb 356).2.2.1 (mtb 356).2.1.name b.1 b.2.2) = true := by decide +kernel
set_option maxRecDepth 100000 in
theorem kc_356_50 : (((inf 356).2.2.drop 300).take 6).all (fun b => chk (mtb 356).1 (mtb 356).2.2.2.2 (mtb 356).2.2.1 (mtb 356).2.1.name b.1 b.2.2) = true := by decide +kernel
set_option maxRecDepth 100000 in
theorem kc_356_51 : (((inf 356).2.2.drop 306).take 6).all (fun b => chk (mtb 356).1 (mtb 356).2.2.2.2 (mtb 356).2.2.1 (mtb 356).2.1.name b.1 b.2.2) = true := by decide +kernel
set_option maxRecDepth 100000 in
theorem kc_356_52 : (((inf 356).2.2.drop 312).take 6).all (fun b => chk (mtb 356).1 (mtb 356).2.2.2.2 (mtb 356).2.2.1 (mtb 356).2.1.name b.1 b.2.2) = true := by decide +kernel
set_option maxRecDepth 100000 in
theorem kc_356_53 : (((inf 356).2.2.drop 318).take 6).all (fun b => chk (mtb 356).1 (mtb 356).2.2.2.2 (mtb 356).2.2.1 (mtb 356).2.1.name b.1 b.2.2) = true := by decide +kernel
set_option maxRecDepth 100000 in
theorem kc_356_54 : (((inf 356).2.2.drop 324).take 6).all (fun b => chk (mtb 356).1 (mtb 356).2.2.2.2 (mtb 356).2.2.1 (mtb 356).2.1.name b.1 b.2.2) = true := by decide +kernel
set_option maxRecDepth 100000 in
theorem kc_356_55 : (((inf 356).2.2.drop 330).take 6).all (fun b => chk (mtb 356).1 (mtb 356).2.2.2.2 (mtb 356).2.2.1 (mtb 356).2.1.name b.1 b.2.2) = true := by decide +kernel
set_option maxRecDepth 100000 in
theorem kc_356_56 : (((inf 356).2.2.drop 336).take 6).all (fun b => chk (mtb 356).1 (mtb 356).2.2.2.2 (mtb 356).2.2.1 (mtb 356).2.1.name b.1 b.2.2) = true := by decide +kernel
set_option maxRecDepth 100000 in
theorem kc_356_57 : (((inf 356).2.2.drop 342).take 6).all (fun b => chk (mtb 356).1 (mtb 356).2.2.2.2 (mtb 356).2.2.1 (mtb 356).2.1.name b.1 b.2.2) = true := by decide +kernel
set_option maxRecDepth 100000 in
theorem kc_356_58 : (((inf 356).2.2.drop 348).take 6).all (fun b => chk (mtb 356).1 (mtb 356).2.2.2.2 (mtb 356).2.2.1 (mtb 356).2.1.name b.1 b.2.2) = true := by decide +kernel
set_option maxRecDepth 100000 in
theorem kc_356_59 : (((inf 356).2.2.drop 354).take 6).all (fun b => chk (mtb 356).1 (mtb 356).2.2.2.2 (mtb 356).2.2.1 (mtb 356).2.1.name b.1 b.2.2) = true := by decide +kernel
set_option maxRecDepth 100000 in
theorem kc_356_60 : ((inf 356).2.2.drop 360).all (fun b => chk (mtb 356).1 (mtb 356).2.2.2.2 (mtb 356).2.2.1 (mtb 356).2.1.name b.1 b.2.2) = true := by decide +kernel
theorem kc_356 : chkM 356 = true := by
  have h := (ck_cut 6 kc_356_0 (by rw [List.drop_drop]; exact (ck_cut 6 kc_356_1 (by rw [List.drop_drop]; exact (ck_cut 6 kc_356_2 (by rw [List.drop_drop]; exact (ck_cut 6 kc_356_3 (by rw [List.drop_drop]; exact (ck_cut 6 kc_356_4 (by rw [List.drop_drop]; exact (ck_cut 6 kc_356_5 (by rw [List.drop_drop]; exact (ck_cut 6 kc_356_6 (by rw [List.drop_drop]; exact (ck_cut 6 kc_356_7 (by rw [List.drop_drop]; exact (ck_cut 6 kc_356_8 (by rw [List.drop_drop]; exact (ck_cut 6 kc_356_9 (by rw [List.drop_drop]; exact (ck_cut 6 kc_356_10 (by rw [List.drop_drop]; exact (ck_cut 6 kc_356_11 (by rw [List.drop_drop]; exact (ck_cut 6 kc_356_12 (by rw [List.drop_drop]; exact (ck_cut 6 kc_356_13 (by rw [List.drop_drop]; exact (ck_cut 6 kc_356_14 (by rw [List.drop_drop]; exact (ck_cut 6 kc_356_15 (by rw [List.drop_drop]; exact (ck_cut 6 kc_356_16 (by rw [List.drop_drop]; exact (ck_cut 6 kc_356_17 (by rw [List.drop_drop]; exact (ck_cut 6 kc_356_18 (by rw [List.drop_drop]; exact (ck_cut 6 kc_356_19 (by rw [List.drop_drop]; exact (ck_cut 6 kc_356_20 (by rw [List.drop_drop]; exact (ck_cut 6 kc_356_21 (by rw [List.drop_drop]; exact (ck_cut 6 kc_356_22 (by rw [List.drop_drop]; exact (ck_cut 6 kc_356_23 (by rw [List.drop_drop]; exact (ck_cut 6 kc_356_24 (by rw [List.drop_drop]; exact (ck_cut 6 kc_356_25 (by rw [List.drop_drop]; exact (ck_cut 6 kc_356_26 (by rw [List.drop_drop]; exact (ck_cut 6 kc_356_27 (by rw [List.drop_drop]; exact (ck_cut 6 kc_356_28 (by rw [List.drop_drop]; exact (ck_cut 6 kc_356_29 (by rw [List.drop_drop]; exact (ck_cut 6 kc_356_30 (by rw [List.drop_drop]; exact (ck_cut 6 kc_356_31 (by rw [List.drop_drop]; exact (ck_cut 6 kc_356_32 (by rw [List.drop_drop]; exact (ck_cut 6 kc_356_33 (by rw [List.drop_drop]; exact (ck_cut 6 kc_356_34 (by rw [List.drop_drop]; exact (ck_cut 6 kc_356_35 (by rw [List.drop_drop]; exact (ck_cut 6 kc_356_36 (by rw [List.drop_drop]; exact (ck_cut 6 kc_356_37 (by rw [List.drop_drop]; exact (ck_cut 6 kc_356_38 (by rw [List.drop_drop]; exact (ck_cut 6 kc_356_39 (by rw [List.drop_drop]; exact (ck_cut 6 kc_356_40 (by rw [List.drop_drop]; exact (ck_cut 6 kc_356_41 (by rw [List.drop_drop]; exact (ck_cut 6 kc_356_42 (by rw [List.drop_drop]; exact (ck_cut 6 kc_356_43 (by rw [List.drop_drop]; exact (ck_cut 6 kc_356_44 (by rw [List.drop_drop]; exact (ck_cut 6 kc_356_45 (by rw [List.drop_drop]; exact (ck_cut 6 kc_356_46 (by rw [List.drop_drop]; exact (ck_cut 6 kc_356_47 (by rw [List.drop_drop]; exact (ck_cut 6 kc_356_48 (by rw [List.drop_drop]; exact (ck_cut 6 kc_356_49 (by rw [List.drop_drop]; exact (ck_cut 6 kc_356_50 (by rw [List.drop_drop]; exact (ck_cut 6 kc_356_51 (by rw [List.drop_drop]; exact (ck_cut 6 kc_356_52 (by rw [List.drop_drop]; exact (ck_cut 6 kc_356_53 (by rw [List.drop_drop]; exact (ck_cut 6 kc_356_54 (by rw [List.drop_drop]; exact (ck_cut 6 kc_356_55 (by rw [List.drop_drop]; exact (ck_cut 6 kc_356_56 (by rw [List.drop_drop]; exact (ck_cut 6 kc_356_57 (by rw [List.drop_drop]; exact (ck_cut 6 kc_356_58 (by rw [List.drop_drop]; exact (ck_cut 6 kc_356_59 (by rw [List.drop_drop]; exact kc_356_60))))))))))))))))))))))))))))))))))))))))))))))))))))))))))))))))))))))))))))))))))))))))))))))))))))))))))))))))))))))))
  exact h
theorem kcr_8 : ∀ m, 320 ≤ m → m < 357 → chkM m = true := by
  intro m h1 h2
  obtain ⟨k, rfl⟩ := Nat.exists_eq_add_of_le h1
  match k, h2 with
  | 0, _ => exact kc_320
  | 1, _ => exact kc_321
  | 2, _ => exact kc_322
  | 3, _ => exact kc_323
  | 4, _ => exact kc_324
  | 5, _ => exact kc_325
  | 6, _ => exact kc_326
  | 7, _ => exact kc_327
  | 8, _ => exact kc_328
  | 9, _ => exact kc_329
  | 10, _ => exact kc_330
  | 11, _ => exact kc_331
  | 12, _ => exact kc_332
  | 13, _ => exact kc_333
  | 14, _ => exact kc_334
  | 15, _ => exact kc_335
  | 16, _ => exact kc_336
  | 17, _ => exact kc_337
  | 18, _ => exact kc_338
  | 19, _ => exact kc_339
  | 20, _ => exact kc_340
  | 21, _ => exact kc_341
  | 22, _ => exact kc_342
  | 23, _ => exact kc_343
  | 24, _ => exact kc_344
  | 25, _ => exact kc_345
  | 26, _ => exact kc_346
  | 27, _ => exact kc_347
  | 28, _ => exact kc_348
  | 29, _ => exact kc_349
  | 30, _ => exact kc_350
  | 31, _ => exact kc_351
  | 32, _ => exact kc_352
  | 33, _ => exact kc_353
  | 34, _ => exact kc_354
  | 35, _ => exact kc_355
  | 36, _ => exact kc_356
  | k + 37, h => exact absurd h (by omega)
theorem kc_all (g : Nat) (h : g < 357) : chkM g = true := by
  by_cases h0 : g < 40
  · exact kcr_0 g (by omega) h0
  by_cases h1 : g < 80
  · exact kcr_1 g (by omega) h1
  by_cases h2 : g < 120
  · exact kcr_2 g (by omega) h2
  by_cases h3 : g < 160
  · exact kcr_3 g (by omega) h3
  by_cases h4 : g < 200
  · exact kcr_4 g (by omega) h4
  by_cases h5 : g < 240
  · exact kcr_5 g (by omega) h5
  by_cases h6 : g < 280
  · exact kcr_6 g (by omega) h6
  by_cases h7 : g < 320
  · exact kcr_7 g (by omega) h7
  exact kcr_8 g (by omega) h
end
section
/-! the walk of every method (own work) -/
theorem ckm (g : Nat) (h : g < 357) : CKM g := ⟨kc_all g h, List.all_eq_true.mp oks_ok g (List.mem_range.mpr h)⟩
theorem ckm_mok (g : Nat) (h : mok1 g = true) : CKM g := by
  obtain ⟨-, -, -, -, -, -, -, h1⟩ := of_decide_eq_true h
  exact ckm g (by omega)
theorem walks (n' : Nat) : WALK n' := walk_all ckm_mok n'
end
section
/-! THE START: classes, constants and the script at the law's entry (by program) -/
theorem inst_0 : Cond.instantiable RX0 8 ∈ lw_tbl := tbw_mem (z := 2180) (by decide +kernel)
theorem inst_1 : Cond.instantiable RX1 10 ∈ lw_tbl := tbw_mem (z := 2137) (by decide +kernel)
theorem inst_2 : Cond.instantiable RX2 6 ∈ lw_tbl := tbw_mem (z := 2109) (by decide +kernel)
theorem inst_3 : Cond.instantiable RX3 3 ∈ lw_tbl := tbw_mem (z := 1169) (by decide +kernel)
theorem inst_4 : Cond.instantiable RX4 4 ∈ lw_tbl := tbw_mem (z := 1163) (by decide +kernel)
theorem inst_5 : Cond.instantiable RX5 15 ∈ lw_tbl := tbw_mem (z := 1219) (by decide +kernel)
theorem inst_6 : Cond.instantiable RX6 9 ∈ lw_tbl := tbw_mem (z := 2039) (by decide +kernel)
theorem inst_7 : Cond.instantiable RX7 15 ∈ lw_tbl := tbw_mem (z := 1030) (by decide +kernel)
theorem inst_8 : Cond.instantiable RX8 9 ∈ lw_tbl := tbw_mem (z := 2073) (by decide +kernel)
theorem inst_9 : Cond.instantiable RX9 4 ∈ lw_tbl := tbw_mem (z := 1200) (by decide +kernel)
theorem inst_10 : Cond.instantiable RX10 5 ∈ lw_tbl := tbw_mem (z := 1130) (by decide +kernel)
theorem inst_11 : Cond.instantiable RX11 19 ∈ lw_tbl := tbw_mem (z := 1022) (by decide +kernel)
theorem inst_12 : Cond.instantiable RX12 61 ∈ lw_tbl := tbw_mem (z := 6131) (by decide +kernel)
theorem inC_ : Cond.initialized "java/lang/String" ∈ lw_tbl := tbw_mem (z := 1015) (by decide +kernel)
theorem inP_ : Cond.initialized "jdk/internal/util/Preconditions" ∈ lw_tbl := tbw_mem (z := 1017) (by decide +kernel)
theorem laC_ : Cond.laysStatic "java/lang/String" "COMPACT_STRINGS" "Z" ∈ lw_tbl := tbw_mem (z := 3148) (by decide +kernel)
theorem laP_ : Cond.laysStatic "jdk/internal/util/Preconditions" "SIOOBE_FORMATTER" "Ljava/util/function/BiFunction;" ∈ lw_tbl := tbw_mem (z := 3164) (by decide +kernel)
section START
variable {s : State} {b : Nat}
theorem TB_lw : ∀ w ∈ TB, w ∈ lw_tbl := fun w h => (List.mem_filter.mp h).1
theorem law_K1 (hts : ∀ w ∈ lw_tbl, w.before #[Value.ref b] s = true) (htB : ∀ w ∈ TB, w.before #[Value.ref b] s = true) : ∀ ci : Nat, ∃ z : ClassId × (Nat → Nat), ∀ q : vw_C, vwCl[ci]? = some q → u_Kn s q.1 q.2.1 q.2.2 z.1 z.2
  | 0 => by
    obtain ⟨cC, iS, h⟩ := u_known (C := RX0) (T := TX0) (N := 8) (n := 8) htB uin_0 (hts _ inst_0)
    exact ⟨(cC, iS), fun q hq => by cases hq; exact h⟩
  | 1 => by
    obtain ⟨cC, iS, h⟩ := u_known (C := RX1) (T := TX1) (N := 10) (n := 10) htB uin_1 (hts _ inst_1)
    exact ⟨(cC, iS), fun q hq => by cases hq; exact h⟩
  | 2 => by
    obtain ⟨cC, iS, h⟩ := u_known (C := RX2) (T := TX2) (N := 6) (n := 6) htB uin_2 (hts _ inst_2)
    exact ⟨(cC, iS), fun q hq => by cases hq; exact h⟩
  | 3 => by
    obtain ⟨cC, iS, h⟩ := u_known (C := RX3) (T := TX3) (N := 3) (n := 3) htB uin_3 (hts _ inst_3)
    exact ⟨(cC, iS), fun q hq => by cases hq; exact h⟩
  | 4 => by
    obtain ⟨cC, iS, h⟩ := u_known (C := RX4) (T := TX4) (N := 4) (n := 4) htB uin_4 (hts _ inst_4)
    exact ⟨(cC, iS), fun q hq => by cases hq; exact h⟩
  | 5 => by
    obtain ⟨cC, iS, h⟩ := u_known (C := RX5) (T := TX5) (N := 15) (n := 15) htB uin_5 (hts _ inst_5)
    exact ⟨(cC, iS), fun q hq => by cases hq; exact h⟩
  | 6 => by
    obtain ⟨cC, iS, h⟩ := u_known (C := RX6) (T := TX6) (N := 9) (n := 9) htB uin_6 (hts _ inst_6)
    exact ⟨(cC, iS), fun q hq => by cases hq; exact h⟩
  | 7 => by
    obtain ⟨cC, iS, h⟩ := u_known (C := RX7) (T := TX7) (N := 15) (n := 15) htB uin_7 (hts _ inst_7)
    exact ⟨(cC, iS), fun q hq => by cases hq; exact h⟩
  | 8 => by
    obtain ⟨cC, iS, h⟩ := u_known (C := RX8) (T := TX8) (N := 9) (n := 9) htB uin_8 (hts _ inst_8)
    exact ⟨(cC, iS), fun q hq => by cases hq; exact h⟩
  | 9 => by
    obtain ⟨cC, iS, h⟩ := u_known (C := RX9) (T := TX9) (N := 4) (n := 4) htB uin_9 (hts _ inst_9)
    exact ⟨(cC, iS), fun q hq => by cases hq; exact h⟩
  | 10 => by
    obtain ⟨cC, iS, h⟩ := u_known (C := RX10) (T := TX10) (N := 5) (n := 5) htB uin_10 (hts _ inst_10)
    exact ⟨(cC, iS), fun q hq => by cases hq; exact h⟩
  | 11 => by
    obtain ⟨cC, iS, h⟩ := u_known (C := RX11) (T := TX11) (N := 19) (n := 19) htB uin_11 (hts _ inst_11)
    exact ⟨(cC, iS), fun q hq => by cases hq; exact h⟩
  | 12 => by
    obtain ⟨cC, iS, h⟩ := u_known (C := RX12) (T := TX12) (N := 61) (n := 61) htB uin_12 (hts _ inst_12)
    exact ⟨(cC, iS), fun q hq => by cases hq; exact h⟩
  | ci + 13 => ⟨(0, fun _ => 0), fun q hq => by simp [vwCl] at hq⟩
theorem law_arr {ty : FieldType} (h : (Cond.arrayClass ty).before #[Value.ref b] s = true) (hty : ∀ C, ty ≠ .object C) : ∃ c : ClassId, ArrOfT s c ty ∧ va_RA s c ty := by
  obtain ⟨c, k, comp, h1, h2, h3⟩ := Cond.arrayClass_spec h
  refine ⟨c, fun n z => ⟨fun k h => (by cases h), k, h2, comp, h3⟩, ?_⟩
  cases ty with
  | object C => exact absurd rfl (hty C)
  | _ => exact h1
theorem law_arrO {C : String} (h : (Cond.arrayOver (.object C)).before #[Value.ref b] s = true) : ∃ c : ClassId, ArrOfT s c (.object C) ∧ va_RA s c (.object C) := by
  obtain ⟨comp, c, k, h1, h2, h3, h4, h5⟩ := Cond.arrayOver_spec h
  exact ⟨c, fun n z => ⟨fun k h => (by cases h), k, h3, comp, h4⟩, k, comp, h3, h4, h1, h5⟩
theorem law_K (hts : ∀ w ∈ lw_tbl, w.before #[Value.ref b] s = true) : ∃ (D : va_G) (cA : Nat → ClassId), va_K D vwCl (tysOf cA) s := by
  have htB : ∀ w ∈ TB, w.before #[Value.ref b] s = true := fun w h => hts w (TB_lw w h)
  obtain ⟨d, hd⟩ := Classical.axiomOfChoice (law_K1 hts htB)
  obtain ⟨c0, a0, r0⟩ := law_arr (htB _ acI) (fun C h => by cases h)
  obtain ⟨c1, a1, r1⟩ := law_arr (htB _ acJ) (fun C h => by cases h)
  obtain ⟨c2, a2, r2⟩ := law_arr (htB _ acZ) (fun C h => by cases h)
  obtain ⟨c3, a3, r3⟩ := law_arrO (hts _ aoS)
  obtain ⟨c4, a4, r4⟩ := law_arrO (hts _ aoT)
  refine ⟨(fun k => (d k).1, fun k => (d k).2), fun k => match k with | 0 => c0 | 1 => c1 | 2 => c2 | 3 => c3 | _ => c4, fun c q hq => hd c q hq, fun k q hq => ?_⟩
  match k, hq with
  | 0, hq => cases hq; exact ⟨a0, r0⟩
  | 1, hq => cases hq; exact ⟨a1, r1⟩
  | 2, hq => cases hq; exact ⟨a2, r2⟩
  | 3, hq => cases hq; exact ⟨a3, r3⟩
  | 4, hq => cases hq; exact ⟨a4, r4⟩
  | k + 5, hq => simp [tysOf] at hq
/-- place of String constant i among the reader's constants -/
def kix (i : Nat) : Nat := (lkS.map (fun q => q.2.1)).getD i 0
def ktm (i : Nat) : Term := .string "AgingPortrait$Reader" (kix i)
abbrev kfl : Nat → Term := fun i => .field (ktm i) "java/lang/String" "value" "[B"
def nw1 : List Cond := flatC (Jvm.Cond.and given_1 narrow_1)
/-- the constants in the order of the start's words, each with those ahead of it -/
def PPs : List (Nat × List Nat) := [(1, []), (2, [1]), (10, [1, 2]), (11, [1, 2, 10]), (3, [1, 2, 10, 11]), (4, [1, 2, 10, 11, 3]), (5, [1, 2, 10, 11, 3, 4]), (0, [1, 2, 10, 11, 3, 4, 5]), (6, [1, 2, 10, 11, 3, 4, 5, 0]), (9, [1, 2, 10, 11, 3, 4, 5, 0, 6]), (8, [1, 2, 10, 11, 3, 4, 5, 0, 6, 9]), (7, [1, 2, 10, 11, 3, 4, 5, 0, 6, 9, 8])]
def blkE (q : Nat × List Nat) : List Cond := Cond.exactly (ktm q.1) "java/lang/String" :: Cond.eq (.field (ktm q.1) "java/lang/String" "coder" "B") (.int 0) :: Cond.arrayOf (kfl q.1) .byte :: Cond.eq (.length (kfl q.1)) (.int (Int32.ofNat (lenT.getD q.1 0))) :: ((List.range (lenT.getD q.1 0)).map (fun j => Cond.eq (.elem (kfl q.1) (.int (Int32.ofNat j))) (.int ((bytT.getD q.1 []).getD j 0))) ++ q.2.map (fun p => Cond.not (Cond.eq (ktm p) (ktm q.1))))
set_option maxRecDepth 100000 in
theorem nw_E : nw1.drop 35 = PPs.flatMap blkE := by decide +kernel
theorem nw_s4 : nw1[4]? = some (Cond.eq (.static "java/lang/String" "COMPACT_STRINGS" "Z") (.int 1)) := by decide +kernel
theorem nw_s5 : nw1[5]? = some (Cond.isRef (.static "jdk/internal/util/Preconditions" "SIOOBE_FORMATTER" "Ljava/util/function/BiFunction;")) := by decide +kernel
theorem pp_all : (List.range 12).all (fun i => PPs.any (fun q => Nat.beq q.1 i)) = true := by decide +kernel
theorem pp_ne : (List.range 12).all (fun i => (List.range 12).all (fun j => Nat.beq i j || (PPs.any (fun q => Nat.beq q.1 j && q.2.any (fun p => Nat.beq p i)) || PPs.any (fun q => Nat.beq q.1 i && q.2.any (fun p => Nat.beq p j))))) = true := by decide +kernel
theorem nw_in {q : Nat × List Nat} (hq : q ∈ PPs) {w : Cond} (hw : w ∈ blkE q) : w ∈ nw1 := by
  have h : w ∈ nw1.drop 35 := by
    rw [nw_E]
    exact List.mem_flatMap.mpr ⟨q, hq, hw⟩
  exact List.mem_of_mem_drop h
theorem nw_blk {i : Nat} (hi : i < 12) : ∃ l, (i, l) ∈ PPs := by
  have h := List.all_eq_true.mp pp_all i (List.mem_range.mpr hi)
  obtain ⟨⟨a, l⟩, hq, h2⟩ := List.any_eq_true.mp h
  have : a = i := beq_of h2
  subst this
  exact ⟨l, hq⟩
theorem nw_ex {i : Nat} (hi : i < 12) : Cond.exactly (ktm i) "java/lang/String" ∈ nw1 ∧ Cond.eq (.field (ktm i) "java/lang/String" "coder" "B") (.int 0) ∈ nw1 ∧ Cond.arrayOf (kfl i) .byte ∈ nw1 ∧ Cond.eq (.length (kfl i)) (.int (Int32.ofNat (lenT.getD i 0))) ∈ nw1 := by
  obtain ⟨l, hl⟩ := nw_blk hi
  refine ⟨nw_in hl List.mem_cons_self, nw_in hl (List.mem_cons_of_mem _ List.mem_cons_self), nw_in hl (List.mem_cons_of_mem _ (List.mem_cons_of_mem _ List.mem_cons_self)), nw_in hl (List.mem_cons_of_mem _ (List.mem_cons_of_mem _ (List.mem_cons_of_mem _ List.mem_cons_self)))⟩
theorem nw_el {i j : Nat} (hi : i < 12) (hj : j < lenT.getD i 0) : Cond.eq (.elem (kfl i) (.int (Int32.ofNat j))) (.int ((bytT.getD i []).getD j 0)) ∈ nw1 := by
  obtain ⟨l, hl⟩ := nw_blk hi
  refine nw_in hl (List.mem_cons_of_mem _ (List.mem_cons_of_mem _ (List.mem_cons_of_mem _ (List.mem_cons_of_mem _ (List.mem_append.mpr (Or.inl ?_))))))
  exact List.mem_map.mpr ⟨j, List.mem_range.mpr hj, rfl⟩
theorem nw_no {q : Nat × List Nat} (hq : q ∈ PPs) {p : Nat} (hp : p ∈ q.2) : Cond.not (Cond.eq (ktm p) (ktm q.1)) ∈ nw1 :=
  nw_in hq (List.mem_cons_of_mem _ (List.mem_cons_of_mem _ (List.mem_cons_of_mem _ (List.mem_cons_of_mem _ (List.mem_append.mpr (Or.inr (List.mem_map.mpr ⟨p, hp, rfl⟩)))))))
theorem nw_any {i j : Nat} (h : PPs.any (fun q => Nat.beq q.1 j && q.2.any (fun p => Nat.beq p i)) = true) : Cond.not (Cond.eq (ktm i) (ktm j)) ∈ nw1 := by
  obtain ⟨⟨a, l⟩, hq, h2⟩ := List.any_eq_true.mp h
  rw [Bool.and_eq_true] at h2
  obtain ⟨p, hp, h3⟩ := List.any_eq_true.mp h2.2
  have e1 : a = j := beq_of h2.1
  have e2 : p = i := beq_of h3
  subst e1; subst e2
  exact nw_no hq hp
theorem lkS_all : lkS.all (fun q => decide (rnm q.1 = "AgingPortrait$Reader" ∧ q.2.1 = kix q.2.2.1 ∧ q.2.2.1 < 12) && decide (tbw q.2.2.2 = some (Cond.stringRef "AgingPortrait$Reader" (kix q.2.2.1) (sTx q.2.2.1)))) = true := by decide +kernel
theorem law_X {L : Nat} {xs : Nat → Int32} (hgv : (Jvm.Cond.and given_1 narrow_1).before #[Value.ref b] s = true) (hts : ∀ w ∈ lw_tbl, w.before #[Value.ref b] s = true) (hX : va_X b L xs s s.heap) (hbl : b < s.heap.size) (hL : L ≤ 3072) : ∃ X : AdX, X.2.2.1 = b ∧ STR (fun q => s.heap.size ≤ q) X L xs s := by
  have hs : ∀ w ∈ nw1, w.before #[Value.ref b] s = true := flat_of_before _ hgv
  have e1 : ∀ i, i < 12 → (Cond.exactly (ktm i) "java/lang/String").before #[Value.ref b] s = true ∧ (Cond.eq (.field (ktm i) "java/lang/String" "coder" "B") (.int 0)).before #[Value.ref b] s = true ∧ (Cond.arrayOf (kfl i) .byte).before #[Value.ref b] s = true ∧ (Cond.eq (.length (kfl i)) (.int (Int32.ofNat (lenT.getD i 0)))).before #[Value.ref b] s = true := by
    intro i hi
    obtain ⟨h1, h2, h3, h4⟩ := nw_ex hi
    exact ⟨hs _ h1, hs _ h2, hs _ h3, hs _ h4⟩
  have hN : ∀ i : Nat, i < 12 → lenT.getD i 0 < 2 ^ 31 := by
    intro i hi
    rw [lenT_at hi]
    have h1 := List.all_eq_true.mp strb_all i (List.mem_range.mpr hi)
    rw [Bool.and_eq_true] at h1
    have := of_decide_eq_true h1.2
    omega
  have hA : ∀ a : Nat, a < s.heap.size → ¬ (fun q : Nat => s.heap.size ≤ q) a := fun a h => Nat.not_le.mpr h
  obtain ⟨adK, adV, hS, hev⟩ := vk_Sof (tm := ktm) (len := lenT) (byt := bytT) hN (fun i hi => (e1 i hi).1) (fun i hi => (e1 i hi).2.1) (fun i hi => (e1 i hi).2.2.1) (fun i hi => (e1 i hi).2.2.2) (fun i hi j hj => hs _ (nw_el hi hj)) (fun i j hi hj hij => by
    have h := List.all_eq_true.mp (List.all_eq_true.mp pp_ne i (List.mem_range.mpr hi)) j (List.mem_range.mpr hj)
    simp only [Bool.or_eq_true] at h
    rcases h with h | h | h
    · exact absurd (beq_of h) hij
    · exact Or.inl (hs _ (nw_any h))
    · exact Or.inr (hs _ (nw_any h))) hA
  have hst : _ ∧ _ := ⟨List.mem_of_getElem? nw_s4, List.mem_of_getElem? nw_s5⟩
  obtain ⟨v, hv, hvr⟩ := Cond.isRef_spec (hs _ hst.2)
  obtain ⟨o, ho⟩ : ∃ o : Option Nat, v = va_rf o := by
    cases v with
    | null => exact ⟨none, rfl⟩
    | ref a => exact ⟨some a, rfl⟩
    | _ => exact absurd hvr (by simp [Value.isRef])
  subst ho
  refine ⟨(adK, adV, b, o), rfl, hS, fun q hq => ?_, va_Zof (hts _ laC_) (hts _ inC_) (va_eqt (hs _ hst.1)) hA, va_Zof (hts _ laP_) (hts _ inP_) hv hA, hX, hbl, hA b hbl, hL, hts _ aoS, hts _ aoT, fun w idx y hw => va_Nw.of rfl (hts _ hw)⟩
  have h := List.all_eq_true.mp lkS_all q hq
  simp only [Bool.and_eq_true, decide_eq_true_eq] at h
  obtain ⟨⟨h1, h2, h3⟩, h4⟩ := h
  rw [h1, h2]
  exact vk_R.of (hts _ (tbw_mem h4)) (hev _ h3)
end START
end
section
/-! THE LAW'S OWN WALK: what the interpreter answers of it, the machine answers (own work) -/
/-- the memory at the start: the script alone -/
def scm (L : Nat) (xs : Nat → Int32) : Nat → Int → Int := fun k j => if k = 1000000 then (xs j.toNat).toInt else if k = 1000001 then (L : Int) else 0
theorem scm_scr {L : Nat} {xs : Nat → Int32} : SCR L xs (scm L xs) := by
  refine ⟨rfl, fun j _ => ?_⟩
  show (xs ((j : Int)).toNat).toInt = _
  rw [Int.toNat_natCast]
theorem law_code : (mtb 356).1 = code := rfl
theorem law_ret : (mtb 356).2.2.1 = ret := rfl
theorem law_name : (mtb 356).2.1.name = "law" := rfl
theorem law_loc : (inf 356).1 = 4 := rfl
theorem law_rnm : rnm (mtb 356).2.2.2.2 = "AgingPortraitLaw" := rfl
theorem law_rt : ret = some .boolean := rfl
set_option maxRecDepth 100000 in
theorem law_walk {p : Program} {e : Env} {s : State} {m : MethodId} {below : List Frame} {meth : Method} {c : Code} {Q : State → Prop} (l : Launch) {b L : Nat} {xs : Nat → Int32} (hL : L ≤ 3072) (hx : p.tables.exec = Jvm.exec) (hb : c.code = code) (hr : meth.sig.returnType = ret) (hml : c.maxLocals = 4) (hown : s.vm.findClass "AgingPortraitLaw" = some m.cls) (hts : ∀ w ∈ lw_tbl, w.before #[Value.ref b] s = true) (hX : va_X b L xs s s.heap) (hbl : b < s.heap.size) (hlk : meth.locks = false) (hgv : (Jvm.Cond.and given_1 narrow_1).before #[Value.ref b] s = true)
    (hret : ∀ (pc : Nat) (H : Heap) (ls : Array Slot), decode code pc = .ok (.ireturn, 1) → W p l e room_1 s m #[Value.ref b] below meth c H [] 600000 7302249 Q (F0 m pc ls [.int 1]))
    {fuel nd : Nat} {RL : List Shp} {Rc : Nat → Int → Int} (hnd : 1 ≤ nd) (hnd2 : nd ≤ 840) (hrun : run fuel 356 nd 0 (mkl 4 [vR (-1)]) [] ([], scm L xs) = some (some (vI 1), (RL, Rc))) (h1 : RL.length ≤ 600000) (h2 : slz RL ≤ 7302249) :
    W p l e room_1 s m #[Value.ref b] below meth c s.heap [] 0 0 Q (entryFrame m ([Value.ref b] : List Value).toArray 4) := by
  obtain ⟨X, hXb, hST⟩ := law_X hgv hts hX hbl hL
  obtain ⟨D, cA, hK⟩ := law_K hts
  have C : CX p s m #[Value.ref b] meth c 356 (fun q => s.heap.size ≤ q) D cA X L xs :=
    ⟨hx, hb, hml, hown, fun w hw => hts w (TB_lw w hw), hK, hST, fun q hq => hq, hr, hlk, fun h => absurd h (by rw [law_name]; decide)⟩
  have hP : va_P D vwCl (wsl (fun _ => 0) X cA [] (scm L xs)) s.heap := fun k q h => by simp [wsl] at h
  have hD : va_D (fun q : Nat => s.heap.size ≤ q) (wsl (fun _ => 0) X cA [] (scm L xs)) := ⟨fun i j p q h => by simp [wsl] at h, fun k q h => by simp [wsl] at h⟩
  have hfin : FIN p l e room_1 s m #[Value.ref b] below meth c Q 356 (fun q => s.heap.size ≤ q) D cA X L xs (fun _ => 0) 0 0 (some (vI 1), (RL, Rc)) := by
    intro pc i ls st hk hd hl hac ad H locs lsM S
    obtain ⟨k, a, b', x⟩ := i
    have hk : k = 42 ∨ k = 55 ∨ k = 56 ∨ k = 57 ∨ k = 58 ∨ k = 59 ∨ k = 60 := hk
    have hl : rtk k (mtb 356).2.2.1 = true := by
      rcases hk with q | q | q | q | q | q | q <;> subst q <;> exact hl
    rw [law_ret, law_rt] at hl
    rcases hk with q | q | q | q | q | q | q <;> subst q
    · exact absurd hl (by decide)
    · exact absurd hl (by decide)
    · exact absurd hl (by decide)
    · exact absurd hl (by decide)
    · have h9 := pI_inv hac
      clear hac
      obtain ⟨y, t, rfl, h⟩ := h9
      have h9 := pE_inv h
      clear h
      obtain ⟨rfl, h⟩ := h9
      have h9 := if_inv h
      clear h
      obtain ⟨hy, h⟩ := h9
      have hy1 : y = 1 := by
        have h3 := Option.some.inj h
        injection h3 with h3; injection h3 with h3; injection h3 with h3
        have h4 := Option.some.inj (Prod.mk.inj h3).1
        injection h4
      subst hy1
      refine va_forget (fun q hq => S.2.2.1.2.2 q hq) (W.widen (k := 600000) (n := 7302249) ?_ ?_ (hret pc H lsM hd))
      · exact Nat.le_trans (Nat.sub_le _ _) h1
      · exact Nat.le_trans (Nat.sub_le _ _) h2
    · exact absurd hl (by decide)
    · exact absurd hl (by decide)
  have K := walks fuel p l e room_1 s m #[Value.ref b] below meth c Q 356 (fun q => s.heap.size ≤ q) D cA X L xs (fun _ => 0) 0 0 nd (some (vI 1), (RL, Rc)) C (ckm 356 (by omega)) hnd (by omega) ⟨Nat.le_trans hnd2 (by decide), Nat.le_trans (Nat.mul_le_mul_right 100 hnd2) (by decide)⟩ hfin (Nat.le_trans h1 (by decide)) (Nat.le_trans (Nat.sub_le _ _) h1) (Nat.le_trans (Nat.sub_le _ _) h2) 0 (mkl 4 [vR (-1)]) [] [] (scm L xs) hrun
    (fun _ => 0) s.heap [] ((lg_sl ([vR (-1)].map (mv (fun _ => 0) X)) ++ List.replicate (4 - (lg_sl ([vR (-1)].map (mv (fun _ => 0) X))).length) Slot.unset).toArray) ⟨hP, hD, va_S.rf, fun k s' h => by simp at h, scm_scr, ⟨Nat.le_refl _, Nat.le_refl _, fun _ _ => rfl⟩, entry_LR (n := 4) (by decide), fun v hv => by
      rcases mkl_mem _ _ v hv with q | q
      · rw [List.mem_singleton.mp q]
        show (-1 : Int) ≤ _
        simp
      · rw [q]; exact trivial, fun v hv => by cases hv⟩
  rw [lg_entry_eq]
  have e : ([vR (-1)] : List V).map (mv (fun _ => 0) X) = [Value.ref b] := by
    rw [← hXb]
    rfl
  rw [e] at K
  exact K
end
section
/-! WHAT IS LEFT: the interpreter's answer to the law, on every script -/
theorem law_pure {L : Nat} {xs : Nat → Int32} (hL : L ≤ 3072) : ∃ (fuel : Nat) (RL : List Shp) (Rc : Nat → Int → Int), run fuel 356 106 0 (mkl 4 [vR (-1)]) [] ([], scm L xs) = some (some (vI 1), (RL, Rc)) ∧ RL.length ≤ 600000 ∧ slz RL ≤ 7302249 := by
  sorry
end
section
/-! THE CLAIM OUT OF ONE WALK OF THE LAW'S BODY. Your part is whole_start (and what it stands on); all else here is the same for every law, but numbers. -/
def R_law : String := "AgingPortraitLaw"
def lw_P (b : Addr) (xs : List Int32) (args : Array Value) (s : State) : Prop := args = #[.ref b] ∧ s.IntsAt b xs ∧ xs.length ≤ 3072 ∧ (Jvm.Cond.and given_1 narrow_1).before args s = true
def lw_Q (_ : Array Value) (s : State) (o : Outcome) (t : State) : Prop := o = .returned (some (.int 1)) ∧ Framed s o t [] 600000 7302249
def lw_Z (below : List Frame) (a : Array Value) (s : State) : State → Prop := fun t => ∃ o, t.status = .running ∧ Ended t below o ∧ lw_Q a s o t
/-- the law's own end, with 1 on the stack, nothing written that was there before, its room as the claim has it -/
theorem lw_ret {p : Program} {l : Launch} {e : Env} {s : State} {m : MethodId} {below : List Frame} {meth : Method} {c : Code} {b : Nat} (hx : p.tables.exec = Jvm.exec) (hb : c.code = code) (hr : meth.sig.returnType = ret) (hlocks : meth.locks = false) {pc : Nat} {H : Heap} {ls : Array Slot} (hdg : decode code pc = .ok (.ireturn, 1)) : W p l e room_1 s m #[Value.ref b] below meth c H [] 600000 7302249 (lw_Z below #[Value.ref b] s) (F0 m pc ls [.int 1]) := by
  intro T hT X
  obtain ⟨fs, hret, hrun, hended, hW, hframe⟩ := X.leave (v := some (.int 1)) (hlocks := hlocks) (fun h => by rw [hr] at h; cases h)
  have hmeth' : T.vm.method? m = some meth := X.method'
  refine ⟨T.setFrames fs, ?_, .returned (some (.int 1)), hrun, hended, rfl, ⟨_, rfl⟩, hW, hframe⟩
  jvm_step X.here [X.here.top, hx, hb, hdg, hmeth', hr, ret, narrow_b1]
  (try refine ⟨rfl, ?_⟩); (try refine ⟨rfl, ?_⟩)
  first | (intro acts; rw [hret _ acts rfl rfl rfl]) | rw [hret _ _ rfl rfl rfl]
  exact Steps.refl _
/-- what holds at the law's entry: the machine, the code, the tables' words (any of lw_tbl by 'hts w (by decide +kernel)'), the script of L ints xs at the cell b, what the Statement gives of the start (any of its parts by flat_of_before) -/
def lw_At (p : Program) (s : State) (m : MethodId) (meth : Method) (c : Code) (b L : Nat) (xs : Nat → Int32) : Prop :=
  p.tables.exec = Jvm.exec ∧ c.code = code ∧ meth.sig.returnType = ret ∧ c.maxLocals = 4 ∧ s.vm.findClass R_law = some m.cls ∧ (∀ w ∈ lw_tbl, w.before #[Value.ref b] s = true) ∧ va_X b L xs s s.heap ∧ b < s.heap.size ∧ meth.locks = false ∧ (Jvm.Cond.and given_1 narrow_1).before #[Value.ref b] s = true
-- ===== YOUR PART BEGINS =====
/-- YOUR PART: from the entry, for every script of at most 3072 ints, the law comes to its end with true ('hflags': the launch's flags, for a law that throws: no stack traces) -/
theorem whole_start {p : Program} {e : Env} {s : State} {m : MethodId} {below : List Frame} {meth : Method} {c : Code} (l : Launch) (hflags : l.flags = flags0) {b L : Nat} {xs : Nat → Int32} (hL : L ≤ 3072) (C0 : lw_At p s m meth c b L xs) : W p l e room_1 s m #[Value.ref b] below meth c s.heap [] 0 0 (lw_Z below #[Value.ref b] s) (entryFrame m ([Value.ref b] : List Value).toArray 4) := by
  obtain ⟨hx, hb, hr, hml, hown, hts, hX, hbl, hlk, hgv⟩ := C0
  obtain ⟨fuel, RL, Rc, hrun, h1, h2⟩ := law_pure hL (xs := xs)
  exact law_walk l hL hx hb hr hml hown hts hX hbl hlk hgv (fun pc H ls hd => lw_ret hx hb hr hlk hd) (by decide) (by decide) hrun h1 h2
-- ===== YOUR PART ENDS =====
set_option maxHeartbeats 4000000 in
theorem lw_walk (l : Launch) (hflags : l.flags = flags0) (b : Addr) (xs : List Int32) : MetFree l x (headSpec (Jvm.Cond.code x code maxLocals ret :: tables_1) room_1) (lw_P b xs) (fun _ _ _ _ _ => True) lw_Q := by
  refine MetFree.of_bodyS (code := code) (maxLocals := maxLocals) (ret := ret) (by decide) ?_ ?_
  · intro args s m h hn
    obtain ⟨meth, c, h1, h2, h3, h4, h5, h6, -, -⟩ := Cond.code_spec hn (atoms_spec (ws := Jvm.Cond.code x code maxLocals ret :: tables_1) h _ List.mem_cons_self)
    exact ⟨meth, c, h1, h2, h3, h4, h5, h6⟩
  · intro p e s m args below meth c s₁ B hml0 hP _
    obtain ⟨rfl, hx, hbd, hgv⟩ := hP
    obtain ⟨scr, harrAt, hlist, hof, hsmall⟩ := hx
    obtain ⟨hcb, hkn, -, -⟩ := State.arrayAt?_spec harrAt
    have hown : s.vm.findClass R_law = some m.cls := findClass_of_methodNamed B.named
    have hts0 : ∀ c ∈ (Jvm.Cond.code x code maxLocals ret :: tables_1), c.before #[Value.ref b] s = true := atoms_spec (ws := Jvm.Cond.code x code maxLocals ret :: tables_1) B.pre
    have hts : ∀ w ∈ lw_tbl, w.before #[Value.ref b] s = true := k2_hts_sels lw_privs (fun w hw => hts0 w (List.mem_cons_of_mem _ hw)) lw_privs_ok
    have hml : c.maxLocals = 4 := B.maxLocals_eq (hts0 _ List.mem_cons_self)
    have X₀ : Stand p l e room_1 s m #[Value.ref b] below meth c s₁ [] 0 0 := Stand.of_body B
    have hh0 : s₁.heap = s.heap := by rw [B.state]; rfl
    have hsz : scr.slots.size = xs.length := by rw [← Array.length_toList, hlist, List.length_map]
    have hval : ∀ j : Nat, j < xs.length → scr.slots[j]? = some (.int (xs.getD j 0)) := fun j hj => by
      rw [← Array.getElem?_toList, hlist]
      simp [hj]
    have hbl : b < s.heap.size := (Array.getElem?_eq_some_iff.mp hcb).1
    have hX : va_X b xs.length (fun j => xs.getD j 0) s s.heap := ⟨scr, hcb, hof, hkn, hsz, hval⟩
    have K : W p l e room_1 s m #[Value.ref b] below meth c s₁.heap [] 0 0 (lw_Z below #[Value.ref b] s) (entryFrame m ([Value.ref b] : List Value).toArray 4) := by
      rw [hh0]
      exact whole_start l hflags hbd ⟨B.exec, B.bytes, B.returns, hml, hown, hts, hX, hbl, B.notSynchronized, hgv⟩
    obtain ⟨t, a1, o, b1, b2, b3⟩ := K s₁ rfl X₀
    exact ⟨t, o, a1, b1, b2, b3⟩
theorem lw_pre_spec {args : Array Value} {s : State} (h : (Jvm.Cond.and given_1 narrow_1).before args s = true) (hr : rest_1_c.before args s = true) : ∃ (b : Addr) (xs : List Int32), lw_P b xs args s := by
  have hs := flat_of_before _ h
  have hq := flat_of_before _ hr
  have hc : (Cond.count 1).before args s = true := hs _ (by decide +kernel)
  have harr : (Cond.arrayOf (.arg 0) .int).before args s = true := hs _ (by decide +kernel)
  have hle : (Cond.le (.length (.arg 0)) (.int 3072)).before args s = true := hs _ (by decide +kernel)
  have hlen : (Cond.isInt (.length (.arg 0))).before args s = true := hq _ (by decide +kernel)
  have hall : (Cond.all (.arg 0) (.isInt (.elem (.arg 0) (.index 0)))).before args s = true := hq _ (by decide +kernel)
  obtain ⟨b, xs, hb, hx⟩ := State.ints_of_pre rfl harr hlen hall
  have hsm : xs.length < 2 ^ 31 := hx.choose_spec.2.2.2
  have hev : (Term.length (.arg 0)).eval args s none [] s = some (.int xs.length.toInt32) := hx.length_eval hb
  have hv := Cond.le_ints hev (show (Term.int 3072).eval args s none [] s = some (.int 3072) from rfl)
  have hd : xs.length.toInt32 ≤ 3072 := by
    simpa [Cond.before, Cond.holds, hv] using hle
  have hN : xs.length ≤ 3072 := (Int32.ofNat_le_ofNat hsm (by decide)).mp (show Int32.ofNat xs.length ≤ Int32.ofNat 3072 from hd)
  exact ⟨b, xs, Cond.one_arg hc (show args[0]? = some (.ref b) from hb), hx, hN, h⟩
theorem lw_comes (l : Launch) (hflags : l.flags = flags0) : Comes l x (Jvm.Cond.code x code maxLocals ret :: tables_1) room_1 (fun tb e args s => Calls_1 tb e args s ∧ rest_1 tb e args s ∧ Pre_1 tb e args s)
    (fun _ _ args s o t => lw_Q args s o t) := by
  intro p e ha hc hk s m args below hf hfit hheap happ hpre
  obtain ⟨b, xs, hP⟩ := lw_pre_spec hpre.2.2 hpre.2.1
  obtain ⟨k, o, h1, h2, h3, hQ⟩ := lw_walk l hflags b xs p e ha hc hk s m args below hf ((Spec.applies_iff_loose hf).mp happ).1 hP trivial
  exact ⟨k, o, h1, h2, h3, hQ⟩
theorem lw_frame {s t : State} {o : Outcome} {args : Array Value} (h : Framed s o t [] 600000 7302249) :
    Framed s o t (fieldLocs frame_1_writes args s ++ arrayLocs frame_1_arrays args s ++ staticLocs frame_1_statics s) 600000 7302249 := h
theorem lw_limb (L : Cond) (hL : ∀ (args : Array Value) (s t : State), L.after args s (.returned (some (.int 1))) t = true) :
    ArmFor flags0 classFile x code maxLocals ret World_1 tables_1 room_1 Calls_1 rest_1 Pre_1
      (fun tb e a s o t => postC L tb e a s o t ∧ Framed s o t (fieldLocs frame_1_writes a s ++ arrayLocs frame_1_arrays a s ++ staticLocs frame_1_statics s) 600000 7302249) := by
  intro l hflags _ _ p e ha hc hk s m args below hf hfit hheap happ hpre
  obtain ⟨k, o, h1, h2, h3, rfl, hF⟩ := lw_comes l hflags p e ha hc hk s m args below hf hfit hheap happ hpre
  exact ⟨k, _, h1, h2, h3, hL args s _, lw_frame hF⟩
theorem i_vc : Claimed_1_1 ∧ Claimed_1_2 := ⟨lw_limb limb_1_1 (fun args s t => by simp [limb_1_1, Cond.after, Cond.holds, Cond.value]), lw_limb limb_1_2 (fun args s t => Cond.after_iff.mpr (by
  first | (rw [show limb_1_2 = Cond.eq .result (.int 1) from rfl, Cond.eq_ints (x := 1) (y := 1) rfl rfl]; simp; done) | (simp [limb_1_2, Cond.value, Term.eval]; done)))⟩
end
