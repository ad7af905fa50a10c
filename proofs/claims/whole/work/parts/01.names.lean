-- ===== PART A: goes FIRST, ahead of the names: the tables' words, and 'selects' of the private methods out of them =====
/-- a private method of a class that the tables say can be made, by its rows of tables_1 -/
def lw_okq (q : MethodName × Nat) : Prop := (q.1.cls ≠ "java/lang/invoke/MethodHandle" ∧ q.1.cls ≠ "java/lang/invoke/VarHandle") ∧ Cond.instantiable q.1.cls q.2 ∈ tables_1 ∧ Cond.privateMethod q.1 ∈ tables_1 ∧ Cond.instanceMethod q.1 ∈ tables_1
theorem lw_p0 : lw_okq (⟨"SpoutSpring", "writeBytes", "(I)V"⟩, 19) := ⟨⟨by decide +kernel, by decide +kernel⟩, List.mem_of_getElem? (i := 22) (by decide +kernel), List.mem_of_getElem? (i := 506) (by decide +kernel), List.mem_of_getElem? (i := 507) (by decide +kernel)⟩
theorem lw_p1 : lw_okq (⟨"SpoutSpring$Tokens", "readWord", "()V"⟩, 9) := ⟨⟨by decide +kernel, by decide +kernel⟩, List.mem_of_getElem? (i := 30) (by decide +kernel), List.mem_of_getElem? (i := 535) (by decide +kernel), List.mem_of_getElem? (i := 536) (by decide +kernel)⟩
theorem lw_p2 : lw_okq (⟨"SpoutSpring$Tokens", "kindOfWord", "()I"⟩, 9) := ⟨⟨by decide +kernel, by decide +kernel⟩, List.mem_of_getElem? (i := 30) (by decide +kernel), List.mem_of_getElem? (i := 541) (by decide +kernel), List.mem_of_getElem? (i := 542) (by decide +kernel)⟩
theorem lw_p3 : lw_okq (⟨"SpoutSpring$Tokens", "readNumber", "()V"⟩, 9) := ⟨⟨by decide +kernel, by decide +kernel⟩, List.mem_of_getElem? (i := 30) (by decide +kernel), List.mem_of_getElem? (i := 597) (by decide +kernel), List.mem_of_getElem? (i := 598) (by decide +kernel)⟩
theorem lw_p4 : lw_okq (⟨"SpoutSpring$Spring", "readRoom", "(LSpoutSpring$Tokens;)Z"⟩, 13) := ⟨⟨by decide +kernel, by decide +kernel⟩, List.mem_of_getElem? (i := 73) (by decide +kernel), List.mem_of_getElem? (i := 663) (by decide +kernel), List.mem_of_getElem? (i := 664) (by decide +kernel)⟩
theorem lw_p5 : lw_okq (⟨"SpoutSpring$Spring", "findRoom", "(J)I"⟩, 13) := ⟨⟨by decide +kernel, by decide +kernel⟩, List.mem_of_getElem? (i := 73) (by decide +kernel), List.mem_of_getElem? (i := 672) (by decide +kernel), List.mem_of_getElem? (i := 673) (by decide +kernel)⟩
theorem lw_p6 : lw_okq (⟨"SpoutSpring$Spring", "readNumbers", "(LSpoutSpring$Tokens;)Z"⟩, 13) := ⟨⟨by decide +kernel, by decide +kernel⟩, List.mem_of_getElem? (i := 73) (by decide +kernel), List.mem_of_getElem? (i := 676) (by decide +kernel), List.mem_of_getElem? (i := 677) (by decide +kernel)⟩
theorem lw_p7 : lw_okq (⟨"SpoutSpring$Spring", "readUp", "(LSpoutSpring$Tokens;)Z"⟩, 13) := ⟨⟨by decide +kernel, by decide +kernel⟩, List.mem_of_getElem? (i := 73) (by decide +kernel), List.mem_of_getElem? (i := 685) (by decide +kernel), List.mem_of_getElem? (i := 686) (by decide +kernel)⟩
theorem lw_p8 : lw_okq (⟨"SpoutSpring$Spring", "readJoin", "(LSpoutSpring$Tokens;)Z"⟩, 13) := ⟨⟨by decide +kernel, by decide +kernel⟩, List.mem_of_getElem? (i := 73) (by decide +kernel), List.mem_of_getElem? (i := 693) (by decide +kernel), List.mem_of_getElem? (i := 694) (by decide +kernel)⟩
theorem lw_p9 : lw_okq (⟨"SpoutSpring$Spring", "readJoined", "(LSpoutSpring$Tokens;[II)Z"⟩, 13) := ⟨⟨by decide +kernel, by decide +kernel⟩, List.mem_of_getElem? (i := 73) (by decide +kernel), List.mem_of_getElem? (i := 697) (by decide +kernel), List.mem_of_getElem? (i := 698) (by decide +kernel)⟩
theorem lw_p10 : lw_okq (⟨"SpoutSpring$Laws", "readEither", "(LSpoutSpring$Tokens;I)Z"⟩, 7) := ⟨⟨by decide +kernel, by decide +kernel⟩, List.mem_of_getElem? (i := 139) (by decide +kernel), List.mem_of_getElem? (i := 719) (by decide +kernel), List.mem_of_getElem? (i := 720) (by decide +kernel)⟩
theorem lw_p11 : lw_okq (⟨"SpoutSpring$Laws", "readBoth", "(LSpoutSpring$Tokens;I)Z"⟩, 7) := ⟨⟨by decide +kernel, by decide +kernel⟩, List.mem_of_getElem? (i := 139) (by decide +kernel), List.mem_of_getElem? (i := 723) (by decide +kernel), List.mem_of_getElem? (i := 724) (by decide +kernel)⟩
theorem lw_p12 : lw_okq (⟨"SpoutSpring$Laws", "readOne", "(LSpoutSpring$Tokens;I)Z"⟩, 7) := ⟨⟨by decide +kernel, by decide +kernel⟩, List.mem_of_getElem? (i := 139) (by decide +kernel), List.mem_of_getElem? (i := 727) (by decide +kernel), List.mem_of_getElem? (i := 728) (by decide +kernel)⟩
theorem lw_p13 : lw_okq (⟨"SpoutSpring$Laws", "write", "(I)V"⟩, 7) := ⟨⟨by decide +kernel, by decide +kernel⟩, List.mem_of_getElem? (i := 139) (by decide +kernel), List.mem_of_getElem? (i := 731) (by decide +kernel), List.mem_of_getElem? (i := 732) (by decide +kernel)⟩
theorem lw_p14 : lw_okq (⟨"SpoutSpring$Laws", "readSum", "(LSpoutSpring$Tokens;I)Z"⟩, 7) := ⟨⟨by decide +kernel, by decide +kernel⟩, List.mem_of_getElem? (i := 139) (by decide +kernel), List.mem_of_getElem? (i := 735) (by decide +kernel), List.mem_of_getElem? (i := 736) (by decide +kernel)⟩
theorem lw_p15 : lw_okq (⟨"SpoutSpring$Laws", "readTerm", "(LSpoutSpring$Tokens;I)Z"⟩, 7) := ⟨⟨by decide +kernel, by decide +kernel⟩, List.mem_of_getElem? (i := 139) (by decide +kernel), List.mem_of_getElem? (i := 739) (by decide +kernel), List.mem_of_getElem? (i := 740) (by decide +kernel)⟩
def lw_privs_1 : List (MethodName × Nat) := [(⟨"SpoutSpring", "writeBytes", "(I)V"⟩, 19), (⟨"SpoutSpring$Tokens", "readWord", "()V"⟩, 9), (⟨"SpoutSpring$Tokens", "kindOfWord", "()I"⟩, 9), (⟨"SpoutSpring$Tokens", "readNumber", "()V"⟩, 9), (⟨"SpoutSpring$Spring", "readRoom", "(LSpoutSpring$Tokens;)Z"⟩, 13), (⟨"SpoutSpring$Spring", "findRoom", "(J)I"⟩, 13), (⟨"SpoutSpring$Spring", "readNumbers", "(LSpoutSpring$Tokens;)Z"⟩, 13), (⟨"SpoutSpring$Spring", "readUp", "(LSpoutSpring$Tokens;)Z"⟩, 13), (⟨"SpoutSpring$Spring", "readJoin", "(LSpoutSpring$Tokens;)Z"⟩, 13), (⟨"SpoutSpring$Spring", "readJoined", "(LSpoutSpring$Tokens;[II)Z"⟩, 13), (⟨"SpoutSpring$Laws", "readEither", "(LSpoutSpring$Tokens;I)Z"⟩, 7), (⟨"SpoutSpring$Laws", "readBoth", "(LSpoutSpring$Tokens;I)Z"⟩, 7), (⟨"SpoutSpring$Laws", "readOne", "(LSpoutSpring$Tokens;I)Z"⟩, 7), (⟨"SpoutSpring$Laws", "write", "(I)V"⟩, 7), (⟨"SpoutSpring$Laws", "readSum", "(LSpoutSpring$Tokens;I)Z"⟩, 7), (⟨"SpoutSpring$Laws", "readTerm", "(LSpoutSpring$Tokens;I)Z"⟩, 7)]
theorem lw_r1 : ∀ q ∈ lw_privs_1, lw_okq q := List.forall_mem_cons.mpr ⟨lw_p0, List.forall_mem_cons.mpr ⟨lw_p1, List.forall_mem_cons.mpr ⟨lw_p2, List.forall_mem_cons.mpr ⟨lw_p3, List.forall_mem_cons.mpr ⟨lw_p4, List.forall_mem_cons.mpr ⟨lw_p5, List.forall_mem_cons.mpr ⟨lw_p6, List.forall_mem_cons.mpr ⟨lw_p7, List.forall_mem_cons.mpr ⟨lw_p8, List.forall_mem_cons.mpr ⟨lw_p9, List.forall_mem_cons.mpr ⟨lw_p10, List.forall_mem_cons.mpr ⟨lw_p11, List.forall_mem_cons.mpr ⟨lw_p12, List.forall_mem_cons.mpr ⟨lw_p13, List.forall_mem_cons.mpr ⟨lw_p14, List.forall_mem_cons.mpr ⟨lw_p15, fun _ h => absurd h List.not_mem_nil⟩⟩⟩⟩⟩⟩⟩⟩⟩⟩⟩⟩⟩⟩⟩⟩
theorem lw_p16 : lw_okq (⟨"SpoutSpring$Laws", "readUnit", "(LSpoutSpring$Tokens;I)Z"⟩, 7) := ⟨⟨by decide +kernel, by decide +kernel⟩, List.mem_of_getElem? (i := 139) (by decide +kernel), List.mem_of_getElem? (i := 743) (by decide +kernel), List.mem_of_getElem? (i := 744) (by decide +kernel)⟩
theorem lw_p17 : lw_okq (⟨"SpoutSpring", "forgetCourses", "()V"⟩, 19) := ⟨⟨by decide +kernel, by decide +kernel⟩, List.mem_of_getElem? (i := 22) (by decide +kernel), List.mem_of_getElem? (i := 748) (by decide +kernel), List.mem_of_getElem? (i := 749) (by decide +kernel)⟩
theorem lw_p18 : lw_okq (⟨"SpoutSpring", "isRoom", "(II)Z"⟩, 19) := ⟨⟨by decide +kernel, by decide +kernel⟩, List.mem_of_getElem? (i := 22) (by decide +kernel), List.mem_of_getElem? (i := 768) (by decide +kernel), List.mem_of_getElem? (i := 769) (by decide +kernel)⟩
theorem lw_p19 : lw_okq (⟨"SpoutSpring", "courseUpTo", "(II)LSpoutSpring$Course;"⟩, 19) := ⟨⟨by decide +kernel, by decide +kernel⟩, List.mem_of_getElem? (i := 22) (by decide +kernel), List.mem_of_getElem? (i := 772) (by decide +kernel), List.mem_of_getElem? (i := 773) (by decide +kernel)⟩
theorem lw_p20 : lw_okq (⟨"SpoutSpring$Course", "keep", "(I)V"⟩, 9) := ⟨⟨by decide +kernel, by decide +kernel⟩, List.mem_of_getElem? (i := 399) (by decide +kernel), List.mem_of_getElem? (i := 788) (by decide +kernel), List.mem_of_getElem? (i := 789) (by decide +kernel)⟩
theorem lw_p21 : lw_okq (⟨"SpoutSpring$Flow", "askCool", "()V"⟩, 19) := ⟨⟨by decide +kernel, by decide +kernel⟩, List.mem_of_getElem? (i := 174) (by decide +kernel), List.mem_of_getElem? (i := 797) (by decide +kernel), List.mem_of_getElem? (i := 798) (by decide +kernel)⟩
theorem lw_p22 : lw_okq (⟨"SpoutSpring$Flow", "weighAbove", "()V"⟩, 19) := ⟨⟨by decide +kernel, by decide +kernel⟩, List.mem_of_getElem? (i := 174) (by decide +kernel), List.mem_of_getElem? (i := 801) (by decide +kernel), List.mem_of_getElem? (i := 802) (by decide +kernel)⟩
theorem lw_p23 : lw_okq (⟨"SpoutSpring$Laws", "work", "(IIIII)I"⟩, 7) := ⟨⟨by decide +kernel, by decide +kernel⟩, List.mem_of_getElem? (i := 139) (by decide +kernel), List.mem_of_getElem? (i := 812) (by decide +kernel), List.mem_of_getElem? (i := 813) (by decide +kernel)⟩
theorem lw_p24 : lw_okq (⟨"SpoutSpring$Flow", "fill", "()V"⟩, 19) := ⟨⟨by decide +kernel, by decide +kernel⟩, List.mem_of_getElem? (i := 174) (by decide +kernel), List.mem_of_getElem? (i := 824) (by decide +kernel), List.mem_of_getElem? (i := 825) (by decide +kernel)⟩
theorem lw_p25 : lw_okq (⟨"SpoutSpring$Flow", "level", "()V"⟩, 19) := ⟨⟨by decide +kernel, by decide +kernel⟩, List.mem_of_getElem? (i := 174) (by decide +kernel), List.mem_of_getElem? (i := 830) (by decide +kernel), List.mem_of_getElem? (i := 831) (by decide +kernel)⟩
theorem lw_p26 : lw_okq (⟨"SpoutSpring$Flow", "lose", "(II)I"⟩, 19) := ⟨⟨by decide +kernel, by decide +kernel⟩, List.mem_of_getElem? (i := 174) (by decide +kernel), List.mem_of_getElem? (i := 834) (by decide +kernel), List.mem_of_getElem? (i := 835) (by decide +kernel)⟩
theorem lw_p27 : lw_okq (⟨"SpoutSpring$Flow", "spout", "()V"⟩, 19) := ⟨⟨by decide +kernel, by decide +kernel⟩, List.mem_of_getElem? (i := 174) (by decide +kernel), List.mem_of_getElem? (i := 838) (by decide +kernel), List.mem_of_getElem? (i := 839) (by decide +kernel)⟩
theorem lw_p28 : lw_okq (⟨"SpoutSpring$Flow", "throwUp", "(II)V"⟩, 19) := ⟨⟨by decide +kernel, by decide +kernel⟩, List.mem_of_getElem? (i := 174) (by decide +kernel), List.mem_of_getElem? (i := 850) (by decide +kernel), List.mem_of_getElem? (i := 851) (by decide +kernel)⟩
theorem lw_p29 : lw_okq (⟨"SpoutSpring$Flow", "emptyPools", "()V"⟩, 19) := ⟨⟨by decide +kernel, by decide +kernel⟩, List.mem_of_getElem? (i := 174) (by decide +kernel), List.mem_of_getElem? (i := 854) (by decide +kernel), List.mem_of_getElem? (i := 855) (by decide +kernel)⟩
theorem lw_p30 : lw_okq (⟨"SpoutSpring", "readCoursePlays", "(II)V"⟩, 19) := ⟨⟨by decide +kernel, by decide +kernel⟩, List.mem_of_getElem? (i := 22) (by decide +kernel), List.mem_of_getElem? (i := 884) (by decide +kernel), List.mem_of_getElem? (i := 885) (by decide +kernel)⟩
theorem lw_p31 : lw_okq (⟨"SpoutSpring$Board", "gather", "(LSpoutSpring$Sights;)V"⟩, 13) := ⟨⟨by decide +kernel, by decide +kernel⟩, List.mem_of_getElem? (i := 326) (by decide +kernel), List.mem_of_getElem? (i := 933) (by decide +kernel), List.mem_of_getElem? (i := 934) (by decide +kernel)⟩
def lw_privs_2 : List (MethodName × Nat) := [(⟨"SpoutSpring$Laws", "readUnit", "(LSpoutSpring$Tokens;I)Z"⟩, 7), (⟨"SpoutSpring", "forgetCourses", "()V"⟩, 19), (⟨"SpoutSpring", "isRoom", "(II)Z"⟩, 19), (⟨"SpoutSpring", "courseUpTo", "(II)LSpoutSpring$Course;"⟩, 19), (⟨"SpoutSpring$Course", "keep", "(I)V"⟩, 9), (⟨"SpoutSpring$Flow", "askCool", "()V"⟩, 19), (⟨"SpoutSpring$Flow", "weighAbove", "()V"⟩, 19), (⟨"SpoutSpring$Laws", "work", "(IIIII)I"⟩, 7), (⟨"SpoutSpring$Flow", "fill", "()V"⟩, 19), (⟨"SpoutSpring$Flow", "level", "()V"⟩, 19), (⟨"SpoutSpring$Flow", "lose", "(II)I"⟩, 19), (⟨"SpoutSpring$Flow", "spout", "()V"⟩, 19), (⟨"SpoutSpring$Flow", "throwUp", "(II)V"⟩, 19), (⟨"SpoutSpring$Flow", "emptyPools", "()V"⟩, 19), (⟨"SpoutSpring", "readCoursePlays", "(II)V"⟩, 19), (⟨"SpoutSpring$Board", "gather", "(LSpoutSpring$Sights;)V"⟩, 13)]
theorem lw_r2 : ∀ q ∈ lw_privs_2, lw_okq q := List.forall_mem_cons.mpr ⟨lw_p16, List.forall_mem_cons.mpr ⟨lw_p17, List.forall_mem_cons.mpr ⟨lw_p18, List.forall_mem_cons.mpr ⟨lw_p19, List.forall_mem_cons.mpr ⟨lw_p20, List.forall_mem_cons.mpr ⟨lw_p21, List.forall_mem_cons.mpr ⟨lw_p22, List.forall_mem_cons.mpr ⟨lw_p23, List.forall_mem_cons.mpr ⟨lw_p24, List.forall_mem_cons.mpr ⟨lw_p25, List.forall_mem_cons.mpr ⟨lw_p26, List.forall_mem_cons.mpr ⟨lw_p27, List.forall_mem_cons.mpr ⟨lw_p28, List.forall_mem_cons.mpr ⟨lw_p29, List.forall_mem_cons.mpr ⟨lw_p30, List.forall_mem_cons.mpr ⟨lw_p31, fun _ h => absurd h List.not_mem_nil⟩⟩⟩⟩⟩⟩⟩⟩⟩⟩⟩⟩⟩⟩⟩⟩
theorem lw_p32 : lw_okq (⟨"SpoutSpring$Board", "insert", "(II)V"⟩, 13) := ⟨⟨by decide +kernel, by decide +kernel⟩, List.mem_of_getElem? (i := 326) (by decide +kernel), List.mem_of_getElem? (i := 941) (by decide +kernel), List.mem_of_getElem? (i := 942) (by decide +kernel)⟩
theorem lw_p33 : lw_okq (⟨"SpoutSpring$Board", "weigh", "(I)V"⟩, 13) := ⟨⟨by decide +kernel, by decide +kernel⟩, List.mem_of_getElem? (i := 326) (by decide +kernel), List.mem_of_getElem? (i := 945) (by decide +kernel), List.mem_of_getElem? (i := 946) (by decide +kernel)⟩
theorem lw_p34 : lw_okq (⟨"SpoutSpring$Board", "countMost", "(III)I"⟩, 13) := ⟨⟨by decide +kernel, by decide +kernel⟩, List.mem_of_getElem? (i := 326) (by decide +kernel), List.mem_of_getElem? (i := 949) (by decide +kernel), List.mem_of_getElem? (i := 950) (by decide +kernel)⟩
theorem lw_p35 : lw_okq (⟨"SpoutSpring$Board", "countBehind", "(II)I"⟩, 13) := ⟨⟨by decide +kernel, by decide +kernel⟩, List.mem_of_getElem? (i := 326) (by decide +kernel), List.mem_of_getElem? (i := 954) (by decide +kernel), List.mem_of_getElem? (i := 955) (by decide +kernel)⟩
theorem lw_p36 : lw_okq (⟨"SpoutSpring$Board", "placeRows", "()V"⟩, 13) := ⟨⟨by decide +kernel, by decide +kernel⟩, List.mem_of_getElem? (i := 326) (by decide +kernel), List.mem_of_getElem? (i := 958) (by decide +kernel), List.mem_of_getElem? (i := 959) (by decide +kernel)⟩
theorem lw_p37 : lw_okq (⟨"SpoutSpring$Board", "findEnd", "(II)I"⟩, 13) := ⟨⟨by decide +kernel, by decide +kernel⟩, List.mem_of_getElem? (i := 326) (by decide +kernel), List.mem_of_getElem? (i := 962) (by decide +kernel), List.mem_of_getElem? (i := 963) (by decide +kernel)⟩
theorem lw_p38 : lw_okq (⟨"SpoutSpring$Board", "findTime", "(II)I"⟩, 13) := ⟨⟨by decide +kernel, by decide +kernel⟩, List.mem_of_getElem? (i := 326) (by decide +kernel), List.mem_of_getElem? (i := 966) (by decide +kernel), List.mem_of_getElem? (i := 967) (by decide +kernel)⟩
theorem lw_p39 : lw_okq (⟨"SpoutSpring$Board", "countHits", "(III)I"⟩, 13) := ⟨⟨by decide +kernel, by decide +kernel⟩, List.mem_of_getElem? (i := 326) (by decide +kernel), List.mem_of_getElem? (i := 970) (by decide +kernel), List.mem_of_getElem? (i := 971) (by decide +kernel)⟩
theorem lw_p40 : lw_okq (⟨"SpoutSpring$Logs", "countBegun", "([II)V"⟩, 5) := ⟨⟨by decide +kernel, by decide +kernel⟩, List.mem_of_getElem? (i := 377) (by decide +kernel), List.mem_of_getElem? (i := 1005) (by decide +kernel), List.mem_of_getElem? (i := 1006) (by decide +kernel)⟩
theorem lw_p41 : lw_okq (⟨"SpoutSpring", "countWarms", "(III)I"⟩, 19) := ⟨⟨by decide +kernel, by decide +kernel⟩, List.mem_of_getElem? (i := 22) (by decide +kernel), List.mem_of_getElem? (i := 1013) (by decide +kernel), List.mem_of_getElem? (i := 1014) (by decide +kernel)⟩
theorem lw_p42 : lw_okq (⟨"SpoutSpring", "shake", "(I)V"⟩, 19) := ⟨⟨by decide +kernel, by decide +kernel⟩, List.mem_of_getElem? (i := 22) (by decide +kernel), List.mem_of_getElem? (i := 1021) (by decide +kernel), List.mem_of_getElem? (i := 1022) (by decide +kernel)⟩
theorem lw_p43 : lw_okq (⟨"SpoutSpring", "beginTrial", "(I)V"⟩, 19) := ⟨⟨by decide +kernel, by decide +kernel⟩, List.mem_of_getElem? (i := 22) (by decide +kernel), List.mem_of_getElem? (i := 1025) (by decide +kernel), List.mem_of_getElem? (i := 1026) (by decide +kernel)⟩
theorem lw_p44 : lw_okq (⟨"SpoutSpring$Trial", "setMark", "()V"⟩, 4) := ⟨⟨by decide +kernel, by decide +kernel⟩, List.mem_of_getElem? (i := 168) (by decide +kernel), List.mem_of_getElem? (i := 1034) (by decide +kernel), List.mem_of_getElem? (i := 1035) (by decide +kernel)⟩
theorem lw_p45 : lw_okq (⟨"SpoutSpring$Trial", "isAtMark", "()Z"⟩, 4) := ⟨⟨by decide +kernel, by decide +kernel⟩, List.mem_of_getElem? (i := 168) (by decide +kernel), List.mem_of_getElem? (i := 1040) (by decide +kernel), List.mem_of_getElem? (i := 1041) (by decide +kernel)⟩
theorem lw_p46 : lw_okq (⟨"SpoutSpring$Trial", "repeat", "(III)V"⟩, 4) := ⟨⟨by decide +kernel, by decide +kernel⟩, List.mem_of_getElem? (i := 168) (by decide +kernel), List.mem_of_getElem? (i := 1044) (by decide +kernel), List.mem_of_getElem? (i := 1045) (by decide +kernel)⟩
theorem lw_p47 : lw_okq (⟨"SpoutSpring", "readTrialPlays", "(II)V"⟩, 19) := ⟨⟨by decide +kernel, by decide +kernel⟩, List.mem_of_getElem? (i := 22) (by decide +kernel), List.mem_of_getElem? (i := 1052) (by decide +kernel), List.mem_of_getElem? (i := 1053) (by decide +kernel)⟩
def lw_privs_3 : List (MethodName × Nat) := [(⟨"SpoutSpring$Board", "insert", "(II)V"⟩, 13), (⟨"SpoutSpring$Board", "weigh", "(I)V"⟩, 13), (⟨"SpoutSpring$Board", "countMost", "(III)I"⟩, 13), (⟨"SpoutSpring$Board", "countBehind", "(II)I"⟩, 13), (⟨"SpoutSpring$Board", "placeRows", "()V"⟩, 13), (⟨"SpoutSpring$Board", "findEnd", "(II)I"⟩, 13), (⟨"SpoutSpring$Board", "findTime", "(II)I"⟩, 13), (⟨"SpoutSpring$Board", "countHits", "(III)I"⟩, 13), (⟨"SpoutSpring$Logs", "countBegun", "([II)V"⟩, 5), (⟨"SpoutSpring", "countWarms", "(III)I"⟩, 19), (⟨"SpoutSpring", "shake", "(I)V"⟩, 19), (⟨"SpoutSpring", "beginTrial", "(I)V"⟩, 19), (⟨"SpoutSpring$Trial", "setMark", "()V"⟩, 4), (⟨"SpoutSpring$Trial", "isAtMark", "()Z"⟩, 4), (⟨"SpoutSpring$Trial", "repeat", "(III)V"⟩, 4), (⟨"SpoutSpring", "readTrialPlays", "(II)V"⟩, 19)]
theorem lw_r3 : ∀ q ∈ lw_privs_3, lw_okq q := List.forall_mem_cons.mpr ⟨lw_p32, List.forall_mem_cons.mpr ⟨lw_p33, List.forall_mem_cons.mpr ⟨lw_p34, List.forall_mem_cons.mpr ⟨lw_p35, List.forall_mem_cons.mpr ⟨lw_p36, List.forall_mem_cons.mpr ⟨lw_p37, List.forall_mem_cons.mpr ⟨lw_p38, List.forall_mem_cons.mpr ⟨lw_p39, List.forall_mem_cons.mpr ⟨lw_p40, List.forall_mem_cons.mpr ⟨lw_p41, List.forall_mem_cons.mpr ⟨lw_p42, List.forall_mem_cons.mpr ⟨lw_p43, List.forall_mem_cons.mpr ⟨lw_p44, List.forall_mem_cons.mpr ⟨lw_p45, List.forall_mem_cons.mpr ⟨lw_p46, List.forall_mem_cons.mpr ⟨lw_p47, fun _ h => absurd h List.not_mem_nil⟩⟩⟩⟩⟩⟩⟩⟩⟩⟩⟩⟩⟩⟩⟩⟩
theorem lw_p48 : lw_okq (⟨"SpoutSpring$Course", "isAlike", "(II)Z"⟩, 9) := ⟨⟨by decide +kernel, by decide +kernel⟩, List.mem_of_getElem? (i := 399) (by decide +kernel), List.mem_of_getElem? (i := 1078) (by decide +kernel), List.mem_of_getElem? (i := 1079) (by decide +kernel)⟩
theorem lw_p49 : lw_okq (⟨"SpoutSpringModel", "takeTape", "()V"⟩, 89) := ⟨⟨by decide +kernel, by decide +kernel⟩, List.mem_of_getElem? (i := 1102) (by decide +kernel), List.mem_of_getElem? (i := 1383) (by decide +kernel), List.mem_of_getElem? (i := 1384) (by decide +kernel)⟩
theorem lw_p50 : lw_okq (⟨"SpoutSpringModel", "next", "()V"⟩, 89) := ⟨⟨by decide +kernel, by decide +kernel⟩, List.mem_of_getElem? (i := 1102) (by decide +kernel), List.mem_of_getElem? (i := 1387) (by decide +kernel), List.mem_of_getElem? (i := 1388) (by decide +kernel)⟩
theorem lw_p51 : lw_okq (⟨"SpoutSpringModel", "sign", "(I)I"⟩, 89) := ⟨⟨by decide +kernel, by decide +kernel⟩, List.mem_of_getElem? (i := 1102) (by decide +kernel), List.mem_of_getElem? (i := 1391) (by decide +kernel), List.mem_of_getElem? (i := 1392) (by decide +kernel)⟩
theorem lw_p52 : lw_okq (⟨"SpoutSpringModel", "isGood", "()Z"⟩, 89) := ⟨⟨by decide +kernel, by decide +kernel⟩, List.mem_of_getElem? (i := 1102) (by decide +kernel), List.mem_of_getElem? (i := 1427) (by decide +kernel), List.mem_of_getElem? (i := 1428) (by decide +kernel)⟩
theorem lw_p53 : lw_okq (⟨"SpoutSpringModel", "readLine", "()V"⟩, 89) := ⟨⟨by decide +kernel, by decide +kernel⟩, List.mem_of_getElem? (i := 1102) (by decide +kernel), List.mem_of_getElem? (i := 1431) (by decide +kernel), List.mem_of_getElem? (i := 1432) (by decide +kernel)⟩
theorem lw_p54 : lw_okq (⟨"SpoutSpringModel", "isWord", "(J)Z"⟩, 89) := ⟨⟨by decide +kernel, by decide +kernel⟩, List.mem_of_getElem? (i := 1102) (by decide +kernel), List.mem_of_getElem? (i := 1435) (by decide +kernel), List.mem_of_getElem? (i := 1436) (by decide +kernel)⟩
theorem lw_p55 : lw_okq (⟨"SpoutSpringModel", "wrong", "()V"⟩, 89) := ⟨⟨by decide +kernel, by decide +kernel⟩, List.mem_of_getElem? (i := 1102) (by decide +kernel), List.mem_of_getElem? (i := 1439) (by decide +kernel), List.mem_of_getElem? (i := 1440) (by decide +kernel)⟩
theorem lw_p56 : lw_okq (⟨"SpoutSpringModel", "fails", "(II)V"⟩, 89) := ⟨⟨by decide +kernel, by decide +kernel⟩, List.mem_of_getElem? (i := 1102) (by decide +kernel), List.mem_of_getElem? (i := 1443) (by decide +kernel), List.mem_of_getElem? (i := 1444) (by decide +kernel)⟩
theorem lw_p57 : lw_okq (⟨"SpoutSpringModel", "readJoin", "()V"⟩, 89) := ⟨⟨by decide +kernel, by decide +kernel⟩, List.mem_of_getElem? (i := 1102) (by decide +kernel), List.mem_of_getElem? (i := 1447) (by decide +kernel), List.mem_of_getElem? (i := 1448) (by decide +kernel)⟩
theorem lw_p58 : lw_okq (⟨"SpoutSpringModel", "joined", "(I)I"⟩, 89) := ⟨⟨by decide +kernel, by decide +kernel⟩, List.mem_of_getElem? (i := 1102) (by decide +kernel), List.mem_of_getElem? (i := 1451) (by decide +kernel), List.mem_of_getElem? (i := 1452) (by decide +kernel)⟩
theorem lw_p59 : lw_okq (⟨"SpoutSpringModel", "roomNamed", "()I"⟩, 89) := ⟨⟨by decide +kernel, by decide +kernel⟩, List.mem_of_getElem? (i := 1102) (by decide +kernel), List.mem_of_getElem? (i := 1455) (by decide +kernel), List.mem_of_getElem? (i := 1456) (by decide +kernel)⟩
theorem lw_p60 : lw_okq (⟨"SpoutSpringModel", "must", "(Z)V"⟩, 89) := ⟨⟨by decide +kernel, by decide +kernel⟩, List.mem_of_getElem? (i := 1102) (by decide +kernel), List.mem_of_getElem? (i := 1459) (by decide +kernel), List.mem_of_getElem? (i := 1460) (by decide +kernel)⟩
theorem lw_p61 : lw_okq (⟨"SpoutSpringModel", "numeral", "(II)I"⟩, 89) := ⟨⟨by decide +kernel, by decide +kernel⟩, List.mem_of_getElem? (i := 1102) (by decide +kernel), List.mem_of_getElem? (i := 1463) (by decide +kernel), List.mem_of_getElem? (i := 1464) (by decide +kernel)⟩
theorem lw_p62 : lw_okq (⟨"SpoutSpringModel", "readRoom", "(I)V"⟩, 89) := ⟨⟨by decide +kernel, by decide +kernel⟩, List.mem_of_getElem? (i := 1102) (by decide +kernel), List.mem_of_getElem? (i := 1467) (by decide +kernel), List.mem_of_getElem? (i := 1468) (by decide +kernel)⟩
theorem lw_p63 : lw_okq (⟨"SpoutSpringModel", "readUp", "(I)V"⟩, 89) := ⟨⟨by decide +kernel, by decide +kernel⟩, List.mem_of_getElem? (i := 1102) (by decide +kernel), List.mem_of_getElem? (i := 1471) (by decide +kernel), List.mem_of_getElem? (i := 1472) (by decide +kernel)⟩
def lw_privs_4 : List (MethodName × Nat) := [(⟨"SpoutSpring$Course", "isAlike", "(II)Z"⟩, 9), (⟨"SpoutSpringModel", "takeTape", "()V"⟩, 89), (⟨"SpoutSpringModel", "next", "()V"⟩, 89), (⟨"SpoutSpringModel", "sign", "(I)I"⟩, 89), (⟨"SpoutSpringModel", "isGood", "()Z"⟩, 89), (⟨"SpoutSpringModel", "readLine", "()V"⟩, 89), (⟨"SpoutSpringModel", "isWord", "(J)Z"⟩, 89), (⟨"SpoutSpringModel", "wrong", "()V"⟩, 89), (⟨"SpoutSpringModel", "fails", "(II)V"⟩, 89), (⟨"SpoutSpringModel", "readJoin", "()V"⟩, 89), (⟨"SpoutSpringModel", "joined", "(I)I"⟩, 89), (⟨"SpoutSpringModel", "roomNamed", "()I"⟩, 89), (⟨"SpoutSpringModel", "must", "(Z)V"⟩, 89), (⟨"SpoutSpringModel", "numeral", "(II)I"⟩, 89), (⟨"SpoutSpringModel", "readRoom", "(I)V"⟩, 89), (⟨"SpoutSpringModel", "readUp", "(I)V"⟩, 89)]
theorem lw_r4 : ∀ q ∈ lw_privs_4, lw_okq q := List.forall_mem_cons.mpr ⟨lw_p48, List.forall_mem_cons.mpr ⟨lw_p49, List.forall_mem_cons.mpr ⟨lw_p50, List.forall_mem_cons.mpr ⟨lw_p51, List.forall_mem_cons.mpr ⟨lw_p52, List.forall_mem_cons.mpr ⟨lw_p53, List.forall_mem_cons.mpr ⟨lw_p54, List.forall_mem_cons.mpr ⟨lw_p55, List.forall_mem_cons.mpr ⟨lw_p56, List.forall_mem_cons.mpr ⟨lw_p57, List.forall_mem_cons.mpr ⟨lw_p58, List.forall_mem_cons.mpr ⟨lw_p59, List.forall_mem_cons.mpr ⟨lw_p60, List.forall_mem_cons.mpr ⟨lw_p61, List.forall_mem_cons.mpr ⟨lw_p62, List.forall_mem_cons.mpr ⟨lw_p63, fun _ h => absurd h List.not_mem_nil⟩⟩⟩⟩⟩⟩⟩⟩⟩⟩⟩⟩⟩⟩⟩⟩
theorem lw_p64 : lw_okq (⟨"SpoutSpringModel", "is", "(I)Z"⟩, 89) := ⟨⟨by decide +kernel, by decide +kernel⟩, List.mem_of_getElem? (i := 1102) (by decide +kernel), List.mem_of_getElem? (i := 1475) (by decide +kernel), List.mem_of_getElem? (i := 1476) (by decide +kernel)⟩
theorem lw_p65 : lw_okq (⟨"SpoutSpringModel", "readLaw", "()V"⟩, 89) := ⟨⟨by decide +kernel, by decide +kernel⟩, List.mem_of_getElem? (i := 1102) (by decide +kernel), List.mem_of_getElem? (i := 1483) (by decide +kernel), List.mem_of_getElem? (i := 1484) (by decide +kernel)⟩
theorem lw_p66 : lw_okq (⟨"SpoutSpringModel", "e", "()V"⟩, 89) := ⟨⟨by decide +kernel, by decide +kernel⟩, List.mem_of_getElem? (i := 1102) (by decide +kernel), List.mem_of_getElem? (i := 1487) (by decide +kernel), List.mem_of_getElem? (i := 1488) (by decide +kernel)⟩
theorem lw_p67 : lw_okq (⟨"SpoutSpringModel", "put", "(II)V"⟩, 89) := ⟨⟨by decide +kernel, by decide +kernel⟩, List.mem_of_getElem? (i := 1102) (by decide +kernel), List.mem_of_getElem? (i := 1491) (by decide +kernel), List.mem_of_getElem? (i := 1492) (by decide +kernel)⟩
theorem lw_p68 : lw_okq (⟨"SpoutSpringModel", "unit", "()Z"⟩, 89) := ⟨⟨by decide +kernel, by decide +kernel⟩, List.mem_of_getElem? (i := 1102) (by decide +kernel), List.mem_of_getElem? (i := 1495) (by decide +kernel), List.mem_of_getElem? (i := 1496) (by decide +kernel)⟩
theorem lw_p69 : lw_okq (⟨"SpoutSpringModel", "wordHere", "()I"⟩, 89) := ⟨⟨by decide +kernel, by decide +kernel⟩, List.mem_of_getElem? (i := 1102) (by decide +kernel), List.mem_of_getElem? (i := 1499) (by decide +kernel), List.mem_of_getElem? (i := 1500) (by decide +kernel)⟩
theorem lw_p70 : lw_okq (⟨"SpoutSpringModel", "step", "(II)V"⟩, 89) := ⟨⟨by decide +kernel, by decide +kernel⟩, List.mem_of_getElem? (i := 1102) (by decide +kernel), List.mem_of_getElem? (i := 1503) (by decide +kernel), List.mem_of_getElem? (i := 1504) (by decide +kernel)⟩
theorem lw_p71 : lw_okq (⟨"SpoutSpringModel", "behind", "()Z"⟩, 89) := ⟨⟨by decide +kernel, by decide +kernel⟩, List.mem_of_getElem? (i := 1102) (by decide +kernel), List.mem_of_getElem? (i := 1507) (by decide +kernel), List.mem_of_getElem? (i := 1508) (by decide +kernel)⟩
theorem lw_p72 : lw_okq (⟨"SpoutSpringModel", "rankHere", "()I"⟩, 89) := ⟨⟨by decide +kernel, by decide +kernel⟩, List.mem_of_getElem? (i := 1102) (by decide +kernel), List.mem_of_getElem? (i := 1511) (by decide +kernel), List.mem_of_getElem? (i := 1512) (by decide +kernel)⟩
theorem lw_p73 : lw_okq (⟨"SpoutSpringModel", "isCompared", "()Z"⟩, 89) := ⟨⟨by decide +kernel, by decide +kernel⟩, List.mem_of_getElem? (i := 1102) (by decide +kernel), List.mem_of_getElem? (i := 1515) (by decide +kernel), List.mem_of_getElem? (i := 1516) (by decide +kernel)⟩
theorem lw_p74 : lw_okq (⟨"SpoutSpringModel", "isRoom", "(II)Z"⟩, 89) := ⟨⟨by decide +kernel, by decide +kernel⟩, List.mem_of_getElem? (i := 1102) (by decide +kernel), List.mem_of_getElem? (i := 1538) (by decide +kernel), List.mem_of_getElem? (i := 1539) (by decide +kernel)⟩
theorem lw_p75 : lw_okq (⟨"SpoutSpringModel", "goTo", "(II)V"⟩, 89) := ⟨⟨by decide +kernel, by decide +kernel⟩, List.mem_of_getElem? (i := 1102) (by decide +kernel), List.mem_of_getElem? (i := 1542) (by decide +kernel), List.mem_of_getElem? (i := 1543) (by decide +kernel)⟩
theorem lw_p76 : lw_okq (⟨"SpoutSpringModel", "begin", "(I)V"⟩, 89) := ⟨⟨by decide +kernel, by decide +kernel⟩, List.mem_of_getElem? (i := 1102) (by decide +kernel), List.mem_of_getElem? (i := 1546) (by decide +kernel), List.mem_of_getElem? (i := 1547) (by decide +kernel)⟩
theorem lw_p77 : lw_okq (⟨"SpoutSpringModel", "tick", "()V"⟩, 89) := ⟨⟨by decide +kernel, by decide +kernel⟩, List.mem_of_getElem? (i := 1102) (by decide +kernel), List.mem_of_getElem? (i := 1550) (by decide +kernel), List.mem_of_getElem? (i := 1551) (by decide +kernel)⟩
theorem lw_p78 : lw_okq (⟨"SpoutSpringModel", "fillAll", "()V"⟩, 89) := ⟨⟨by decide +kernel, by decide +kernel⟩, List.mem_of_getElem? (i := 1102) (by decide +kernel), List.mem_of_getElem? (i := 1554) (by decide +kernel), List.mem_of_getElem? (i := 1555) (by decide +kernel)⟩
theorem lw_p79 : lw_okq (⟨"SpoutSpringModel", "law", "(IIII)I"⟩, 89) := ⟨⟨by decide +kernel, by decide +kernel⟩, List.mem_of_getElem? (i := 1102) (by decide +kernel), List.mem_of_getElem? (i := 1558) (by decide +kernel), List.mem_of_getElem? (i := 1559) (by decide +kernel)⟩
def lw_privs_5 : List (MethodName × Nat) := [(⟨"SpoutSpringModel", "is", "(I)Z"⟩, 89), (⟨"SpoutSpringModel", "readLaw", "()V"⟩, 89), (⟨"SpoutSpringModel", "e", "()V"⟩, 89), (⟨"SpoutSpringModel", "put", "(II)V"⟩, 89), (⟨"SpoutSpringModel", "unit", "()Z"⟩, 89), (⟨"SpoutSpringModel", "wordHere", "()I"⟩, 89), (⟨"SpoutSpringModel", "step", "(II)V"⟩, 89), (⟨"SpoutSpringModel", "behind", "()Z"⟩, 89), (⟨"SpoutSpringModel", "rankHere", "()I"⟩, 89), (⟨"SpoutSpringModel", "isCompared", "()Z"⟩, 89), (⟨"SpoutSpringModel", "isRoom", "(II)Z"⟩, 89), (⟨"SpoutSpringModel", "goTo", "(II)V"⟩, 89), (⟨"SpoutSpringModel", "begin", "(I)V"⟩, 89), (⟨"SpoutSpringModel", "tick", "()V"⟩, 89), (⟨"SpoutSpringModel", "fillAll", "()V"⟩, 89), (⟨"SpoutSpringModel", "law", "(IIII)I"⟩, 89)]
theorem lw_r5 : ∀ q ∈ lw_privs_5, lw_okq q := List.forall_mem_cons.mpr ⟨lw_p64, List.forall_mem_cons.mpr ⟨lw_p65, List.forall_mem_cons.mpr ⟨lw_p66, List.forall_mem_cons.mpr ⟨lw_p67, List.forall_mem_cons.mpr ⟨lw_p68, List.forall_mem_cons.mpr ⟨lw_p69, List.forall_mem_cons.mpr ⟨lw_p70, List.forall_mem_cons.mpr ⟨lw_p71, List.forall_mem_cons.mpr ⟨lw_p72, List.forall_mem_cons.mpr ⟨lw_p73, List.forall_mem_cons.mpr ⟨lw_p74, List.forall_mem_cons.mpr ⟨lw_p75, List.forall_mem_cons.mpr ⟨lw_p76, List.forall_mem_cons.mpr ⟨lw_p77, List.forall_mem_cons.mpr ⟨lw_p78, List.forall_mem_cons.mpr ⟨lw_p79, fun _ h => absurd h List.not_mem_nil⟩⟩⟩⟩⟩⟩⟩⟩⟩⟩⟩⟩⟩⟩⟩⟩
theorem lw_p80 : lw_okq (⟨"SpoutSpringModel", "term", "(III)I"⟩, 89) := ⟨⟨by decide +kernel, by decide +kernel⟩, List.mem_of_getElem? (i := 1102) (by decide +kernel), List.mem_of_getElem? (i := 1562) (by decide +kernel), List.mem_of_getElem? (i := 1563) (by decide +kernel)⟩
theorem lw_p81 : lw_okq (⟨"SpoutSpringModel", "aboveOf", "(I)I"⟩, 89) := ⟨⟨by decide +kernel, by decide +kernel⟩, List.mem_of_getElem? (i := 1102) (by decide +kernel), List.mem_of_getElem? (i := 1569) (by decide +kernel), List.mem_of_getElem? (i := 1570) (by decide +kernel)⟩
theorem lw_p82 : lw_okq (⟨"SpoutSpringModel", "joinAll", "()V"⟩, 89) := ⟨⟨by decide +kernel, by decide +kernel⟩, List.mem_of_getElem? (i := 1102) (by decide +kernel), List.mem_of_getElem? (i := 1579) (by decide +kernel), List.mem_of_getElem? (i := 1580) (by decide +kernel)⟩
theorem lw_p83 : lw_okq (⟨"SpoutSpringModel", "take", "(II)I"⟩, 89) := ⟨⟨by decide +kernel, by decide +kernel⟩, List.mem_of_getElem? (i := 1102) (by decide +kernel), List.mem_of_getElem? (i := 1583) (by decide +kernel), List.mem_of_getElem? (i := 1584) (by decide +kernel)⟩
theorem lw_p84 : lw_okq (⟨"SpoutSpringModel", "steamAll", "()V"⟩, 89) := ⟨⟨by decide +kernel, by decide +kernel⟩, List.mem_of_getElem? (i := 1102) (by decide +kernel), List.mem_of_getElem? (i := 1587) (by decide +kernel), List.mem_of_getElem? (i := 1588) (by decide +kernel)⟩
theorem lw_p85 : lw_okq (⟨"SpoutSpringModel", "boilOf", "(I)I"⟩, 89) := ⟨⟨by decide +kernel, by decide +kernel⟩, List.mem_of_getElem? (i := 1102) (by decide +kernel), List.mem_of_getElem? (i := 1591) (by decide +kernel), List.mem_of_getElem? (i := 1592) (by decide +kernel)⟩
theorem lw_p86 : lw_okq (⟨"SpoutSpringModel", "throwUp", "(II)V"⟩, 89) := ⟨⟨by decide +kernel, by decide +kernel⟩, List.mem_of_getElem? (i := 1102) (by decide +kernel), List.mem_of_getElem? (i := 1595) (by decide +kernel), List.mem_of_getElem? (i := 1596) (by decide +kernel)⟩
theorem lw_p87 : lw_okq (⟨"SpoutSpringModel", "poolAll", "()V"⟩, 89) := ⟨⟨by decide +kernel, by decide +kernel⟩, List.mem_of_getElem? (i := 1102) (by decide +kernel), List.mem_of_getElem? (i := 1599) (by decide +kernel), List.mem_of_getElem? (i := 1600) (by decide +kernel)⟩
theorem lw_p88 : lw_okq (⟨"SpoutSpringModel", "courseOf", "(II)V"⟩, 89) := ⟨⟨by decide +kernel, by decide +kernel⟩, List.mem_of_getElem? (i := 1102) (by decide +kernel), List.mem_of_getElem? (i := 1614) (by decide +kernel), List.mem_of_getElem? (i := 1615) (by decide +kernel)⟩
theorem lw_p89 : lw_okq (⟨"SpoutSpringModel", "course", "(III)V"⟩, 89) := ⟨⟨by decide +kernel, by decide +kernel⟩, List.mem_of_getElem? (i := 1102) (by decide +kernel), List.mem_of_getElem? (i := 1618) (by decide +kernel), List.mem_of_getElem? (i := 1619) (by decide +kernel)⟩
theorem lw_p90 : lw_okq (⟨"SpoutSpringModel", "beginPlays", "()V"⟩, 89) := ⟨⟨by decide +kernel, by decide +kernel⟩, List.mem_of_getElem? (i := 1102) (by decide +kernel), List.mem_of_getElem? (i := 1622) (by decide +kernel), List.mem_of_getElem? (i := 1623) (by decide +kernel)⟩
theorem lw_p91 : lw_okq (⟨"SpoutSpringModel", "see", "()Z"⟩, 89) := ⟨⟨by decide +kernel, by decide +kernel⟩, List.mem_of_getElem? (i := 1102) (by decide +kernel), List.mem_of_getElem? (i := 1626) (by decide +kernel), List.mem_of_getElem? (i := 1627) (by decide +kernel)⟩
theorem lw_p92 : lw_okq (⟨"SpoutSpringModel", "seekSpan", "(III)I"⟩, 89) := ⟨⟨by decide +kernel, by decide +kernel⟩, List.mem_of_getElem? (i := 1102) (by decide +kernel), List.mem_of_getElem? (i := 1655) (by decide +kernel), List.mem_of_getElem? (i := 1656) (by decide +kernel)⟩
theorem lw_p93 : lw_okq (⟨"SpoutSpringModel", "gather", "(I)V"⟩, 89) := ⟨⟨by decide +kernel, by decide +kernel⟩, List.mem_of_getElem? (i := 1102) (by decide +kernel), List.mem_of_getElem? (i := 1659) (by decide +kernel), List.mem_of_getElem? (i := 1660) (by decide +kernel)⟩
theorem lw_p94 : lw_okq (⟨"SpoutSpringModel", "mostHits", "(II)I"⟩, 89) := ⟨⟨by decide +kernel, by decide +kernel⟩, List.mem_of_getElem? (i := 1102) (by decide +kernel), List.mem_of_getElem? (i := 1663) (by decide +kernel), List.mem_of_getElem? (i := 1664) (by decide +kernel)⟩
theorem lw_p95 : lw_okq (⟨"SpoutSpringModel", "weighRow", "(III)V"⟩, 89) := ⟨⟨by decide +kernel, by decide +kernel⟩, List.mem_of_getElem? (i := 1102) (by decide +kernel), List.mem_of_getElem? (i := 1667) (by decide +kernel), List.mem_of_getElem? (i := 1668) (by decide +kernel)⟩
def lw_privs_6 : List (MethodName × Nat) := [(⟨"SpoutSpringModel", "term", "(III)I"⟩, 89), (⟨"SpoutSpringModel", "aboveOf", "(I)I"⟩, 89), (⟨"SpoutSpringModel", "joinAll", "()V"⟩, 89), (⟨"SpoutSpringModel", "take", "(II)I"⟩, 89), (⟨"SpoutSpringModel", "steamAll", "()V"⟩, 89), (⟨"SpoutSpringModel", "boilOf", "(I)I"⟩, 89), (⟨"SpoutSpringModel", "throwUp", "(II)V"⟩, 89), (⟨"SpoutSpringModel", "poolAll", "()V"⟩, 89), (⟨"SpoutSpringModel", "courseOf", "(II)V"⟩, 89), (⟨"SpoutSpringModel", "course", "(III)V"⟩, 89), (⟨"SpoutSpringModel", "beginPlays", "()V"⟩, 89), (⟨"SpoutSpringModel", "see", "()Z"⟩, 89), (⟨"SpoutSpringModel", "seekSpan", "(III)I"⟩, 89), (⟨"SpoutSpringModel", "gather", "(I)V"⟩, 89), (⟨"SpoutSpringModel", "mostHits", "(II)I"⟩, 89), (⟨"SpoutSpringModel", "weighRow", "(III)V"⟩, 89)]
theorem lw_r6 : ∀ q ∈ lw_privs_6, lw_okq q := List.forall_mem_cons.mpr ⟨lw_p80, List.forall_mem_cons.mpr ⟨lw_p81, List.forall_mem_cons.mpr ⟨lw_p82, List.forall_mem_cons.mpr ⟨lw_p83, List.forall_mem_cons.mpr ⟨lw_p84, List.forall_mem_cons.mpr ⟨lw_p85, List.forall_mem_cons.mpr ⟨lw_p86, List.forall_mem_cons.mpr ⟨lw_p87, List.forall_mem_cons.mpr ⟨lw_p88, List.forall_mem_cons.mpr ⟨lw_p89, List.forall_mem_cons.mpr ⟨lw_p90, List.forall_mem_cons.mpr ⟨lw_p91, List.forall_mem_cons.mpr ⟨lw_p92, List.forall_mem_cons.mpr ⟨lw_p93, List.forall_mem_cons.mpr ⟨lw_p94, List.forall_mem_cons.mpr ⟨lw_p95, fun _ h => absurd h List.not_mem_nil⟩⟩⟩⟩⟩⟩⟩⟩⟩⟩⟩⟩⟩⟩⟩⟩
theorem lw_p96 : lw_okq (⟨"SpoutSpringModel", "shorter", "(I)I"⟩, 89) := ⟨⟨by decide +kernel, by decide +kernel⟩, List.mem_of_getElem? (i := 1102) (by decide +kernel), List.mem_of_getElem? (i := 1671) (by decide +kernel), List.mem_of_getElem? (i := 1672) (by decide +kernel)⟩
theorem lw_p97 : lw_okq (⟨"SpoutSpringModel", "rightLogs", "()I"⟩, 89) := ⟨⟨by decide +kernel, by decide +kernel⟩, List.mem_of_getElem? (i := 1102) (by decide +kernel), List.mem_of_getElem? (i := 1691) (by decide +kernel), List.mem_of_getElem? (i := 1692) (by decide +kernel)⟩
theorem lw_p98 : lw_okq (⟨"SpoutSpringModel", "seekThread", "(I)V"⟩, 89) := ⟨⟨by decide +kernel, by decide +kernel⟩, List.mem_of_getElem? (i := 1102) (by decide +kernel), List.mem_of_getElem? (i := 1699) (by decide +kernel), List.mem_of_getElem? (i := 1700) (by decide +kernel)⟩
theorem lw_p99 : lw_okq (⟨"SpoutSpringModel", "seekShook", "(I)V"⟩, 89) := ⟨⟨by decide +kernel, by decide +kernel⟩, List.mem_of_getElem? (i := 1102) (by decide +kernel), List.mem_of_getElem? (i := 1707) (by decide +kernel), List.mem_of_getElem? (i := 1708) (by decide +kernel)⟩
def lw_privs_7 : List (MethodName × Nat) := [(⟨"SpoutSpringModel", "shorter", "(I)I"⟩, 89), (⟨"SpoutSpringModel", "rightLogs", "()I"⟩, 89), (⟨"SpoutSpringModel", "seekThread", "(I)V"⟩, 89), (⟨"SpoutSpringModel", "seekShook", "(I)V"⟩, 89)]
theorem lw_r7 : ∀ q ∈ lw_privs_7, lw_okq q := List.forall_mem_cons.mpr ⟨lw_p96, List.forall_mem_cons.mpr ⟨lw_p97, List.forall_mem_cons.mpr ⟨lw_p98, List.forall_mem_cons.mpr ⟨lw_p99, fun _ h => absurd h List.not_mem_nil⟩⟩⟩⟩
def lw_privs : List (MethodName × Nat) := lw_privs_1 ++ (lw_privs_2 ++ (lw_privs_3 ++ (lw_privs_4 ++ (lw_privs_5 ++ (lw_privs_6 ++ (lw_privs_7))))))
def lw_tbl : List Cond := k2_sels lw_privs ++ tables_1
theorem lw_privs_ok : ∀ q ∈ lw_privs, lw_okq q := by
  show ∀ q ∈ lw_privs_1 ++ (lw_privs_2 ++ (lw_privs_3 ++ (lw_privs_4 ++ (lw_privs_5 ++ (lw_privs_6 ++ (lw_privs_7)))))), lw_okq q
  exact List.forall_mem_append.mpr ⟨lw_r1, List.forall_mem_append.mpr ⟨lw_r2, List.forall_mem_append.mpr ⟨lw_r3, List.forall_mem_append.mpr ⟨lw_r4, List.forall_mem_append.mpr ⟨lw_r5, List.forall_mem_append.mpr ⟨lw_r6, lw_r7⟩⟩⟩⟩⟩⟩
-- ===== end of PART A; then your names; then what follows =====
/-! THE CLAIM OUT OF ONE WALK OF THE LAW'S BODY. Your part is whole_start (and what it stands on); all else here is the same for every law, but numbers. -/
def R_law : String := "SpoutSpringLaw"
def lw_P (b : Addr) (xs : List Int32) (args : Array Value) (s : State) : Prop := args = #[.ref b] ∧ s.IntsAt b xs ∧ xs.length ≤ 3584 ∧ (Jvm.Cond.and given_1 narrow_1).before args s = true
def lw_Q (_ : Array Value) (s : State) (o : Outcome) (t : State) : Prop := o = .returned (some (.int 1)) ∧ Framed s o t [] 600000 7302250
def lw_Z (below : List Frame) (a : Array Value) (s : State) : State → Prop := fun t => ∃ o, t.status = .running ∧ Ended t below o ∧ lw_Q a s o t
/-- the law's own end, with 1 on the stack, nothing written that was there before, its room as the claim has it -/
theorem lw_ret {p : Program} {l : Launch} {e : Env} {s : State} {m : MethodId} {below : List Frame} {meth : Method} {c : Code} {b : Nat} (hx : p.tables.exec = Jvm.exec) (hb : c.code = code) (hr : meth.sig.returnType = ret) (hlocks : meth.locks = false) {pc : Nat} {H : Heap} {ls : Array Slot} (hdg : decode code pc = .ok (.ireturn, 1)) : W p l e room_1 s m #[Value.ref b] below meth c H [] 600000 7302250 (lw_Z below #[Value.ref b] s) (F0 m pc ls [.int 1]) := by
  intro T hT X
  obtain ⟨fs, hret, hrun, hended, hW, hframe⟩ := X.leave (v := some (.int 1)) (hlocks := hlocks) (fun h => by rw [hr] at h; cases h)
  have hmeth' : T.vm.method? m = some meth := X.method'
  refine ⟨T.setFrames fs, ?_, .returned (some (.int 1)), hrun, hended, rfl, ⟨_, rfl⟩, hW, hframe⟩
  jvm_step X.here [X.here.top, hx, hb, hdg, hmeth', hr, ret, narrow_b1]
  (try refine ⟨rfl, ?_⟩); (try refine ⟨rfl, ?_⟩)
  first | (intro acts; rw [hret _ acts rfl rfl rfl]) | rw [hret _ _ rfl rfl rfl]
  exact Steps.refl _
/-- what holds at the law's entry: the machine, the code, the tables' words (any of lw_tbl by 'hts w (by decide +kernel)'), the script of L ints xs at the cell b, what the Statement gives of the start (any of its parts by flat_of_before) -/
def lw_At (p : Program) (s : State) (m : MethodId) (meth : Method) (c : Code) (b L : Nat) (xs : Nat → Int32) : Prop :=
  p.tables.exec = Jvm.exec ∧ c.code = code ∧ meth.sig.returnType = ret ∧ c.maxLocals = 4 ∧ s.vm.findClass R_law = some m.cls ∧ (∀ w ∈ lw_tbl, w.before #[Value.ref b] s = true) ∧ va_X b L xs s s.heap ∧ b < s.heap.size ∧ meth.locks = false ∧ (Jvm.Cond.and given_1 narrow_1).before #[Value.ref b] s = true
def RX0 : String := "SpoutSpring$Board"
def TX0 : u_T := fun k => match k with
  | 0 => ("SpoutSpring$Board", "span", "I", false)
  | 1 => ("SpoutSpring$Board", "count", "I", false)
  | 2 => ("SpoutSpring$Board", "found", "Z", false)
  | 3 => ("SpoutSpring$Board", "rows", "I", false)
  | 4 => ("SpoutSpring$Board", "share", "I", false)
  | 5 => ("SpoutSpring$Board", "known", "I", false)
  | 6 => ("SpoutSpring$Board", "length", "[I", true)
  | 7 => ("SpoutSpring$Board", "wait", "[I", true)
  | 8 => ("SpoutSpring$Board", "seen", "[Z", true)
  | 9 => ("SpoutSpring$Board", "hits", "[[I", true)
  | 10 => ("SpoutSpring$Board", "behind", "[[I", true)
  | 11 => ("SpoutSpring$Board", "start", "[I", true)
  | _ => ("SpoutSpring$Board", "time", "[I", true)
def tyX0 : Nat → FieldType := fun k => match k with
  | 0 => .int
  | 1 => .int
  | 2 => .boolean
  | 3 => .int
  | 4 => .int
  | 5 => .int
  | 6 => .array .int
  | 7 => .array .int
  | 8 => .array .boolean
  | 9 => .array (.array .int)
  | 10 => .array (.array .int)
  | 11 => .array .int
  | _ => .array .int
abbrev wsX00 : List Cond := u_ws RX0 TX0 13
theorem nmX0 : ∀ a, a < 13 → ∀ b, b < 13 → a ≠ b → (TX0 a).2.1 ≠ (TX0 b).2.1 := by decide +kernel
theorem tyX0_ok : ∀ k, k < 13 → parseFieldDescriptor (TX0 k).2.2.1 = some (tyX0 k) := by decide +kernel
abbrev cX0_init : ByteArray := prog_2_method_1_code
def yX0_init : MethodName := ⟨RX0, "<init>", "()V"⟩
abbrev cX0_forget : ByteArray := prog_2_method_2_code
def yX0_forget : MethodName := ⟨RX0, "forget", "()V"⟩
abbrev cX0_find : ByteArray := prog_2_method_3_code
def yX0_find : MethodName := ⟨RX0, "find", "(LSpoutSpring$Sights;III)V"⟩
abbrev cX0_timeFor : ByteArray := prog_2_method_4_code
def yX0_timeFor : MethodName := ⟨RX0, "timeFor", "(I)I"⟩
abbrev cX0_gather : ByteArray := prog_2_method_5_code
def yX0_gather : MethodName := ⟨RX0, "gather", "(LSpoutSpring$Sights;)V"⟩
abbrev cX0_insert : ByteArray := prog_2_method_6_code
def yX0_insert : MethodName := ⟨RX0, "insert", "(II)V"⟩
abbrev cX0_weigh : ByteArray := prog_2_method_7_code
def yX0_weigh : MethodName := ⟨RX0, "weigh", "(I)V"⟩
abbrev cX0_countBehind : ByteArray := prog_2_method_8_code
def yX0_countBehind : MethodName := ⟨RX0, "countBehind", "(II)I"⟩
abbrev cX0_countMost : ByteArray := prog_2_method_9_code
def yX0_countMost : MethodName := ⟨RX0, "countMost", "(III)I"⟩
abbrev cX0_placeRows : ByteArray := prog_2_method_10_code
def yX0_placeRows : MethodName := ⟨RX0, "placeRows", "()V"⟩
abbrev cX0_findEnd : ByteArray := prog_2_method_11_code
def yX0_findEnd : MethodName := ⟨RX0, "findEnd", "(II)I"⟩
abbrev cX0_findTime : ByteArray := prog_2_method_12_code
def yX0_findTime : MethodName := ⟨RX0, "findTime", "(II)I"⟩
abbrev cX0_countHits : ByteArray := prog_2_method_13_code
def yX0_countHits : MethodName := ⟨RX0, "countHits", "(III)I"⟩
def RX1 : String := "SpoutSpring$Course"
def TX1 : u_T := fun k => match k with
  | 0 => ("SpoutSpring$Course", "spring", "LSpoutSpring$Spring;", false)
  | 1 => ("SpoutSpring$Course", "flow", "LSpoutSpring$Flow;", true)
  | 2 => ("SpoutSpring$Course", "water", "[I", true)
  | 3 => ("SpoutSpring$Course", "warmth", "[I", true)
  | 4 => ("SpoutSpring$Course", "thrown", "[I", true)
  | 5 => ("SpoutSpring$Course", "cameIn", "[I", true)
  | 6 => ("SpoutSpring$Course", "toAir", "[I", true)
  | 7 => ("SpoutSpring$Course", "steamed", "[I", true)
  | _ => ("SpoutSpring$Course", "upTo", "I", false)
def tyX1 : Nat → FieldType := fun k => match k with
  | 0 => .object "SpoutSpring$Spring"
  | 1 => .object "SpoutSpring$Flow"
  | 2 => .array .int
  | 3 => .array .int
  | 4 => .array .int
  | 5 => .array .int
  | 6 => .array .int
  | 7 => .array .int
  | _ => .int
abbrev wsX10 : List Cond := u_ws RX1 TX1 9
theorem nmX1 : ∀ a, a < 9 → ∀ b, b < 9 → a ≠ b → (TX1 a).2.1 ≠ (TX1 b).2.1 := by decide +kernel
theorem tyX1_ok : ∀ k, k < 9 → parseFieldDescriptor (TX1 k).2.2.1 = some (tyX1 k) := by decide +kernel
abbrev cX1_init : ByteArray := prog_3_method_1_code
def yX1_init : MethodName := ⟨RX1, "<init>", "()V"⟩
abbrev cX1_forget : ByteArray := prog_3_method_2_code
def yX1_forget : MethodName := ⟨RX1, "forget", "()V"⟩
abbrev cX1_goOn : ByteArray := prog_3_method_3_code
def yX1_goOn : MethodName := ⟨RX1, "goOn", "(LSpoutSpring$Laws;II)V"⟩
abbrev cX1_warmAt : ByteArray := prog_3_method_4_code
def yX1_warmAt : MethodName := ⟨RX1, "warmAt", "(II)I"⟩
abbrev cX1_boilAt : ByteArray := prog_3_method_5_code
def yX1_boilAt : MethodName := ⟨RX1, "boilAt", "(LSpoutSpring$Laws;II)I"⟩
abbrev cX1_waterAt : ByteArray := prog_3_method_6_code
def yX1_waterAt : MethodName := ⟨RX1, "waterAt", "(I)I"⟩
abbrev cX1_ringBehind : ByteArray := prog_3_method_7_code
def yX1_ringBehind : MethodName := ⟨RX1, "ringBehind", "(I)I"⟩
abbrev cX1_ringStart : ByteArray := prog_3_method_8_code
def yX1_ringStart : MethodName := ⟨RX1, "ringStart", "(II)I"⟩
abbrev cX1_isAlike : ByteArray := prog_3_method_9_code
def yX1_isAlike : MethodName := ⟨RX1, "isAlike", "(II)Z"⟩
abbrev cX1_keep : ByteArray := prog_3_method_10_code
def yX1_keep : MethodName := ⟨RX1, "keep", "(I)V"⟩
def RX2 : String := "SpoutSpring$Flow"
def TX2 : u_T := fun k => match k with
  | 0 => ("SpoutSpring$Flow", "spring", "LSpoutSpring$Spring;", false)
  | 1 => ("SpoutSpring$Flow", "laws", "LSpoutSpring$Laws;", false)
  | 2 => ("SpoutSpring$Flow", "coldWarmth", "I", false)
  | 3 => ("SpoutSpring$Flow", "water", "[I", true)
  | 4 => ("SpoutSpring$Flow", "warmth", "[I", true)
  | 5 => ("SpoutSpring$Flow", "wide", "[I", true)
  | 6 => ("SpoutSpring$Flow", "needed", "[I", true)
  | 7 => ("SpoutSpring$Flow", "above", "[I", true)
  | 8 => ("SpoutSpring$Flow", "boil", "[I", true)
  | 9 => ("SpoutSpring$Flow", "lift", "[I", true)
  | 10 => ("SpoutSpring$Flow", "cool", "[I", true)
  | 11 => ("SpoutSpring$Flow", "steam", "[I", true)
  | 12 => ("SpoutSpring$Flow", "joined", "Z", false)
  | 13 => ("SpoutSpring$Flow", "ledRoom", "I", false)
  | 14 => ("SpoutSpring$Flow", "ledGrains", "I", false)
  | 15 => ("SpoutSpring$Flow", "thrown", "I", false)
  | 16 => ("SpoutSpring$Flow", "cameIn", "I", false)
  | 17 => ("SpoutSpring$Flow", "toAir", "I", false)
  | _ => ("SpoutSpring$Flow", "steamed", "I", false)
def tyX2 : Nat → FieldType := fun k => match k with
  | 0 => .object "SpoutSpring$Spring"
  | 1 => .object "SpoutSpring$Laws"
  | 2 => .int
  | 3 => .array .int
  | 4 => .array .int
  | 5 => .array .int
  | 6 => .array .int
  | 7 => .array .int
  | 8 => .array .int
  | 9 => .array .int
  | 10 => .array .int
  | 11 => .array .int
  | 12 => .boolean
  | 13 => .int
  | 14 => .int
  | 15 => .int
  | 16 => .int
  | 17 => .int
  | _ => .int
abbrev wsX20 : List Cond := u_ws RX2 TX2 19
theorem nmX2 : ∀ a, a < 19 → ∀ b, b < 19 → a ≠ b → (TX2 a).2.1 ≠ (TX2 b).2.1 := by decide +kernel
theorem tyX2_ok : ∀ k, k < 19 → parseFieldDescriptor (TX2 k).2.2.1 = some (tyX2 k) := by decide +kernel
abbrev cX2_init : ByteArray := prog_4_method_1_code
def yX2_init : MethodName := ⟨RX2, "<init>", "()V"⟩
abbrev cX2_begin : ByteArray := prog_4_method_2_code
def yX2_begin : MethodName := ⟨RX2, "begin", "(LSpoutSpring$Spring;LSpoutSpring$Laws;I)V"⟩
abbrev cX2_passSecond : ByteArray := prog_4_method_3_code
def yX2_passSecond : MethodName := ⟨RX2, "passSecond", "()V"⟩
abbrev cX2_narrowNecks : ByteArray := prog_4_method_4_code
def yX2_narrowNecks : MethodName := ⟨RX2, "narrowNecks", "()V"⟩
abbrev cX2_weighAbove : ByteArray := prog_4_method_5_code
def yX2_weighAbove : MethodName := ⟨RX2, "weighAbove", "()V"⟩
abbrev cX2_askCool : ByteArray := prog_4_method_6_code
def yX2_askCool : MethodName := ⟨RX2, "askCool", "()V"⟩
abbrev cX2_fill : ByteArray := prog_4_method_7_code
def yX2_fill : MethodName := ⟨RX2, "fill", "()V"⟩
abbrev cX2_level : ByteArray := prog_4_method_8_code
def yX2_level : MethodName := ⟨RX2, "level", "()V"⟩
abbrev cX2_spout : ByteArray := prog_4_method_9_code
def yX2_spout : MethodName := ⟨RX2, "spout", "()V"⟩
abbrev cX2_throwUp : ByteArray := prog_4_method_10_code
def yX2_throwUp : MethodName := ⟨RX2, "throwUp", "(II)V"⟩
abbrev cX2_emptyPools : ByteArray := prog_4_method_11_code
def yX2_emptyPools : MethodName := ⟨RX2, "emptyPools", "()V"⟩
abbrev cX2_lose : ByteArray := prog_4_method_12_code
def yX2_lose : MethodName := ⟨RX2, "lose", "(II)I"⟩
def RX3 : String := "SpoutSpring$Laws"
def TX3 : u_T := fun k => match k with
  | 0 => ("SpoutSpring$Laws", "lines", "I", false)
  | 1 => ("SpoutSpring$Laws", "units", "I", false)
  | 2 => ("SpoutSpring$Laws", "code", "[I", true)
  | 3 => ("SpoutSpring$Laws", "length", "I", false)
  | 4 => ("SpoutSpring$Laws", "start", "[I", true)
  | 5 => ("SpoutSpring$Laws", "end", "[I", true)
  | _ => ("SpoutSpring$Laws", "stack", "[I", true)
def tyX3 : Nat → FieldType := fun k => match k with
  | 0 => .int
  | 1 => .int
  | 2 => .array .int
  | 3 => .int
  | 4 => .array .int
  | 5 => .array .int
  | _ => .array .int
abbrev wsX30 : List Cond := u_ws RX3 TX3 7
theorem nmX3 : ∀ a, a < 7 → ∀ b, b < 7 → a ≠ b → (TX3 a).2.1 ≠ (TX3 b).2.1 := by decide +kernel
theorem tyX3_ok : ∀ k, k < 7 → parseFieldDescriptor (TX3 k).2.2.1 = some (tyX3 k) := by decide +kernel
abbrev cX3_init : ByteArray := prog_5_method_1_code
def yX3_init : MethodName := ⟨RX3, "<init>", "()V"⟩
abbrev cX3_readText : ByteArray := prog_5_method_2_code
def yX3_readText : MethodName := ⟨RX3, "readText", "(LSpoutSpring$Tokens;)Z"⟩
abbrev cX3_boil : ByteArray := prog_5_method_3_code
def yX3_boil : MethodName := ⟨RX3, "boil", "(IIII)I"⟩
abbrev cX3_lift : ByteArray := prog_5_method_4_code
def yX3_lift : MethodName := ⟨RX3, "lift", "(IIII)I"⟩
abbrev cX3_cool : ByteArray := prog_5_method_5_code
def yX3_cool : MethodName := ⟨RX3, "cool", "(IIII)I"⟩
abbrev cX3_readEither : ByteArray := prog_5_method_6_code
def yX3_readEither : MethodName := ⟨RX3, "readEither", "(LSpoutSpring$Tokens;I)Z"⟩
abbrev cX3_readBoth : ByteArray := prog_5_method_7_code
def yX3_readBoth : MethodName := ⟨RX3, "readBoth", "(LSpoutSpring$Tokens;I)Z"⟩
abbrev cX3_readOne : ByteArray := prog_5_method_8_code
def yX3_readOne : MethodName := ⟨RX3, "readOne", "(LSpoutSpring$Tokens;I)Z"⟩
abbrev cX3_readSum : ByteArray := prog_5_method_9_code
def yX3_readSum : MethodName := ⟨RX3, "readSum", "(LSpoutSpring$Tokens;I)Z"⟩
abbrev cX3_readTerm : ByteArray := prog_5_method_10_code
def yX3_readTerm : MethodName := ⟨RX3, "readTerm", "(LSpoutSpring$Tokens;I)Z"⟩
abbrev cX3_readUnit : ByteArray := prog_5_method_11_code
def yX3_readUnit : MethodName := ⟨RX3, "readUnit", "(LSpoutSpring$Tokens;I)Z"⟩
abbrev cX3_write : ByteArray := prog_5_method_12_code
def yX3_write : MethodName := ⟨RX3, "write", "(I)V"⟩
abbrev cX3_work : ByteArray := prog_5_method_13_code
def yX3_work : MethodName := ⟨RX3, "work", "(IIIII)I"⟩
abbrev cX3_named : ByteArray := prog_5_method_14_code
def yX3_named : MethodName := ⟨RX3, "named", "(IIIII)I"⟩
abbrev cX3_worth : ByteArray := prog_5_method_15_code
def yX3_worth : MethodName := ⟨RX3, "worth", "(III)I"⟩
def RX4 : String := "SpoutSpring$Logs"
def TX4 : u_T := fun k => match k with
  | 0 => ("SpoutSpring$Logs", "count", "I", false)
  | 1 => ("SpoutSpring$Logs", "from", "[I", true)
  | 2 => ("SpoutSpring$Logs", "to", "[I", true)
  | 3 => ("SpoutSpring$Logs", "played", "[Z", true)
  | _ => ("SpoutSpring$Logs", "begun", "[I", true)
def tyX4 : Nat → FieldType := fun k => match k with
  | 0 => .int
  | 1 => .array .int
  | 2 => .array .int
  | 3 => .array .boolean
  | _ => .array .int
abbrev wsX40 : List Cond := u_ws RX4 TX4 5
theorem nmX4 : ∀ a, a < 5 → ∀ b, b < 5 → a ≠ b → (TX4 a).2.1 ≠ (TX4 b).2.1 := by decide +kernel
theorem tyX4_ok : ∀ k, k < 5 → parseFieldDescriptor (TX4 k).2.2.1 = some (tyX4 k) := by decide +kernel
abbrev cX4_init : ByteArray := prog_6_method_1_code
def yX4_init : MethodName := ⟨RX4, "<init>", "()V"⟩
abbrev cX4_tell : ByteArray := prog_6_method_2_code
def yX4_tell : MethodName := ⟨RX4, "tell", "(IIZ)I"⟩
abbrev cX4_countAlike : ByteArray := prog_6_method_3_code
def yX4_countAlike : MethodName := ⟨RX4, "countAlike", "([II)I"⟩
abbrev cX4_countBegun : ByteArray := prog_6_method_4_code
def yX4_countBegun : MethodName := ⟨RX4, "countBegun", "([II)V"⟩
def RX5 : String := "SpoutSpring$Plays"
def TX5 : u_T := fun k => match k with
  | 0 => ("SpoutSpring$Plays", "first", "[I", true)
  | 1 => ("SpoutSpring$Plays", "length", "[I", true)
  | 2 => ("SpoutSpring$Plays", "greatest", "[I", true)
  | _ => ("SpoutSpring$Plays", "count", "I", false)
def tyX5 : Nat → FieldType := fun k => match k with
  | 0 => .array .int
  | 1 => .array .int
  | 2 => .array .int
  | _ => .int
abbrev wsX50 : List Cond := u_ws RX5 TX5 4
theorem nmX5 : ∀ a, a < 4 → ∀ b, b < 4 → a ≠ b → (TX5 a).2.1 ≠ (TX5 b).2.1 := by decide +kernel
theorem tyX5_ok : ∀ k, k < 4 → parseFieldDescriptor (TX5 k).2.2.1 = some (tyX5 k) := by decide +kernel
abbrev cX5_init : ByteArray := prog_7_method_1_code
def yX5_init : MethodName := ⟨RX5, "<init>", "()V"⟩
abbrev cX5_readRow : ByteArray := prog_7_method_2_code
def yX5_readRow : MethodName := ⟨RX5, "readRow", "([III)V"⟩
def RX6 : String := "SpoutSpring$Sights"
def TX6 : u_T := fun k => match k with
  | 0 => ("SpoutSpring$Sights", "time", "I", false)
  | 1 => ("SpoutSpring$Sights", "count", "I", false)
  | 2 => ("SpoutSpring$Sights", "length", "[I", true)
  | 3 => ("SpoutSpring$Sights", "wait", "[I", true)
  | 4 => ("SpoutSpring$Sights", "told", "[I", true)
  | _ => ("SpoutSpring$Sights", "untold", "[I", true)
def tyX6 : Nat → FieldType := fun k => match k with
  | 0 => .int
  | 1 => .int
  | 2 => .array .int
  | 3 => .array .int
  | 4 => .array .int
  | _ => .array .int
abbrev wsX60 : List Cond := u_ws RX6 TX6 6
theorem nmX6 : ∀ a, a < 6 → ∀ b, b < 6 → a ≠ b → (TX6 a).2.1 ≠ (TX6 b).2.1 := by decide +kernel
theorem tyX6_ok : ∀ k, k < 6 → parseFieldDescriptor (TX6 k).2.2.1 = some (tyX6 k) := by decide +kernel
abbrev cX6_init : ByteArray := prog_8_method_1_code
def yX6_init : MethodName := ⟨RX6, "<init>", "()V"⟩
abbrev cX6_tell : ByteArray := prog_8_method_2_code
def yX6_tell : MethodName := ⟨RX6, "tell", "(II)I"⟩
abbrev cX6_takeBack : ByteArray := prog_8_method_3_code
def yX6_takeBack : MethodName := ⟨RX6, "takeBack", "(I)Z"⟩
abbrev cX6_isKnown : ByteArray := prog_8_method_4_code
def yX6_isKnown : MethodName := ⟨RX6, "isKnown", "(II)Z"⟩
def RX7 : String := "SpoutSpring$Spring"
def TX7 : u_T := fun k => match k with
  | 0 => ("SpoutSpring$Spring", "rooms", "I", false)
  | 1 => ("SpoutSpring$Spring", "joins", "I", false)
  | 2 => ("SpoutSpring$Spring", "kind", "[I", true)
  | 3 => ("SpoutSpring$Spring", "name", "[J", true)
  | 4 => ("SpoutSpring$Spring", "depth", "[I", true)
  | 5 => ("SpoutSpring$Spring", "holds", "[I", true)
  | 6 => ("SpoutSpring$Spring", "wide", "[I", true)
  | 7 => ("SpoutSpring$Spring", "hot", "[I", true)
  | 8 => ("SpoutSpring$Spring", "cold", "[I", true)
  | 9 => ("SpoutSpring$Spring", "up", "[I", true)
  | 10 => ("SpoutSpring$Spring", "joinOne", "[I", true)
  | 11 => ("SpoutSpring$Spring", "joinOther", "[I", true)
  | _ => ("SpoutSpring$Spring", "joinWide", "[I", true)
def tyX7 : Nat → FieldType := fun k => match k with
  | 0 => .int
  | 1 => .int
  | 2 => .array .int
  | 3 => .array .long
  | 4 => .array .int
  | 5 => .array .int
  | 6 => .array .int
  | 7 => .array .int
  | 8 => .array .int
  | 9 => .array .int
  | 10 => .array .int
  | 11 => .array .int
  | _ => .array .int
abbrev wsX70 : List Cond := u_ws RX7 TX7 13
theorem nmX7 : ∀ a, a < 13 → ∀ b, b < 13 → a ≠ b → (TX7 a).2.1 ≠ (TX7 b).2.1 := by decide +kernel
theorem tyX7_ok : ∀ k, k < 13 → parseFieldDescriptor (TX7 k).2.2.1 = some (tyX7 k) := by decide +kernel
abbrev cX7_init : ByteArray := prog_9_method_1_code
def yX7_init : MethodName := ⟨RX7, "<init>", "()V"⟩
abbrev cX7_readText : ByteArray := prog_9_method_2_code
def yX7_readText : MethodName := ⟨RX7, "readText", "(LSpoutSpring$Tokens;)Z"⟩
abbrev cX7_readRoom : ByteArray := prog_9_method_3_code
def yX7_readRoom : MethodName := ⟨RX7, "readRoom", "(LSpoutSpring$Tokens;)Z"⟩
abbrev cX7_readNumbers : ByteArray := prog_9_method_4_code
def yX7_readNumbers : MethodName := ⟨RX7, "readNumbers", "(LSpoutSpring$Tokens;)Z"⟩
abbrev cX7_readUp : ByteArray := prog_9_method_5_code
def yX7_readUp : MethodName := ⟨RX7, "readUp", "(LSpoutSpring$Tokens;)Z"⟩
abbrev cX7_readJoin : ByteArray := prog_9_method_6_code
def yX7_readJoin : MethodName := ⟨RX7, "readJoin", "(LSpoutSpring$Tokens;)Z"⟩
abbrev cX7_readJoined : ByteArray := prog_9_method_7_code
def yX7_readJoined : MethodName := ⟨RX7, "readJoined", "(LSpoutSpring$Tokens;[II)Z"⟩
abbrev cX7_findRoom : ByteArray := prog_9_method_8_code
def yX7_findRoom : MethodName := ⟨RX7, "findRoom", "(J)I"⟩
def RX8 : String := "SpoutSpring$Tokens"
def TX8 : u_T := fun k => match k with
  | 0 => ("SpoutSpring$Tokens", "text", "[I", false)
  | 1 => ("SpoutSpring$Tokens", "length", "I", false)
  | 2 => ("SpoutSpring$Tokens", "at", "I", false)
  | 3 => ("SpoutSpring$Tokens", "kind", "I", false)
  | 4 => ("SpoutSpring$Tokens", "place", "I", false)
  | 5 => ("SpoutSpring$Tokens", "number", "I", false)
  | 6 => ("SpoutSpring$Tokens", "name", "J", false)
  | 7 => ("SpoutSpring$Tokens", "fault", "I", false)
  | _ => ("SpoutSpring$Tokens", "faultPlace", "I", false)
def tyX8 : Nat → FieldType := fun k => match k with
  | 0 => .array .int
  | 1 => .int
  | 2 => .int
  | 3 => .int
  | 4 => .int
  | 5 => .int
  | 6 => .long
  | 7 => .int
  | _ => .int
abbrev wsX80 : List Cond := u_ws RX8 TX8 9
theorem nmX8 : ∀ a, a < 9 → ∀ b, b < 9 → a ≠ b → (TX8 a).2.1 ≠ (TX8 b).2.1 := by decide +kernel
theorem tyX8_ok : ∀ k, k < 9 → parseFieldDescriptor (TX8 k).2.2.1 = some (tyX8 k) := by decide +kernel
abbrev cX8_init : ByteArray := prog_10_method_1_code
def yX8_init : MethodName := ⟨RX8, "<init>", "()V"⟩
abbrev cX8_begin : ByteArray := prog_10_method_2_code
def yX8_begin : MethodName := ⟨RX8, "begin", "([II)V"⟩
abbrev cX8_goNext : ByteArray := prog_10_method_3_code
def yX8_goNext : MethodName := ⟨RX8, "goNext", "()V"⟩
abbrev cX8_refuse : ByteArray := prog_10_method_4_code
def yX8_refuse : MethodName := ⟨RX8, "refuse", "(I)Z"⟩
abbrev cX8_take : ByteArray := prog_10_method_5_code
def yX8_take : MethodName := ⟨RX8, "take", "(I)Z"⟩
abbrev cX8_takeTold : ByteArray := prog_10_method_6_code
def yX8_takeTold : MethodName := ⟨RX8, "takeTold", "(III[II)Z"⟩
abbrev cX8_isLetter : ByteArray := prog_10_method_7_code
def yX8_isLetter : MethodName := ⟨RX8, "isLetter", "(I)Z"⟩
abbrev cX8_isDigit : ByteArray := prog_10_method_8_code
def yX8_isDigit : MethodName := ⟨RX8, "isDigit", "(I)Z"⟩
abbrev cX8_readWord : ByteArray := prog_10_method_9_code
def yX8_readWord : MethodName := ⟨RX8, "readWord", "()V"⟩
abbrev cX8_readNumber : ByteArray := prog_10_method_10_code
def yX8_readNumber : MethodName := ⟨RX8, "readNumber", "()V"⟩
abbrev cX8_kindOfWord : ByteArray := prog_10_method_11_code
def yX8_kindOfWord : MethodName := ⟨RX8, "kindOfWord", "()I"⟩
def RX9 : String := "SpoutSpring$Trial"
def TX9 : u_T := fun k => match k with
  | 0 => ("SpoutSpring$Trial", "flow", "LSpoutSpring$Flow;", true)
  | 1 => ("SpoutSpring$Trial", "thrown", "[I", true)
  | 2 => ("SpoutSpring$Trial", "markWater", "[I", true)
  | _ => ("SpoutSpring$Trial", "markWarmth", "[I", true)
def tyX9 : Nat → FieldType := fun k => match k with
  | 0 => .object "SpoutSpring$Flow"
  | 1 => .array .int
  | 2 => .array .int
  | _ => .array .int
abbrev wsX90 : List Cond := u_ws RX9 TX9 4
theorem nmX9 : ∀ a, a < 4 → ∀ b, b < 4 → a ≠ b → (TX9 a).2.1 ≠ (TX9 b).2.1 := by decide +kernel
theorem tyX9_ok : ∀ k, k < 4 → parseFieldDescriptor (TX9 k).2.2.1 = some (tyX9 k) := by decide +kernel
abbrev cX9_init : ByteArray := prog_11_method_1_code
def yX9_init : MethodName := ⟨RX9, "<init>", "()V"⟩
abbrev cX9_goOn : ByteArray := prog_11_method_2_code
def yX9_goOn : MethodName := ⟨RX9, "goOn", "(II)V"⟩
abbrev cX9_repeat : ByteArray := prog_11_method_3_code
def yX9_repeat : MethodName := ⟨RX9, "repeat", "(III)V"⟩
abbrev cX9_setMark : ByteArray := prog_11_method_4_code
def yX9_setMark : MethodName := ⟨RX9, "setMark", "()V"⟩
abbrev cX9_isAtMark : ByteArray := prog_11_method_5_code
def yX9_isAtMark : MethodName := ⟨RX9, "isAtMark", "()Z"⟩
def RX10 : String := "SpoutSpring"
def TX10 : u_T := fun k => match k with
  | 0 => ("SpoutSpring", "tape", "[I", true)
  | 1 => ("SpoutSpring", "tapeLength", "I", false)
  | 2 => ("SpoutSpring", "tokens", "LSpoutSpring$Tokens;", true)
  | 3 => ("SpoutSpring", "courses", "[LSpoutSpring$Course;", true)
  | 4 => ("SpoutSpring", "spareSpring", "LSpoutSpring$Spring;", false)
  | 5 => ("SpoutSpring", "lawsNow", "LSpoutSpring$Laws;", false)
  | 6 => ("SpoutSpring", "spareLaws", "LSpoutSpring$Laws;", false)
  | 7 => ("SpoutSpring", "coldWarmth", "I", false)
  | 8 => ("SpoutSpring", "highGrains", "I", false)
  | 9 => ("SpoutSpring", "trial", "LSpoutSpring$Trial;", true)
  | 10 => ("SpoutSpring", "coursePlays", "LSpoutSpring$Plays;", true)
  | 11 => ("SpoutSpring", "trialPlays", "LSpoutSpring$Plays;", true)
  | 12 => ("SpoutSpring", "sights", "LSpoutSpring$Sights;", true)
  | 13 => ("SpoutSpring", "bestBoard", "LSpoutSpring$Board;", true)
  | 14 => ("SpoutSpring", "logs", "LSpoutSpring$Logs;", true)
  | 15 => ("SpoutSpring", "shookShelf", "I", false)
  | 16 => ("SpoutSpring", "shookRoom", "I", false)
  | 17 => ("SpoutSpring", "shookWide", "I", false)
  | _ => ("SpoutSpring", "shookLogs", "I", false)
def tyX10 : Nat → FieldType := fun k => match k with
  | 0 => .array .int
  | 1 => .int
  | 2 => .object "SpoutSpring$Tokens"
  | 3 => .array (.object "SpoutSpring$Course")
  | 4 => .object "SpoutSpring$Spring"
  | 5 => .object "SpoutSpring$Laws"
  | 6 => .object "SpoutSpring$Laws"
  | 7 => .int
  | 8 => .int
  | 9 => .object "SpoutSpring$Trial"
  | 10 => .object "SpoutSpring$Plays"
  | 11 => .object "SpoutSpring$Plays"
  | 12 => .object "SpoutSpring$Sights"
  | 13 => .object "SpoutSpring$Board"
  | 14 => .object "SpoutSpring$Logs"
  | 15 => .int
  | 16 => .int
  | 17 => .int
  | _ => .int
abbrev wsX100 : List Cond := u_ws RX10 TX10 19
theorem nmX10 : ∀ a, a < 19 → ∀ b, b < 19 → a ≠ b → (TX10 a).2.1 ≠ (TX10 b).2.1 := by decide +kernel
theorem tyX10_ok : ∀ k, k < 19 → parseFieldDescriptor (TX10 k).2.2.1 = some (tyX10 k) := by decide +kernel
abbrev cX10_init : ByteArray := prog_1_method_1_code
def yX10_init : MethodName := ⟨RX10, "<init>", "()V"⟩
abbrev cX10_feed : ByteArray := prog_1_method_2_code
def yX10_feed : MethodName := ⟨RX10, "feed", "(IIIII)I"⟩
abbrev cX10_end : ByteArray := prog_1_method_3_code
def yX10_end : MethodName := ⟨RX10, "end", "(I)I"⟩
abbrev cX10_spring : ByteArray := prog_1_method_4_code
def yX10_spring : MethodName := ⟨RX10, "spring", "(I)I"⟩
abbrev cX10_laws : ByteArray := prog_1_method_5_code
def yX10_laws : MethodName := ⟨RX10, "laws", "()I"⟩
abbrev cX10_fault : ByteArray := prog_1_method_6_code
def yX10_fault : MethodName := ⟨RX10, "fault", "(I)I"⟩
abbrev cX10_cold : ByteArray := prog_1_method_7_code
def yX10_cold : MethodName := ⟨RX10, "cold", "(I)Z"⟩
abbrev cX10_high : ByteArray := prog_1_method_8_code
def yX10_high : MethodName := ⟨RX10, "high", "(I)Z"⟩
abbrev cX10_room : ByteArray := prog_1_method_9_code
def yX10_room : MethodName := ⟨RX10, "room", "(IIII)I"⟩
abbrev cX10_book : ByteArray := prog_1_method_10_code
def yX10_book : MethodName := ⟨RX10, "book", "(III)I"⟩
abbrev cX10_plays : ByteArray := prog_1_method_11_code
def yX10_plays : MethodName := ⟨RX10, "plays", "(II)I"⟩
abbrev cX10_play : ByteArray := prog_1_method_12_code
def yX10_play : MethodName := ⟨RX10, "play", "(IIII)I"⟩
abbrev cX10_sight : ByteArray := prog_1_method_13_code
def yX10_sight : MethodName := ⟨RX10, "sight", "(II)I"⟩
abbrev cX10_untell : ByteArray := prog_1_method_14_code
def yX10_untell : MethodName := ⟨RX10, "untell", "(I)Z"⟩
abbrev cX10_later : ByteArray := prog_1_method_15_code
def yX10_later : MethodName := ⟨RX10, "later", "(I)I"⟩
abbrev cX10_span : ByteArray := prog_1_method_16_code
def yX10_span : MethodName := ⟨RX10, "span", "(III)I"⟩
abbrev cX10_board : ByteArray := prog_1_method_17_code
def yX10_board : MethodName := ⟨RX10, "board", "(IIII)I"⟩
abbrev cX10_log : ByteArray := prog_1_method_18_code
def yX10_log : MethodName := ⟨RX10, "log", "(IIZ)I"⟩
abbrev cX10_clear : ByteArray := prog_1_method_19_code
def yX10_clear : MethodName := ⟨RX10, "clear", "()I"⟩
abbrev cX10_fits : ByteArray := prog_1_method_20_code
def yX10_fits : MethodName := ⟨RX10, "fits", "()I"⟩
abbrev cX10_thread : ByteArray := prog_1_method_21_code
def yX10_thread : MethodName := ⟨RX10, "thread", "(II)I"⟩
abbrev cX10_shook : ByteArray := prog_1_method_22_code
def yX10_shook : MethodName := ⟨RX10, "shook", "(II)I"⟩
abbrev cX10_stolen : ByteArray := prog_1_method_23_code
def yX10_stolen : MethodName := ⟨RX10, "stolen", "(II)I"⟩
abbrev cX10_years : ByteArray := prog_1_method_24_code
def yX10_years : MethodName := ⟨RX10, "years", "(II)I"⟩
abbrev cX10_led : ByteArray := prog_1_method_25_code
def yX10_led : MethodName := ⟨RX10, "led", "(IIII)I"⟩
abbrev cX10_ring : ByteArray := prog_1_method_26_code
def yX10_ring : MethodName := ⟨RX10, "ring", "(III)I"⟩
abbrev cX10_parts : ByteArray := prog_1_method_27_code
def yX10_parts : MethodName := ⟨RX10, "parts", "(IIII)I"⟩
abbrev cX10_gap : ByteArray := prog_1_method_28_code
def yX10_gap : MethodName := ⟨RX10, "gap", "(IIIIII)I"⟩
abbrev cX10_about : ByteArray := prog_1_method_29_code
def yX10_about : MethodName := ⟨RX10, "about", "(I)I"⟩
abbrev cX10_writeBytes : ByteArray := prog_1_method_30_code
def yX10_writeBytes : MethodName := ⟨RX10, "writeBytes", "(I)V"⟩
abbrev cX10_isShelf : ByteArray := prog_1_method_31_code
def yX10_isShelf : MethodName := ⟨RX10, "isShelf", "(I)Z"⟩
abbrev cX10_isRoom : ByteArray := prog_1_method_32_code
def yX10_isRoom : MethodName := ⟨RX10, "isRoom", "(II)Z"⟩
abbrev cX10_isCourse : ByteArray := prog_1_method_33_code
def yX10_isCourse : MethodName := ⟨RX10, "isCourse", "(I)Z"⟩
abbrev cX10_isBoard : ByteArray := prog_1_method_34_code
def yX10_isBoard : MethodName := ⟨RX10, "isBoard", "(II)Z"⟩
abbrev cX10_isStretch : ByteArray := prog_1_method_35_code
def yX10_isStretch : MethodName := ⟨RX10, "isStretch", "(II)Z"⟩
abbrev cX10_warmOf : ByteArray := prog_1_method_36_code
def yX10_warmOf : MethodName := ⟨RX10, "warmOf", "(II)I"⟩
abbrev cX10_forgetCourses : ByteArray := prog_1_method_37_code
def yX10_forgetCourses : MethodName := ⟨RX10, "forgetCourses", "()V"⟩
abbrev cX10_courseUpTo : ByteArray := prog_1_method_38_code
def yX10_courseUpTo : MethodName := ⟨RX10, "courseUpTo", "(II)LSpoutSpring$Course;"⟩
abbrev cX10_readCoursePlays : ByteArray := prog_1_method_39_code
def yX10_readCoursePlays : MethodName := ⟨RX10, "readCoursePlays", "(II)V"⟩
abbrev cX10_beginTrial : ByteArray := prog_1_method_40_code
def yX10_beginTrial : MethodName := ⟨RX10, "beginTrial", "(I)V"⟩
abbrev cX10_readTrialPlays : ByteArray := prog_1_method_41_code
def yX10_readTrialPlays : MethodName := ⟨RX10, "readTrialPlays", "(II)V"⟩
abbrev cX10_countWarms : ByteArray := prog_1_method_42_code
def yX10_countWarms : MethodName := ⟨RX10, "countWarms", "(III)I"⟩
abbrev cX10_shake : ByteArray := prog_1_method_43_code
def yX10_shake : MethodName := ⟨RX10, "shake", "(I)V"⟩
def RX11 : String := "SpoutSpringModel"
def TX11 : u_T := fun k => match k with
  | 0 => ("SpoutSpringModel", "tape", "[B", true)
  | 1 => ("SpoutSpringModel", "text", "[B", true)
  | 2 => ("SpoutSpringModel", "taped", "I", false)
  | 3 => ("SpoutSpringModel", "size", "I", false)
  | 4 => ("SpoutSpringModel", "faultKind", "I", false)
  | 5 => ("SpoutSpringModel", "faultPlace", "I", false)
  | 6 => ("SpoutSpringModel", "at", "I", false)
  | 7 => ("SpoutSpringModel", "end", "I", false)
  | 8 => ("SpoutSpringModel", "token", "I", false)
  | 9 => ("SpoutSpringModel", "number", "I", false)
  | 10 => ("SpoutSpringModel", "name", "J", false)
  | 11 => ("SpoutSpringModel", "bankOf", "[I", true)
  | 12 => ("SpoutSpringModel", "roomMany", "[I", true)
  | 13 => ("SpoutSpringModel", "joinMany", "[I", true)
  | 14 => ("SpoutSpringModel", "kind", "[I", true)
  | 15 => ("SpoutSpringModel", "depth", "[I", true)
  | 16 => ("SpoutSpringModel", "holds", "[I", true)
  | 17 => ("SpoutSpringModel", "wide", "[I", true)
  | 18 => ("SpoutSpringModel", "hot", "[I", true)
  | 19 => ("SpoutSpringModel", "cold", "[I", true)
  | 20 => ("SpoutSpringModel", "up", "[I", true)
  | 21 => ("SpoutSpringModel", "joinA", "[I", true)
  | 22 => ("SpoutSpringModel", "joinB", "[I", true)
  | 23 => ("SpoutSpringModel", "joinWide", "[I", true)
  | 24 => ("SpoutSpringModel", "roomName", "[J", true)
  | 25 => ("SpoutSpringModel", "free", "I", false)
  | 26 => ("SpoutSpringModel", "rb", "I", false)
  | 27 => ("SpoutSpringModel", "uFrom", "[I", true)
  | 28 => ("SpoutSpringModel", "uTo", "[I", true)
  | 29 => ("SpoutSpringModel", "code", "[I", true)
  | 30 => ("SpoutSpringModel", "codeNumber", "[I", true)
  | 31 => ("SpoutSpringModel", "eWhat", "[I", true)
  | 32 => ("SpoutSpringModel", "eSign", "[I", true)
  | 33 => ("SpoutSpringModel", "pile", "[I", true)
  | 34 => ("SpoutSpringModel", "hasE", "[Z", true)
  | 35 => ("SpoutSpringModel", "lawLines", "I", false)
  | 36 => ("SpoutSpringModel", "lineNow", "I", false)
  | 37 => ("SpoutSpringModel", "codes", "I", false)
  | 38 => ("SpoutSpringModel", "units", "I", false)
  | 39 => ("SpoutSpringModel", "within", "I", false)
  | 40 => ("SpoutSpringModel", "piled", "I", false)
  | 41 => ("SpoutSpringModel", "water", "[I", true)
  | 42 => ("SpoutSpringModel", "warmth", "[I", true)
  | 43 => ("SpoutSpringModel", "wides", "[I", true)
  | 44 => ("SpoutSpringModel", "steam", "[I", true)
  | 45 => ("SpoutSpringModel", "cools", "[I", true)
  | 46 => ("SpoutSpringModel", "boils", "[I", true)
  | 47 => ("SpoutSpringModel", "lifts", "[I", true)
  | 48 => ("SpoutSpringModel", "sb", "I", false)
  | 49 => ("SpoutSpringModel", "rooms", "I", false)
  | 50 => ("SpoutSpringModel", "second", "I", false)
  | 51 => ("SpoutSpringModel", "thrown", "I", false)
  | 52 => ("SpoutSpringModel", "bookIn", "I", false)
  | 53 => ("SpoutSpringModel", "bookAir", "I", false)
  | 54 => ("SpoutSpringModel", "bookSteam", "I", false)
  | 55 => ("SpoutSpringModel", "coldWarmth", "I", false)
  | 56 => ("SpoutSpringModel", "high", "I", false)
  | 57 => ("SpoutSpringModel", "hasJoins", "Z", false)
  | 58 => ("SpoutSpringModel", "first", "[I", true)
  | 59 => ("SpoutSpringModel", "long0", "[I", true)
  | 60 => ("SpoutSpringModel", "greatest", "[I", true)
  | 61 => ("SpoutSpringModel", "played", "I", false)
  | 62 => ("SpoutSpringModel", "goesOn", "Z", false)
  | 63 => ("SpoutSpringModel", "sLength", "[I", true)
  | 64 => ("SpoutSpringModel", "sWait", "[I", true)
  | 65 => ("SpoutSpringModel", "sTold", "[I", true)
  | 66 => ("SpoutSpringModel", "sUntold", "[I", true)
  | 67 => ("SpoutSpringModel", "rowHits", "[I", true)
  | 68 => ("SpoutSpringModel", "rowTime", "[I", true)
  | 69 => ("SpoutSpringModel", "bestHits", "[I", true)
  | 70 => ("SpoutSpringModel", "bestNext", "[I", true)
  | 71 => ("SpoutSpringModel", "known", "[I", true)
  | 72 => ("SpoutSpringModel", "sights", "I", false)
  | 73 => ("SpoutSpringModel", "time", "I", false)
  | 74 => ("SpoutSpringModel", "knownMany", "I", false)
  | 75 => ("SpoutSpringModel", "lFrom", "[I", true)
  | 76 => ("SpoutSpringModel", "lTo", "[I", true)
  | 77 => ("SpoutSpringModel", "lPlayed", "[Z", true)
  | 78 => ("SpoutSpringModel", "logs", "I", false)
  | 79 => ("SpoutSpringModel", "warms", "[I", true)
  | 80 => ("SpoutSpringModel", "threadRoom", "I", false)
  | 81 => ("SpoutSpringModel", "threadSecond", "I", false)
  | 82 => ("SpoutSpringModel", "threadMany", "I", false)
  | 83 => ("SpoutSpringModel", "shookRoom", "I", false)
  | 84 => ("SpoutSpringModel", "shookWide", "I", false)
  | 85 => ("SpoutSpringModel", "shookRight", "I", false)
  | 86 => ("SpoutSpringModel", "seenWater", "[I", true)
  | 87 => ("SpoutSpringModel", "seenWarmth", "[I", true)
  | _ => ("SpoutSpringModel", "firstOnce", "[I", true)
def tyX11 : Nat → FieldType := fun k => match k with
  | 0 => .array .byte
  | 1 => .array .byte
  | 2 => .int
  | 3 => .int
  | 4 => .int
  | 5 => .int
  | 6 => .int
  | 7 => .int
  | 8 => .int
  | 9 => .int
  | 10 => .long
  | 11 => .array .int
  | 12 => .array .int
  | 13 => .array .int
  | 14 => .array .int
  | 15 => .array .int
  | 16 => .array .int
  | 17 => .array .int
  | 18 => .array .int
  | 19 => .array .int
  | 20 => .array .int
  | 21 => .array .int
  | 22 => .array .int
  | 23 => .array .int
  | 24 => .array .long
  | 25 => .int
  | 26 => .int
  | 27 => .array .int
  | 28 => .array .int
  | 29 => .array .int
  | 30 => .array .int
  | 31 => .array .int
  | 32 => .array .int
  | 33 => .array .int
  | 34 => .array .boolean
  | 35 => .int
  | 36 => .int
  | 37 => .int
  | 38 => .int
  | 39 => .int
  | 40 => .int
  | 41 => .array .int
  | 42 => .array .int
  | 43 => .array .int
  | 44 => .array .int
  | 45 => .array .int
  | 46 => .array .int
  | 47 => .array .int
  | 48 => .int
  | 49 => .int
  | 50 => .int
  | 51 => .int
  | 52 => .int
  | 53 => .int
  | 54 => .int
  | 55 => .int
  | 56 => .int
  | 57 => .boolean
  | 58 => .array .int
  | 59 => .array .int
  | 60 => .array .int
  | 61 => .int
  | 62 => .boolean
  | 63 => .array .int
  | 64 => .array .int
  | 65 => .array .int
  | 66 => .array .int
  | 67 => .array .int
  | 68 => .array .int
  | 69 => .array .int
  | 70 => .array .int
  | 71 => .array .int
  | 72 => .int
  | 73 => .int
  | 74 => .int
  | 75 => .array .int
  | 76 => .array .int
  | 77 => .array .boolean
  | 78 => .int
  | 79 => .array .int
  | 80 => .int
  | 81 => .int
  | 82 => .int
  | 83 => .int
  | 84 => .int
  | 85 => .int
  | 86 => .array .int
  | 87 => .array .int
  | _ => .array .int
abbrev wsX110 : List Cond := u_ws RX11 TX11 89
theorem nmX11 : ∀ a, a < 89 → ∀ b, b < 89 → a ≠ b → (TX11 a).2.1 ≠ (TX11 b).2.1 := by decide +kernel
theorem tyX11_ok : ∀ k, k < 89 → parseFieldDescriptor (TX11 k).2.2.1 = some (tyX11 k) := by decide +kernel
abbrev cX11_init : ByteArray := prog_13_method_1_code
def yX11_init : MethodName := ⟨RX11, "<init>", "()V"⟩
abbrev cX11_sign : ByteArray := prog_13_method_2_code
def yX11_sign : MethodName := ⟨RX11, "sign", "(I)I"⟩
abbrev cX11_isLetter : ByteArray := prog_13_method_3_code
def yX11_isLetter : MethodName := ⟨RX11, "isLetter", "(I)Z"⟩
abbrev cX11_isDigit : ByteArray := prog_13_method_4_code
def yX11_isDigit : MethodName := ⟨RX11, "isDigit", "(I)Z"⟩
abbrev cX11_fails : ByteArray := prog_13_method_5_code
def yX11_fails : MethodName := ⟨RX11, "fails", "(II)V"⟩
abbrev cX11_isGood : ByteArray := prog_13_method_6_code
def yX11_isGood : MethodName := ⟨RX11, "isGood", "()Z"⟩
abbrev cX11_isKept : ByteArray := prog_13_method_7_code
def yX11_isKept : MethodName := ⟨RX11, "isKept", "(J)Z"⟩
abbrev cX11_isSign : ByteArray := prog_13_method_8_code
def yX11_isSign : MethodName := ⟨RX11, "isSign", "(I)Z"⟩
abbrev cX11_next : ByteArray := prog_13_method_9_code
def yX11_next : MethodName := ⟨RX11, "next", "()V"⟩
abbrev cX11_is : ByteArray := prog_13_method_10_code
def yX11_is : MethodName := ⟨RX11, "is", "(I)Z"⟩
abbrev cX11_isWord : ByteArray := prog_13_method_11_code
def yX11_isWord : MethodName := ⟨RX11, "isWord", "(J)Z"⟩
abbrev cX11_wrong : ByteArray := prog_13_method_12_code
def yX11_wrong : MethodName := ⟨RX11, "wrong", "()V"⟩
abbrev cX11_must : ByteArray := prog_13_method_13_code
def yX11_must : MethodName := ⟨RX11, "must", "(Z)V"⟩
abbrev cX11_numeral : ByteArray := prog_13_method_14_code
def yX11_numeral : MethodName := ⟨RX11, "numeral", "(II)I"⟩
abbrev cX11_takeTape : ByteArray := prog_13_method_15_code
def yX11_takeTape : MethodName := ⟨RX11, "takeTape", "()V"⟩
abbrev cX11_isShelf : ByteArray := prog_13_method_16_code
def yX11_isShelf : MethodName := ⟨RX11, "isShelf", "(I)Z"⟩
abbrev cX11_spring : ByteArray := prog_13_method_17_code
def yX11_spring : MethodName := ⟨RX11, "spring", "(I)I"⟩
abbrev cX11_readLine : ByteArray := prog_13_method_18_code
def yX11_readLine : MethodName := ⟨RX11, "readLine", "()V"⟩
abbrev cX11_roomNamed : ByteArray := prog_13_method_19_code
def yX11_roomNamed : MethodName := ⟨RX11, "roomNamed", "()I"⟩
abbrev cX11_readRoom : ByteArray := prog_13_method_20_code
def yX11_readRoom : MethodName := ⟨RX11, "readRoom", "(I)V"⟩
abbrev cX11_readUp : ByteArray := prog_13_method_21_code
def yX11_readUp : MethodName := ⟨RX11, "readUp", "(I)V"⟩
abbrev cX11_joined : ByteArray := prog_13_method_22_code
def yX11_joined : MethodName := ⟨RX11, "joined", "(I)I"⟩
abbrev cX11_readJoin : ByteArray := prog_13_method_23_code
def yX11_readJoin : MethodName := ⟨RX11, "readJoin", "()V"⟩
abbrev cX11_laws : ByteArray := prog_13_method_24_code
def yX11_laws : MethodName := ⟨RX11, "laws", "()I"⟩
abbrev cX11_readLaw : ByteArray := prog_13_method_25_code
def yX11_readLaw : MethodName := ⟨RX11, "readLaw", "()V"⟩
abbrev cX11_step : ByteArray := prog_13_method_26_code
def yX11_step : MethodName := ⟨RX11, "step", "(II)V"⟩
abbrev cX11_put : ByteArray := prog_13_method_27_code
def yX11_put : MethodName := ⟨RX11, "put", "(II)V"⟩
abbrev cX11_e : ByteArray := prog_13_method_28_code
def yX11_e : MethodName := ⟨RX11, "e", "()V"⟩
abbrev cX11_wordHere : ByteArray := prog_13_method_29_code
def yX11_wordHere : MethodName := ⟨RX11, "wordHere", "()I"⟩
abbrev cX11_unit : ByteArray := prog_13_method_30_code
def yX11_unit : MethodName := ⟨RX11, "unit", "()Z"⟩
abbrev cX11_rankHere : ByteArray := prog_13_method_31_code
def yX11_rankHere : MethodName := ⟨RX11, "rankHere", "()I"⟩
abbrev cX11_isCompared : ByteArray := prog_13_method_32_code
def yX11_isCompared : MethodName := ⟨RX11, "isCompared", "()Z"⟩
abbrev cX11_behind : ByteArray := prog_13_method_33_code
def yX11_behind : MethodName := ⟨RX11, "behind", "()Z"⟩
abbrev cX11_fault : ByteArray := prog_13_method_34_code
def yX11_fault : MethodName := ⟨RX11, "fault", "(I)I"⟩
abbrev cX11_begin : ByteArray := prog_13_method_35_code
def yX11_begin : MethodName := ⟨RX11, "begin", "(I)V"⟩
abbrev cX11_warmOf : ByteArray := prog_13_method_36_code
def yX11_warmOf : MethodName := ⟨RX11, "warmOf", "(II)I"⟩
abbrev cX11_term : ByteArray := prog_13_method_37_code
def yX11_term : MethodName := ⟨RX11, "term", "(III)I"⟩
abbrev cX11_aboveOf : ByteArray := prog_13_method_38_code
def yX11_aboveOf : MethodName := ⟨RX11, "aboveOf", "(I)I"⟩
abbrev cX11_two : ByteArray := prog_13_method_39_code
def yX11_two : MethodName := ⟨RX11, "two", "(III)I"⟩
abbrev cX11_law : ByteArray := prog_13_method_40_code
def yX11_law : MethodName := ⟨RX11, "law", "(IIII)I"⟩
abbrev cX11_boilOf : ByteArray := prog_13_method_41_code
def yX11_boilOf : MethodName := ⟨RX11, "boilOf", "(I)I"⟩
abbrev cX11_lesser : ByteArray := prog_13_method_42_code
def yX11_lesser : MethodName := ⟨RX11, "lesser", "(II)I"⟩
abbrev cX11_take : ByteArray := prog_13_method_43_code
def yX11_take : MethodName := ⟨RX11, "take", "(II)I"⟩
abbrev cX11_fillAll : ByteArray := prog_13_method_44_code
def yX11_fillAll : MethodName := ⟨RX11, "fillAll", "()V"⟩
abbrev cX11_joinAll : ByteArray := prog_13_method_45_code
def yX11_joinAll : MethodName := ⟨RX11, "joinAll", "()V"⟩
abbrev cX11_steamAll : ByteArray := prog_13_method_46_code
def yX11_steamAll : MethodName := ⟨RX11, "steamAll", "()V"⟩
abbrev cX11_throwUp : ByteArray := prog_13_method_47_code
def yX11_throwUp : MethodName := ⟨RX11, "throwUp", "(II)V"⟩
abbrev cX11_poolAll : ByteArray := prog_13_method_48_code
def yX11_poolAll : MethodName := ⟨RX11, "poolAll", "()V"⟩
abbrev cX11_tick : ByteArray := prog_13_method_49_code
def yX11_tick : MethodName := ⟨RX11, "tick", "()V"⟩
abbrev cX11_cold : ByteArray := prog_13_method_50_code
def yX11_cold : MethodName := ⟨RX11, "cold", "(I)Z"⟩
abbrev cX11_high : ByteArray := prog_13_method_51_code
def yX11_high : MethodName := ⟨RX11, "high", "(I)Z"⟩
abbrev cX11_isIn : ByteArray := prog_13_method_52_code
def yX11_isIn : MethodName := ⟨RX11, "isIn", "(III)Z"⟩
abbrev cX11_isRoom : ByteArray := prog_13_method_53_code
def yX11_isRoom : MethodName := ⟨RX11, "isRoom", "(II)Z"⟩
abbrev cX11_goTo : ByteArray := prog_13_method_54_code
def yX11_goTo : MethodName := ⟨RX11, "goTo", "(II)V"⟩
abbrev cX11_room : ByteArray := prog_13_method_55_code
def yX11_room : MethodName := ⟨RX11, "room", "(IIII)I"⟩
abbrev cX11_book : ByteArray := prog_13_method_56_code
def yX11_book : MethodName := ⟨RX11, "book", "(III)I"⟩
abbrev cX11_beginPlays : ByteArray := prog_13_method_57_code
def yX11_beginPlays : MethodName := ⟨RX11, "beginPlays", "()V"⟩
abbrev cX11_see : ByteArray := prog_13_method_58_code
def yX11_see : MethodName := ⟨RX11, "see", "()Z"⟩
abbrev cX11_course : ByteArray := prog_13_method_59_code
def yX11_course : MethodName := ⟨RX11, "course", "(III)V"⟩
abbrev cX11_courseOf : ByteArray := prog_13_method_60_code
def yX11_courseOf : MethodName := ⟨RX11, "courseOf", "(II)V"⟩
abbrev cX11_isCourse : ByteArray := prog_13_method_61_code
def yX11_isCourse : MethodName := ⟨RX11, "isCourse", "(I)Z"⟩
abbrev cX11_plays : ByteArray := prog_13_method_62_code
def yX11_plays : MethodName := ⟨RX11, "plays", "(II)I"⟩
abbrev cX11_play : ByteArray := prog_13_method_63_code
def yX11_play : MethodName := ⟨RX11, "play", "(IIII)I"⟩
abbrev cX11_sight : ByteArray := prog_13_method_64_code
def yX11_sight : MethodName := ⟨RX11, "sight", "(II)I"⟩
abbrev cX11_untell : ByteArray := prog_13_method_65_code
def yX11_untell : MethodName := ⟨RX11, "untell", "(I)Z"⟩
abbrev cX11_later : ByteArray := prog_13_method_66_code
def yX11_later : MethodName := ⟨RX11, "later", "(I)I"⟩
abbrev cX11_gather : ByteArray := prog_13_method_67_code
def yX11_gather : MethodName := ⟨RX11, "gather", "(I)V"⟩
abbrev cX11_weighRow : ByteArray := prog_13_method_68_code
def yX11_weighRow : MethodName := ⟨RX11, "weighRow", "(III)V"⟩
abbrev cX11_shorter : ByteArray := prog_13_method_69_code
def yX11_shorter : MethodName := ⟨RX11, "shorter", "(I)I"⟩
abbrev cX11_mostHits : ByteArray := prog_13_method_70_code
def yX11_mostHits : MethodName := ⟨RX11, "mostHits", "(II)I"⟩
abbrev cX11_seekSpan : ByteArray := prog_13_method_71_code
def yX11_seekSpan : MethodName := ⟨RX11, "seekSpan", "(III)I"⟩
abbrev cX11_isBoard : ByteArray := prog_13_method_72_code
def yX11_isBoard : MethodName := ⟨RX11, "isBoard", "(II)Z"⟩
abbrev cX11_span : ByteArray := prog_13_method_73_code
def yX11_span : MethodName := ⟨RX11, "span", "(III)I"⟩
abbrev cX11_board : ByteArray := prog_13_method_74_code
def yX11_board : MethodName := ⟨RX11, "board", "(IIII)I"⟩
abbrev cX11_log : ByteArray := prog_13_method_75_code
def yX11_log : MethodName := ⟨RX11, "log", "(IIZ)I"⟩
abbrev cX11_clear : ByteArray := prog_13_method_76_code
def yX11_clear : MethodName := ⟨RX11, "clear", "()I"⟩
abbrev cX11_rightLogs : ByteArray := prog_13_method_77_code
def yX11_rightLogs : MethodName := ⟨RX11, "rightLogs", "()I"⟩
abbrev cX11_fits : ByteArray := prog_13_method_78_code
def yX11_fits : MethodName := ⟨RX11, "fits", "()I"⟩
abbrev cX11_seekThread : ByteArray := prog_13_method_79_code
def yX11_seekThread : MethodName := ⟨RX11, "seekThread", "(I)V"⟩
abbrev cX11_thread : ByteArray := prog_13_method_80_code
def yX11_thread : MethodName := ⟨RX11, "thread", "(II)I"⟩
abbrev cX11_seekShook : ByteArray := prog_13_method_81_code
def yX11_seekShook : MethodName := ⟨RX11, "seekShook", "(I)V"⟩
abbrev cX11_shook : ByteArray := prog_13_method_82_code
def yX11_shook : MethodName := ⟨RX11, "shook", "(II)I"⟩
abbrev cX11_stolen : ByteArray := prog_13_method_83_code
def yX11_stolen : MethodName := ⟨RX11, "stolen", "(II)I"⟩
abbrev cX11_years : ByteArray := prog_13_method_84_code
def yX11_years : MethodName := ⟨RX11, "years", "(II)I"⟩
abbrev cX11_led : ByteArray := prog_13_method_85_code
def yX11_led : MethodName := ⟨RX11, "led", "(IIII)I"⟩
abbrev cX11_ring : ByteArray := prog_13_method_86_code
def yX11_ring : MethodName := ⟨RX11, "ring", "(III)I"⟩
abbrev cX11_parts : ByteArray := prog_13_method_87_code
def yX11_parts : MethodName := ⟨RX11, "parts", "(IIII)I"⟩
abbrev cX11_gap : ByteArray := prog_13_method_88_code
def yX11_gap : MethodName := ⟨RX11, "gap", "(IIIIII)I"⟩
abbrev cX11_about : ByteArray := prog_13_method_89_code
def yX11_about : MethodName := ⟨RX11, "about", "(I)I"⟩
abbrev cX11_feed : ByteArray := prog_13_method_90_code
def yX11_feed : MethodName := ⟨RX11, "feed", "(IIIII)I"⟩
abbrev cX11_end : ByteArray := prog_13_method_91_code
def yX11_end : MethodName := ⟨RX11, "end", "(I)I"⟩
def RJx145de : String := "java/io/Serializable"
def TJx145de : u_T := fun k => match k with
  | _ => ("", "", "", false)
def tyJx145de : Nat → FieldType := fun k => match k with
  | _ => .int
abbrev wsJx145de0 : List Cond := u_ws RJx145de TJx145de 0
def RJx9f9b0 : String := "java/lang/CharSequence"
def TJx9f9b0 : u_T := fun k => match k with
  | _ => ("", "", "", false)
def tyJx9f9b0 : Nat → FieldType := fun k => match k with
  | _ => .int
abbrev wsJx9f9b00 : List Cond := u_ws RJx9f9b0 TJx9f9b0 0
def RJ11 : String := "java/lang/Character"
def TJ11 : u_T := fun k => match k with
  | _ => ("", "", "", false)
def tyJ11 : Nat → FieldType := fun k => match k with
  | _ => .int
abbrev wsJ110 : List Cond := u_ws RJ11 TJ11 0
abbrev cJ11_isValidCodePoint_9a6ad : ByteArray := prog_14_method_11_code
def yJ11_isValidCodePoint_9a6ad : MethodName := ⟨RJ11, "isValidCodePoint", "(I)Z"⟩
abbrev cJ11_highSurrogate_5068e : ByteArray := prog_14_method_28_code
def yJ11_highSurrogate_5068e : MethodName := ⟨RJ11, "highSurrogate", "(I)C"⟩
abbrev cJ11_lowSurrogate_5068e : ByteArray := prog_14_method_29_code
def yJ11_lowSurrogate_5068e : MethodName := ⟨RJ11, "lowSurrogate", "(I)C"⟩
def RJxb160c : String := "java/lang/Comparable"
def TJxb160c : u_T := fun k => match k with
  | _ => ("", "", "", false)
def tyJxb160c : Nat → FieldType := fun k => match k with
  | _ => .int
abbrev wsJxb160c0 : List Cond := u_ws RJxb160c TJxb160c 0
def RJ9 : String := "java/lang/Math"
def TJ9 : u_T := fun k => match k with
  | _ => ("", "", "", false)
def tyJ9 : Nat → FieldType := fun k => match k with
  | _ => .int
abbrev wsJ90 : List Cond := u_ws RJ9 TJ9 0
abbrev cJ9_abs_0f7a4 : ByteArray := prog_15_method_59_code
def yJ9_abs_0f7a4 : MethodName := ⟨RJ9, "abs", "(I)I"⟩
abbrev cJ9_max_7cf53 : ByteArray := prog_15_method_65_code
def yJ9_max_7cf53 : MethodName := ⟨RJ9, "max", "(II)I"⟩
abbrev cJ9_min_7cf53 : ByteArray := prog_15_method_69_code
def yJ9_min_7cf53 : MethodName := ⟨RJ9, "min", "(II)I"⟩
def RJ0 : String := "java/lang/String"
def TJ0 : u_T := fun k => match k with
  | _ => ("", "", "", false)
def tyJ0 : Nat → FieldType := fun k => match k with
  | _ => .int
abbrev wsJ00 : List Cond := u_ws RJ0 TJ0 0
abbrev cJ0_length_8abf5 : ByteArray := prog_16_method_54_code
def yJ0_length_8abf5 : MethodName := ⟨RJ0, "length", "()I"⟩
abbrev cJ0_charAt_5068e : ByteArray := prog_16_method_56_code
def yJ0_charAt_5068e : MethodName := ⟨RJ0, "charAt", "(I)C"⟩
abbrev cJ0_indexOf_0f7a4 : ByteArray := prog_16_method_79_code
def yJ0_indexOf_0f7a4 : MethodName := ⟨RJ0, "indexOf", "(I)I"⟩
abbrev cJ0_indexOf_7cf53 : ByteArray := prog_16_method_80_code
def yJ0_indexOf_7cf53 : MethodName := ⟨RJ0, "indexOf", "(II)I"⟩
abbrev cJ0_coder_7d493 : ByteArray := prog_16_method_152_code
def yJ0_coder_7d493 : MethodName := ⟨RJ0, "coder", "()B"⟩
abbrev cJ0_isLatin1_aae02 : ByteArray := prog_16_method_154_code
def yJ0_isLatin1_aae02 : MethodName := ⟨RJ0, "isLatin1", "()Z"⟩
abbrev cJ0_checkIndex_df160 : ByteArray := prog_16_method_155_code
def yJ0_checkIndex_df160 : MethodName := ⟨RJ0, "checkIndex", "(II)V"⟩
abbrev cJ0_checkBoundsBeginEnd_23922 : ByteArray := prog_16_method_158_code
def yJ0_checkBoundsBeginEnd_23922 : MethodName := ⟨RJ0, "checkBoundsBeginEnd", "(III)V"⟩
def RJ1 : String := "java/lang/StringLatin1"
def TJ1 : u_T := fun k => match k with
  | _ => ("", "", "", false)
def tyJ1 : Nat → FieldType := fun k => match k with
  | _ => .int
abbrev wsJ10 : List Cond := u_ws RJ1 TJ1 0
abbrev cJ1_charAt_3b067 : ByteArray := prog_17_method_2_code
def yJ1_charAt_3b067 : MethodName := ⟨RJ1, "charAt", "([BI)C"⟩
abbrev cJ1_canEncode_9a6ad : ByteArray := prog_17_method_4_code
def yJ1_canEncode_9a6ad : MethodName := ⟨RJ1, "canEncode", "(I)Z"⟩
abbrev cJ1_indexOf_4cfef : ByteArray := prog_17_method_22_code
def yJ1_indexOf_4cfef : MethodName := ⟨RJ1, "indexOf", "([BIII)I"⟩
abbrev cJ1_indexOfChar_4cfef : ByteArray := prog_17_method_23_code
def yJ1_indexOfChar_4cfef : MethodName := ⟨RJ1, "indexOfChar", "([BIII)I"⟩
def RJ2 : String := "java/lang/StringUTF16"
def TJ2 : u_T := fun k => match k with
  | _ => ("", "", "", false)
def tyJ2 : Nat → FieldType := fun k => match k with
  | _ => .int
abbrev wsJ20 : List Cond := u_ws RJ2 TJ2 0
abbrev cJ2_getChar_3b067 : ByteArray := prog_18_method_5_code
def yJ2_getChar_3b067 : MethodName := ⟨RJ2, "getChar", "([BI)C"⟩
abbrev cJ2_length_9d52b : ByteArray := prog_18_method_6_code
def yJ2_length_9d52b : MethodName := ⟨RJ2, "length", "([B)I"⟩
abbrev cJ2_indexOf_4cfef : ByteArray := prog_18_method_40_code
def yJ2_indexOf_4cfef : MethodName := ⟨RJ2, "indexOf", "([BIII)I"⟩
abbrev cJ2_indexOfChar_4cfef : ByteArray := prog_18_method_47_code
def yJ2_indexOfChar_4cfef : MethodName := ⟨RJ2, "indexOfChar", "([BIII)I"⟩
abbrev cJ2_indexOfCharUnsafe_4cfef : ByteArray := prog_18_method_48_code
def yJ2_indexOfCharUnsafe_4cfef : MethodName := ⟨RJ2, "indexOfCharUnsafe", "([BIII)I"⟩
abbrev cJ2_indexOfSupplementary_4cfef : ByteArray := prog_18_method_49_code
def yJ2_indexOfSupplementary_4cfef : MethodName := ⟨RJ2, "indexOfSupplementary", "([BIII)I"⟩
abbrev cJ2_charAt_3b067 : ByteArray := prog_18_method_83_code
def yJ2_charAt_3b067 : MethodName := ⟨RJ2, "charAt", "([BI)C"⟩
abbrev cJ2_checkIndex_2214a : ByteArray := prog_18_method_91_code
def yJ2_checkIndex_2214a : MethodName := ⟨RJ2, "checkIndex", "(I[B)V"⟩
abbrev cJ2_checkBoundsBeginEnd_d044e : ByteArray := prog_18_method_93_code
def yJ2_checkBoundsBeginEnd_d044e : MethodName := ⟨RJ2, "checkBoundsBeginEnd", "(II[B)V"⟩
def RJ10 : String := "java/lang/System"
def TJ10 : u_T := fun k => match k with
  | _ => ("", "", "", false)
def tyJ10 : Nat → FieldType := fun k => match k with
  | _ => .int
abbrev wsJ100 : List Cond := u_ws RJ10 TJ10 0
def RJxfd54e : String := "java/lang/constant/Constable"
def TJxfd54e : u_T := fun k => match k with
  | _ => ("", "", "", false)
def tyJxfd54e : Nat → FieldType := fun k => match k with
  | _ => .int
abbrev wsJxfd54e0 : List Cond := u_ws RJxfd54e TJxfd54e 0
def RJx3cf43 : String := "java/lang/constant/ConstantDesc"
def TJx3cf43 : u_T := fun k => match k with
  | _ => ("", "", "", false)
def tyJx3cf43 : Nat → FieldType := fun k => match k with
  | _ => .int
abbrev wsJx3cf430 : List Cond := u_ws RJx3cf43 TJx3cf43 0
def RJ7 : String := "java/util/Arrays"
def TJ7 : u_T := fun k => match k with
  | _ => ("", "", "", false)
def tyJ7 : Nat → FieldType := fun k => match k with
  | _ => .int
abbrev wsJ70 : List Cond := u_ws RJ7 TJ7 0
abbrev cJ7_fill_53178 : ByteArray := prog_20_method_103_code
def yJ7_fill_53178 : MethodName := ⟨RJ7, "fill", "([II)V"⟩
def RJ3 : String := "jdk/internal/util/Preconditions"
def TJ3 : u_T := fun k => match k with
  | _ => ("", "", "", false)
def tyJ3 : Nat → FieldType := fun k => match k with
  | _ => .int
abbrev wsJ30 : List Cond := u_ws RJ3 TJ3 0
abbrev cJ3_checkIndex_8e157 : ByteArray := prog_21_method_11_code
def yJ3_checkIndex_8e157 : MethodName := ⟨RJ3, "checkIndex", "(IILjava/util/function/BiFunction;)I"⟩
abbrev cJ3_checkFromToIndex_8c36e : ByteArray := prog_21_method_12_code
def yJ3_checkFromToIndex_8c36e : MethodName := ⟨RJ3, "checkFromToIndex", "(IIILjava/util/function/BiFunction;)I"⟩
def RL : String := "SpoutSpringLaw"
abbrev vwCl : List vw_C := [(RX0, TX0, 13), (RX1, TX1, 9), (RX2, TX2, 19), (RX3, TX3, 7), (RX4, TX4, 5), (RX5, TX5, 4), (RX6, TX6, 6), (RX7, TX7, 13), (RX8, TX8, 9), (RX9, TX9, 4), (RX10, TX10, 19), (RX11, TX11, 89)]
