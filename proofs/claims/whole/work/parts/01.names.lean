-- ===== PART A: goes FIRST, ahead of the names: the tables' words, and 'selects' of the private methods out of them =====
/-- a private method of a class that the tables say can be made, by its rows of tables_1 -/
def lw_okq (q : MethodName × Nat) : Prop := (q.1.cls ≠ "java/lang/invoke/MethodHandle" ∧ q.1.cls ≠ "java/lang/invoke/VarHandle") ∧ Cond.instantiable q.1.cls q.2 ∈ tables_1 ∧ Cond.privateMethod q.1 ∈ tables_1 ∧ Cond.instanceMethod q.1 ∈ tables_1
theorem lw_p0 : lw_okq (⟨"DailyRelief", "error", "(I)I"⟩, 8) := ⟨⟨by decide +kernel, by decide +kernel⟩, List.mem_of_getElem? (i := 14) (by decide +kernel), List.mem_of_getElem? (i := 272) (by decide +kernel), List.mem_of_getElem? (i := 273) (by decide +kernel)⟩
theorem lw_p1 : lw_okq (⟨"DailyRelief", "isBunk", "(I)Z"⟩, 8) := ⟨⟨by decide +kernel, by decide +kernel⟩, List.mem_of_getElem? (i := 14) (by decide +kernel), List.mem_of_getElem? (i := 293) (by decide +kernel), List.mem_of_getElem? (i := 294) (by decide +kernel)⟩
theorem lw_p2 : lw_okq (⟨"DailyRelief$Ship", "pay", "(LDailyRelief$Bunk;)I"⟩, 16) := ⟨⟨by decide +kernel, by decide +kernel⟩, List.mem_of_getElem? (i := 22) (by decide +kernel), List.mem_of_getElem? (i := 301) (by decide +kernel), List.mem_of_getElem? (i := 302) (by decide +kernel)⟩
theorem lw_p3 : lw_okq (⟨"DailyRelief$Ship", "ofKnack", "(LDailyRelief$Bunk;II)I"⟩, 16) := ⟨⟨by decide +kernel, by decide +kernel⟩, List.mem_of_getElem? (i := 22) (by decide +kernel), List.mem_of_getElem? (i := 324) (by decide +kernel), List.mem_of_getElem? (i := 325) (by decide +kernel)⟩
theorem lw_p4 : lw_okq (⟨"DailyRelief$Ship", "needs", "(LDailyRelief$Bunk;I)I"⟩, 16) := ⟨⟨by decide +kernel, by decide +kernel⟩, List.mem_of_getElem? (i := 22) (by decide +kernel), List.mem_of_getElem? (i := 328) (by decide +kernel), List.mem_of_getElem? (i := 329) (by decide +kernel)⟩
theorem lw_p5 : lw_okq (⟨"DailyRelief$TextReader", "readT", "(I)V"⟩, 7) := ⟨⟨by decide +kernel, by decide +kernel⟩, List.mem_of_getElem? (i := 163) (by decide +kernel), List.mem_of_getElem? (i := 411) (by decide +kernel), List.mem_of_getElem? (i := 412) (by decide +kernel)⟩
theorem lw_p6 : lw_okq (⟨"DailyRelief$TextReader", "readA", "(I)V"⟩, 7) := ⟨⟨by decide +kernel, by decide +kernel⟩, List.mem_of_getElem? (i := 163) (by decide +kernel), List.mem_of_getElem? (i := 415) (by decide +kernel), List.mem_of_getElem? (i := 416) (by decide +kernel)⟩
theorem lw_p7 : lw_okq (⟨"DailyRelief$TextReader", "readB", "(I)V"⟩, 7) := ⟨⟨by decide +kernel, by decide +kernel⟩, List.mem_of_getElem? (i := 163) (by decide +kernel), List.mem_of_getElem? (i := 419) (by decide +kernel), List.mem_of_getElem? (i := 420) (by decide +kernel)⟩
theorem lw_p8 : lw_okq (⟨"DailyRelief$TextReader", "readS", "(I)V"⟩, 7) := ⟨⟨by decide +kernel, by decide +kernel⟩, List.mem_of_getElem? (i := 163) (by decide +kernel), List.mem_of_getElem? (i := 423) (by decide +kernel), List.mem_of_getElem? (i := 424) (by decide +kernel)⟩
theorem lw_p9 : lw_okq (⟨"DailyRelief$TextReader", "readP", "(I)V"⟩, 7) := ⟨⟨by decide +kernel, by decide +kernel⟩, List.mem_of_getElem? (i := 163) (by decide +kernel), List.mem_of_getElem? (i := 427) (by decide +kernel), List.mem_of_getElem? (i := 428) (by decide +kernel)⟩
theorem lw_p10 : lw_okq (⟨"DailyRelief$TextReader", "readQ", "(I)V"⟩, 7) := ⟨⟨by decide +kernel, by decide +kernel⟩, List.mem_of_getElem? (i := 163) (by decide +kernel), List.mem_of_getElem? (i := 431) (by decide +kernel), List.mem_of_getElem? (i := 432) (by decide +kernel)⟩
theorem lw_p11 : lw_okq (⟨"DailyRelief$TextReader", "ahead", "()I"⟩, 7) := ⟨⟨by decide +kernel, by decide +kernel⟩, List.mem_of_getElem? (i := 163) (by decide +kernel), List.mem_of_getElem? (i := 435) (by decide +kernel), List.mem_of_getElem? (i := 436) (by decide +kernel)⟩
theorem lw_p12 : lw_okq (⟨"DailyRelief$TextReader", "readNumber", "()V"⟩, 7) := ⟨⟨by decide +kernel, by decide +kernel⟩, List.mem_of_getElem? (i := 163) (by decide +kernel), List.mem_of_getElem? (i := 442) (by decide +kernel), List.mem_of_getElem? (i := 443) (by decide +kernel)⟩
theorem lw_p13 : lw_okq (⟨"DailyRelief$TextReader", "step", "(I)V"⟩, 7) := ⟨⟨by decide +kernel, by decide +kernel⟩, List.mem_of_getElem? (i := 163) (by decide +kernel), List.mem_of_getElem? (i := 446) (by decide +kernel), List.mem_of_getElem? (i := 447) (by decide +kernel)⟩
theorem lw_p14 : lw_okq (⟨"DailyRelief$TextReader", "takes", "(I)Z"⟩, 7) := ⟨⟨by decide +kernel, by decide +kernel⟩, List.mem_of_getElem? (i := 163) (by decide +kernel), List.mem_of_getElem? (i := 450) (by decide +kernel), List.mem_of_getElem? (i := 451) (by decide +kernel)⟩
theorem lw_p15 : lw_okq (⟨"DailyRelief$TextReader", "fail", "()V"⟩, 7) := ⟨⟨by decide +kernel, by decide +kernel⟩, List.mem_of_getElem? (i := 163) (by decide +kernel), List.mem_of_getElem? (i := 454) (by decide +kernel), List.mem_of_getElem? (i := 455) (by decide +kernel)⟩
def lw_privs_1 : List (MethodName × Nat) := [(⟨"DailyRelief", "error", "(I)I"⟩, 8), (⟨"DailyRelief", "isBunk", "(I)Z"⟩, 8), (⟨"DailyRelief$Ship", "pay", "(LDailyRelief$Bunk;)I"⟩, 16), (⟨"DailyRelief$Ship", "ofKnack", "(LDailyRelief$Bunk;II)I"⟩, 16), (⟨"DailyRelief$Ship", "needs", "(LDailyRelief$Bunk;I)I"⟩, 16), (⟨"DailyRelief$TextReader", "readT", "(I)V"⟩, 7), (⟨"DailyRelief$TextReader", "readA", "(I)V"⟩, 7), (⟨"DailyRelief$TextReader", "readB", "(I)V"⟩, 7), (⟨"DailyRelief$TextReader", "readS", "(I)V"⟩, 7), (⟨"DailyRelief$TextReader", "readP", "(I)V"⟩, 7), (⟨"DailyRelief$TextReader", "readQ", "(I)V"⟩, 7), (⟨"DailyRelief$TextReader", "ahead", "()I"⟩, 7), (⟨"DailyRelief$TextReader", "readNumber", "()V"⟩, 7), (⟨"DailyRelief$TextReader", "step", "(I)V"⟩, 7), (⟨"DailyRelief$TextReader", "takes", "(I)Z"⟩, 7), (⟨"DailyRelief$TextReader", "fail", "()V"⟩, 7)]
theorem lw_r1 : ∀ q ∈ lw_privs_1, lw_okq q := List.forall_mem_cons.mpr ⟨lw_p0, List.forall_mem_cons.mpr ⟨lw_p1, List.forall_mem_cons.mpr ⟨lw_p2, List.forall_mem_cons.mpr ⟨lw_p3, List.forall_mem_cons.mpr ⟨lw_p4, List.forall_mem_cons.mpr ⟨lw_p5, List.forall_mem_cons.mpr ⟨lw_p6, List.forall_mem_cons.mpr ⟨lw_p7, List.forall_mem_cons.mpr ⟨lw_p8, List.forall_mem_cons.mpr ⟨lw_p9, List.forall_mem_cons.mpr ⟨lw_p10, List.forall_mem_cons.mpr ⟨lw_p11, List.forall_mem_cons.mpr ⟨lw_p12, List.forall_mem_cons.mpr ⟨lw_p13, List.forall_mem_cons.mpr ⟨lw_p14, List.forall_mem_cons.mpr ⟨lw_p15, fun _ h => absurd h List.not_mem_nil⟩⟩⟩⟩⟩⟩⟩⟩⟩⟩⟩⟩⟩⟩⟩⟩
theorem lw_p16 : lw_okq (⟨"DailyRelief$Ship", "relieve", "()I"⟩, 16) := ⟨⟨by decide +kernel, by decide +kernel⟩, List.mem_of_getElem? (i := 22) (by decide +kernel), List.mem_of_getElem? (i := 486) (by decide +kernel), List.mem_of_getElem? (i := 487) (by decide +kernel)⟩
theorem lw_p17 : lw_okq (⟨"DailyRelief$Ship", "teachAll", "(Z)I"⟩, 16) := ⟨⟨by decide +kernel, by decide +kernel⟩, List.mem_of_getElem? (i := 22) (by decide +kernel), List.mem_of_getElem? (i := 499) (by decide +kernel), List.mem_of_getElem? (i := 500) (by decide +kernel)⟩
theorem lw_p18 : lw_okq (⟨"DailyRelief$Ship", "teach", "(LDailyRelief$Bunk;LDailyRelief$Bunk;Z)I"⟩, 16) := ⟨⟨by decide +kernel, by decide +kernel⟩, List.mem_of_getElem? (i := 22) (by decide +kernel), List.mem_of_getElem? (i := 503) (by decide +kernel), List.mem_of_getElem? (i := 504) (by decide +kernel)⟩
theorem lw_p19 : lw_okq (⟨"DailyRelief$Ship", "draw", "()I"⟩, 16) := ⟨⟨by decide +kernel, by decide +kernel⟩, List.mem_of_getElem? (i := 22) (by decide +kernel), List.mem_of_getElem? (i := 508) (by decide +kernel), List.mem_of_getElem? (i := 509) (by decide +kernel)⟩
theorem lw_p20 : lw_okq (⟨"DailyRelief$Ship", "endDay", "()V"⟩, 16) := ⟨⟨by decide +kernel, by decide +kernel⟩, List.mem_of_getElem? (i := 22) (by decide +kernel), List.mem_of_getElem? (i := 520) (by decide +kernel), List.mem_of_getElem? (i := 521) (by decide +kernel)⟩
theorem lw_p21 : lw_okq (⟨"DailyRelief", "goAhead", "(I)V"⟩, 8) := ⟨⟨by decide +kernel, by decide +kernel⟩, List.mem_of_getElem? (i := 14) (by decide +kernel), List.mem_of_getElem? (i := 550) (by decide +kernel), List.mem_of_getElem? (i := 551) (by decide +kernel)⟩
theorem lw_p22 : lw_okq (⟨"DailyRelief", "staysKnown", "(III)Z"⟩, 8) := ⟨⟨by decide +kernel, by decide +kernel⟩, List.mem_of_getElem? (i := 14) (by decide +kernel), List.mem_of_getElem? (i := 582) (by decide +kernel), List.mem_of_getElem? (i := 583) (by decide +kernel)⟩
theorem lw_p23 : lw_okq (⟨"DailyRelief", "doneWithBook", "(II)I"⟩, 8) := ⟨⟨by decide +kernel, by decide +kernel⟩, List.mem_of_getElem? (i := 14) (by decide +kernel), List.mem_of_getElem? (i := 602) (by decide +kernel), List.mem_of_getElem? (i := 603) (by decide +kernel)⟩
theorem lw_p24 : lw_okq (⟨"DailyRelief$Voices", "speakFrom", "(IIII)I"⟩, 6) := ⟨⟨by decide +kernel, by decide +kernel⟩, List.mem_of_getElem? (i := 192) (by decide +kernel), List.mem_of_getElem? (i := 639) (by decide +kernel), List.mem_of_getElem? (i := 640) (by decide +kernel)⟩
theorem lw_p25 : lw_okq (⟨"DailyRelief$Voices", "run", "(III)I"⟩, 6) := ⟨⟨by decide +kernel, by decide +kernel⟩, List.mem_of_getElem? (i := 192) (by decide +kernel), List.mem_of_getElem? (i := 645) (by decide +kernel), List.mem_of_getElem? (i := 646) (by decide +kernel)⟩
theorem lw_p26 : lw_okq (⟨"DailyRelief$Voices", "begin", "(I)V"⟩, 6) := ⟨⟨by decide +kernel, by decide +kernel⟩, List.mem_of_getElem? (i := 192) (by decide +kernel), List.mem_of_getElem? (i := 649) (by decide +kernel), List.mem_of_getElem? (i := 650) (by decide +kernel)⟩
theorem lw_p27 : lw_okq (⟨"DailyRelief$Voices", "own", "(III)I"⟩, 6) := ⟨⟨by decide +kernel, by decide +kernel⟩, List.mem_of_getElem? (i := 192) (by decide +kernel), List.mem_of_getElem? (i := 653) (by decide +kernel), List.mem_of_getElem? (i := 654) (by decide +kernel)⟩
theorem lw_p28 : lw_okq (⟨"DailyRelief$Voices", "part", "(II)I"⟩, 6) := ⟨⟨by decide +kernel, by decide +kernel⟩, List.mem_of_getElem? (i := 192) (by decide +kernel), List.mem_of_getElem? (i := 657) (by decide +kernel), List.mem_of_getElem? (i := 658) (by decide +kernel)⟩
theorem lw_p29 : lw_okq (⟨"DailyRelief$Voices", "above", "(IIII)I"⟩, 6) := ⟨⟨by decide +kernel, by decide +kernel⟩, List.mem_of_getElem? (i := 192) (by decide +kernel), List.mem_of_getElem? (i := 661) (by decide +kernel), List.mem_of_getElem? (i := 662) (by decide +kernel)⟩
theorem lw_p30 : lw_okq (⟨"DailyReliefModel", "errs", "(I)I"⟩, 22) := ⟨⟨by decide +kernel, by decide +kernel⟩, List.mem_of_getElem? (i := 738) (by decide +kernel), List.mem_of_getElem? (i := 823) (by decide +kernel), List.mem_of_getElem? (i := 824) (by decide +kernel)⟩
theorem lw_p31 : lw_okq (⟨"DailyReliefModel", "comes", "(IIIII)V"⟩, 22) := ⟨⟨by decide +kernel, by decide +kernel⟩, List.mem_of_getElem? (i := 738) (by decide +kernel), List.mem_of_getElem? (i := 828) (by decide +kernel), List.mem_of_getElem? (i := 829) (by decide +kernel)⟩
def lw_privs_2 : List (MethodName × Nat) := [(⟨"DailyRelief$Ship", "relieve", "()I"⟩, 16), (⟨"DailyRelief$Ship", "teachAll", "(Z)I"⟩, 16), (⟨"DailyRelief$Ship", "teach", "(LDailyRelief$Bunk;LDailyRelief$Bunk;Z)I"⟩, 16), (⟨"DailyRelief$Ship", "draw", "()I"⟩, 16), (⟨"DailyRelief$Ship", "endDay", "()V"⟩, 16), (⟨"DailyRelief", "goAhead", "(I)V"⟩, 8), (⟨"DailyRelief", "staysKnown", "(III)Z"⟩, 8), (⟨"DailyRelief", "doneWithBook", "(II)I"⟩, 8), (⟨"DailyRelief$Voices", "speakFrom", "(IIII)I"⟩, 6), (⟨"DailyRelief$Voices", "run", "(III)I"⟩, 6), (⟨"DailyRelief$Voices", "begin", "(I)V"⟩, 6), (⟨"DailyRelief$Voices", "own", "(III)I"⟩, 6), (⟨"DailyRelief$Voices", "part", "(II)I"⟩, 6), (⟨"DailyRelief$Voices", "above", "(IIII)I"⟩, 6), (⟨"DailyReliefModel", "errs", "(I)I"⟩, 22), (⟨"DailyReliefModel", "comes", "(IIIII)V"⟩, 22)]
theorem lw_r2 : ∀ q ∈ lw_privs_2, lw_okq q := List.forall_mem_cons.mpr ⟨lw_p16, List.forall_mem_cons.mpr ⟨lw_p17, List.forall_mem_cons.mpr ⟨lw_p18, List.forall_mem_cons.mpr ⟨lw_p19, List.forall_mem_cons.mpr ⟨lw_p20, List.forall_mem_cons.mpr ⟨lw_p21, List.forall_mem_cons.mpr ⟨lw_p22, List.forall_mem_cons.mpr ⟨lw_p23, List.forall_mem_cons.mpr ⟨lw_p24, List.forall_mem_cons.mpr ⟨lw_p25, List.forall_mem_cons.mpr ⟨lw_p26, List.forall_mem_cons.mpr ⟨lw_p27, List.forall_mem_cons.mpr ⟨lw_p28, List.forall_mem_cons.mpr ⟨lw_p29, List.forall_mem_cons.mpr ⟨lw_p30, List.forall_mem_cons.mpr ⟨lw_p31, fun _ h => absurd h List.not_mem_nil⟩⟩⟩⟩⟩⟩⟩⟩⟩⟩⟩⟩⟩⟩⟩⟩
theorem lw_p32 : lw_okq (⟨"DailyReliefModel", "isBunk", "(I)Z"⟩, 22) := ⟨⟨by decide +kernel, by decide +kernel⟩, List.mem_of_getElem? (i := 738) (by decide +kernel), List.mem_of_getElem? (i := 842) (by decide +kernel), List.mem_of_getElem? (i := 843) (by decide +kernel)⟩
theorem lw_p33 : lw_okq (⟨"DailyReliefModel", "ofMan", "(II)I"⟩, 22) := ⟨⟨by decide +kernel, by decide +kernel⟩, List.mem_of_getElem? (i := 738) (by decide +kernel), List.mem_of_getElem? (i := 847) (by decide +kernel), List.mem_of_getElem? (i := 848) (by decide +kernel)⟩
theorem lw_p34 : lw_okq (⟨"DailyReliefModel", "its", "(II)I"⟩, 22) := ⟨⟨by decide +kernel, by decide +kernel⟩, List.mem_of_getElem? (i := 738) (by decide +kernel), List.mem_of_getElem? (i := 851) (by decide +kernel), List.mem_of_getElem? (i := 852) (by decide +kernel)⟩
theorem lw_p35 : lw_okq (⟨"DailyReliefModel", "wagesOf", "(I)I"⟩, 22) := ⟨⟨by decide +kernel, by decide +kernel⟩, List.mem_of_getElem? (i := 738) (by decide +kernel), List.mem_of_getElem? (i := 855) (by decide +kernel), List.mem_of_getElem? (i := 856) (by decide +kernel)⟩
theorem lw_p36 : lw_okq (⟨"DailyReliefModel", "worked", "(IIIII)I"⟩, 22) := ⟨⟨by decide +kernel, by decide +kernel⟩, List.mem_of_getElem? (i := 738) (by decide +kernel), List.mem_of_getElem? (i := 862) (by decide +kernel), List.mem_of_getElem? (i := 863) (by decide +kernel)⟩
theorem lw_p37 : lw_okq (⟨"DailyReliefModel", "needs", "(II)I"⟩, 22) := ⟨⟨by decide +kernel, by decide +kernel⟩, List.mem_of_getElem? (i := 738) (by decide +kernel), List.mem_of_getElem? (i := 872) (by decide +kernel), List.mem_of_getElem? (i := 873) (by decide +kernel)⟩
theorem lw_p38 : lw_okq (⟨"DailyReliefModel", "isKnowing", "(II)Z"⟩, 22) := ⟨⟨by decide +kernel, by decide +kernel⟩, List.mem_of_getElem? (i := 738) (by decide +kernel), List.mem_of_getElem? (i := 897) (by decide +kernel), List.mem_of_getElem? (i := 898) (by decide +kernel)⟩
theorem lw_p39 : lw_okq (⟨"DailyReliefModel", "rosterWrong", "(II)I"⟩, 22) := ⟨⟨by decide +kernel, by decide +kernel⟩, List.mem_of_getElem? (i := 738) (by decide +kernel), List.mem_of_getElem? (i := 905) (by decide +kernel), List.mem_of_getElem? (i := 906) (by decide +kernel)⟩
theorem lw_p40 : lw_okq (⟨"DailyReliefModel", "rostered", "(II)V"⟩, 22) := ⟨⟨by decide +kernel, by decide +kernel⟩, List.mem_of_getElem? (i := 738) (by decide +kernel), List.mem_of_getElem? (i := 913) (by decide +kernel), List.mem_of_getElem? (i := 914) (by decide +kernel)⟩
theorem lw_p41 : lw_okq (⟨"DailyReliefModel", "ofTask", "(II)I"⟩, 22) := ⟨⟨by decide +kernel, by decide +kernel⟩, List.mem_of_getElem? (i := 738) (by decide +kernel), List.mem_of_getElem? (i := 926) (by decide +kernel), List.mem_of_getElem? (i := 927) (by decide +kernel)⟩
theorem lw_p42 : lw_okq (⟨"DailyReliefModel", "toldTask", "(II)I"⟩, 22) := ⟨⟨by decide +kernel, by decide +kernel⟩, List.mem_of_getElem? (i := 738) (by decide +kernel), List.mem_of_getElem? (i := 938) (by decide +kernel), List.mem_of_getElem? (i := 939) (by decide +kernel)⟩
theorem lw_p43 : lw_okq (⟨"DailyReliefModel", "knowers", "(I)I"⟩, 22) := ⟨⟨by decide +kernel, by decide +kernel⟩, List.mem_of_getElem? (i := 738) (by decide +kernel), List.mem_of_getElem? (i := 942) (by decide +kernel), List.mem_of_getElem? (i := 943) (by decide +kernel)⟩
theorem lw_p44 : lw_okq (⟨"DailyReliefModel", "readsText", "()V"⟩, 22) := ⟨⟨by decide +kernel, by decide +kernel⟩, List.mem_of_getElem? (i := 738) (by decide +kernel), List.mem_of_getElem? (i := 956) (by decide +kernel), List.mem_of_getElem? (i := 957) (by decide +kernel)⟩
theorem lw_p45 : lw_okq (⟨"DailyReliefModel", "readsAll", "()V"⟩, 22) := ⟨⟨by decide +kernel, by decide +kernel⟩, List.mem_of_getElem? (i := 738) (by decide +kernel), List.mem_of_getElem? (i := 960) (by decide +kernel), List.mem_of_getElem? (i := 961) (by decide +kernel)⟩
theorem lw_p46 : lw_okq (⟨"DailyReliefModel", "readsComparison", "()V"⟩, 22) := ⟨⟨by decide +kernel, by decide +kernel⟩, List.mem_of_getElem? (i := 738) (by decide +kernel), List.mem_of_getElem? (i := 964) (by decide +kernel), List.mem_of_getElem? (i := 965) (by decide +kernel)⟩
theorem lw_p47 : lw_okq (⟨"DailyReliefModel", "readsSum", "()V"⟩, 22) := ⟨⟨by decide +kernel, by decide +kernel⟩, List.mem_of_getElem? (i := 738) (by decide +kernel), List.mem_of_getElem? (i := 968) (by decide +kernel), List.mem_of_getElem? (i := 969) (by decide +kernel)⟩
def lw_privs_3 : List (MethodName × Nat) := [(⟨"DailyReliefModel", "isBunk", "(I)Z"⟩, 22), (⟨"DailyReliefModel", "ofMan", "(II)I"⟩, 22), (⟨"DailyReliefModel", "its", "(II)I"⟩, 22), (⟨"DailyReliefModel", "wagesOf", "(I)I"⟩, 22), (⟨"DailyReliefModel", "worked", "(IIIII)I"⟩, 22), (⟨"DailyReliefModel", "needs", "(II)I"⟩, 22), (⟨"DailyReliefModel", "isKnowing", "(II)Z"⟩, 22), (⟨"DailyReliefModel", "rosterWrong", "(II)I"⟩, 22), (⟨"DailyReliefModel", "rostered", "(II)V"⟩, 22), (⟨"DailyReliefModel", "ofTask", "(II)I"⟩, 22), (⟨"DailyReliefModel", "toldTask", "(II)I"⟩, 22), (⟨"DailyReliefModel", "knowers", "(I)I"⟩, 22), (⟨"DailyReliefModel", "readsText", "()V"⟩, 22), (⟨"DailyReliefModel", "readsAll", "()V"⟩, 22), (⟨"DailyReliefModel", "readsComparison", "()V"⟩, 22), (⟨"DailyReliefModel", "readsSum", "()V"⟩, 22)]
theorem lw_r3 : ∀ q ∈ lw_privs_3, lw_okq q := List.forall_mem_cons.mpr ⟨lw_p32, List.forall_mem_cons.mpr ⟨lw_p33, List.forall_mem_cons.mpr ⟨lw_p34, List.forall_mem_cons.mpr ⟨lw_p35, List.forall_mem_cons.mpr ⟨lw_p36, List.forall_mem_cons.mpr ⟨lw_p37, List.forall_mem_cons.mpr ⟨lw_p38, List.forall_mem_cons.mpr ⟨lw_p39, List.forall_mem_cons.mpr ⟨lw_p40, List.forall_mem_cons.mpr ⟨lw_p41, List.forall_mem_cons.mpr ⟨lw_p42, List.forall_mem_cons.mpr ⟨lw_p43, List.forall_mem_cons.mpr ⟨lw_p44, List.forall_mem_cons.mpr ⟨lw_p45, List.forall_mem_cons.mpr ⟨lw_p46, List.forall_mem_cons.mpr ⟨lw_p47, fun _ h => absurd h List.not_mem_nil⟩⟩⟩⟩⟩⟩⟩⟩⟩⟩⟩⟩⟩⟩⟩⟩
theorem lw_p48 : lw_okq (⟨"DailyReliefModel", "readsProduct", "()V"⟩, 22) := ⟨⟨by decide +kernel, by decide +kernel⟩, List.mem_of_getElem? (i := 738) (by decide +kernel), List.mem_of_getElem? (i := 972) (by decide +kernel), List.mem_of_getElem? (i := 973) (by decide +kernel)⟩
theorem lw_p49 : lw_okq (⟨"DailyReliefModel", "readsOne", "()V"⟩, 22) := ⟨⟨by decide +kernel, by decide +kernel⟩, List.mem_of_getElem? (i := 738) (by decide +kernel), List.mem_of_getElem? (i := 976) (by decide +kernel), List.mem_of_getElem? (i := 977) (by decide +kernel)⟩
theorem lw_p50 : lw_okq (⟨"DailyReliefModel", "nameHere", "()I"⟩, 22) := ⟨⟨by decide +kernel, by decide +kernel⟩, List.mem_of_getElem? (i := 738) (by decide +kernel), List.mem_of_getElem? (i := 980) (by decide +kernel), List.mem_of_getElem? (i := 981) (by decide +kernel)⟩
theorem lw_p51 : lw_okq (⟨"DailyReliefModel", "byteHere", "()I"⟩, 22) := ⟨⟨by decide +kernel, by decide +kernel⟩, List.mem_of_getElem? (i := 738) (by decide +kernel), List.mem_of_getElem? (i := 984) (by decide +kernel), List.mem_of_getElem? (i := 985) (by decide +kernel)⟩
theorem lw_p52 : lw_okq (⟨"DailyReliefModel", "isDigitHere", "()Z"⟩, 22) := ⟨⟨by decide +kernel, by decide +kernel⟩, List.mem_of_getElem? (i := 738) (by decide +kernel), List.mem_of_getElem? (i := 988) (by decide +kernel), List.mem_of_getElem? (i := 989) (by decide +kernel)⟩
theorem lw_p53 : lw_okq (⟨"DailyReliefModel", "readsNumber", "()V"⟩, 22) := ⟨⟨by decide +kernel, by decide +kernel⟩, List.mem_of_getElem? (i := 738) (by decide +kernel), List.mem_of_getElem? (i := 994) (by decide +kernel), List.mem_of_getElem? (i := 995) (by decide +kernel)⟩
theorem lw_p54 : lw_okq (⟨"DailyReliefModel", "writes", "(I)V"⟩, 22) := ⟨⟨by decide +kernel, by decide +kernel⟩, List.mem_of_getElem? (i := 738) (by decide +kernel), List.mem_of_getElem? (i := 998) (by decide +kernel), List.mem_of_getElem? (i := 999) (by decide +kernel)⟩
theorem lw_p55 : lw_okq (⟨"DailyReliefModel", "isHere", "(I)Z"⟩, 22) := ⟨⟨by decide +kernel, by decide +kernel⟩, List.mem_of_getElem? (i := 738) (by decide +kernel), List.mem_of_getElem? (i := 1002) (by decide +kernel), List.mem_of_getElem? (i := 1003) (by decide +kernel)⟩
theorem lw_p56 : lw_okq (⟨"DailyReliefModel", "daysWrong", "(I)I"⟩, 22) := ⟨⟨by decide +kernel, by decide +kernel⟩, List.mem_of_getElem? (i := 738) (by decide +kernel), List.mem_of_getElem? (i := 1014) (by decide +kernel), List.mem_of_getElem? (i := 1015) (by decide +kernel)⟩
theorem lw_p57 : lw_okq (⟨"DailyReliefModel", "daysGo", "(IZ)V"⟩, 22) := ⟨⟨by decide +kernel, by decide +kernel⟩, List.mem_of_getElem? (i := 738) (by decide +kernel), List.mem_of_getElem? (i := 1023) (by decide +kernel), List.mem_of_getElem? (i := 1024) (by decide +kernel)⟩
theorem lw_p58 : lw_okq (⟨"DailyReliefModel", "day", "(Z)V"⟩, 22) := ⟨⟨by decide +kernel, by decide +kernel⟩, List.mem_of_getElem? (i := 738) (by decide +kernel), List.mem_of_getElem? (i := 1027) (by decide +kernel), List.mem_of_getElem? (i := 1028) (by decide +kernel)⟩
theorem lw_p59 : lw_okq (⟨"DailyReliefModel", "relieves", "()V"⟩, 22) := ⟨⟨by decide +kernel, by decide +kernel⟩, List.mem_of_getElem? (i := 738) (by decide +kernel), List.mem_of_getElem? (i := 1031) (by decide +kernel), List.mem_of_getElem? (i := 1032) (by decide +kernel)⟩
theorem lw_p60 : lw_okq (⟨"DailyReliefModel", "isStaying", "(I)Z"⟩, 22) := ⟨⟨by decide +kernel, by decide +kernel⟩, List.mem_of_getElem? (i := 738) (by decide +kernel), List.mem_of_getElem? (i := 1035) (by decide +kernel), List.mem_of_getElem? (i := 1036) (by decide +kernel)⟩
theorem lw_p61 : lw_okq (⟨"DailyReliefModel", "lesson", "(IZ)V"⟩, 22) := ⟨⟨by decide +kernel, by decide +kernel⟩, List.mem_of_getElem? (i := 738) (by decide +kernel), List.mem_of_getElem? (i := 1039) (by decide +kernel), List.mem_of_getElem? (i := 1040) (by decide +kernel)⟩
theorem lw_p62 : lw_okq (⟨"DailyReliefModel", "isMute", "(I)Z"⟩, 22) := ⟨⟨by decide +kernel, by decide +kernel⟩, List.mem_of_getElem? (i := 738) (by decide +kernel), List.mem_of_getElem? (i := 1043) (by decide +kernel), List.mem_of_getElem? (i := 1044) (by decide +kernel)⟩
theorem lw_p63 : lw_okq (⟨"DailyReliefModel", "tells", "(II)I"⟩, 22) := ⟨⟨by decide +kernel, by decide +kernel⟩, List.mem_of_getElem? (i := 738) (by decide +kernel), List.mem_of_getElem? (i := 1047) (by decide +kernel), List.mem_of_getElem? (i := 1048) (by decide +kernel)⟩
def lw_privs_4 : List (MethodName × Nat) := [(⟨"DailyReliefModel", "readsProduct", "()V"⟩, 22), (⟨"DailyReliefModel", "readsOne", "()V"⟩, 22), (⟨"DailyReliefModel", "nameHere", "()I"⟩, 22), (⟨"DailyReliefModel", "byteHere", "()I"⟩, 22), (⟨"DailyReliefModel", "isDigitHere", "()Z"⟩, 22), (⟨"DailyReliefModel", "readsNumber", "()V"⟩, 22), (⟨"DailyReliefModel", "writes", "(I)V"⟩, 22), (⟨"DailyReliefModel", "isHere", "(I)Z"⟩, 22), (⟨"DailyReliefModel", "daysWrong", "(I)I"⟩, 22), (⟨"DailyReliefModel", "daysGo", "(IZ)V"⟩, 22), (⟨"DailyReliefModel", "day", "(Z)V"⟩, 22), (⟨"DailyReliefModel", "relieves", "()V"⟩, 22), (⟨"DailyReliefModel", "isStaying", "(I)Z"⟩, 22), (⟨"DailyReliefModel", "lesson", "(IZ)V"⟩, 22), (⟨"DailyReliefModel", "isMute", "(I)Z"⟩, 22), (⟨"DailyReliefModel", "tells", "(II)I"⟩, 22)]
theorem lw_r4 : ∀ q ∈ lw_privs_4, lw_okq q := List.forall_mem_cons.mpr ⟨lw_p48, List.forall_mem_cons.mpr ⟨lw_p49, List.forall_mem_cons.mpr ⟨lw_p50, List.forall_mem_cons.mpr ⟨lw_p51, List.forall_mem_cons.mpr ⟨lw_p52, List.forall_mem_cons.mpr ⟨lw_p53, List.forall_mem_cons.mpr ⟨lw_p54, List.forall_mem_cons.mpr ⟨lw_p55, List.forall_mem_cons.mpr ⟨lw_p56, List.forall_mem_cons.mpr ⟨lw_p57, List.forall_mem_cons.mpr ⟨lw_p58, List.forall_mem_cons.mpr ⟨lw_p59, List.forall_mem_cons.mpr ⟨lw_p60, List.forall_mem_cons.mpr ⟨lw_p61, List.forall_mem_cons.mpr ⟨lw_p62, List.forall_mem_cons.mpr ⟨lw_p63, fun _ h => absurd h List.not_mem_nil⟩⟩⟩⟩⟩⟩⟩⟩⟩⟩⟩⟩⟩⟩⟩⟩
theorem lw_p64 : lw_okq (⟨"DailyReliefModel", "draw", "()I"⟩, 22) := ⟨⟨by decide +kernel, by decide +kernel⟩, List.mem_of_getElem? (i := 738) (by decide +kernel), List.mem_of_getElem? (i := 1051) (by decide +kernel), List.mem_of_getElem? (i := 1052) (by decide +kernel)⟩
theorem lw_p65 : lw_okq (⟨"DailyReliefModel", "keepsAside", "()V"⟩, 22) := ⟨⟨by decide +kernel, by decide +kernel⟩, List.mem_of_getElem? (i := 738) (by decide +kernel), List.mem_of_getElem? (i := 1074) (by decide +kernel), List.mem_of_getElem? (i := 1075) (by decide +kernel)⟩
theorem lw_p66 : lw_okq (⟨"DailyReliefModel", "putsBack", "()V"⟩, 22) := ⟨⟨by decide +kernel, by decide +kernel⟩, List.mem_of_getElem? (i := 738) (by decide +kernel), List.mem_of_getElem? (i := 1078) (by decide +kernel), List.mem_of_getElem? (i := 1079) (by decide +kernel)⟩
theorem lw_p67 : lw_okq (⟨"DailyReliefModel", "isKept", "(III)Z"⟩, 22) := ⟨⟨by decide +kernel, by decide +kernel⟩, List.mem_of_getElem? (i := 738) (by decide +kernel), List.mem_of_getElem? (i := 1096) (by decide +kernel), List.mem_of_getElem? (i := 1097) (by decide +kernel)⟩
theorem lw_p68 : lw_okq (⟨"DailyReliefModel", "isDoneWithout", "(II)Z"⟩, 22) := ⟨⟨by decide +kernel, by decide +kernel⟩, List.mem_of_getElem? (i := 738) (by decide +kernel), List.mem_of_getElem? (i := 1104) (by decide +kernel), List.mem_of_getElem? (i := 1105) (by decide +kernel)⟩
theorem lw_p69 : lw_okq (⟨"DailyReliefModel", "doneIn", "(II)I"⟩, 22) := ⟨⟨by decide +kernel, by decide +kernel⟩, List.mem_of_getElem? (i := 738) (by decide +kernel), List.mem_of_getElem? (i := 1112) (by decide +kernel), List.mem_of_getElem? (i := 1113) (by decide +kernel)⟩
theorem lw_p70 : lw_okq (⟨"DailyReliefModel", "hearing", "(I)I"⟩, 22) := ⟨⟨by decide +kernel, by decide +kernel⟩, List.mem_of_getElem? (i := 738) (by decide +kernel), List.mem_of_getElem? (i := 1139) (by decide +kernel), List.mem_of_getElem? (i := 1140) (by decide +kernel)⟩
theorem lw_p71 : lw_okq (⟨"DailyReliefModel", "runs", "(I)V"⟩, 22) := ⟨⟨by decide +kernel, by decide +kernel⟩, List.mem_of_getElem? (i := 738) (by decide +kernel), List.mem_of_getElem? (i := 1143) (by decide +kernel), List.mem_of_getElem? (i := 1144) (by decide +kernel)⟩
theorem lw_p72 : lw_okq (⟨"DailyReliefModel", "telling", "(I)I"⟩, 22) := ⟨⟨by decide +kernel, by decide +kernel⟩, List.mem_of_getElem? (i := 738) (by decide +kernel), List.mem_of_getElem? (i := 1147) (by decide +kernel), List.mem_of_getElem? (i := 1148) (by decide +kernel)⟩
theorem lw_p73 : lw_okq (⟨"DailyReliefModel", "bunking", "(I)I"⟩, 22) := ⟨⟨by decide +kernel, by decide +kernel⟩, List.mem_of_getElem? (i := 738) (by decide +kernel), List.mem_of_getElem? (i := 1151) (by decide +kernel), List.mem_of_getElem? (i := 1152) (by decide +kernel)⟩
theorem lw_p74 : lw_okq (⟨"DailyReliefModel", "parting", "(I)I"⟩, 22) := ⟨⟨by decide +kernel, by decide +kernel⟩, List.mem_of_getElem? (i := 738) (by decide +kernel), List.mem_of_getElem? (i := 1155) (by decide +kernel), List.mem_of_getElem? (i := 1156) (by decide +kernel)⟩
theorem lw_p75 : lw_okq (⟨"DailyReliefModel", "wrong", "(I)I"⟩, 22) := ⟨⟨by decide +kernel, by decide +kernel⟩, List.mem_of_getElem? (i := 738) (by decide +kernel), List.mem_of_getElem? (i := 1175) (by decide +kernel), List.mem_of_getElem? (i := 1176) (by decide +kernel)⟩
theorem lw_p76 : lw_okq (⟨"DailyReliefModel", "isStanding", "(III)Z"⟩, 22) := ⟨⟨by decide +kernel, by decide +kernel⟩, List.mem_of_getElem? (i := 738) (by decide +kernel), List.mem_of_getElem? (i := 1183) (by decide +kernel), List.mem_of_getElem? (i := 1184) (by decide +kernel)⟩
theorem lw_p77 : lw_okq (⟨"DailyReliefModel", "knownByAny", "()I"⟩, 22) := ⟨⟨by decide +kernel, by decide +kernel⟩, List.mem_of_getElem? (i := 738) (by decide +kernel), List.mem_of_getElem? (i := 1215) (by decide +kernel), List.mem_of_getElem? (i := 1216) (by decide +kernel)⟩
def lw_privs_5 : List (MethodName × Nat) := [(⟨"DailyReliefModel", "draw", "()I"⟩, 22), (⟨"DailyReliefModel", "keepsAside", "()V"⟩, 22), (⟨"DailyReliefModel", "putsBack", "()V"⟩, 22), (⟨"DailyReliefModel", "isKept", "(III)Z"⟩, 22), (⟨"DailyReliefModel", "isDoneWithout", "(II)Z"⟩, 22), (⟨"DailyReliefModel", "doneIn", "(II)I"⟩, 22), (⟨"DailyReliefModel", "hearing", "(I)I"⟩, 22), (⟨"DailyReliefModel", "runs", "(I)V"⟩, 22), (⟨"DailyReliefModel", "telling", "(I)I"⟩, 22), (⟨"DailyReliefModel", "bunking", "(I)I"⟩, 22), (⟨"DailyReliefModel", "parting", "(I)I"⟩, 22), (⟨"DailyReliefModel", "wrong", "(I)I"⟩, 22), (⟨"DailyReliefModel", "isStanding", "(III)Z"⟩, 22), (⟨"DailyReliefModel", "knownByAny", "()I"⟩, 22)]
theorem lw_r5 : ∀ q ∈ lw_privs_5, lw_okq q := List.forall_mem_cons.mpr ⟨lw_p64, List.forall_mem_cons.mpr ⟨lw_p65, List.forall_mem_cons.mpr ⟨lw_p66, List.forall_mem_cons.mpr ⟨lw_p67, List.forall_mem_cons.mpr ⟨lw_p68, List.forall_mem_cons.mpr ⟨lw_p69, List.forall_mem_cons.mpr ⟨lw_p70, List.forall_mem_cons.mpr ⟨lw_p71, List.forall_mem_cons.mpr ⟨lw_p72, List.forall_mem_cons.mpr ⟨lw_p73, List.forall_mem_cons.mpr ⟨lw_p74, List.forall_mem_cons.mpr ⟨lw_p75, List.forall_mem_cons.mpr ⟨lw_p76, List.forall_mem_cons.mpr ⟨lw_p77, fun _ h => absurd h List.not_mem_nil⟩⟩⟩⟩⟩⟩⟩⟩⟩⟩⟩⟩⟩⟩
def lw_privs : List (MethodName × Nat) := lw_privs_1 ++ (lw_privs_2 ++ (lw_privs_3 ++ (lw_privs_4 ++ (lw_privs_5))))
def lw_tbl : List Cond := k2_sels lw_privs ++ tables_1
theorem lw_privs_ok : ∀ q ∈ lw_privs, lw_okq q := by
  show ∀ q ∈ lw_privs_1 ++ (lw_privs_2 ++ (lw_privs_3 ++ (lw_privs_4 ++ (lw_privs_5)))), lw_okq q
  exact List.forall_mem_append.mpr ⟨lw_r1, List.forall_mem_append.mpr ⟨lw_r2, List.forall_mem_append.mpr ⟨lw_r3, List.forall_mem_append.mpr ⟨lw_r4, lw_r5⟩⟩⟩⟩
-- ===== end of PART A; then your names; then what follows =====
def RX0 : String := "DailyRelief$Bunk"
def TX0 : u_T := fun k => match k with
  | 0 => ("DailyRelief$Bunk", "kind", "I", false)
  | 1 => ("DailyRelief$Bunk", "m", "I", false)
  | 2 => ("DailyRelief$Bunk", "came", "I", false)
  | 3 => ("DailyRelief$Bunk", "known", "I", false)
  | 4 => ("DailyRelief$Bunk", "taught", "I", false)
  | 5 => ("DailyRelief$Bunk", "versions", "[I", true)
  | _ => ("DailyRelief$Bunk", "lessons", "[I", true)
def tyX0 : Nat → FieldType := fun k => match k with
  | 0 => .int
  | 1 => .int
  | 2 => .int
  | 3 => .int
  | 4 => .int
  | 5 => .array .int
  | _ => .array .int
abbrev wsX00 : List Cond := u_ws RX0 TX0 7
theorem nmX0 : ∀ a, a < 7 → ∀ b, b < 7 → a ≠ b → (TX0 a).2.1 ≠ (TX0 b).2.1 := by decide +kernel
theorem tyX0_ok : ∀ k, k < 7 → parseFieldDescriptor (TX0 k).2.2.1 = some (tyX0 k) := by decide +kernel
abbrev cX0_init : ByteArray := prog_2_method_1_code
def yX0_init : MethodName := ⟨RX0, "<init>", "()V"⟩
abbrev cX0_copyFrom : ByteArray := prog_2_method_2_code
def yX0_copyFrom : MethodName := ⟨RX0, "copyFrom", "(LDailyRelief$Bunk;)V"⟩
abbrev cX0_settle : ByteArray := prog_2_method_3_code
def yX0_settle : MethodName := ⟨RX0, "settle", "(II)V"⟩
abbrev cX0_learnAll : ByteArray := prog_2_method_4_code
def yX0_learnAll : MethodName := ⟨RX0, "learnAll", "(II)V"⟩
abbrev cX0_learn : ByteArray := prog_2_method_5_code
def yX0_learn : MethodName := ⟨RX0, "learn", "(II)V"⟩
abbrev cX0_forget : ByteArray := prog_2_method_6_code
def yX0_forget : MethodName := ⟨RX0, "forget", "(I)V"⟩
abbrev cX0_knows : ByteArray := prog_2_method_7_code
def yX0_knows : MethodName := ⟨RX0, "knows", "(I)Z"⟩
abbrev cX0_isOf : ByteArray := prog_2_method_8_code
def yX0_isOf : MethodName := ⟨RX0, "isOf", "(I)Z"⟩
abbrev cX0_stays : ByteArray := prog_2_method_9_code
def yX0_stays : MethodName := ⟨RX0, "stays", "(I)Z"⟩
abbrev cX0_tellsOf : ByteArray := prog_2_method_10_code
def yX0_tellsOf : MethodName := ⟨RX0, "tellsOf", "(I)I"⟩
def RX1 : String := "DailyRelief$Sheet"
def TX1 : u_T := fun k => match k with
  | 0 => ("DailyRelief$Sheet", "bits", "I", false)
  | 1 => ("DailyRelief$Sheet", "length", "I", false)
  | _ => ("DailyRelief$Sheet", "numbers", "[I", true)
def tyX1 : Nat → FieldType := fun k => match k with
  | 0 => .int
  | 1 => .int
  | _ => .array .int
abbrev wsX10 : List Cond := u_ws RX1 TX1 3
theorem nmX1 : ∀ a, a < 3 → ∀ b, b < 3 → a ≠ b → (TX1 a).2.1 ≠ (TX1 b).2.1 := by decide +kernel
theorem tyX1_ok : ∀ k, k < 3 → parseFieldDescriptor (TX1 k).2.2.1 = some (tyX1 k) := by decide +kernel
abbrev cX1_init : ByteArray := prog_3_method_1_code
def yX1_init : MethodName := ⟨RX1, "<init>", "()V"⟩
abbrev cX1_lay : ByteArray := prog_3_method_2_code
def yX1_lay : MethodName := ⟨RX1, "lay", "(II)V"⟩
abbrev cX1_isMissing : ByteArray := prog_3_method_3_code
def yX1_isMissing : MethodName := ⟨RX1, "isMissing", "()Z"⟩
abbrev cX1_write : ByteArray := prog_3_method_4_code
def yX1_write : MethodName := ⟨RX1, "write", "(II)V"⟩
abbrev cX1_holds : ByteArray := prog_3_method_5_code
def yX1_holds : MethodName := ⟨RX1, "holds", "(II)Z"⟩
def RX2 : String := "DailyRelief$Ship"
def TX2 : u_T := fun k => match k with
  | 0 => ("DailyRelief$Ship", "bunks", "[LDailyRelief$Bunk;", true)
  | 1 => ("DailyRelief$Ship", "crew", "I", false)
  | 2 => ("DailyRelief$Ship", "rosterKm", "[I", true)
  | 3 => ("DailyRelief$Ship", "rosterBrings", "[I", true)
  | 4 => ("DailyRelief$Ship", "enlisted", "I", false)
  | 5 => ("DailyRelief$Ship", "next", "I", false)
  | 6 => ("DailyRelief$Ship", "written", "I", false)
  | 7 => ("DailyRelief$Ship", "tasks", "[LDailyRelief$Task;", true)
  | 8 => ("DailyRelief$Ship", "day", "I", false)
  | 9 => ("DailyRelief$Ship", "mishearing", "I", false)
  | 10 => ("DailyRelief$Ship", "z", "I", false)
  | 11 => ("DailyRelief$Ship", "tape", "[B", true)
  | 12 => ("DailyRelief$Ship", "taped", "I", false)
  | 13 => ("DailyRelief$Ship", "texts", "[LDailyRelief$Text;", true)
  | 14 => ("DailyRelief$Ship", "waits", "[I", true)
  | _ => ("DailyRelief$Ship", "waiting", "I", false)
def tyX2 : Nat → FieldType := fun k => match k with
  | 0 => .array (.object "DailyRelief$Bunk")
  | 1 => .int
  | 2 => .array .int
  | 3 => .array .int
  | 4 => .int
  | 5 => .int
  | 6 => .int
  | 7 => .array (.object "DailyRelief$Task")
  | 8 => .int
  | 9 => .int
  | 10 => .int
  | 11 => .array .byte
  | 12 => .int
  | 13 => .array (.object "DailyRelief$Text")
  | 14 => .array .int
  | _ => .int
abbrev wsX20 : List Cond := u_ws RX2 TX2 16
theorem nmX2 : ∀ a, a < 16 → ∀ b, b < 16 → a ≠ b → (TX2 a).2.1 ≠ (TX2 b).2.1 := by decide +kernel
theorem tyX2_ok : ∀ k, k < 16 → parseFieldDescriptor (TX2 k).2.2.1 = some (tyX2 k) := by decide +kernel
abbrev cX2_init : ByteArray := prog_4_method_1_code
def yX2_init : MethodName := ⟨RX2, "<init>", "()V"⟩
abbrev cX2_copyFrom : ByteArray := prog_4_method_2_code
def yX2_copyFrom : MethodName := ⟨RX2, "copyFrom", "(LDailyRelief$Ship;)V"⟩
abbrev cX2_addBunk : ByteArray := prog_4_method_3_code
def yX2_addBunk : MethodName := ⟨RX2, "addBunk", "(I)I"⟩
abbrev cX2_enlist : ByteArray := prog_4_method_4_code
def yX2_enlist : MethodName := ⟨RX2, "enlist", "(II)I"⟩
abbrev cX2_teachOnly : ByteArray := prog_4_method_5_code
def yX2_teachOnly : MethodName := ⟨RX2, "teachOnly", "(II)V"⟩
abbrev cX2_passDay : ByteArray := prog_4_method_6_code
def yX2_passDay : MethodName := ⟨RX2, "passDay", "()I"⟩
abbrev cX2_passDayByDraws : ByteArray := prog_4_method_7_code
def yX2_passDayByDraws : MethodName := ⟨RX2, "passDayByDraws", "()I"⟩
abbrev cX2_relieve : ByteArray := prog_4_method_8_code
def yX2_relieve : MethodName := ⟨RX2, "relieve", "()I"⟩
abbrev cX2_teachAll : ByteArray := prog_4_method_9_code
def yX2_teachAll : MethodName := ⟨RX2, "teachAll", "(Z)I"⟩
abbrev cX2_teach : ByteArray := prog_4_method_10_code
def yX2_teach : MethodName := ⟨RX2, "teach", "(LDailyRelief$Bunk;LDailyRelief$Bunk;Z)I"⟩
abbrev cX2_draw : ByteArray := prog_4_method_11_code
def yX2_draw : MethodName := ⟨RX2, "draw", "()I"⟩
abbrev cX2_endDay : ByteArray := prog_4_method_12_code
def yX2_endDay : MethodName := ⟨RX2, "endDay", "()V"⟩
abbrev cX2_needs : ByteArray := prog_4_method_13_code
def yX2_needs : MethodName := ⟨RX2, "needs", "(LDailyRelief$Bunk;I)I"⟩
abbrev cX2_pay : ByteArray := prog_4_method_14_code
def yX2_pay : MethodName := ⟨RX2, "pay", "(LDailyRelief$Bunk;)I"⟩
abbrev cX2_payOfAll : ByteArray := prog_4_method_15_code
def yX2_payOfAll : MethodName := ⟨RX2, "payOfAll", "()I"⟩
abbrev cX2_doneOfAll : ByteArray := prog_4_method_16_code
def yX2_doneOfAll : MethodName := ⟨RX2, "doneOfAll", "()I"⟩
abbrev cX2_knowers : ByteArray := prog_4_method_17_code
def yX2_knowers : MethodName := ⟨RX2, "knowers", "(I)I"⟩
abbrev cX2_knownByAny : ByteArray := prog_4_method_18_code
def yX2_knownByAny : MethodName := ⟨RX2, "knownByAny", "()I"⟩
abbrev cX2_canSpare : ByteArray := prog_4_method_19_code
def yX2_canSpare : MethodName := ⟨RX2, "canSpare", "(II)Z"⟩
abbrev cX2_ofMan : ByteArray := prog_4_method_20_code
def yX2_ofMan : MethodName := ⟨RX2, "ofMan", "(II)I"⟩
abbrev cX2_ofKnack : ByteArray := prog_4_method_21_code
def yX2_ofKnack : MethodName := ⟨RX2, "ofKnack", "(LDailyRelief$Bunk;II)I"⟩
abbrev cX2_ofTask : ByteArray := prog_4_method_22_code
def yX2_ofTask : MethodName := ⟨RX2, "ofTask", "(II)I"⟩
def RX3 : String := "DailyRelief$Task"
def TX3 : u_T := fun k => match k with
  | 0 => ("DailyRelief$Task", "knack", "I", false)
  | 1 => ("DailyRelief$Task", "must", "I", false)
  | 2 => ("DailyRelief$Task", "done", "I", false)
  | _ => ("DailyRelief$Task", "failed", "I", false)
def tyX3 : Nat → FieldType := fun k => match k with
  | 0 => .int
  | 1 => .int
  | 2 => .int
  | _ => .int
abbrev wsX30 : List Cond := u_ws RX3 TX3 4
theorem nmX3 : ∀ a, a < 4 → ∀ b, b < 4 → a ≠ b → (TX3 a).2.1 ≠ (TX3 b).2.1 := by decide +kernel
theorem tyX3_ok : ∀ k, k < 4 → parseFieldDescriptor (TX3 k).2.2.1 = some (tyX3 k) := by decide +kernel
abbrev cX3_init : ByteArray := prog_5_method_1_code
def yX3_init : MethodName := ⟨RX3, "<init>", "()V"⟩
abbrev cX3_copyFrom : ByteArray := prog_5_method_2_code
def yX3_copyFrom : MethodName := ⟨RX3, "copyFrom", "(LDailyRelief$Task;)V"⟩
abbrev cX3_tryWith : ByteArray := prog_5_method_3_code
def yX3_tryWith : MethodName := ⟨RX3, "tryWith", "(I)V"⟩
def RX4 : String := "DailyRelief$Text"
def TX4 : u_T := fun k => match k with
  | 0 => ("DailyRelief$Text", "code", "[I", true)
  | _ => ("DailyRelief$Text", "stack", "[I", true)
def tyX4 : Nat → FieldType := fun k => match k with
  | 0 => .array .int
  | _ => .array .int
abbrev wsX40 : List Cond := u_ws RX4 TX4 2
theorem nmX4 : ∀ a, a < 2 → ∀ b, b < 2 → a ≠ b → (TX4 a).2.1 ≠ (TX4 b).2.1 := by decide +kernel
theorem tyX4_ok : ∀ k, k < 2 → parseFieldDescriptor (TX4 k).2.2.1 = some (tyX4 k) := by decide +kernel
abbrev cX4_init : ByteArray := prog_6_method_1_code
def yX4_init : MethodName := ⟨RX4, "<init>", "([II)V"⟩
abbrev cX4_value : ByteArray := prog_6_method_2_code
def yX4_value : MethodName := ⟨RX4, "value", "(III)I"⟩
abbrev cX4_joined : ByteArray := prog_6_method_3_code
def yX4_joined : MethodName := ⟨RX4, "joined", "(III)I"⟩
def RX5 : String := "DailyRelief$TextReader"
def TX5 : u_T := fun k => match k with
  | 0 => ("DailyRelief$TextReader", "tape", "[B", false)
  | 1 => ("DailyRelief$TextReader", "length", "I", false)
  | 2 => ("DailyRelief$TextReader", "thirdName", "I", false)
  | 3 => ("DailyRelief$TextReader", "at", "I", false)
  | 4 => ("DailyRelief$TextReader", "steps", "[I", true)
  | 5 => ("DailyRelief$TextReader", "stepped", "I", false)
  | _ => ("DailyRelief$TextReader", "fault", "I", false)
def tyX5 : Nat → FieldType := fun k => match k with
  | 0 => .array .byte
  | 1 => .int
  | 2 => .int
  | 3 => .int
  | 4 => .array .int
  | 5 => .int
  | _ => .int
abbrev wsX50 : List Cond := u_ws RX5 TX5 7
theorem nmX5 : ∀ a, a < 7 → ∀ b, b < 7 → a ≠ b → (TX5 a).2.1 ≠ (TX5 b).2.1 := by decide +kernel
theorem tyX5_ok : ∀ k, k < 7 → parseFieldDescriptor (TX5 k).2.2.1 = some (tyX5 k) := by decide +kernel
abbrev cX5_init : ByteArray := prog_7_method_1_code
def yX5_init : MethodName := ⟨RX5, "<init>", "()V"⟩
abbrev cX5_read : ByteArray := prog_7_method_2_code
def yX5_read : MethodName := ⟨RX5, "read", "([BII)LDailyRelief$Text;"⟩
abbrev cX5_readT : ByteArray := prog_7_method_3_code
def yX5_readT : MethodName := ⟨RX5, "readT", "(I)V"⟩
abbrev cX5_readA : ByteArray := prog_7_method_4_code
def yX5_readA : MethodName := ⟨RX5, "readA", "(I)V"⟩
abbrev cX5_readB : ByteArray := prog_7_method_5_code
def yX5_readB : MethodName := ⟨RX5, "readB", "(I)V"⟩
abbrev cX5_readS : ByteArray := prog_7_method_6_code
def yX5_readS : MethodName := ⟨RX5, "readS", "(I)V"⟩
abbrev cX5_readP : ByteArray := prog_7_method_7_code
def yX5_readP : MethodName := ⟨RX5, "readP", "(I)V"⟩
abbrev cX5_readQ : ByteArray := prog_7_method_8_code
def yX5_readQ : MethodName := ⟨RX5, "readQ", "(I)V"⟩
abbrev cX5_readNumber : ByteArray := prog_7_method_9_code
def yX5_readNumber : MethodName := ⟨RX5, "readNumber", "()V"⟩
abbrev cX5_isDigit : ByteArray := prog_7_method_10_code
def yX5_isDigit : MethodName := ⟨RX5, "isDigit", "(I)Z"⟩
abbrev cX5_ahead : ByteArray := prog_7_method_11_code
def yX5_ahead : MethodName := ⟨RX5, "ahead", "()I"⟩
abbrev cX5_takes : ByteArray := prog_7_method_12_code
def yX5_takes : MethodName := ⟨RX5, "takes", "(I)Z"⟩
abbrev cX5_step : ByteArray := prog_7_method_13_code
def yX5_step : MethodName := ⟨RX5, "step", "(I)V"⟩
abbrev cX5_fail : ByteArray := prog_7_method_14_code
def yX5_fail : MethodName := ⟨RX5, "fail", "()V"⟩
def RX6 : String := "DailyRelief$Voices"
def TX6 : u_T := fun k => match k with
  | 0 => ("DailyRelief$Voices", "kind", "I", false)
  | 1 => ("DailyRelief$Voices", "bunk", "I", false)
  | 2 => ("DailyRelief$Voices", "m", "I", false)
  | 3 => ("DailyRelief$Voices", "trace", "[I", true)
  | 4 => ("DailyRelief$Voices", "begun", "I", false)
  | _ => ("DailyRelief$Voices", "parted", "Z", false)
def tyX6 : Nat → FieldType := fun k => match k with
  | 0 => .int
  | 1 => .int
  | 2 => .int
  | 3 => .array .int
  | 4 => .int
  | _ => .boolean
abbrev wsX60 : List Cond := u_ws RX6 TX6 6
theorem nmX6 : ∀ a, a < 6 → ∀ b, b < 6 → a ≠ b → (TX6 a).2.1 ≠ (TX6 b).2.1 := by decide +kernel
theorem tyX6_ok : ∀ k, k < 6 → parseFieldDescriptor (TX6 k).2.2.1 = some (tyX6 k) := by decide +kernel
abbrev cX6_init : ByteArray := prog_8_method_1_code
def yX6_init : MethodName := ⟨RX6, "<init>", "()V"⟩
abbrev cX6_speak : ByteArray := prog_8_method_2_code
def yX6_speak : MethodName := ⟨RX6, "speak", "(IIIII)I"⟩
abbrev cX6_own : ByteArray := prog_8_method_3_code
def yX6_own : MethodName := ⟨RX6, "own", "(III)I"⟩
abbrev cX6_above : ByteArray := prog_8_method_4_code
def yX6_above : MethodName := ⟨RX6, "above", "(IIII)I"⟩
abbrev cX6_speakFrom : ByteArray := prog_8_method_5_code
def yX6_speakFrom : MethodName := ⟨RX6, "speakFrom", "(IIII)I"⟩
abbrev cX6_run : ByteArray := prog_8_method_6_code
def yX6_run : MethodName := ⟨RX6, "run", "(III)I"⟩
abbrev cX6_begin : ByteArray := prog_8_method_7_code
def yX6_begin : MethodName := ⟨RX6, "begin", "(I)V"⟩
abbrev cX6_part : ByteArray := prog_8_method_8_code
def yX6_part : MethodName := ⟨RX6, "part", "(II)I"⟩
def RX7 : String := "DailyRelief"
def TX7 : u_T := fun k => match k with
  | 0 => ("DailyRelief", "ship", "LDailyRelief$Ship;", true)
  | 1 => ("DailyRelief", "kept", "LDailyRelief$Ship;", true)
  | 2 => ("DailyRelief", "trial", "LDailyRelief$Ship;", true)
  | 3 => ("DailyRelief", "reader", "LDailyRelief$TextReader;", true)
  | 4 => ("DailyRelief", "voices", "LDailyRelief$Voices;", true)
  | 5 => ("DailyRelief", "sheets", "[LDailyRelief$Sheet;", true)
  | 6 => ("DailyRelief", "errors", "[I", true)
  | _ => ("DailyRelief", "images", "I", false)
def tyX7 : Nat → FieldType := fun k => match k with
  | 0 => .object "DailyRelief$Ship"
  | 1 => .object "DailyRelief$Ship"
  | 2 => .object "DailyRelief$Ship"
  | 3 => .object "DailyRelief$TextReader"
  | 4 => .object "DailyRelief$Voices"
  | 5 => .array (.object "DailyRelief$Sheet")
  | 6 => .array .int
  | _ => .int
abbrev wsX70 : List Cond := u_ws RX7 TX7 8
theorem nmX7 : ∀ a, a < 8 → ∀ b, b < 8 → a ≠ b → (TX7 a).2.1 ≠ (TX7 b).2.1 := by decide +kernel
theorem tyX7_ok : ∀ k, k < 8 → parseFieldDescriptor (TX7 k).2.2.1 = some (tyX7 k) := by decide +kernel
abbrev cX7_init : ByteArray := prog_1_method_1_code
def yX7_init : MethodName := ⟨RX7, "<init>", "()V"⟩
abbrev cX7_bunk : ByteArray := prog_1_method_2_code
def yX7_bunk : MethodName := ⟨RX7, "bunk", "(I)I"⟩
abbrev cX7_bunkIs : ByteArray := prog_1_method_3_code
def yX7_bunkIs : MethodName := ⟨RX7, "bunkIs", "(II)I"⟩
abbrev cX7_as : ByteArray := prog_1_method_4_code
def yX7_as : MethodName := ⟨RX7, "as", "(II)I"⟩
abbrev cX7_set : ByteArray := prog_1_method_5_code
def yX7_set : MethodName := ⟨RX7, "set", "(III)I"⟩
abbrev cX7_know : ByteArray := prog_1_method_6_code
def yX7_know : MethodName := ⟨RX7, "know", "(III)I"⟩
abbrev cX7_roster : ByteArray := prog_1_method_7_code
def yX7_roster : MethodName := ⟨RX7, "roster", "(II)I"⟩
abbrev cX7_book : ByteArray := prog_1_method_8_code
def yX7_book : MethodName := ⟨RX7, "book", "(I)I"⟩
abbrev cX7_task : ByteArray := prog_1_method_9_code
def yX7_task : MethodName := ⟨RX7, "task", "(III)I"⟩
abbrev cX7_taskIs : ByteArray := prog_1_method_10_code
def yX7_taskIs : MethodName := ⟨RX7, "taskIs", "(II)I"⟩
abbrev cX7_feed : ByteArray := prog_1_method_11_code
def yX7_feed : MethodName := ⟨RX7, "feed", "(JI)I"⟩
abbrev cX7_text : ByteArray := prog_1_method_12_code
def yX7_text : MethodName := ⟨RX7, "text", "(I)I"⟩
abbrev cX7_untell : ByteArray := prog_1_method_13_code
def yX7_untell : MethodName := ⟨RX7, "untell", "(I)I"⟩
abbrev cX7_days : ByteArray := prog_1_method_14_code
def yX7_days : MethodName := ⟨RX7, "days", "(I)I"⟩
abbrev cX7_draws : ByteArray := prog_1_method_15_code
def yX7_draws : MethodName := ⟨RX7, "draws", "(I)I"⟩
abbrev cX7_misheard : ByteArray := prog_1_method_16_code
def yX7_misheard : MethodName := ⟨RX7, "misheard", "(I)I"⟩
abbrev cX7_seed : ByteArray := prog_1_method_17_code
def yX7_seed : MethodName := ⟨RX7, "seed", "(I)I"⟩
abbrev cX7_then : ByteArray := prog_1_method_18_code
def yX7_then : MethodName := ⟨RX7, "then", "(III)I"⟩
abbrev cX7_thenTask : ByteArray := prog_1_method_19_code
def yX7_thenTask : MethodName := ⟨RX7, "thenTask", "(III)I"⟩
abbrev cX7_lost : ByteArray := prog_1_method_20_code
def yX7_lost : MethodName := ⟨RX7, "lost", "(II)I"⟩
abbrev cX7_teachers : ByteArray := prog_1_method_21_code
def yX7_teachers : MethodName := ⟨RX7, "teachers", "(III)I"⟩
abbrev cX7_storm : ByteArray := prog_1_method_22_code
def yX7_storm : MethodName := ⟨RX7, "storm", "(I)I"⟩
abbrev cX7_saves : ByteArray := prog_1_method_23_code
def yX7_saves : MethodName := ⟨RX7, "saves", "(II)I"⟩
abbrev cX7_changes : ByteArray := prog_1_method_24_code
def yX7_changes : MethodName := ⟨RX7, "changes", "(II)I"⟩
abbrev cX7_began : ByteArray := prog_1_method_25_code
def yX7_began : MethodName := ⟨RX7, "began", "(II)I"⟩
abbrev cX7_handed : ByteArray := prog_1_method_26_code
def yX7_handed : MethodName := ⟨RX7, "handed", "(II)I"⟩
abbrev cX7_wages : ByteArray := prog_1_method_27_code
def yX7_wages : MethodName := ⟨RX7, "wages", "(I)I"⟩
abbrev cX7_voice : ByteArray := prog_1_method_28_code
def yX7_voice : MethodName := ⟨RX7, "voice", "(III)I"⟩
abbrev cX7_body : ByteArray := prog_1_method_29_code
def yX7_body : MethodName := ⟨RX7, "body", "(I)I"⟩
abbrev cX7_sheet : ByteArray := prog_1_method_30_code
def yX7_sheet : MethodName := ⟨RX7, "sheet", "(III)I"⟩
abbrev cX7_put : ByteArray := prog_1_method_31_code
def yX7_put : MethodName := ⟨RX7, "put", "(III)I"⟩
abbrev cX7_move : ByteArray := prog_1_method_32_code
def yX7_move : MethodName := ⟨RX7, "move", "(IIIII)I"⟩
abbrev cX7_rosters : ByteArray := prog_1_method_33_code
def yX7_rosters : MethodName := ⟨RX7, "rosters", "(I)I"⟩
abbrev cX7_judge : ByteArray := prog_1_method_34_code
def yX7_judge : MethodName := ⟨RX7, "judge", "(I)I"⟩
abbrev cX7_image : ByteArray := prog_1_method_35_code
def yX7_image : MethodName := ⟨RX7, "image", "()I"⟩
abbrev cX7_restore : ByteArray := prog_1_method_36_code
def yX7_restore : MethodName := ⟨RX7, "restore", "()I"⟩
abbrev cX7_tell : ByteArray := prog_1_method_37_code
def yX7_tell : MethodName := ⟨RX7, "tell", "(I)I"⟩
abbrev cX7_check : ByteArray := prog_1_method_38_code
def yX7_check : MethodName := ⟨RX7, "check", "(I)I"⟩
abbrev cX7_count : ByteArray := prog_1_method_39_code
def yX7_count : MethodName := ⟨RX7, "count", "(I)I"⟩
abbrev cX7_told : ByteArray := prog_1_method_40_code
def yX7_told : MethodName := ⟨RX7, "told", "(I)I"⟩
abbrev cX7_within : ByteArray := prog_1_method_41_code
def yX7_within : MethodName := ⟨RX7, "within", "(III)Z"⟩
abbrev cX7_isKnack : ByteArray := prog_1_method_42_code
def yX7_isKnack : MethodName := ⟨RX7, "isKnack", "(I)Z"⟩
abbrev cX7_isSheet : ByteArray := prog_1_method_43_code
def yX7_isSheet : MethodName := ⟨RX7, "isSheet", "(I)Z"⟩
abbrev cX7_mayEnlist : ByteArray := prog_1_method_44_code
def yX7_mayEnlist : MethodName := ⟨RX7, "mayEnlist", "(II)Z"⟩
abbrev cX7_maySet : ByteArray := prog_1_method_45_code
def yX7_maySet : MethodName := ⟨RX7, "maySet", "(II)Z"⟩
abbrev cX7_isBunk : ByteArray := prog_1_method_46_code
def yX7_isBunk : MethodName := ⟨RX7, "isBunk", "(I)Z"⟩
abbrev cX7_error : ByteArray := prog_1_method_47_code
def yX7_error : MethodName := ⟨RX7, "error", "(I)I"⟩
abbrev cX7_goAhead : ByteArray := prog_1_method_48_code
def yX7_goAhead : MethodName := ⟨RX7, "goAhead", "(I)V"⟩
abbrev cX7_staysKnown : ByteArray := prog_1_method_49_code
def yX7_staysKnown : MethodName := ⟨RX7, "staysKnown", "(III)Z"⟩
abbrev cX7_doneWithBook : ByteArray := prog_1_method_50_code
def yX7_doneWithBook : MethodName := ⟨RX7, "doneWithBook", "(II)I"⟩
def RX8 : String := "DailyReliefModel"
def TX8 : u_T := fun k => match k with
  | 0 => ("DailyReliefModel", "s", "[I", true)
  | 1 => ("DailyReliefModel", "kept", "[I", true)
  | 2 => ("DailyReliefModel", "other", "[I", true)
  | 3 => ("DailyReliefModel", "errors", "[I", true)
  | 4 => ("DailyReliefModel", "images", "I", false)
  | 5 => ("DailyReliefModel", "pile", "[I", true)
  | 6 => ("DailyReliefModel", "from", "I", false)
  | 7 => ("DailyReliefModel", "opened", "I", false)
  | 8 => ("DailyReliefModel", "written", "I", false)
  | 9 => ("DailyReliefModel", "useHere", "I", false)
  | 10 => ("DailyReliefModel", "isWrong", "Z", false)
  | 11 => ("DailyReliefModel", "drafted", "[I", true)
  | 12 => ("DailyReliefModel", "cameMany", "I", false)
  | 13 => ("DailyReliefModel", "misheardMany", "I", false)
  | 14 => ("DailyReliefModel", "ran", "[I", true)
  | 15 => ("DailyReliefModel", "bodies", "I", false)
  | 16 => ("DailyReliefModel", "speaker", "I", false)
  | 17 => ("DailyReliefModel", "isParted", "Z", false)
  | 18 => ("DailyReliefModel", "bitsOf", "[I", true)
  | 19 => ("DailyReliefModel", "sizeOf", "[I", true)
  | 20 => ("DailyReliefModel", "number", "[I", true)
  | _ => ("DailyReliefModel", "moved", "[I", true)
def tyX8 : Nat → FieldType := fun k => match k with
  | 0 => .array .int
  | 1 => .array .int
  | 2 => .array .int
  | 3 => .array .int
  | 4 => .int
  | 5 => .array .int
  | 6 => .int
  | 7 => .int
  | 8 => .int
  | 9 => .int
  | 10 => .boolean
  | 11 => .array .int
  | 12 => .int
  | 13 => .int
  | 14 => .array .int
  | 15 => .int
  | 16 => .int
  | 17 => .boolean
  | 18 => .array .int
  | 19 => .array .int
  | 20 => .array .int
  | _ => .array .int
abbrev wsX80 : List Cond := u_ws RX8 TX8 22
theorem nmX8 : ∀ a, a < 22 → ∀ b, b < 22 → a ≠ b → (TX8 a).2.1 ≠ (TX8 b).2.1 := by decide +kernel
theorem tyX8_ok : ∀ k, k < 22 → parseFieldDescriptor (TX8 k).2.2.1 = some (tyX8 k) := by decide +kernel
abbrev cX8_init : ByteArray := prog_10_method_1_code
def yX8_init : MethodName := ⟨RX8, "<init>", "()V"⟩
abbrev cX8_in : ByteArray := prog_10_method_2_code
def yX8_in : MethodName := ⟨RX8, "in", "(JJJ)Z"⟩
abbrev cX8_errs : ByteArray := prog_10_method_3_code
def yX8_errs : MethodName := ⟨RX8, "errs", "(I)I"⟩
abbrev cX8_isBunk : ByteArray := prog_10_method_4_code
def yX8_isBunk : MethodName := ⟨RX8, "isBunk", "(I)Z"⟩
abbrev cX8_isKnack : ByteArray := prog_10_method_5_code
def yX8_isKnack : MethodName := ⟨RX8, "isKnack", "(I)Z"⟩
abbrev cX8_isBits : ByteArray := prog_10_method_6_code
def yX8_isBits : MethodName := ⟨RX8, "isBits", "(I)Z"⟩
abbrev cX8_has : ByteArray := prog_10_method_7_code
def yX8_has : MethodName := ⟨RX8, "has", "(II)Z"⟩
abbrev cX8_ones : ByteArray := prog_10_method_8_code
def yX8_ones : MethodName := ⟨RX8, "ones", "(I)I"⟩
abbrev cX8_held : ByteArray := prog_10_method_9_code
def yX8_held : MethodName := ⟨RX8, "held", "(III)I"⟩
abbrev cX8_keepsAside : ByteArray := prog_10_method_10_code
def yX8_keepsAside : MethodName := ⟨RX8, "keepsAside", "()V"⟩
abbrev cX8_putsBack : ByteArray := prog_10_method_11_code
def yX8_putsBack : MethodName := ⟨RX8, "putsBack", "()V"⟩
abbrev cX8_by : ByteArray := prog_10_method_12_code
def yX8_by : MethodName := ⟨RX8, "by", "(III)I"⟩
abbrev cX8_worked : ByteArray := prog_10_method_13_code
def yX8_worked : MethodName := ⟨RX8, "worked", "(IIIII)I"⟩
abbrev cX8_at : ByteArray := prog_10_method_14_code
def yX8_at : MethodName := ⟨RX8, "at", "(II)I"⟩
abbrev cX8_its : ByteArray := prog_10_method_15_code
def yX8_its : MethodName := ⟨RX8, "its", "(II)I"⟩
abbrev cX8_isKnowing : ByteArray := prog_10_method_16_code
def yX8_isKnowing : MethodName := ⟨RX8, "isKnowing", "(II)Z"⟩
abbrev cX8_needs : ByteArray := prog_10_method_17_code
def yX8_needs : MethodName := ⟨RX8, "needs", "(II)I"⟩
abbrev cX8_tells : ByteArray := prog_10_method_18_code
def yX8_tells : MethodName := ⟨RX8, "tells", "(II)I"⟩
abbrev cX8_isMute : ByteArray := prog_10_method_19_code
def yX8_isMute : MethodName := ⟨RX8, "isMute", "(I)Z"⟩
abbrev cX8_isStaying : ByteArray := prog_10_method_20_code
def yX8_isStaying : MethodName := ⟨RX8, "isStaying", "(I)Z"⟩
abbrev cX8_wagesOf : ByteArray := prog_10_method_21_code
def yX8_wagesOf : MethodName := ⟨RX8, "wagesOf", "(I)I"⟩
abbrev cX8_comes : ByteArray := prog_10_method_22_code
def yX8_comes : MethodName := ⟨RX8, "comes", "(IIIII)V"⟩
abbrev cX8_isMan : ByteArray := prog_10_method_23_code
def yX8_isMan : MethodName := ⟨RX8, "isMan", "(I)Z"⟩
abbrev cX8_bunk : ByteArray := prog_10_method_24_code
def yX8_bunk : MethodName := ⟨RX8, "bunk", "(I)I"⟩
abbrev cX8_ofMan : ByteArray := prog_10_method_25_code
def yX8_ofMan : MethodName := ⟨RX8, "ofMan", "(II)I"⟩
abbrev cX8_bunkIs : ByteArray := prog_10_method_26_code
def yX8_bunkIs : MethodName := ⟨RX8, "bunkIs", "(II)I"⟩
abbrev cX8_as : ByteArray := prog_10_method_27_code
def yX8_as : MethodName := ⟨RX8, "as", "(II)I"⟩
abbrev cX8_set : ByteArray := prog_10_method_28_code
def yX8_set : MethodName := ⟨RX8, "set", "(III)I"⟩
abbrev cX8_know : ByteArray := prog_10_method_29_code
def yX8_know : MethodName := ⟨RX8, "know", "(III)I"⟩
abbrev cX8_rosterWrong : ByteArray := prog_10_method_30_code
def yX8_rosterWrong : MethodName := ⟨RX8, "rosterWrong", "(II)I"⟩
abbrev cX8_rostered : ByteArray := prog_10_method_31_code
def yX8_rostered : MethodName := ⟨RX8, "rostered", "(II)V"⟩
abbrev cX8_roster : ByteArray := prog_10_method_32_code
def yX8_roster : MethodName := ⟨RX8, "roster", "(II)I"⟩
abbrev cX8_book : ByteArray := prog_10_method_33_code
def yX8_book : MethodName := ⟨RX8, "book", "(I)I"⟩
abbrev cX8_where : ByteArray := prog_10_method_34_code
def yX8_where : MethodName := ⟨RX8, "where", "(II)I"⟩
abbrev cX8_ofTask : ByteArray := prog_10_method_35_code
def yX8_ofTask : MethodName := ⟨RX8, "ofTask", "(II)I"⟩
abbrev cX8_knowers : ByteArray := prog_10_method_36_code
def yX8_knowers : MethodName := ⟨RX8, "knowers", "(I)I"⟩
abbrev cX8_task : ByteArray := prog_10_method_37_code
def yX8_task : MethodName := ⟨RX8, "task", "(III)I"⟩
abbrev cX8_toldTask : ByteArray := prog_10_method_38_code
def yX8_toldTask : MethodName := ⟨RX8, "toldTask", "(II)I"⟩
abbrev cX8_taskIs : ByteArray := prog_10_method_39_code
def yX8_taskIs : MethodName := ⟨RX8, "taskIs", "(II)I"⟩
abbrev cX8_feed : ByteArray := prog_10_method_40_code
def yX8_feed : MethodName := ⟨RX8, "feed", "(JI)I"⟩
abbrev cX8_byteHere : ByteArray := prog_10_method_41_code
def yX8_byteHere : MethodName := ⟨RX8, "byteHere", "()I"⟩
abbrev cX8_isHere : ByteArray := prog_10_method_42_code
def yX8_isHere : MethodName := ⟨RX8, "isHere", "(I)Z"⟩
abbrev cX8_isDigitHere : ByteArray := prog_10_method_43_code
def yX8_isDigitHere : MethodName := ⟨RX8, "isDigitHere", "()Z"⟩
abbrev cX8_writes : ByteArray := prog_10_method_44_code
def yX8_writes : MethodName := ⟨RX8, "writes", "(I)V"⟩
abbrev cX8_nameHere : ByteArray := prog_10_method_45_code
def yX8_nameHere : MethodName := ⟨RX8, "nameHere", "()I"⟩
abbrev cX8_readsNumber : ByteArray := prog_10_method_46_code
def yX8_readsNumber : MethodName := ⟨RX8, "readsNumber", "()V"⟩
abbrev cX8_readsOne : ByteArray := prog_10_method_47_code
def yX8_readsOne : MethodName := ⟨RX8, "readsOne", "()V"⟩
abbrev cX8_readsProduct : ByteArray := prog_10_method_48_code
def yX8_readsProduct : MethodName := ⟨RX8, "readsProduct", "()V"⟩
abbrev cX8_readsSum : ByteArray := prog_10_method_49_code
def yX8_readsSum : MethodName := ⟨RX8, "readsSum", "()V"⟩
abbrev cX8_readsComparison : ByteArray := prog_10_method_50_code
def yX8_readsComparison : MethodName := ⟨RX8, "readsComparison", "()V"⟩
abbrev cX8_readsAll : ByteArray := prog_10_method_51_code
def yX8_readsAll : MethodName := ⟨RX8, "readsAll", "()V"⟩
abbrev cX8_readsText : ByteArray := prog_10_method_52_code
def yX8_readsText : MethodName := ⟨RX8, "readsText", "()V"⟩
abbrev cX8_text : ByteArray := prog_10_method_53_code
def yX8_text : MethodName := ⟨RX8, "text", "(I)I"⟩
abbrev cX8_untell : ByteArray := prog_10_method_54_code
def yX8_untell : MethodName := ⟨RX8, "untell", "(I)I"⟩
abbrev cX8_draw : ByteArray := prog_10_method_55_code
def yX8_draw : MethodName := ⟨RX8, "draw", "()I"⟩
abbrev cX8_relieves : ByteArray := prog_10_method_56_code
def yX8_relieves : MethodName := ⟨RX8, "relieves", "()V"⟩
abbrev cX8_lesson : ByteArray := prog_10_method_57_code
def yX8_lesson : MethodName := ⟨RX8, "lesson", "(IZ)V"⟩
abbrev cX8_day : ByteArray := prog_10_method_58_code
def yX8_day : MethodName := ⟨RX8, "day", "(Z)V"⟩
abbrev cX8_daysGo : ByteArray := prog_10_method_59_code
def yX8_daysGo : MethodName := ⟨RX8, "daysGo", "(IZ)V"⟩
abbrev cX8_isSpan : ByteArray := prog_10_method_60_code
def yX8_isSpan : MethodName := ⟨RX8, "isSpan", "(I)Z"⟩
abbrev cX8_daysWrong : ByteArray := prog_10_method_61_code
def yX8_daysWrong : MethodName := ⟨RX8, "daysWrong", "(I)I"⟩
abbrev cX8_days : ByteArray := prog_10_method_62_code
def yX8_days : MethodName := ⟨RX8, "days", "(I)I"⟩
abbrev cX8_draws : ByteArray := prog_10_method_63_code
def yX8_draws : MethodName := ⟨RX8, "draws", "(I)I"⟩
abbrev cX8_misheard : ByteArray := prog_10_method_64_code
def yX8_misheard : MethodName := ⟨RX8, "misheard", "(I)I"⟩
abbrev cX8_seed : ByteArray := prog_10_method_65_code
def yX8_seed : MethodName := ⟨RX8, "seed", "(I)I"⟩
abbrev cX8_then : ByteArray := prog_10_method_66_code
def yX8_then : MethodName := ⟨RX8, "then", "(III)I"⟩
abbrev cX8_thenTask : ByteArray := prog_10_method_67_code
def yX8_thenTask : MethodName := ⟨RX8, "thenTask", "(III)I"⟩
abbrev cX8_lost : ByteArray := prog_10_method_68_code
def yX8_lost : MethodName := ⟨RX8, "lost", "(II)I"⟩
abbrev cX8_isKept : ByteArray := prog_10_method_69_code
def yX8_isKept : MethodName := ⟨RX8, "isKept", "(III)Z"⟩
abbrev cX8_teachers : ByteArray := prog_10_method_70_code
def yX8_teachers : MethodName := ⟨RX8, "teachers", "(III)I"⟩
abbrev cX8_isDoneWithout : ByteArray := prog_10_method_71_code
def yX8_isDoneWithout : MethodName := ⟨RX8, "isDoneWithout", "(II)Z"⟩
abbrev cX8_storm : ByteArray := prog_10_method_72_code
def yX8_storm : MethodName := ⟨RX8, "storm", "(I)I"⟩
abbrev cX8_doneIn : ByteArray := prog_10_method_73_code
def yX8_doneIn : MethodName := ⟨RX8, "doneIn", "(II)I"⟩
abbrev cX8_saves : ByteArray := prog_10_method_74_code
def yX8_saves : MethodName := ⟨RX8, "saves", "(II)I"⟩
abbrev cX8_isVersion : ByteArray := prog_10_method_75_code
def yX8_isVersion : MethodName := ⟨RX8, "isVersion", "(I)Z"⟩
abbrev cX8_changes : ByteArray := prog_10_method_76_code
def yX8_changes : MethodName := ⟨RX8, "changes", "(II)I"⟩
abbrev cX8_began : ByteArray := prog_10_method_77_code
def yX8_began : MethodName := ⟨RX8, "began", "(II)I"⟩
abbrev cX8_handed : ByteArray := prog_10_method_78_code
def yX8_handed : MethodName := ⟨RX8, "handed", "(II)I"⟩
abbrev cX8_wages : ByteArray := prog_10_method_79_code
def yX8_wages : MethodName := ⟨RX8, "wages", "(I)I"⟩
abbrev cX8_runs : ByteArray := prog_10_method_80_code
def yX8_runs : MethodName := ⟨RX8, "runs", "(I)V"⟩
abbrev cX8_hearing : ByteArray := prog_10_method_81_code
def yX8_hearing : MethodName := ⟨RX8, "hearing", "(I)I"⟩
abbrev cX8_telling : ByteArray := prog_10_method_82_code
def yX8_telling : MethodName := ⟨RX8, "telling", "(I)I"⟩
abbrev cX8_bunking : ByteArray := prog_10_method_83_code
def yX8_bunking : MethodName := ⟨RX8, "bunking", "(I)I"⟩
abbrev cX8_parting : ByteArray := prog_10_method_84_code
def yX8_parting : MethodName := ⟨RX8, "parting", "(I)I"⟩
abbrev cX8_voice : ByteArray := prog_10_method_85_code
def yX8_voice : MethodName := ⟨RX8, "voice", "(III)I"⟩
abbrev cX8_body : ByteArray := prog_10_method_86_code
def yX8_body : MethodName := ⟨RX8, "body", "(I)I"⟩
abbrev cX8_isSheet : ByteArray := prog_10_method_87_code
def yX8_isSheet : MethodName := ⟨RX8, "isSheet", "(I)Z"⟩
abbrev cX8_wrong : ByteArray := prog_10_method_88_code
def yX8_wrong : MethodName := ⟨RX8, "wrong", "(I)I"⟩
abbrev cX8_sheet : ByteArray := prog_10_method_89_code
def yX8_sheet : MethodName := ⟨RX8, "sheet", "(III)I"⟩
abbrev cX8_put : ByteArray := prog_10_method_90_code
def yX8_put : MethodName := ⟨RX8, "put", "(III)I"⟩
abbrev cX8_isStanding : ByteArray := prog_10_method_91_code
def yX8_isStanding : MethodName := ⟨RX8, "isStanding", "(III)Z"⟩
abbrev cX8_move : ByteArray := prog_10_method_92_code
def yX8_move : MethodName := ⟨RX8, "move", "(IIIII)I"⟩
abbrev cX8_rosters : ByteArray := prog_10_method_93_code
def yX8_rosters : MethodName := ⟨RX8, "rosters", "(I)I"⟩
abbrev cX8_judge : ByteArray := prog_10_method_94_code
def yX8_judge : MethodName := ⟨RX8, "judge", "(I)I"⟩
abbrev cX8_image : ByteArray := prog_10_method_95_code
def yX8_image : MethodName := ⟨RX8, "image", "()I"⟩
abbrev cX8_restore : ByteArray := prog_10_method_96_code
def yX8_restore : MethodName := ⟨RX8, "restore", "()I"⟩
abbrev cX8_tell : ByteArray := prog_10_method_97_code
def yX8_tell : MethodName := ⟨RX8, "tell", "(I)I"⟩
abbrev cX8_check : ByteArray := prog_10_method_98_code
def yX8_check : MethodName := ⟨RX8, "check", "(I)I"⟩
abbrev cX8_knownByAny : ByteArray := prog_10_method_99_code
def yX8_knownByAny : MethodName := ⟨RX8, "knownByAny", "()I"⟩
abbrev cX8_count : ByteArray := prog_10_method_100_code
def yX8_count : MethodName := ⟨RX8, "count", "(I)I"⟩
abbrev cX8_told : ByteArray := prog_10_method_101_code
def yX8_told : MethodName := ⟨RX8, "told", "(I)I"⟩
def RJ6 : String := "java/lang/Integer"
def TJ6 : u_T := fun k => match k with
  | _ => ("", "", "", false)
def tyJ6 : Nat → FieldType := fun k => match k with
  | _ => .int
theorem nmJ6 : ∀ a, a < 0 → ∀ b, b < 0 → a ≠ b → (TJ6 a).2.1 ≠ (TJ6 b).2.1 := by decide +kernel
theorem tyJ6_ok : ∀ k, k < 0 → parseFieldDescriptor (TJ6 k).2.2.1 = some (tyJ6 k) := by decide +kernel
abbrev cJ6_bitCount_0f7a4 : ByteArray := prog_11_method_49_code
def yJ6_bitCount_0f7a4 : MethodName := ⟨RJ6, "bitCount", "(I)I"⟩
def RJ9 : String := "java/lang/Math"
def TJ9 : u_T := fun k => match k with
  | _ => ("", "", "", false)
def tyJ9 : Nat → FieldType := fun k => match k with
  | _ => .int
theorem nmJ9 : ∀ a, a < 0 → ∀ b, b < 0 → a ≠ b → (TJ9 a).2.1 ≠ (TJ9 b).2.1 := by decide +kernel
theorem tyJ9_ok : ∀ k, k < 0 → parseFieldDescriptor (TJ9 k).2.2.1 = some (tyJ9 k) := by decide +kernel
abbrev cJ9_max_7cf53 : ByteArray := prog_12_method_65_code
def yJ9_max_7cf53 : MethodName := ⟨RJ9, "max", "(II)I"⟩
abbrev cJ9_min_7cf53 : ByteArray := prog_12_method_69_code
def yJ9_min_7cf53 : MethodName := ⟨RJ9, "min", "(II)I"⟩
def RJ10 : String := "java/lang/System"
def TJ10 : u_T := fun k => match k with
  | _ => ("", "", "", false)
def tyJ10 : Nat → FieldType := fun k => match k with
  | _ => .int
theorem nmJ10 : ∀ a, a < 0 → ∀ b, b < 0 → a ≠ b → (TJ10 a).2.1 ≠ (TJ10 b).2.1 := by decide +kernel
theorem tyJ10_ok : ∀ k, k < 0 → parseFieldDescriptor (TJ10 k).2.2.1 = some (tyJ10 k) := by decide +kernel
def RL : String := "DailyReliefLaw"
abbrev cL_law : ByteArray := code
def yL_law : MethodName := ⟨RL, "law", "([I)Z"⟩
abbrev vwCl : List vw_C := [(RX0, TX0, 7), (RX1, TX1, 3), (RX2, TX2, 16), (RX3, TX3, 4), (RX4, TX4, 2), (RX5, TX5, 7), (RX6, TX6, 6), (RX7, TX7, 8), (RX8, TX8, 22)]
