section
-- ===== PART A: goes FIRST, ahead of the names: the tables' words, and 'selects' of the private methods out of them =====
/-- a private method of a class that the tables say can be made, by its rows of tables_1 -/
def lw_okq (q : MethodName × Nat) : Prop := (q.1.cls ≠ "java/lang/invoke/MethodHandle" ∧ q.1.cls ≠ "java/lang/invoke/VarHandle") ∧ Cond.instantiable q.1.cls q.2 ∈ tables_1 ∧ Cond.privateMethod q.1 ∈ tables_1 ∧ Cond.instanceMethod q.1 ∈ tables_1
theorem lw_p0 : lw_okq (⟨"DailyRelief", "error", "(I)I"⟩, 8) := ⟨⟨by decide +kernel, by decide +kernel⟩, List.mem_of_getElem? (i := 14) (by decide +kernel), List.mem_of_getElem? (i := 272) (by decide +kernel), List.mem_of_getElem? (i := 273) (by decide +kernel)⟩
theorem lw_p1 : lw_okq (⟨"DailyRelief", "isBunk", "(I)Z"⟩, 8) := ⟨⟨by decide +kernel, by decide +kernel⟩, List.mem_of_getElem? (i := 14) (by decide +kernel), List.mem_of_getElem? (i := 293) (by decide +kernel), List.mem_of_getElem? (i := 294) (by decide +kernel)⟩
theorem lw_p2 : lw_okq (⟨"DailyRelief$Ship", "pay", "(LDailyRelief$Bunk;)I"⟩, 16) := ⟨⟨by decide +kernel, by decide +kernel⟩, List.mem_of_getElem? (i := 22) (by decide +kernel), List.mem_of_getElem? (i := 301) (by decide +kernel), List.mem_of_getElem? (i := 302) (by decide +kernel)⟩
theorem lw_p3 : lw_okq (⟨"DailyRelief$Ship", "ofKnack", "(LDailyRelief$Bunk;II)I"⟩, 16) := ⟨⟨by decide +kernel, by decide +kernel⟩, List.mem_of_getElem? (i := 22) (by decide +kernel), List.mem_of_getElem? (i := 324) (by decide +kernel), List.mem_of_getElem? (i := 325) (by decide +kernel)⟩
theorem lw_p4 : lw_okq (⟨"DailyRelief$Ship", "needs", "(LDailyRelief$Bunk;I)I"⟩, 16) := ⟨⟨by decide +kernel, by decide +kernel⟩, List.mem_of_getElem? (i := 22) (by decide +kernel), List.mem_of_getElem? (i := 328) (by decide +kernel), List.mem_of_getElem? (i := 329) (by decide +kernel)⟩
theorem lw_p5 : lw_okq (⟨"DailyRelief$TextReader", "readT", "(I)V"⟩, 7) := ⟨⟨by decide +kernel, by decide +kernel⟩, List.mem_of_getElem? (i := 163) (by decide +kernel), List.mem_of_getElem? (i := 411) (by decide +kernel), List.mem_of_getElem? (i := 412) (by decide +kernel)⟩
theorem lw_p6 : lw_okq (⟨"DailyRelief$TextReader", "readA", "(I)V"⟩, 7) := ⟨⟨by decide +kernel, by decide +kernel⟩, List.mem_of_getElem? (i := 163) (by decide +kernel), List.mem_of_getElem? (i := 415) (by decide +kernel), List.mem_of_getElem? (i := 416) (by decide +kernel)⟩
theorem lw_p7 : lw_okq (⟨"DailyRelief$TextReader", "readB", "(I)V"⟩, 7) := ⟨⟨by decide +kernel, by decide +kernel⟩, List.mem_of_getElem? (i := 163) (by decide +kernel), List.mem_of_getElem? (i := 419) (by decide +kernel), List.mem_of_getElem? (i := 420) (by decide +kernel)⟩
theorem lw_p8 : lw_okq (⟨"DailyRelief$TextReader", "readS", "(I)V"⟩, 7) := ⟨⟨by decide +kernel, by decide +kernel⟩, List.mem_of_getElem? (i := 163) (by decide +kernel), List.mem_of_getElem? (i := 423) (by decide +kernel), List.mem_of_getElem? (i := 424) (by decide +kernel)⟩
theorem lw_p9 : lw_okq (⟨"DailyRelief$TextReader", "readP", "(I)V"⟩, 7) := ⟨⟨by decide +kernel, by decide +kernel⟩, List.mem_of_getElem? (i := 163) (by decide +kernel), List.mem_of_getElem? (i := 427) (by decide +kernel), List.mem_of_getElem? (i := 428) (by decide +kernel)⟩
theorem lw_p10 : lw_okq (⟨"DailyRelief$TextReader", "readQ", "(I)V"⟩, 7) := ⟨⟨by decide +kernel, by decide +kernel⟩, List.mem_of_getElem? (i := 163) (by decide +kernel), List.mem_of_getElem? (i := 431) (by decide +kernel), List.mem_of_getElem? (i := 432) (by decide +kernel)⟩
theorem lw_p11 : lw_okq (⟨"DailyRelief$TextReader", "ahead", "()I"⟩, 7) := ⟨⟨by decide +kernel, by decide +kernel⟩, List.mem_of_getElem? (i := 163) (by decide +kernel), List.mem_of_getElem? (i := 435) (by decide +kernel), List.mem_of_getElem? (i := 436) (by decide +kernel)⟩
theorem lw_p12 : lw_okq (⟨"DailyRelief$TextReader", "readNumber", "()V"⟩, 7) := ⟨⟨by decide +kernel, by decide +kernel⟩, List.mem_of_getElem? (i := 163) (by decide +kernel), List.mem_of_getElem? (i := 442) (by decide +kernel), List.mem_of_getElem? (i := 443) (by decide +kernel)⟩
theorem lw_p13 : lw_okq (⟨"DailyRelief$TextReader", "step", "(I)V"⟩, 7) := ⟨⟨by decide +kernel, by decide +kernel⟩, List.mem_of_getElem? (i := 163) (by decide +kernel), List.mem_of_getElem? (i := 446) (by decide +kernel), List.mem_of_getElem? (i := 447) (by decide +kernel)⟩
theorem lw_p14 : lw_okq (⟨"DailyRelief$TextReader", "takes", "(I)Z"⟩, 7) := ⟨⟨by decide +kernel, by decide +kernel⟩, List.mem_of_getElem? (i := 163) (by decide +kernel), List.mem_of_getElem? (i := 450) (by decide +kernel), List.mem_of_getElem? (i := 451) (by decide +kernel)⟩
theorem lw_p15 : lw_okq (⟨"DailyRelief$TextReader", "fail", "()V"⟩, 7) := ⟨⟨by decide +kernel, by decide +kernel⟩, List.mem_of_getElem? (i := 163) (by decide +kernel), List.mem_of_getElem? (i := 454) (by decide +kernel), List.mem_of_getElem? (i := 455) (by decide +kernel)⟩
def lw_privs_1 : List (MethodName × Nat) := [(⟨"DailyRelief", "error", "(I)I"⟩, 8), (⟨"DailyRelief", "isBunk", "(I)Z"⟩, 8), (⟨"DailyRelief$Ship", "pay", "(LDailyRelief$Bunk;)I"⟩, 16), (⟨"DailyRelief$Ship", "ofKnack", "(LDailyRelief$Bunk;II)I"⟩, 16), (⟨"DailyRelief$Ship", "needs", "(LDailyRelief$Bunk;I)I"⟩, 16), (⟨"DailyRelief$TextReader", "readT", "(I)V"⟩, 7), (⟨"DailyRelief$TextReader", "readA", "(I)V"⟩, 7), (⟨"DailyRelief$TextReader", "readB", "(I)V"⟩, 7), (⟨"DailyRelief$TextReader", "readS", "(I)V"⟩, 7), (⟨"DailyRelief$TextReader", "readP", "(I)V"⟩, 7), (⟨"DailyRelief$TextReader", "readQ", "(I)V"⟩, 7), (⟨"DailyRelief$TextReader", "ahead", "()I"⟩, 7), (⟨"DailyRelief$TextReader", "readNumber", "()V"⟩, 7), (⟨"DailyRelief$TextReader", "step", "(I)V"⟩, 7), (⟨"DailyRelief$TextReader", "takes", "(I)Z"⟩, 7), (⟨"DailyRelief$TextReader", "fail", "()V"⟩, 7)]
theorem lw_r1 : ∀ q ∈ lw_privs_1, lw_okq q := List.forall_mem_cons.mpr ⟨lw_p0, List.forall_mem_cons.mpr ⟨lw_p1, List.forall_mem_cons.mpr ⟨lw_p2, List.forall_mem_cons.mpr ⟨lw_p3, List.forall_mem_cons.mpr ⟨lw_p4, List.forall_mem_cons.mpr ⟨lw_p5, List.forall_mem_cons.mpr ⟨lw_p6, List.forall_mem_cons.mpr ⟨lw_p7, List.forall_mem_cons.mpr ⟨lw_p8, List.forall_mem_cons.mpr ⟨lw_p9, List.forall_mem_cons.mpr ⟨lw_p10, List.forall_mem_cons.mpr ⟨lw_p11, List.forall_mem_cons.mpr ⟨lw_p12, List.forall_mem_cons.mpr ⟨lw_p13, List.forall_mem_cons.mpr ⟨lw_p14, List.forall_mem_cons.mpr ⟨lw_p15, fun _ h => absurd h List.not_mem_nil⟩⟩⟩⟩⟩⟩⟩⟩⟩⟩⟩⟩⟩⟩⟩⟩
theorem lw_p16 : lw_okq (⟨"DailyRelief$Ship", "relieve", "()I"⟩, 16) := ⟨⟨by decide +kernel, by decide +kernel⟩, List.mem_of_getElem? (i := 22) (by decide +kernel), List.mem_of_getElem? (i := 486) (by decide +kernel), List.mem_of_getElem? (i := 487) (by decide +kernel)⟩
theorem lw_p17 : lw_okq (⟨"DailyRelief$Ship", "teachAll", "(Z)I"⟩, 16) := ⟨⟨by decide +kernel, by decide +kernel⟩, List.mem_of_getElem? (i := 22) (by decide +kernel), List.mem_of_getElem? (i := 499) (by decide +kernel), List.mem_of_getElem? (i := 500) (by decide +kernel)⟩
theorem lw_p18 : lw_okq (⟨"DailyRelief$Ship", "teach", "(LDailyRelief$Bunk;LDailyRelief$Bunk;Z)I"⟩, 16) := ⟨⟨by decide +kernel, by decide +kernel⟩, List.mem_of_getElem? (i := 22) (by decide +kernel), List.mem_of_getElem? (i := 503) (by decide +kernel), List.mem_of_getElem? (i := 504) (by decide +kernel)⟩
theorem lw_p19 : lw_okq (⟨"DailyRelief$Ship", "draw", "()I"⟩, 16) := ⟨⟨by decide +kernel, by decide +kernel⟩, List.mem_of_getElem? (i := 22) (by decide +kernel), List.mem_of_getElem? (i := 508) (by decide +kernel), List.mem_of_getElem? (i := 509) (by decide +kernel)⟩
theorem lw_p20 : lw_okq (⟨"DailyRelief$Ship", "endDay", "()V"⟩, 16) := ⟨⟨by decide +kernel, by decide +kernel⟩, List.mem_of_getElem? (i := 22) (by decide +kernel), List.mem_of_getElem? (i := 520) (by decide +kernel), List.mem_of_getElem? (i := 521) (by decide +kernel)⟩
theorem lw_p21 : lw_okq (⟨"DailyRelief", "goAhead", "(I)V"⟩, 8) := ⟨⟨by decide +kernel, by decide +kernel⟩, List.mem_of_getElem? (i := 14) (by decide +kernel), List.mem_of_getElem? (i := 550) (by decide +kernel), List.mem_of_getElem? (i := 551) (by decide +kernel)⟩
theorem lw_p22 : lw_okq (⟨"DailyRelief", "staysKnown", "(III)Z"⟩, 8) := ⟨⟨by decide +kernel, by decide +kernel⟩, List.mem_of_getElem? (i := 14) (by decide +kernel), List.mem_of_getElem? (i := 582) (by decide +kernel), List.mem_of_getElem? (i := 583) (by decide +kernel)⟩
theorem lw_p23 : lw_okq (⟨"DailyRelief", "doneWithBook", "(II)I"⟩, 8) := ⟨⟨by decide +kernel, by decide +kernel⟩, List.mem_of_getElem? (i := 14) (by decide +kernel), List.mem_of_getElem? (i := 602) (by decide +kernel), List.mem_of_getElem? (i := 603) (by decide +kernel)⟩
theorem lw_p24 : lw_okq (⟨"DailyRelief$Voices", "speakFrom", "(IIII)I"⟩, 6) := ⟨⟨by decide +kernel, by decide +kernel⟩, List.mem_of_getElem? (i := 192) (by decide +kernel), List.mem_of_getElem? (i := 639) (by decide +kernel), List.mem_of_getElem? (i := 640) (by decide +kernel)⟩
theorem lw_p25 : lw_okq (⟨"DailyRelief$Voices", "run", "(III)I"⟩, 6) := ⟨⟨by decide +kernel, by decide +kernel⟩, List.mem_of_getElem? (i := 192) (by decide +kernel), List.mem_of_getElem? (i := 645) (by decide +kernel), List.mem_of_getElem? (i := 646) (by decide +kernel)⟩
theorem lw_p26 : lw_okq (⟨"DailyRelief$Voices", "begin", "(I)V"⟩, 6) := ⟨⟨by decide +kernel, by decide +kernel⟩, List.mem_of_getElem? (i := 192) (by decide +kernel), List.mem_of_getElem? (i := 649) (by decide +kernel), List.mem_of_getElem? (i := 650) (by decide +kernel)⟩
theorem lw_p27 : lw_okq (⟨"DailyRelief$Voices", "own", "(III)I"⟩, 6) := ⟨⟨by decide +kernel, by decide +kernel⟩, List.mem_of_getElem? (i := 192) (by decide +kernel), List.mem_of_getElem? (i := 653) (by decide +kernel), List.mem_of_getElem? (i := 654) (by decide +kernel)⟩
theorem lw_p28 : lw_okq (⟨"DailyRelief$Voices", "part", "(II)I"⟩, 6) := ⟨⟨by decide +kernel, by decide +kernel⟩, List.mem_of_getElem? (i := 192) (by decide +kernel), List.mem_of_getElem? (i := 657) (by decide +kernel), List.mem_of_getElem? (i := 658) (by decide +kernel)⟩
theorem lw_p29 : lw_okq (⟨"DailyRelief$Voices", "above", "(IIII)I"⟩, 6) := ⟨⟨by decide +kernel, by decide +kernel⟩, List.mem_of_getElem? (i := 192) (by decide +kernel), List.mem_of_getElem? (i := 661) (by decide +kernel), List.mem_of_getElem? (i := 662) (by decide +kernel)⟩
theorem lw_p30 : lw_okq (⟨"DailyReliefModel", "errs", "(I)I"⟩, 22) := ⟨⟨by decide +kernel, by decide +kernel⟩, List.mem_of_getElem? (i := 738) (by decide +kernel), List.mem_of_getElem? (i := 823) (by decide +kernel), List.mem_of_getElem? (i := 824) (by decide +kernel)⟩
theorem lw_p31 : lw_okq (⟨"DailyReliefModel", "comes", "(IIIII)V"⟩, 22) := ⟨⟨by decide +kernel, by decide +kernel⟩, List.mem_of_getElem? (i := 738) (by decide +kernel), List.mem_of_getElem? (i := 828) (by decide +kernel), List.mem_of_getElem? (i := 829) (by decide +kernel)⟩
def lw_privs_2 : List (MethodName × Nat) := [(⟨"DailyRelief$Ship", "relieve", "()I"⟩, 16), (⟨"DailyRelief$Ship", "teachAll", "(Z)I"⟩, 16), (⟨"DailyRelief$Ship", "teach", "(LDailyRelief$Bunk;LDailyRelief$Bunk;Z)I"⟩, 16), (⟨"DailyRelief$Ship", "draw", "()I"⟩, 16), (⟨"DailyRelief$Ship", "endDay", "()V"⟩, 16), (⟨"DailyRelief", "goAhead", "(I)V"⟩, 8), (⟨"DailyRelief", "staysKnown", "(III)Z"⟩, 8), (⟨"DailyRelief", "doneWithBook", "(II)I"⟩, 8), (⟨"DailyRelief$Voices", "speakFrom", "(IIII)I"⟩, 6), (⟨"DailyRelief$Voices", "run", "(III)I"⟩, 6), (⟨"DailyRelief$Voices", "begin", "(I)V"⟩, 6), (⟨"DailyRelief$Voices", "own", "(III)I"⟩, 6), (⟨"DailyRelief$Voices", "part", "(II)I"⟩, 6), (⟨"DailyRelief$Voices", "above", "(IIII)I"⟩, 6), (⟨"DailyReliefModel", "errs", "(I)I"⟩, 22), (⟨"DailyReliefModel", "comes", "(IIIII)V"⟩, 22)]
theorem lw_r2 : ∀ q ∈ lw_privs_2, lw_okq q := List.forall_mem_cons.mpr ⟨lw_p16, List.forall_mem_cons.mpr ⟨lw_p17, List.forall_mem_cons.mpr ⟨lw_p18, List.forall_mem_cons.mpr ⟨lw_p19, List.forall_mem_cons.mpr ⟨lw_p20, List.forall_mem_cons.mpr ⟨lw_p21, List.forall_mem_cons.mpr ⟨lw_p22, List.forall_mem_cons.mpr ⟨lw_p23, List.forall_mem_cons.mpr ⟨lw_p24, List.forall_mem_cons.mpr ⟨lw_p25, List.forall_mem_cons.mpr ⟨lw_p26, List.forall_mem_cons.mpr ⟨lw_p27, List.forall_mem_cons.mpr ⟨lw_p28, List.forall_mem_cons.mpr ⟨lw_p29, List.forall_mem_cons.mpr ⟨lw_p30, List.forall_mem_cons.mpr ⟨lw_p31, fun _ h => absurd h List.not_mem_nil⟩⟩⟩⟩⟩⟩⟩⟩⟩⟩⟩⟩⟩⟩⟩⟩
theorem lw_p32 : lw_okq (⟨"DailyReliefModel", "isBunk", "(I)Z"⟩, 22) := ⟨⟨by decide +kernel, by decide +kernel⟩, List.mem_of_getElem? (i := 738) (by decide +kernel), List.mem_of_getElem? (i := 842) (by decide +kernel), List.mem_of_getElem? (i := 843) (by decide +kernel)⟩
theorem lw_p33 : lw_okq (⟨"DailyReliefModel", "ofMan", "(II)I"⟩, 22) := ⟨⟨by decide +kernel, by decide +kernel⟩, List.mem_of_getElem? (i := 738) (by decide +kernel), List.mem_of_getElem? (i := 847) (by decide +kernel), List.mem_of_getElem? (i := 848) (by decide +kernel)⟩
theorem lw_p34 : lw_okq (⟨"DailyReliefModel", "its", "(II)I"⟩, 22) := ⟨⟨by decide +kernel, by decide +kernel⟩, List.mem_of_getElem? (i := 738) (by decide +kernel), List.mem_of_getElem? (i := 851) (by decide +kernel), List.mem_of_getElem? (i := 852) (by decide +kernel)⟩
theorem lw_p35 : lw_okq (⟨"DailyReliefModel", "wagesOf", "(I)I"⟩, 22) := ⟨⟨by decide +kernel, by decide +kernel⟩, List.mem_of_getElem? (i := 738) (by decide +kernel), List.mem_of_getElem? (i := 855) (by decide +kernel), List.mem_of_getElem? (i := 856) (by decide +kernel)⟩
theorem lw_p36 : lw_okq (⟨"DailyReliefModel", "worked", "(IIIII)I"⟩, 22) := ⟨⟨by decide +kernel, by decide +kernel⟩, List.mem_of_getElem? (i := 738) (by decide +kernel), List.mem_of_getElem? (i := 862) (by decide +kernel), List.mem_of_getElem? (i := 863) (by decide +kernel)⟩
theorem lw_p37 : lw_okq (⟨"DailyReliefModel", "needs", "(II)I"⟩, 22) := ⟨⟨by decide +kernel, by decide +kernel⟩, List.mem_of_getElem? (i := 738) (by decide +kernel), List.mem_of_getElem? (i := 872) (by decide +kernel), List.mem_of_getElem? (i := 873) (by decide +kernel)⟩
theorem lw_p38 : lw_okq (⟨"DailyReliefModel", "isKnowing", "(II)Z"⟩, 22) := ⟨⟨by decide +kernel, by decide +kernel⟩, List.mem_of_getElem? (i := 738) (by decide +kernel), List.mem_of_getElem? (i := 897) (by decide +kernel), List.mem_of_getElem? (i := 898) (by decide +kernel)⟩
theorem lw_p39 : lw_okq (⟨"DailyReliefModel", "rosterWrong", "(II)I"⟩, 22) := ⟨⟨by decide +kernel, by decide +kernel⟩, List.mem_of_getElem? (i := 738) (by decide +kernel), List.mem_of_getElem? (i := 905) (by decide +kernel), List.mem_of_getElem? (i := 906) (by decide +kernel)⟩
theorem lw_p40 : lw_okq (⟨"DailyReliefModel", "rostered", "(II)V"⟩, 22) := ⟨⟨by decide +kernel, by decide +kernel⟩, List.mem_of_getElem? (i := 738) (by decide +kernel), List.mem_of_getElem? (i := 913) (by decide +kernel), List.mem_of_getElem? (i := 914) (by decide +kernel)⟩
theorem lw_p41 : lw_okq (⟨"DailyReliefModel", "ofTask", "(II)I"⟩, 22) := ⟨⟨by decide +kernel, by decide +kernel⟩, List.mem_of_getElem? (i := 738) (by decide +kernel), List.mem_of_getElem? (i := 926) (by decide +kernel), List.mem_of_getElem? (i := 927) (by decide +kernel)⟩
theorem lw_p42 : lw_okq (⟨"DailyReliefModel", "toldTask", "(II)I"⟩, 22) := ⟨⟨by decide +kernel, by decide +kernel⟩, List.mem_of_getElem? (i := 738) (by decide +kernel), List.mem_of_getElem? (i := 938) (by decide +kernel), List.mem_of_getElem? (i := 939) (by decide +kernel)⟩
theorem lw_p43 : lw_okq (⟨"DailyReliefModel", "knowers", "(I)I"⟩, 22) := ⟨⟨by decide +kernel, by decide +kernel⟩, List.mem_of_getElem? (i := 738) (by decide +kernel), List.mem_of_getElem? (i := 942) (by decide +kernel), List.mem_of_getElem? (i := 943) (by decide +kernel)⟩
theorem lw_p44 : lw_okq (⟨"DailyReliefModel", "readsText", "()V"⟩, 22) := ⟨⟨by decide +kernel, by decide +kernel⟩, List.mem_of_getElem? (i := 738) (by decide +kernel), List.mem_of_getElem? (i := 956) (by decide +kernel), List.mem_of_getElem? (i := 957) (by decide +kernel)⟩
theorem lw_p45 : lw_okq (⟨"DailyReliefModel", "readsAll", "()V"⟩, 22) := ⟨⟨by decide +kernel, by decide +kernel⟩, List.mem_of_getElem? (i := 738) (by decide +kernel), List.mem_of_getElem? (i := 960) (by decide +kernel), List.mem_of_getElem? (i := 961) (by decide +kernel)⟩
theorem lw_p46 : lw_okq (⟨"DailyReliefModel", "readsComparison", "()V"⟩, 22) := ⟨⟨by decide +kernel, by decide +kernel⟩, List.mem_of_getElem? (i := 738) (by decide +kernel), List.mem_of_getElem? (i := 964) (by decide +kernel), List.mem_of_getElem? (i := 965) (by decide +kernel)⟩
theorem lw_p47 : lw_okq (⟨"DailyReliefModel", "readsSum", "()V"⟩, 22) := ⟨⟨by decide +kernel, by decide +kernel⟩, List.mem_of_getElem? (i := 738) (by decide +kernel), List.mem_of_getElem? (i := 968) (by decide +kernel), List.mem_of_getElem? (i := 969) (by decide +kernel)⟩
def lw_privs_3 : List (MethodName × Nat) := [(⟨"DailyReliefModel", "isBunk", "(I)Z"⟩, 22), (⟨"DailyReliefModel", "ofMan", "(II)I"⟩, 22), (⟨"DailyReliefModel", "its", "(II)I"⟩, 22), (⟨"DailyReliefModel", "wagesOf", "(I)I"⟩, 22), (⟨"DailyReliefModel", "worked", "(IIIII)I"⟩, 22), (⟨"DailyReliefModel", "needs", "(II)I"⟩, 22), (⟨"DailyReliefModel", "isKnowing", "(II)Z"⟩, 22), (⟨"DailyReliefModel", "rosterWrong", "(II)I"⟩, 22), (⟨"DailyReliefModel", "rostered", "(II)V"⟩, 22), (⟨"DailyReliefModel", "ofTask", "(II)I"⟩, 22), (⟨"DailyReliefModel", "toldTask", "(II)I"⟩, 22), (⟨"DailyReliefModel", "knowers", "(I)I"⟩, 22), (⟨"DailyReliefModel", "readsText", "()V"⟩, 22), (⟨"DailyReliefModel", "readsAll", "()V"⟩, 22), (⟨"DailyReliefModel", "readsComparison", "()V"⟩, 22), (⟨"DailyReliefModel", "readsSum", "()V"⟩, 22)]
theorem lw_r3 : ∀ q ∈ lw_privs_3, lw_okq q := List.forall_mem_cons.mpr ⟨lw_p32, List.forall_mem_cons.mpr ⟨lw_p33, List.forall_mem_cons.mpr ⟨lw_p34, List.forall_mem_cons.mpr ⟨lw_p35, List.forall_mem_cons.mpr ⟨lw_p36, List.forall_mem_cons.mpr ⟨lw_p37, List.forall_mem_cons.mpr ⟨lw_p38, List.forall_mem_cons.mpr ⟨lw_p39, List.forall_mem_cons.mpr ⟨lw_p40, List.forall_mem_cons.mpr ⟨lw_p41, List.forall_mem_cons.mpr ⟨lw_p42, List.forall_mem_cons.mpr ⟨lw_p43, List.forall_mem_cons.mpr ⟨lw_p44, List.forall_mem_cons.mpr ⟨lw_p45, List.forall_mem_cons.mpr ⟨lw_p46, List.forall_mem_cons.mpr ⟨lw_p47, fun _ h => absurd h List.not_mem_nil⟩⟩⟩⟩⟩⟩⟩⟩⟩⟩⟩⟩⟩⟩⟩⟩
theorem lw_p48 : lw_okq (⟨"DailyReliefModel", "readsProduct", "()V"⟩, 22) := ⟨⟨by decide +kernel, by decide +kernel⟩, List.mem_of_getElem? (i := 738) (by decide +kernel), List.mem_of_getElem? (i := 972) (by decide +kernel), List.mem_of_getElem? (i := 973) (by decide +kernel)⟩
theorem lw_p49 : lw_okq (⟨"DailyReliefModel", "readsOne", "()V"⟩, 22) := ⟨⟨by decide +kernel, by decide +kernel⟩, List.mem_of_getElem? (i := 738) (by decide +kernel), List.mem_of_getElem? (i := 976) (by decide +kernel), List.mem_of_getElem? (i := 977) (by decide +kernel)⟩
theorem lw_p50 : lw_okq (⟨"DailyReliefModel", "nameHere", "()I"⟩, 22) := ⟨⟨by decide +kernel, by decide +kernel⟩, List.mem_of_getElem? (i := 738) (by decide +kernel), List.mem_of_getElem? (i := 980) (by decide +kernel), List.mem_of_getElem? (i := 981) (by decide +kernel)⟩
theorem lw_p51 : lw_okq (⟨"DailyReliefModel", "byteHere", "()I"⟩, 22) := ⟨⟨by decide +kernel, by decide +kernel⟩, List.mem_of_getElem? (i := 738) (by decide +kernel), List.mem_of_getElem? (i := 984) (by decide +kernel), List.mem_of_getElem? (i := 985) (by decide +kernel)⟩
theorem lw_p52 : lw_okq (⟨"DailyReliefModel", "isDigitHere", "()Z"⟩, 22) := ⟨⟨by decide +kernel, by decide +kernel⟩, List.mem_of_getElem? (i := 738) (by decide +kernel), List.mem_of_getElem? (i := 988) (by decide +kernel), List.mem_of_getElem? (i := 989) (by decide +kernel)⟩
theorem lw_p53 : lw_okq (⟨"DailyReliefModel", "readsNumber", "()V"⟩, 22) := ⟨⟨by decide +kernel, by decide +kernel⟩, List.mem_of_getElem? (i := 738) (by decide +kernel), List.mem_of_getElem? (i := 994) (by decide +kernel), List.mem_of_getElem? (i := 995) (by decide +kernel)⟩
theorem lw_p54 : lw_okq (⟨"DailyReliefModel", "writes", "(I)V"⟩, 22) := ⟨⟨by decide +kernel, by decide +kernel⟩, List.mem_of_getElem? (i := 738) (by decide +kernel), List.mem_of_getElem? (i := 998) (by decide +kernel), List.mem_of_getElem? (i := 999) (by decide +kernel)⟩
theorem lw_p55 : lw_okq (⟨"DailyReliefModel", "isHere", "(I)Z"⟩, 22) := ⟨⟨by decide +kernel, by decide +kernel⟩, List.mem_of_getElem? (i := 738) (by decide +kernel), List.mem_of_getElem? (i := 1002) (by decide +kernel), List.mem_of_getElem? (i := 1003) (by decide +kernel)⟩
theorem lw_p56 : lw_okq (⟨"DailyReliefModel", "daysWrong", "(I)I"⟩, 22) := ⟨⟨by decide +kernel, by decide +kernel⟩, List.mem_of_getElem? (i := 738) (by decide +kernel), List.mem_of_getElem? (i := 1014) (by decide +kernel), List.mem_of_getElem? (i := 1015) (by decide +kernel)⟩
theorem lw_p57 : lw_okq (⟨"DailyReliefModel", "daysGo", "(IZ)V"⟩, 22) := ⟨⟨by decide +kernel, by decide +kernel⟩, List.mem_of_getElem? (i := 738) (by decide +kernel), List.mem_of_getElem? (i := 1023) (by decide +kernel), List.mem_of_getElem? (i := 1024) (by decide +kernel)⟩
theorem lw_p58 : lw_okq (⟨"DailyReliefModel", "day", "(Z)V"⟩, 22) := ⟨⟨by decide +kernel, by decide +kernel⟩, List.mem_of_getElem? (i := 738) (by decide +kernel), List.mem_of_getElem? (i := 1027) (by decide +kernel), List.mem_of_getElem? (i := 1028) (by decide +kernel)⟩
theorem lw_p59 : lw_okq (⟨"DailyReliefModel", "relieves", "()V"⟩, 22) := ⟨⟨by decide +kernel, by decide +kernel⟩, List.mem_of_getElem? (i := 738) (by decide +kernel), List.mem_of_getElem? (i := 1031) (by decide +kernel), List.mem_of_getElem? (i := 1032) (by decide +kernel)⟩
theorem lw_p60 : lw_okq (⟨"DailyReliefModel", "isStaying", "(I)Z"⟩, 22) := ⟨⟨by decide +kernel, by decide +kernel⟩, List.mem_of_getElem? (i := 738) (by decide +kernel), List.mem_of_getElem? (i := 1035) (by decide +kernel), List.mem_of_getElem? (i := 1036) (by decide +kernel)⟩
theorem lw_p61 : lw_okq (⟨"DailyReliefModel", "lesson", "(IZ)V"⟩, 22) := ⟨⟨by decide +kernel, by decide +kernel⟩, List.mem_of_getElem? (i := 738) (by decide +kernel), List.mem_of_getElem? (i := 1039) (by decide +kernel), List.mem_of_getElem? (i := 1040) (by decide +kernel)⟩
theorem lw_p62 : lw_okq (⟨"DailyReliefModel", "isMute", "(I)Z"⟩, 22) := ⟨⟨by decide +kernel, by decide +kernel⟩, List.mem_of_getElem? (i := 738) (by decide +kernel), List.mem_of_getElem? (i := 1043) (by decide +kernel), List.mem_of_getElem? (i := 1044) (by decide +kernel)⟩
theorem lw_p63 : lw_okq (⟨"DailyReliefModel", "tells", "(II)I"⟩, 22) := ⟨⟨by decide +kernel, by decide +kernel⟩, List.mem_of_getElem? (i := 738) (by decide +kernel), List.mem_of_getElem? (i := 1047) (by decide +kernel), List.mem_of_getElem? (i := 1048) (by decide +kernel)⟩
def lw_privs_4 : List (MethodName × Nat) := [(⟨"DailyReliefModel", "readsProduct", "()V"⟩, 22), (⟨"DailyReliefModel", "readsOne", "()V"⟩, 22), (⟨"DailyReliefModel", "nameHere", "()I"⟩, 22), (⟨"DailyReliefModel", "byteHere", "()I"⟩, 22), (⟨"DailyReliefModel", "isDigitHere", "()Z"⟩, 22), (⟨"DailyReliefModel", "readsNumber", "()V"⟩, 22), (⟨"DailyReliefModel", "writes", "(I)V"⟩, 22), (⟨"DailyReliefModel", "isHere", "(I)Z"⟩, 22), (⟨"DailyReliefModel", "daysWrong", "(I)I"⟩, 22), (⟨"DailyReliefModel", "daysGo", "(IZ)V"⟩, 22), (⟨"DailyReliefModel", "day", "(Z)V"⟩, 22), (⟨"DailyReliefModel", "relieves", "()V"⟩, 22), (⟨"DailyReliefModel", "isStaying", "(I)Z"⟩, 22), (⟨"DailyReliefModel", "lesson", "(IZ)V"⟩, 22), (⟨"DailyReliefModel", "isMute", "(I)Z"⟩, 22), (⟨"DailyReliefModel", "tells", "(II)I"⟩, 22)]
theorem lw_r4 : ∀ q ∈ lw_privs_4, lw_okq q := List.forall_mem_cons.mpr ⟨lw_p48, List.forall_mem_cons.mpr ⟨lw_p49, List.forall_mem_cons.mpr ⟨lw_p50, List.forall_mem_cons.mpr ⟨lw_p51, List.forall_mem_cons.mpr ⟨lw_p52, List.forall_mem_cons.mpr ⟨lw_p53, List.forall_mem_cons.mpr ⟨lw_p54, List.forall_mem_cons.mpr ⟨lw_p55, List.forall_mem_cons.mpr ⟨lw_p56, List.forall_mem_cons.mpr ⟨lw_p57, List.forall_mem_cons.mpr ⟨lw_p58, List.forall_mem_cons.mpr ⟨lw_p59, List.forall_mem_cons.mpr ⟨lw_p60, List.forall_mem_cons.mpr ⟨lw_p61, List.forall_mem_cons.mpr ⟨lw_p62, List.forall_mem_cons.mpr ⟨lw_p63, fun _ h => absurd h List.not_mem_nil⟩⟩⟩⟩⟩⟩⟩⟩⟩⟩⟩⟩⟩⟩⟩⟩
theorem lw_p64 : lw_okq (⟨"DailyReliefModel", "draw", "()I"⟩, 22) := ⟨⟨by decide +kernel, by decide +kernel⟩, List.mem_of_getElem? (i := 738) (by decide +kernel), List.mem_of_getElem? (i := 1051) (by decide +kernel), List.mem_of_getElem? (i := 1052) (by decide +kernel)⟩
theorem lw_p65 : lw_okq (⟨"DailyReliefModel", "keepsAside", "()V"⟩, 22) := ⟨⟨by decide +kernel, by decide +kernel⟩, List.mem_of_getElem? (i := 738) (by decide +kernel), List.mem_of_getElem? (i := 1074) (by decide +kernel), List.mem_of_getElem? (i := 1075) (by decide +kernel)⟩
theorem lw_p66 : lw_okq (⟨"DailyReliefModel", "putsBack", "()V"⟩, 22) := ⟨⟨by decide +kernel, by decide +kernel⟩, List.mem_of_getElem? (i := 738) (by decide +kernel), List.mem_of_getElem? (i := 1078) (by decide +kernel), List.mem_of_getElem? (i := 1079) (by decide +kernel)⟩
theorem lw_p67 : lw_okq (⟨"DailyReliefModel", "isKept", "(III)Z"⟩, 22) := ⟨⟨by decide +kernel, by decide +kernel⟩, List.mem_of_getElem? (i := 738) (by decide +kernel), List.mem_of_getElem? (i := 1096) (by decide +kernel), List.mem_of_getElem? (i := 1097) (by decide +kernel)⟩
theorem lw_p68 : lw_okq (⟨"DailyReliefModel", "isDoneWithout", "(II)Z"⟩, 22) := ⟨⟨by decide +kernel, by decide +kernel⟩, List.mem_of_getElem? (i := 738) (by decide +kernel), List.mem_of_getElem? (i := 1104) (by decide +kernel), List.mem_of_getElem? (i := 1105) (by decide +kernel)⟩
theorem lw_p69 : lw_okq (⟨"DailyReliefModel", "doneIn", "(II)I"⟩, 22) := ⟨⟨by decide +kernel, by decide +kernel⟩, List.mem_of_getElem? (i := 738) (by decide +kernel), List.mem_of_getElem? (i := 1112) (by decide +kernel), List.mem_of_getElem? (i := 1113) (by decide +kernel)⟩
theorem lw_p70 : lw_okq (⟨"DailyReliefModel", "hearing", "(I)I"⟩, 22) := ⟨⟨by decide +kernel, by decide +kernel⟩, List.mem_of_getElem? (i := 738) (by decide +kernel), List.mem_of_getElem? (i := 1139) (by decide +kernel), List.mem_of_getElem? (i := 1140) (by decide +kernel)⟩
theorem lw_p71 : lw_okq (⟨"DailyReliefModel", "runs", "(I)V"⟩, 22) := ⟨⟨by decide +kernel, by decide +kernel⟩, List.mem_of_getElem? (i := 738) (by decide +kernel), List.mem_of_getElem? (i := 1143) (by decide +kernel), List.mem_of_getElem? (i := 1144) (by decide +kernel)⟩
theorem lw_p72 : lw_okq (⟨"DailyReliefModel", "telling", "(I)I"⟩, 22) := ⟨⟨by decide +kernel, by decide +kernel⟩, List.mem_of_getElem? (i := 738) (by decide +kernel), List.mem_of_getElem? (i := 1147) (by decide +kernel), List.mem_of_getElem? (i := 1148) (by decide +kernel)⟩
theorem lw_p73 : lw_okq (⟨"DailyReliefModel", "bunking", "(I)I"⟩, 22) := ⟨⟨by decide +kernel, by decide +kernel⟩, List.mem_of_getElem? (i := 738) (by decide +kernel), List.mem_of_getElem? (i := 1151) (by decide +kernel), List.mem_of_getElem? (i := 1152) (by decide +kernel)⟩
theorem lw_p74 : lw_okq (⟨"DailyReliefModel", "parting", "(I)I"⟩, 22) := ⟨⟨by decide +kernel, by decide +kernel⟩, List.mem_of_getElem? (i := 738) (by decide +kernel), List.mem_of_getElem? (i := 1155) (by decide +kernel), List.mem_of_getElem? (i := 1156) (by decide +kernel)⟩
theorem lw_p75 : lw_okq (⟨"DailyReliefModel", "wrong", "(I)I"⟩, 22) := ⟨⟨by decide +kernel, by decide +kernel⟩, List.mem_of_getElem? (i := 738) (by decide +kernel), List.mem_of_getElem? (i := 1175) (by decide +kernel), List.mem_of_getElem? (i := 1176) (by decide +kernel)⟩
theorem lw_p76 : lw_okq (⟨"DailyReliefModel", "isStanding", "(III)Z"⟩, 22) := ⟨⟨by decide +kernel, by decide +kernel⟩, List.mem_of_getElem? (i := 738) (by decide +kernel), List.mem_of_getElem? (i := 1183) (by decide +kernel), List.mem_of_getElem? (i := 1184) (by decide +kernel)⟩
theorem lw_p77 : lw_okq (⟨"DailyReliefModel", "knownByAny", "()I"⟩, 22) := ⟨⟨by decide +kernel, by decide +kernel⟩, List.mem_of_getElem? (i := 738) (by decide +kernel), List.mem_of_getElem? (i := 1215) (by decide +kernel), List.mem_of_getElem? (i := 1216) (by decide +kernel)⟩
def lw_privs_5 : List (MethodName × Nat) := [(⟨"DailyReliefModel", "draw", "()I"⟩, 22), (⟨"DailyReliefModel", "keepsAside", "()V"⟩, 22), (⟨"DailyReliefModel", "putsBack", "()V"⟩, 22), (⟨"DailyReliefModel", "isKept", "(III)Z"⟩, 22), (⟨"DailyReliefModel", "isDoneWithout", "(II)Z"⟩, 22), (⟨"DailyReliefModel", "doneIn", "(II)I"⟩, 22), (⟨"DailyReliefModel", "hearing", "(I)I"⟩, 22), (⟨"DailyReliefModel", "runs", "(I)V"⟩, 22), (⟨"DailyReliefModel", "telling", "(I)I"⟩, 22), (⟨"DailyReliefModel", "bunking", "(I)I"⟩, 22), (⟨"DailyReliefModel", "parting", "(I)I"⟩, 22), (⟨"DailyReliefModel", "wrong", "(I)I"⟩, 22), (⟨"DailyReliefModel", "isStanding", "(III)Z"⟩, 22), (⟨"DailyReliefModel", "knownByAny", "()I"⟩, 22)]
theorem lw_r5 : ∀ q ∈ lw_privs_5, lw_okq q := List.forall_mem_cons.mpr ⟨lw_p64, List.forall_mem_cons.mpr ⟨lw_p65, List.forall_mem_cons.mpr ⟨lw_p66, List.forall_mem_cons.mpr ⟨lw_p67, List.forall_mem_cons.mpr ⟨lw_p68, List.forall_mem_cons.mpr ⟨lw_p69, List.forall_mem_cons.mpr ⟨lw_p70, List.forall_mem_cons.mpr ⟨lw_p71, List.forall_mem_cons.mpr ⟨lw_p72, List.forall_mem_cons.mpr ⟨lw_p73, List.forall_mem_cons.mpr ⟨lw_p74, List.forall_mem_cons.mpr ⟨lw_p75, List.forall_mem_cons.mpr ⟨lw_p76, List.forall_mem_cons.mpr ⟨lw_p77, fun _ h => absurd h List.not_mem_nil⟩⟩⟩⟩⟩⟩⟩⟩⟩⟩⟩⟩⟩⟩
def lw_privs : List (MethodName × Nat) := lw_privs_1 ++ (lw_privs_2 ++ (lw_privs_3 ++ (lw_privs_4 ++ (lw_privs_5))))
def lw_tbl : List Cond := k2_sels lw_privs ++ tables_1
theorem lw_privs_ok : ∀ q ∈ lw_privs, lw_okq q := by
  show ∀ q ∈ lw_privs_1 ++ (lw_privs_2 ++ (lw_privs_3 ++ (lw_privs_4 ++ (lw_privs_5)))), lw_okq q
  exact List.forall_mem_append.mpr ⟨lw_r1, List.forall_mem_append.mpr ⟨lw_r2, List.forall_mem_append.mpr ⟨lw_r3, List.forall_mem_append.mpr ⟨lw_r4, lw_r5⟩⟩⟩⟩
-- ===== end of PART A; then your names; then what follows =====
def RX0 : String := "DailyRelief$Bunk"
def TX0 : u_T := fun k => match k with
  | 0 => ("DailyRelief$Bunk", "kind", "I", false)
  | 1 => ("DailyRelief$Bunk", "m", "I", false)
  | 2 => ("DailyRelief$Bunk", "came", "I", false)
  | 3 => ("DailyRelief$Bunk", "known", "I", false)
  | 4 => ("DailyRelief$Bunk", "taught", "I", false)
  | 5 => ("DailyRelief$Bunk", "versions", "[I", true)
  | _ => ("DailyRelief$Bunk", "lessons", "[I", true)
def tyX0 : Nat → FieldType := fun k => match k with
  | 0 => .int
  | 1 => .int
  | 2 => .int
  | 3 => .int
  | 4 => .int
  | 5 => .array .int
  | _ => .array .int
abbrev wsX00 : List Cond := u_ws RX0 TX0 7
theorem nmX0 : ∀ a, a < 7 → ∀ b, b < 7 → a ≠ b → (TX0 a).2.1 ≠ (TX0 b).2.1 := by decide +kernel
theorem tyX0_ok : ∀ k, k < 7 → parseFieldDescriptor (TX0 k).2.2.1 = some (tyX0 k) := by decide +kernel
abbrev cX0_init : ByteArray := prog_2_method_1_code
def yX0_init : MethodName := ⟨RX0, "<init>", "()V"⟩
abbrev cX0_copyFrom : ByteArray := prog_2_method_2_code
def yX0_copyFrom : MethodName := ⟨RX0, "copyFrom", "(LDailyRelief$Bunk;)V"⟩
abbrev cX0_settle : ByteArray := prog_2_method_3_code
def yX0_settle : MethodName := ⟨RX0, "settle", "(II)V"⟩
abbrev cX0_learnAll : ByteArray := prog_2_method_4_code
def yX0_learnAll : MethodName := ⟨RX0, "learnAll", "(II)V"⟩
abbrev cX0_learn : ByteArray := prog_2_method_5_code
def yX0_learn : MethodName := ⟨RX0, "learn", "(II)V"⟩
abbrev cX0_forget : ByteArray := prog_2_method_6_code
def yX0_forget : MethodName := ⟨RX0, "forget", "(I)V"⟩
abbrev cX0_knows : ByteArray := prog_2_method_7_code
def yX0_knows : MethodName := ⟨RX0, "knows", "(I)Z"⟩
abbrev cX0_isOf : ByteArray := prog_2_method_8_code
def yX0_isOf : MethodName := ⟨RX0, "isOf", "(I)Z"⟩
abbrev cX0_stays : ByteArray := prog_2_method_9_code
def yX0_stays : MethodName := ⟨RX0, "stays", "(I)Z"⟩
abbrev cX0_tellsOf : ByteArray := prog_2_method_10_code
def yX0_tellsOf : MethodName := ⟨RX0, "tellsOf", "(I)I"⟩
def RX1 : String := "DailyRelief$Sheet"
def TX1 : u_T := fun k => match k with
  | 0 => ("DailyRelief$Sheet", "bits", "I", false)
  | 1 => ("DailyRelief$Sheet", "length", "I", false)
  | _ => ("DailyRelief$Sheet", "numbers", "[I", true)
def tyX1 : Nat → FieldType := fun k => match k with
  | 0 => .int
  | 1 => .int
  | _ => .array .int
abbrev wsX10 : List Cond := u_ws RX1 TX1 3
theorem nmX1 : ∀ a, a < 3 → ∀ b, b < 3 → a ≠ b → (TX1 a).2.1 ≠ (TX1 b).2.1 := by decide +kernel
theorem tyX1_ok : ∀ k, k < 3 → parseFieldDescriptor (TX1 k).2.2.1 = some (tyX1 k) := by decide +kernel
abbrev cX1_init : ByteArray := prog_3_method_1_code
def yX1_init : MethodName := ⟨RX1, "<init>", "()V"⟩
abbrev cX1_lay : ByteArray := prog_3_method_2_code
def yX1_lay : MethodName := ⟨RX1, "lay", "(II)V"⟩
abbrev cX1_isMissing : ByteArray := prog_3_method_3_code
def yX1_isMissing : MethodName := ⟨RX1, "isMissing", "()Z"⟩
abbrev cX1_write : ByteArray := prog_3_method_4_code
def yX1_write : MethodName := ⟨RX1, "write", "(II)V"⟩
abbrev cX1_holds : ByteArray := prog_3_method_5_code
def yX1_holds : MethodName := ⟨RX1, "holds", "(II)Z"⟩
def RX2 : String := "DailyRelief$Ship"
def TX2 : u_T := fun k => match k with
  | 0 => ("DailyRelief$Ship", "bunks", "[LDailyRelief$Bunk;", true)
  | 1 => ("DailyRelief$Ship", "crew", "I", false)
  | 2 => ("DailyRelief$Ship", "rosterKm", "[I", true)
  | 3 => ("DailyRelief$Ship", "rosterBrings", "[I", true)
  | 4 => ("DailyRelief$Ship", "enlisted", "I", false)
  | 5 => ("DailyRelief$Ship", "next", "I", false)
  | 6 => ("DailyRelief$Ship", "written", "I", false)
  | 7 => ("DailyRelief$Ship", "tasks", "[LDailyRelief$Task;", true)
  | 8 => ("DailyRelief$Ship", "day", "I", false)
  | 9 => ("DailyRelief$Ship", "mishearing", "I", false)
  | 10 => ("DailyRelief$Ship", "z", "I", false)
  | 11 => ("DailyRelief$Ship", "tape", "[B", true)
  | 12 => ("DailyRelief$Ship", "taped", "I", false)
  | 13 => ("DailyRelief$Ship", "texts", "[LDailyRelief$Text;", true)
  | 14 => ("DailyRelief$Ship", "waits", "[I", true)
  | _ => ("DailyRelief$Ship", "waiting", "I", false)
def tyX2 : Nat → FieldType := fun k => match k with
  | 0 => .array (.object "DailyRelief$Bunk")
  | 1 => .int
  | 2 => .array .int
  | 3 => .array .int
  | 4 => .int
  | 5 => .int
  | 6 => .int
  | 7 => .array (.object "DailyRelief$Task")
  | 8 => .int
  | 9 => .int
  | 10 => .int
  | 11 => .array .byte
  | 12 => .int
  | 13 => .array (.object "DailyRelief$Text")
  | 14 => .array .int
  | _ => .int
abbrev wsX20 : List Cond := u_ws RX2 TX2 16
theorem nmX2 : ∀ a, a < 16 → ∀ b, b < 16 → a ≠ b → (TX2 a).2.1 ≠ (TX2 b).2.1 := by decide +kernel
theorem tyX2_ok : ∀ k, k < 16 → parseFieldDescriptor (TX2 k).2.2.1 = some (tyX2 k) := by decide +kernel
abbrev cX2_init : ByteArray := prog_4_method_1_code
def yX2_init : MethodName := ⟨RX2, "<init>", "()V"⟩
abbrev cX2_copyFrom : ByteArray := prog_4_method_2_code
def yX2_copyFrom : MethodName := ⟨RX2, "copyFrom", "(LDailyRelief$Ship;)V"⟩
abbrev cX2_addBunk : ByteArray := prog_4_method_3_code
def yX2_addBunk : MethodName := ⟨RX2, "addBunk", "(I)I"⟩
abbrev cX2_enlist : ByteArray := prog_4_method_4_code
def yX2_enlist : MethodName := ⟨RX2, "enlist", "(II)I"⟩
abbrev cX2_teachOnly : ByteArray := prog_4_method_5_code
def yX2_teachOnly : MethodName := ⟨RX2, "teachOnly", "(II)V"⟩
abbrev cX2_passDay : ByteArray := prog_4_method_6_code
def yX2_passDay : MethodName := ⟨RX2, "passDay", "()I"⟩
abbrev cX2_passDayByDraws : ByteArray := prog_4_method_7_code
def yX2_passDayByDraws : MethodName := ⟨RX2, "passDayByDraws", "()I"⟩
abbrev cX2_relieve : ByteArray := prog_4_method_8_code
def yX2_relieve : MethodName := ⟨RX2, "relieve", "()I"⟩
abbrev cX2_teachAll : ByteArray := prog_4_method_9_code
def yX2_teachAll : MethodName := ⟨RX2, "teachAll", "(Z)I"⟩
abbrev cX2_teach : ByteArray := prog_4_method_10_code
def yX2_teach : MethodName := ⟨RX2, "teach", "(LDailyRelief$Bunk;LDailyRelief$Bunk;Z)I"⟩
abbrev cX2_draw : ByteArray := prog_4_method_11_code
def yX2_draw : MethodName := ⟨RX2, "draw", "()I"⟩
abbrev cX2_endDay : ByteArray := prog_4_method_12_code
def yX2_endDay : MethodName := ⟨RX2, "endDay", "()V"⟩
abbrev cX2_needs : ByteArray := prog_4_method_13_code
def yX2_needs : MethodName := ⟨RX2, "needs", "(LDailyRelief$Bunk;I)I"⟩
abbrev cX2_pay : ByteArray := prog_4_method_14_code
def yX2_pay : MethodName := ⟨RX2, "pay", "(LDailyRelief$Bunk;)I"⟩
abbrev cX2_payOfAll : ByteArray := prog_4_method_15_code
def yX2_payOfAll : MethodName := ⟨RX2, "payOfAll", "()I"⟩
abbrev cX2_doneOfAll : ByteArray := prog_4_method_16_code
def yX2_doneOfAll : MethodName := ⟨RX2, "doneOfAll", "()I"⟩
abbrev cX2_knowers : ByteArray := prog_4_method_17_code
def yX2_knowers : MethodName := ⟨RX2, "knowers", "(I)I"⟩
abbrev cX2_knownByAny : ByteArray := prog_4_method_18_code
def yX2_knownByAny : MethodName := ⟨RX2, "knownByAny", "()I"⟩
abbrev cX2_canSpare : ByteArray := prog_4_method_19_code
def yX2_canSpare : MethodName := ⟨RX2, "canSpare", "(II)Z"⟩
abbrev cX2_ofMan : ByteArray := prog_4_method_20_code
def yX2_ofMan : MethodName := ⟨RX2, "ofMan", "(II)I"⟩
abbrev cX2_ofKnack : ByteArray := prog_4_method_21_code
def yX2_ofKnack : MethodName := ⟨RX2, "ofKnack", "(LDailyRelief$Bunk;II)I"⟩
abbrev cX2_ofTask : ByteArray := prog_4_method_22_code
def yX2_ofTask : MethodName := ⟨RX2, "ofTask", "(II)I"⟩
def RX3 : String := "DailyRelief$Task"
def TX3 : u_T := fun k => match k with
  | 0 => ("DailyRelief$Task", "knack", "I", false)
  | 1 => ("DailyRelief$Task", "must", "I", false)
  | 2 => ("DailyRelief$Task", "done", "I", false)
  | _ => ("DailyRelief$Task", "failed", "I", false)
def tyX3 : Nat → FieldType := fun k => match k with
  | 0 => .int
  | 1 => .int
  | 2 => .int
  | _ => .int
abbrev wsX30 : List Cond := u_ws RX3 TX3 4
theorem nmX3 : ∀ a, a < 4 → ∀ b, b < 4 → a ≠ b → (TX3 a).2.1 ≠ (TX3 b).2.1 := by decide +kernel
theorem tyX3_ok : ∀ k, k < 4 → parseFieldDescriptor (TX3 k).2.2.1 = some (tyX3 k) := by decide +kernel
abbrev cX3_init : ByteArray := prog_5_method_1_code
def yX3_init : MethodName := ⟨RX3, "<init>", "()V"⟩
abbrev cX3_copyFrom : ByteArray := prog_5_method_2_code
def yX3_copyFrom : MethodName := ⟨RX3, "copyFrom", "(LDailyRelief$Task;)V"⟩
abbrev cX3_tryWith : ByteArray := prog_5_method_3_code
def yX3_tryWith : MethodName := ⟨RX3, "tryWith", "(I)V"⟩
def RX4 : String := "DailyRelief$Text"
def TX4 : u_T := fun k => match k with
  | 0 => ("DailyRelief$Text", "code", "[I", true)
  | _ => ("DailyRelief$Text", "stack", "[I", true)
def tyX4 : Nat → FieldType := fun k => match k with
  | 0 => .array .int
  | _ => .array .int
abbrev wsX40 : List Cond := u_ws RX4 TX4 2
theorem nmX4 : ∀ a, a < 2 → ∀ b, b < 2 → a ≠ b → (TX4 a).2.1 ≠ (TX4 b).2.1 := by decide +kernel
theorem tyX4_ok : ∀ k, k < 2 → parseFieldDescriptor (TX4 k).2.2.1 = some (tyX4 k) := by decide +kernel
abbrev cX4_init : ByteArray := prog_6_method_1_code
def yX4_init : MethodName := ⟨RX4, "<init>", "([II)V"⟩
abbrev cX4_value : ByteArray := prog_6_method_2_code
def yX4_value : MethodName := ⟨RX4, "value", "(III)I"⟩
abbrev cX4_joined : ByteArray := prog_6_method_3_code
def yX4_joined : MethodName := ⟨RX4, "joined", "(III)I"⟩
def RX5 : String := "DailyRelief$TextReader"
def TX5 : u_T := fun k => match k with
  | 0 => ("DailyRelief$TextReader", "tape", "[B", false)
  | 1 => ("DailyRelief$TextReader", "length", "I", false)
  | 2 => ("DailyRelief$TextReader", "thirdName", "I", false)
  | 3 => ("DailyRelief$TextReader", "at", "I", false)
  | 4 => ("DailyRelief$TextReader", "steps", "[I", true)
  | 5 => ("DailyRelief$TextReader", "stepped", "I", false)
  | _ => ("DailyRelief$TextReader", "fault", "I", false)
def tyX5 : Nat → FieldType := fun k => match k with
  | 0 => .array .byte
  | 1 => .int
  | 2 => .int
  | 3 => .int
  | 4 => .array .int
  | 5 => .int
  | _ => .int
abbrev wsX50 : List Cond := u_ws RX5 TX5 7
theorem nmX5 : ∀ a, a < 7 → ∀ b, b < 7 → a ≠ b → (TX5 a).2.1 ≠ (TX5 b).2.1 := by decide +kernel
theorem tyX5_ok : ∀ k, k < 7 → parseFieldDescriptor (TX5 k).2.2.1 = some (tyX5 k) := by decide +kernel
abbrev cX5_init : ByteArray := prog_7_method_1_code
def yX5_init : MethodName := ⟨RX5, "<init>", "()V"⟩
abbrev cX5_read : ByteArray := prog_7_method_2_code
def yX5_read : MethodName := ⟨RX5, "read", "([BII)LDailyRelief$Text;"⟩
abbrev cX5_readT : ByteArray := prog_7_method_3_code
def yX5_readT : MethodName := ⟨RX5, "readT", "(I)V"⟩
abbrev cX5_readA : ByteArray := prog_7_method_4_code
def yX5_readA : MethodName := ⟨RX5, "readA", "(I)V"⟩
abbrev cX5_readB : ByteArray := prog_7_method_5_code
def yX5_readB : MethodName := ⟨RX5, "readB", "(I)V"⟩
abbrev cX5_readS : ByteArray := prog_7_method_6_code
def yX5_readS : MethodName := ⟨RX5, "readS", "(I)V"⟩
abbrev cX5_readP : ByteArray := prog_7_method_7_code
def yX5_readP : MethodName := ⟨RX5, "readP", "(I)V"⟩
abbrev cX5_readQ : ByteArray := prog_7_method_8_code
def yX5_readQ : MethodName := ⟨RX5, "readQ", "(I)V"⟩
abbrev cX5_readNumber : ByteArray := prog_7_method_9_code
def yX5_readNumber : MethodName := ⟨RX5, "readNumber", "()V"⟩
abbrev cX5_isDigit : ByteArray := prog_7_method_10_code
def yX5_isDigit : MethodName := ⟨RX5, "isDigit", "(I)Z"⟩
abbrev cX5_ahead : ByteArray := prog_7_method_11_code
def yX5_ahead : MethodName := ⟨RX5, "ahead", "()I"⟩
abbrev cX5_takes : ByteArray := prog_7_method_12_code
def yX5_takes : MethodName := ⟨RX5, "takes", "(I)Z"⟩
abbrev cX5_step : ByteArray := prog_7_method_13_code
def yX5_step : MethodName := ⟨RX5, "step", "(I)V"⟩
abbrev cX5_fail : ByteArray := prog_7_method_14_code
def yX5_fail : MethodName := ⟨RX5, "fail", "()V"⟩
def RX6 : String := "DailyRelief$Voices"
def TX6 : u_T := fun k => match k with
  | 0 => ("DailyRelief$Voices", "kind", "I", false)
  | 1 => ("DailyRelief$Voices", "bunk", "I", false)
  | 2 => ("DailyRelief$Voices", "m", "I", false)
  | 3 => ("DailyRelief$Voices", "trace", "[I", true)
  | 4 => ("DailyRelief$Voices", "begun", "I", false)
  | _ => ("DailyRelief$Voices", "parted", "Z", false)
def tyX6 : Nat → FieldType := fun k => match k with
  | 0 => .int
  | 1 => .int
  | 2 => .int
  | 3 => .array .int
  | 4 => .int
  | _ => .boolean
abbrev wsX60 : List Cond := u_ws RX6 TX6 6
theorem nmX6 : ∀ a, a < 6 → ∀ b, b < 6 → a ≠ b → (TX6 a).2.1 ≠ (TX6 b).2.1 := by decide +kernel
theorem tyX6_ok : ∀ k, k < 6 → parseFieldDescriptor (TX6 k).2.2.1 = some (tyX6 k) := by decide +kernel
abbrev cX6_init : ByteArray := prog_8_method_1_code
def yX6_init : MethodName := ⟨RX6, "<init>", "()V"⟩
abbrev cX6_speak : ByteArray := prog_8_method_2_code
def yX6_speak : MethodName := ⟨RX6, "speak", "(IIIII)I"⟩
abbrev cX6_own : ByteArray := prog_8_method_3_code
def yX6_own : MethodName := ⟨RX6, "own", "(III)I"⟩
abbrev cX6_above : ByteArray := prog_8_method_4_code
def yX6_above : MethodName := ⟨RX6, "above", "(IIII)I"⟩
abbrev cX6_speakFrom : ByteArray := prog_8_method_5_code
def yX6_speakFrom : MethodName := ⟨RX6, "speakFrom", "(IIII)I"⟩
abbrev cX6_run : ByteArray := prog_8_method_6_code
def yX6_run : MethodName := ⟨RX6, "run", "(III)I"⟩
abbrev cX6_begin : ByteArray := prog_8_method_7_code
def yX6_begin : MethodName := ⟨RX6, "begin", "(I)V"⟩
abbrev cX6_part : ByteArray := prog_8_method_8_code
def yX6_part : MethodName := ⟨RX6, "part", "(II)I"⟩
def RX7 : String := "DailyRelief"
def TX7 : u_T := fun k => match k with
  | 0 => ("DailyRelief", "ship", "LDailyRelief$Ship;", true)
  | 1 => ("DailyRelief", "kept", "LDailyRelief$Ship;", true)
  | 2 => ("DailyRelief", "trial", "LDailyRelief$Ship;", true)
  | 3 => ("DailyRelief", "reader", "LDailyRelief$TextReader;", true)
  | 4 => ("DailyRelief", "voices", "LDailyRelief$Voices;", true)
  | 5 => ("DailyRelief", "sheets", "[LDailyRelief$Sheet;", true)
  | 6 => ("DailyRelief", "errors", "[I", true)
  | _ => ("DailyRelief", "images", "I", false)
def tyX7 : Nat → FieldType := fun k => match k with
  | 0 => .object "DailyRelief$Ship"
  | 1 => .object "DailyRelief$Ship"
  | 2 => .object "DailyRelief$Ship"
  | 3 => .object "DailyRelief$TextReader"
  | 4 => .object "DailyRelief$Voices"
  | 5 => .array (.object "DailyRelief$Sheet")
  | 6 => .array .int
  | _ => .int
abbrev wsX70 : List Cond := u_ws RX7 TX7 8
theorem nmX7 : ∀ a, a < 8 → ∀ b, b < 8 → a ≠ b → (TX7 a).2.1 ≠ (TX7 b).2.1 := by decide +kernel
theorem tyX7_ok : ∀ k, k < 8 → parseFieldDescriptor (TX7 k).2.2.1 = some (tyX7 k) := by decide +kernel
abbrev cX7_init : ByteArray := prog_1_method_1_code
def yX7_init : MethodName := ⟨RX7, "<init>", "()V"⟩
abbrev cX7_bunk : ByteArray := prog_1_method_2_code
def yX7_bunk : MethodName := ⟨RX7, "bunk", "(I)I"⟩
abbrev cX7_bunkIs : ByteArray := prog_1_method_3_code
def yX7_bunkIs : MethodName := ⟨RX7, "bunkIs", "(II)I"⟩
abbrev cX7_as : ByteArray := prog_1_method_4_code
def yX7_as : MethodName := ⟨RX7, "as", "(II)I"⟩
abbrev cX7_set : ByteArray := prog_1_method_5_code
def yX7_set : MethodName := ⟨RX7, "set", "(III)I"⟩
abbrev cX7_know : ByteArray := prog_1_method_6_code
def yX7_know : MethodName := ⟨RX7, "know", "(III)I"⟩
abbrev cX7_roster : ByteArray := prog_1_method_7_code
def yX7_roster : MethodName := ⟨RX7, "roster", "(II)I"⟩
abbrev cX7_book : ByteArray := prog_1_method_8_code
def yX7_book : MethodName := ⟨RX7, "book", "(I)I"⟩
abbrev cX7_task : ByteArray := prog_1_method_9_code
def yX7_task : MethodName := ⟨RX7, "task", "(III)I"⟩
abbrev cX7_taskIs : ByteArray := prog_1_method_10_code
def yX7_taskIs : MethodName := ⟨RX7, "taskIs", "(II)I"⟩
abbrev cX7_feed : ByteArray := prog_1_method_11_code
def yX7_feed : MethodName := ⟨RX7, "feed", "(JI)I"⟩
abbrev cX7_text : ByteArray := prog_1_method_12_code
def yX7_text : MethodName := ⟨RX7, "text", "(I)I"⟩
abbrev cX7_untell : ByteArray := prog_1_method_13_code
def yX7_untell : MethodName := ⟨RX7, "untell", "(I)I"⟩
abbrev cX7_days : ByteArray := prog_1_method_14_code
def yX7_days : MethodName := ⟨RX7, "days", "(I)I"⟩
abbrev cX7_draws : ByteArray := prog_1_method_15_code
def yX7_draws : MethodName := ⟨RX7, "draws", "(I)I"⟩
abbrev cX7_misheard : ByteArray := prog_1_method_16_code
def yX7_misheard : MethodName := ⟨RX7, "misheard", "(I)I"⟩
abbrev cX7_seed : ByteArray := prog_1_method_17_code
def yX7_seed : MethodName := ⟨RX7, "seed", "(I)I"⟩
abbrev cX7_then : ByteArray := prog_1_method_18_code
def yX7_then : MethodName := ⟨RX7, "then", "(III)I"⟩
abbrev cX7_thenTask : ByteArray := prog_1_method_19_code
def yX7_thenTask : MethodName := ⟨RX7, "thenTask", "(III)I"⟩
abbrev cX7_lost : ByteArray := prog_1_method_20_code
def yX7_lost : MethodName := ⟨RX7, "lost", "(II)I"⟩
abbrev cX7_teachers : ByteArray := prog_1_method_21_code
def yX7_teachers : MethodName := ⟨RX7, "teachers", "(III)I"⟩
abbrev cX7_storm : ByteArray := prog_1_method_22_code
def yX7_storm : MethodName := ⟨RX7, "storm", "(I)I"⟩
abbrev cX7_saves : ByteArray := prog_1_method_23_code
def yX7_saves : MethodName := ⟨RX7, "saves", "(II)I"⟩
abbrev cX7_changes : ByteArray := prog_1_method_24_code
def yX7_changes : MethodName := ⟨RX7, "changes", "(II)I"⟩
abbrev cX7_began : ByteArray := prog_1_method_25_code
def yX7_began : MethodName := ⟨RX7, "began", "(II)I"⟩
abbrev cX7_handed : ByteArray := prog_1_method_26_code
def yX7_handed : MethodName := ⟨RX7, "handed", "(II)I"⟩
abbrev cX7_wages : ByteArray := prog_1_method_27_code
def yX7_wages : MethodName := ⟨RX7, "wages", "(I)I"⟩
abbrev cX7_voice : ByteArray := prog_1_method_28_code
def yX7_voice : MethodName := ⟨RX7, "voice", "(III)I"⟩
abbrev cX7_body : ByteArray := prog_1_method_29_code
def yX7_body : MethodName := ⟨RX7, "body", "(I)I"⟩
abbrev cX7_sheet : ByteArray := prog_1_method_30_code
def yX7_sheet : MethodName := ⟨RX7, "sheet", "(III)I"⟩
abbrev cX7_put : ByteArray := prog_1_method_31_code
def yX7_put : MethodName := ⟨RX7, "put", "(III)I"⟩
abbrev cX7_move : ByteArray := prog_1_method_32_code
def yX7_move : MethodName := ⟨RX7, "move", "(IIIII)I"⟩
abbrev cX7_rosters : ByteArray := prog_1_method_33_code
def yX7_rosters : MethodName := ⟨RX7, "rosters", "(I)I"⟩
abbrev cX7_judge : ByteArray := prog_1_method_34_code
def yX7_judge : MethodName := ⟨RX7, "judge", "(I)I"⟩
abbrev cX7_image : ByteArray := prog_1_method_35_code
def yX7_image : MethodName := ⟨RX7, "image", "()I"⟩
abbrev cX7_restore : ByteArray := prog_1_method_36_code
def yX7_restore : MethodName := ⟨RX7, "restore", "()I"⟩
abbrev cX7_tell : ByteArray := prog_1_method_37_code
def yX7_tell : MethodName := ⟨RX7, "tell", "(I)I"⟩
abbrev cX7_check : ByteArray := prog_1_method_38_code
def yX7_check : MethodName := ⟨RX7, "check", "(I)I"⟩
abbrev cX7_count : ByteArray := prog_1_method_39_code
def yX7_count : MethodName := ⟨RX7, "count", "(I)I"⟩
abbrev cX7_told : ByteArray := prog_1_method_40_code
def yX7_told : MethodName := ⟨RX7, "told", "(I)I"⟩
abbrev cX7_within : ByteArray := prog_1_method_41_code
def yX7_within : MethodName := ⟨RX7, "within", "(III)Z"⟩
abbrev cX7_isKnack : ByteArray := prog_1_method_42_code
def yX7_isKnack : MethodName := ⟨RX7, "isKnack", "(I)Z"⟩
abbrev cX7_isSheet : ByteArray := prog_1_method_43_code
def yX7_isSheet : MethodName := ⟨RX7, "isSheet", "(I)Z"⟩
abbrev cX7_mayEnlist : ByteArray := prog_1_method_44_code
def yX7_mayEnlist : MethodName := ⟨RX7, "mayEnlist", "(II)Z"⟩
abbrev cX7_maySet : ByteArray := prog_1_method_45_code
def yX7_maySet : MethodName := ⟨RX7, "maySet", "(II)Z"⟩
abbrev cX7_isBunk : ByteArray := prog_1_method_46_code
def yX7_isBunk : MethodName := ⟨RX7, "isBunk", "(I)Z"⟩
abbrev cX7_error : ByteArray := prog_1_method_47_code
def yX7_error : MethodName := ⟨RX7, "error", "(I)I"⟩
abbrev cX7_goAhead : ByteArray := prog_1_method_48_code
def yX7_goAhead : MethodName := ⟨RX7, "goAhead", "(I)V"⟩
abbrev cX7_staysKnown : ByteArray := prog_1_method_49_code
def yX7_staysKnown : MethodName := ⟨RX7, "staysKnown", "(III)Z"⟩
abbrev cX7_doneWithBook : ByteArray := prog_1_method_50_code
def yX7_doneWithBook : MethodName := ⟨RX7, "doneWithBook", "(II)I"⟩
def RX8 : String := "DailyReliefModel"
def TX8 : u_T := fun k => match k with
  | 0 => ("DailyReliefModel", "s", "[I", true)
  | 1 => ("DailyReliefModel", "kept", "[I", true)
  | 2 => ("DailyReliefModel", "other", "[I", true)
  | 3 => ("DailyReliefModel", "errors", "[I", true)
  | 4 => ("DailyReliefModel", "images", "I", false)
  | 5 => ("DailyReliefModel", "pile", "[I", true)
  | 6 => ("DailyReliefModel", "from", "I", false)
  | 7 => ("DailyReliefModel", "opened", "I", false)
  | 8 => ("DailyReliefModel", "written", "I", false)
  | 9 => ("DailyReliefModel", "useHere", "I", false)
  | 10 => ("DailyReliefModel", "isWrong", "Z", false)
  | 11 => ("DailyReliefModel", "drafted", "[I", true)
  | 12 => ("DailyReliefModel", "cameMany", "I", false)
  | 13 => ("DailyReliefModel", "misheardMany", "I", false)
  | 14 => ("DailyReliefModel", "ran", "[I", true)
  | 15 => ("DailyReliefModel", "bodies", "I", false)
  | 16 => ("DailyReliefModel", "speaker", "I", false)
  | 17 => ("DailyReliefModel", "isParted", "Z", false)
  | 18 => ("DailyReliefModel", "bitsOf", "[I", true)
  | 19 => ("DailyReliefModel", "sizeOf", "[I", true)
  | 20 => ("DailyReliefModel", "number", "[I", true)
  | _ => ("DailyReliefModel", "moved", "[I", true)
def tyX8 : Nat → FieldType := fun k => match k with
  | 0 => .array .int
  | 1 => .array .int
  | 2 => .array .int
  | 3 => .array .int
  | 4 => .int
  | 5 => .array .int
  | 6 => .int
  | 7 => .int
  | 8 => .int
  | 9 => .int
  | 10 => .boolean
  | 11 => .array .int
  | 12 => .int
  | 13 => .int
  | 14 => .array .int
  | 15 => .int
  | 16 => .int
  | 17 => .boolean
  | 18 => .array .int
  | 19 => .array .int
  | 20 => .array .int
  | _ => .array .int
abbrev wsX80 : List Cond := u_ws RX8 TX8 22
theorem nmX8 : ∀ a, a < 22 → ∀ b, b < 22 → a ≠ b → (TX8 a).2.1 ≠ (TX8 b).2.1 := by decide +kernel
theorem tyX8_ok : ∀ k, k < 22 → parseFieldDescriptor (TX8 k).2.2.1 = some (tyX8 k) := by decide +kernel
abbrev cX8_init : ByteArray := prog_10_method_1_code
def yX8_init : MethodName := ⟨RX8, "<init>", "()V"⟩
abbrev cX8_in : ByteArray := prog_10_method_2_code
def yX8_in : MethodName := ⟨RX8, "in", "(JJJ)Z"⟩
abbrev cX8_errs : ByteArray := prog_10_method_3_code
def yX8_errs : MethodName := ⟨RX8, "errs", "(I)I"⟩
abbrev cX8_isBunk : ByteArray := prog_10_method_4_code
def yX8_isBunk : MethodName := ⟨RX8, "isBunk", "(I)Z"⟩
abbrev cX8_isKnack : ByteArray := prog_10_method_5_code
def yX8_isKnack : MethodName := ⟨RX8, "isKnack", "(I)Z"⟩
abbrev cX8_isBits : ByteArray := prog_10_method_6_code
def yX8_isBits : MethodName := ⟨RX8, "isBits", "(I)Z"⟩
abbrev cX8_has : ByteArray := prog_10_method_7_code
def yX8_has : MethodName := ⟨RX8, "has", "(II)Z"⟩
abbrev cX8_ones : ByteArray := prog_10_method_8_code
def yX8_ones : MethodName := ⟨RX8, "ones", "(I)I"⟩
abbrev cX8_held : ByteArray := prog_10_method_9_code
def yX8_held : MethodName := ⟨RX8, "held", "(III)I"⟩
abbrev cX8_keepsAside : ByteArray := prog_10_method_10_code
def yX8_keepsAside : MethodName := ⟨RX8, "keepsAside", "()V"⟩
abbrev cX8_putsBack : ByteArray := prog_10_method_11_code
def yX8_putsBack : MethodName := ⟨RX8, "putsBack", "()V"⟩
abbrev cX8_by : ByteArray := prog_10_method_12_code
def yX8_by : MethodName := ⟨RX8, "by", "(III)I"⟩
abbrev cX8_worked : ByteArray := prog_10_method_13_code
def yX8_worked : MethodName := ⟨RX8, "worked", "(IIIII)I"⟩
abbrev cX8_at : ByteArray := prog_10_method_14_code
def yX8_at : MethodName := ⟨RX8, "at", "(II)I"⟩
abbrev cX8_its : ByteArray := prog_10_method_15_code
def yX8_its : MethodName := ⟨RX8, "its", "(II)I"⟩
abbrev cX8_isKnowing : ByteArray := prog_10_method_16_code
def yX8_isKnowing : MethodName := ⟨RX8, "isKnowing", "(II)Z"⟩
abbrev cX8_needs : ByteArray := prog_10_method_17_code
def yX8_needs : MethodName := ⟨RX8, "needs", "(II)I"⟩
abbrev cX8_tells : ByteArray := prog_10_method_18_code
def yX8_tells : MethodName := ⟨RX8, "tells", "(II)I"⟩
abbrev cX8_isMute : ByteArray := prog_10_method_19_code
def yX8_isMute : MethodName := ⟨RX8, "isMute", "(I)Z"⟩
abbrev cX8_isStaying : ByteArray := prog_10_method_20_code
def yX8_isStaying : MethodName := ⟨RX8, "isStaying", "(I)Z"⟩
abbrev cX8_wagesOf : ByteArray := prog_10_method_21_code
def yX8_wagesOf : MethodName := ⟨RX8, "wagesOf", "(I)I"⟩
abbrev cX8_comes : ByteArray := prog_10_method_22_code
def yX8_comes : MethodName := ⟨RX8, "comes", "(IIIII)V"⟩
abbrev cX8_isMan : ByteArray := prog_10_method_23_code
def yX8_isMan : MethodName := ⟨RX8, "isMan", "(I)Z"⟩
abbrev cX8_bunk : ByteArray := prog_10_method_24_code
def yX8_bunk : MethodName := ⟨RX8, "bunk", "(I)I"⟩
abbrev cX8_ofMan : ByteArray := prog_10_method_25_code
def yX8_ofMan : MethodName := ⟨RX8, "ofMan", "(II)I"⟩
abbrev cX8_bunkIs : ByteArray := prog_10_method_26_code
def yX8_bunkIs : MethodName := ⟨RX8, "bunkIs", "(II)I"⟩
abbrev cX8_as : ByteArray := prog_10_method_27_code
def yX8_as : MethodName := ⟨RX8, "as", "(II)I"⟩
abbrev cX8_set : ByteArray := prog_10_method_28_code
def yX8_set : MethodName := ⟨RX8, "set", "(III)I"⟩
abbrev cX8_know : ByteArray := prog_10_method_29_code
def yX8_know : MethodName := ⟨RX8, "know", "(III)I"⟩
abbrev cX8_rosterWrong : ByteArray := prog_10_method_30_code
def yX8_rosterWrong : MethodName := ⟨RX8, "rosterWrong", "(II)I"⟩
abbrev cX8_rostered : ByteArray := prog_10_method_31_code
def yX8_rostered : MethodName := ⟨RX8, "rostered", "(II)V"⟩
abbrev cX8_roster : ByteArray := prog_10_method_32_code
def yX8_roster : MethodName := ⟨RX8, "roster", "(II)I"⟩
abbrev cX8_book : ByteArray := prog_10_method_33_code
def yX8_book : MethodName := ⟨RX8, "book", "(I)I"⟩
abbrev cX8_where : ByteArray := prog_10_method_34_code
def yX8_where : MethodName := ⟨RX8, "where", "(II)I"⟩
abbrev cX8_ofTask : ByteArray := prog_10_method_35_code
def yX8_ofTask : MethodName := ⟨RX8, "ofTask", "(II)I"⟩
abbrev cX8_knowers : ByteArray := prog_10_method_36_code
def yX8_knowers : MethodName := ⟨RX8, "knowers", "(I)I"⟩
abbrev cX8_task : ByteArray := prog_10_method_37_code
def yX8_task : MethodName := ⟨RX8, "task", "(III)I"⟩
abbrev cX8_toldTask : ByteArray := prog_10_method_38_code
def yX8_toldTask : MethodName := ⟨RX8, "toldTask", "(II)I"⟩
abbrev cX8_taskIs : ByteArray := prog_10_method_39_code
def yX8_taskIs : MethodName := ⟨RX8, "taskIs", "(II)I"⟩
abbrev cX8_feed : ByteArray := prog_10_method_40_code
def yX8_feed : MethodName := ⟨RX8, "feed", "(JI)I"⟩
abbrev cX8_byteHere : ByteArray := prog_10_method_41_code
def yX8_byteHere : MethodName := ⟨RX8, "byteHere", "()I"⟩
abbrev cX8_isHere : ByteArray := prog_10_method_42_code
def yX8_isHere : MethodName := ⟨RX8, "isHere", "(I)Z"⟩
abbrev cX8_isDigitHere : ByteArray := prog_10_method_43_code
def yX8_isDigitHere : MethodName := ⟨RX8, "isDigitHere", "()Z"⟩
abbrev cX8_writes : ByteArray := prog_10_method_44_code
def yX8_writes : MethodName := ⟨RX8, "writes", "(I)V"⟩
abbrev cX8_nameHere : ByteArray := prog_10_method_45_code
def yX8_nameHere : MethodName := ⟨RX8, "nameHere", "()I"⟩
abbrev cX8_readsNumber : ByteArray := prog_10_method_46_code
def yX8_readsNumber : MethodName := ⟨RX8, "readsNumber", "()V"⟩
abbrev cX8_readsOne : ByteArray := prog_10_method_47_code
def yX8_readsOne : MethodName := ⟨RX8, "readsOne", "()V"⟩
abbrev cX8_readsProduct : ByteArray := prog_10_method_48_code
def yX8_readsProduct : MethodName := ⟨RX8, "readsProduct", "()V"⟩
abbrev cX8_readsSum : ByteArray := prog_10_method_49_code
def yX8_readsSum : MethodName := ⟨RX8, "readsSum", "()V"⟩
abbrev cX8_readsComparison : ByteArray := prog_10_method_50_code
def yX8_readsComparison : MethodName := ⟨RX8, "readsComparison", "()V"⟩
abbrev cX8_readsAll : ByteArray := prog_10_method_51_code
def yX8_readsAll : MethodName := ⟨RX8, "readsAll", "()V"⟩
abbrev cX8_readsText : ByteArray := prog_10_method_52_code
def yX8_readsText : MethodName := ⟨RX8, "readsText", "()V"⟩
abbrev cX8_text : ByteArray := prog_10_method_53_code
def yX8_text : MethodName := ⟨RX8, "text", "(I)I"⟩
abbrev cX8_untell : ByteArray := prog_10_method_54_code
def yX8_untell : MethodName := ⟨RX8, "untell", "(I)I"⟩
abbrev cX8_draw : ByteArray := prog_10_method_55_code
def yX8_draw : MethodName := ⟨RX8, "draw", "()I"⟩
abbrev cX8_relieves : ByteArray := prog_10_method_56_code
def yX8_relieves : MethodName := ⟨RX8, "relieves", "()V"⟩
abbrev cX8_lesson : ByteArray := prog_10_method_57_code
def yX8_lesson : MethodName := ⟨RX8, "lesson", "(IZ)V"⟩
abbrev cX8_day : ByteArray := prog_10_method_58_code
def yX8_day : MethodName := ⟨RX8, "day", "(Z)V"⟩
abbrev cX8_daysGo : ByteArray := prog_10_method_59_code
def yX8_daysGo : MethodName := ⟨RX8, "daysGo", "(IZ)V"⟩
abbrev cX8_isSpan : ByteArray := prog_10_method_60_code
def yX8_isSpan : MethodName := ⟨RX8, "isSpan", "(I)Z"⟩
abbrev cX8_daysWrong : ByteArray := prog_10_method_61_code
def yX8_daysWrong : MethodName := ⟨RX8, "daysWrong", "(I)I"⟩
abbrev cX8_days : ByteArray := prog_10_method_62_code
def yX8_days : MethodName := ⟨RX8, "days", "(I)I"⟩
abbrev cX8_draws : ByteArray := prog_10_method_63_code
def yX8_draws : MethodName := ⟨RX8, "draws", "(I)I"⟩
abbrev cX8_misheard : ByteArray := prog_10_method_64_code
def yX8_misheard : MethodName := ⟨RX8, "misheard", "(I)I"⟩
abbrev cX8_seed : ByteArray := prog_10_method_65_code
def yX8_seed : MethodName := ⟨RX8, "seed", "(I)I"⟩
abbrev cX8_then : ByteArray := prog_10_method_66_code
def yX8_then : MethodName := ⟨RX8, "then", "(III)I"⟩
abbrev cX8_thenTask : ByteArray := prog_10_method_67_code
def yX8_thenTask : MethodName := ⟨RX8, "thenTask", "(III)I"⟩
abbrev cX8_lost : ByteArray := prog_10_method_68_code
def yX8_lost : MethodName := ⟨RX8, "lost", "(II)I"⟩
abbrev cX8_isKept : ByteArray := prog_10_method_69_code
def yX8_isKept : MethodName := ⟨RX8, "isKept", "(III)Z"⟩
abbrev cX8_teachers : ByteArray := prog_10_method_70_code
def yX8_teachers : MethodName := ⟨RX8, "teachers", "(III)I"⟩
abbrev cX8_isDoneWithout : ByteArray := prog_10_method_71_code
def yX8_isDoneWithout : MethodName := ⟨RX8, "isDoneWithout", "(II)Z"⟩
abbrev cX8_storm : ByteArray := prog_10_method_72_code
def yX8_storm : MethodName := ⟨RX8, "storm", "(I)I"⟩
abbrev cX8_doneIn : ByteArray := prog_10_method_73_code
def yX8_doneIn : MethodName := ⟨RX8, "doneIn", "(II)I"⟩
abbrev cX8_saves : ByteArray := prog_10_method_74_code
def yX8_saves : MethodName := ⟨RX8, "saves", "(II)I"⟩
abbrev cX8_isVersion : ByteArray := prog_10_method_75_code
def yX8_isVersion : MethodName := ⟨RX8, "isVersion", "(I)Z"⟩
abbrev cX8_changes : ByteArray := prog_10_method_76_code
def yX8_changes : MethodName := ⟨RX8, "changes", "(II)I"⟩
abbrev cX8_began : ByteArray := prog_10_method_77_code
def yX8_began : MethodName := ⟨RX8, "began", "(II)I"⟩
abbrev cX8_handed : ByteArray := prog_10_method_78_code
def yX8_handed : MethodName := ⟨RX8, "handed", "(II)I"⟩
abbrev cX8_wages : ByteArray := prog_10_method_79_code
def yX8_wages : MethodName := ⟨RX8, "wages", "(I)I"⟩
abbrev cX8_runs : ByteArray := prog_10_method_80_code
def yX8_runs : MethodName := ⟨RX8, "runs", "(I)V"⟩
abbrev cX8_hearing : ByteArray := prog_10_method_81_code
def yX8_hearing : MethodName := ⟨RX8, "hearing", "(I)I"⟩
abbrev cX8_telling : ByteArray := prog_10_method_82_code
def yX8_telling : MethodName := ⟨RX8, "telling", "(I)I"⟩
abbrev cX8_bunking : ByteArray := prog_10_method_83_code
def yX8_bunking : MethodName := ⟨RX8, "bunking", "(I)I"⟩
abbrev cX8_parting : ByteArray := prog_10_method_84_code
def yX8_parting : MethodName := ⟨RX8, "parting", "(I)I"⟩
abbrev cX8_voice : ByteArray := prog_10_method_85_code
def yX8_voice : MethodName := ⟨RX8, "voice", "(III)I"⟩
abbrev cX8_body : ByteArray := prog_10_method_86_code
def yX8_body : MethodName := ⟨RX8, "body", "(I)I"⟩
abbrev cX8_isSheet : ByteArray := prog_10_method_87_code
def yX8_isSheet : MethodName := ⟨RX8, "isSheet", "(I)Z"⟩
abbrev cX8_wrong : ByteArray := prog_10_method_88_code
def yX8_wrong : MethodName := ⟨RX8, "wrong", "(I)I"⟩
abbrev cX8_sheet : ByteArray := prog_10_method_89_code
def yX8_sheet : MethodName := ⟨RX8, "sheet", "(III)I"⟩
abbrev cX8_put : ByteArray := prog_10_method_90_code
def yX8_put : MethodName := ⟨RX8, "put", "(III)I"⟩
abbrev cX8_isStanding : ByteArray := prog_10_method_91_code
def yX8_isStanding : MethodName := ⟨RX8, "isStanding", "(III)Z"⟩
abbrev cX8_move : ByteArray := prog_10_method_92_code
def yX8_move : MethodName := ⟨RX8, "move", "(IIIII)I"⟩
abbrev cX8_rosters : ByteArray := prog_10_method_93_code
def yX8_rosters : MethodName := ⟨RX8, "rosters", "(I)I"⟩
abbrev cX8_judge : ByteArray := prog_10_method_94_code
def yX8_judge : MethodName := ⟨RX8, "judge", "(I)I"⟩
abbrev cX8_image : ByteArray := prog_10_method_95_code
def yX8_image : MethodName := ⟨RX8, "image", "()I"⟩
abbrev cX8_restore : ByteArray := prog_10_method_96_code
def yX8_restore : MethodName := ⟨RX8, "restore", "()I"⟩
abbrev cX8_tell : ByteArray := prog_10_method_97_code
def yX8_tell : MethodName := ⟨RX8, "tell", "(I)I"⟩
abbrev cX8_check : ByteArray := prog_10_method_98_code
def yX8_check : MethodName := ⟨RX8, "check", "(I)I"⟩
abbrev cX8_knownByAny : ByteArray := prog_10_method_99_code
def yX8_knownByAny : MethodName := ⟨RX8, "knownByAny", "()I"⟩
abbrev cX8_count : ByteArray := prog_10_method_100_code
def yX8_count : MethodName := ⟨RX8, "count", "(I)I"⟩
abbrev cX8_told : ByteArray := prog_10_method_101_code
def yX8_told : MethodName := ⟨RX8, "told", "(I)I"⟩
def RJ6 : String := "java/lang/Integer"
def TJ6 : u_T := fun k => match k with
  | _ => ("", "", "", false)
def tyJ6 : Nat → FieldType := fun k => match k with
  | _ => .int
theorem nmJ6 : ∀ a, a < 0 → ∀ b, b < 0 → a ≠ b → (TJ6 a).2.1 ≠ (TJ6 b).2.1 := by decide +kernel
theorem tyJ6_ok : ∀ k, k < 0 → parseFieldDescriptor (TJ6 k).2.2.1 = some (tyJ6 k) := by decide +kernel
abbrev cJ6_bitCount_0f7a4 : ByteArray := prog_11_method_49_code
def yJ6_bitCount_0f7a4 : MethodName := ⟨RJ6, "bitCount", "(I)I"⟩
def RJ9 : String := "java/lang/Math"
def TJ9 : u_T := fun k => match k with
  | _ => ("", "", "", false)
def tyJ9 : Nat → FieldType := fun k => match k with
  | _ => .int
theorem nmJ9 : ∀ a, a < 0 → ∀ b, b < 0 → a ≠ b → (TJ9 a).2.1 ≠ (TJ9 b).2.1 := by decide +kernel
theorem tyJ9_ok : ∀ k, k < 0 → parseFieldDescriptor (TJ9 k).2.2.1 = some (tyJ9 k) := by decide +kernel
abbrev cJ9_max_7cf53 : ByteArray := prog_12_method_65_code
def yJ9_max_7cf53 : MethodName := ⟨RJ9, "max", "(II)I"⟩
abbrev cJ9_min_7cf53 : ByteArray := prog_12_method_69_code
def yJ9_min_7cf53 : MethodName := ⟨RJ9, "min", "(II)I"⟩
def RJ10 : String := "java/lang/System"
def TJ10 : u_T := fun k => match k with
  | _ => ("", "", "", false)
def tyJ10 : Nat → FieldType := fun k => match k with
  | _ => .int
theorem nmJ10 : ∀ a, a < 0 → ∀ b, b < 0 → a ≠ b → (TJ10 a).2.1 ≠ (TJ10 b).2.1 := by decide +kernel
theorem tyJ10_ok : ∀ k, k < 0 → parseFieldDescriptor (TJ10 k).2.2.1 = some (tyJ10 k) := by decide +kernel
def RL : String := "DailyReliefLaw"
abbrev cL_law : ByteArray := code
def yL_law : MethodName := ⟨RL, "law", "([I)Z"⟩
abbrev vwCl : List vw_C := [(RX0, TX0, 7), (RX1, TX1, 3), (RX2, TX2, 16), (RX3, TX3, 4), (RX4, TX4, 2), (RX5, TX5, 7), (RX6, TX6, 6), (RX7, TX7, 8), (RX8, TX8, 22)]
end
section
/-! decode rows -/
theorem dX0_init_0 : decode cX0_init 0 = .ok (.aload_n 0, 1) := by decide +kernel
theorem dX0_init_1 : decode cX0_init 1 = .ok (.invokespecial 3, 3) := by decide +kernel
theorem dX0_init_4 : decode cX0_init 4 = .ok (.aload_n 0, 1) := by decide +kernel
theorem dX0_init_5 : decode cX0_init 5 = .ok (.bipush 6, 2) := by decide +kernel
theorem dX0_init_7 : decode cX0_init 7 = .ok (.newarray .int, 2) := by decide +kernel
theorem dX0_init_9 : decode cX0_init 9 = .ok (.putfield 9, 3) := by decide +kernel
theorem dX0_init_12 : decode cX0_init 12 = .ok (.aload_n 0, 1) := by decide +kernel
theorem dX0_init_13 : decode cX0_init 13 = .ok (.bipush 6, 2) := by decide +kernel
theorem dX0_init_15 : decode cX0_init 15 = .ok (.newarray .int, 2) := by decide +kernel
theorem dX0_init_17 : decode cX0_init 17 = .ok (.putfield 15, 3) := by decide +kernel
theorem dX0_init_20 : decode cX0_init 20 = .ok (.return_, 1) := by decide +kernel
theorem dX0_copyFrom_0 : decode cX0_copyFrom 0 = .ok (.aload_n 0, 1) := by decide +kernel
theorem dX0_copyFrom_1 : decode cX0_copyFrom 1 = .ok (.aload_n 1, 1) := by decide +kernel
theorem dX0_copyFrom_2 : decode cX0_copyFrom 2 = .ok (.getfield 18, 3) := by decide +kernel
theorem dX0_copyFrom_5 : decode cX0_copyFrom 5 = .ok (.putfield 18, 3) := by decide +kernel
theorem dX0_copyFrom_8 : decode cX0_copyFrom 8 = .ok (.aload_n 0, 1) := by decide +kernel
theorem dX0_copyFrom_9 : decode cX0_copyFrom 9 = .ok (.aload_n 1, 1) := by decide +kernel
theorem dX0_copyFrom_10 : decode cX0_copyFrom 10 = .ok (.getfield 22, 3) := by decide +kernel
theorem dX0_copyFrom_13 : decode cX0_copyFrom 13 = .ok (.putfield 22, 3) := by decide +kernel
theorem dX0_copyFrom_16 : decode cX0_copyFrom 16 = .ok (.aload_n 0, 1) := by decide +kernel
theorem dX0_copyFrom_17 : decode cX0_copyFrom 17 = .ok (.aload_n 1, 1) := by decide +kernel
theorem dX0_copyFrom_18 : decode cX0_copyFrom 18 = .ok (.getfield 25, 3) := by decide +kernel
theorem dX0_copyFrom_21 : decode cX0_copyFrom 21 = .ok (.putfield 25, 3) := by decide +kernel
theorem dX0_copyFrom_24 : decode cX0_copyFrom 24 = .ok (.aload_n 0, 1) := by decide +kernel
theorem dX0_copyFrom_25 : decode cX0_copyFrom 25 = .ok (.aload_n 1, 1) := by decide +kernel
theorem dX0_copyFrom_26 : decode cX0_copyFrom 26 = .ok (.getfield 28, 3) := by decide +kernel
theorem dX0_copyFrom_29 : decode cX0_copyFrom 29 = .ok (.putfield 28, 3) := by decide +kernel
theorem dX0_copyFrom_32 : decode cX0_copyFrom 32 = .ok (.aload_n 0, 1) := by decide +kernel
theorem dX0_copyFrom_33 : decode cX0_copyFrom 33 = .ok (.aload_n 1, 1) := by decide +kernel
theorem dX0_copyFrom_34 : decode cX0_copyFrom 34 = .ok (.getfield 31, 3) := by decide +kernel
theorem dX0_copyFrom_37 : decode cX0_copyFrom 37 = .ok (.putfield 31, 3) := by decide +kernel
theorem dX0_copyFrom_40 : decode cX0_copyFrom 40 = .ok (.aload_n 1, 1) := by decide +kernel
theorem dX0_copyFrom_41 : decode cX0_copyFrom 41 = .ok (.getfield 9, 3) := by decide +kernel
theorem dX0_copyFrom_44 : decode cX0_copyFrom 44 = .ok (.iconst 0, 1) := by decide +kernel
theorem dX0_copyFrom_45 : decode cX0_copyFrom 45 = .ok (.aload_n 0, 1) := by decide +kernel
theorem dX0_copyFrom_46 : decode cX0_copyFrom 46 = .ok (.getfield 9, 3) := by decide +kernel
theorem dX0_copyFrom_49 : decode cX0_copyFrom 49 = .ok (.iconst 0, 1) := by decide +kernel
theorem dX0_copyFrom_50 : decode cX0_copyFrom 50 = .ok (.bipush 6, 2) := by decide +kernel
theorem dX0_copyFrom_52 : decode cX0_copyFrom 52 = .ok (.invokestatic 34, 3) := by decide +kernel
theorem dX0_copyFrom_55 : decode cX0_copyFrom 55 = .ok (.aload_n 1, 1) := by decide +kernel
theorem dX0_copyFrom_56 : decode cX0_copyFrom 56 = .ok (.getfield 15, 3) := by decide +kernel
theorem dX0_copyFrom_59 : decode cX0_copyFrom 59 = .ok (.iconst 0, 1) := by decide +kernel
theorem dX0_copyFrom_60 : decode cX0_copyFrom 60 = .ok (.aload_n 0, 1) := by decide +kernel
theorem dX0_copyFrom_61 : decode cX0_copyFrom 61 = .ok (.getfield 15, 3) := by decide +kernel
theorem dX0_copyFrom_64 : decode cX0_copyFrom 64 = .ok (.iconst 0, 1) := by decide +kernel
theorem dX0_copyFrom_65 : decode cX0_copyFrom 65 = .ok (.bipush 6, 2) := by decide +kernel
theorem dX0_copyFrom_67 : decode cX0_copyFrom 67 = .ok (.invokestatic 34, 3) := by decide +kernel
theorem dX0_copyFrom_70 : decode cX0_copyFrom 70 = .ok (.return_, 1) := by decide +kernel
theorem dX0_settle_0 : decode cX0_settle 0 = .ok (.aload_n 0, 1) := by decide +kernel
theorem dX0_settle_1 : decode cX0_settle 1 = .ok (.iload_n 1, 1) := by decide +kernel
theorem dX0_settle_2 : decode cX0_settle 2 = .ok (.bipush 10, 2) := by decide +kernel
theorem dX0_settle_4 : decode cX0_settle 4 = .ok (.idiv, 1) := by decide +kernel
theorem dX0_settle_5 : decode cX0_settle 5 = .ok (.putfield 18, 3) := by decide +kernel
theorem dX0_settle_8 : decode cX0_settle 8 = .ok (.aload_n 0, 1) := by decide +kernel
theorem dX0_settle_9 : decode cX0_settle 9 = .ok (.iload_n 1, 1) := by decide +kernel
theorem dX0_settle_10 : decode cX0_settle 10 = .ok (.bipush 10, 2) := by decide +kernel
theorem dX0_settle_12 : decode cX0_settle 12 = .ok (.irem, 1) := by decide +kernel
theorem dX0_settle_13 : decode cX0_settle 13 = .ok (.putfield 22, 3) := by decide +kernel
theorem dX0_settle_16 : decode cX0_settle 16 = .ok (.aload_n 0, 1) := by decide +kernel
theorem dX0_settle_17 : decode cX0_settle 17 = .ok (.iload_n 2, 1) := by decide +kernel
theorem dX0_settle_18 : decode cX0_settle 18 = .ok (.putfield 25, 3) := by decide +kernel
theorem dX0_settle_21 : decode cX0_settle 21 = .ok (.iconst 0, 1) := by decide +kernel
theorem dX0_settle_22 : decode cX0_settle 22 = .ok (.istore_n 3, 1) := by decide +kernel
theorem dX0_settle_23 : decode cX0_settle 23 = .ok (.iload_n 3, 1) := by decide +kernel
theorem dX0_settle_24 : decode cX0_settle 24 = .ok (.bipush 6, 2) := by decide +kernel
theorem dX0_settle_26 : decode cX0_settle 26 = .ok (.if_icmp .ge 14, 3) := by decide +kernel
theorem dX0_settle_29 : decode cX0_settle 29 = .ok (.aload_n 0, 1) := by decide +kernel
theorem dX0_settle_30 : decode cX0_settle 30 = .ok (.iload_n 3, 1) := by decide +kernel
theorem dX0_settle_31 : decode cX0_settle 31 = .ok (.invokevirtual 40, 3) := by decide +kernel
theorem dX0_settle_34 : decode cX0_settle 34 = .ok (.iinc 3 1, 3) := by decide +kernel
theorem dX0_settle_37 : decode cX0_settle 37 = .ok (.goto (-14), 3) := by decide +kernel
theorem dX0_settle_40 : decode cX0_settle 40 = .ok (.return_, 1) := by decide +kernel
theorem dX0_learnAll_0 : decode cX0_learnAll 0 = .ok (.iconst 0, 1) := by decide +kernel
theorem dX0_learnAll_1 : decode cX0_learnAll 1 = .ok (.istore_n 3, 1) := by decide +kernel
theorem dX0_learnAll_2 : decode cX0_learnAll 2 = .ok (.iload_n 3, 1) := by decide +kernel
theorem dX0_learnAll_3 : decode cX0_learnAll 3 = .ok (.bipush 6, 2) := by decide +kernel
theorem dX0_learnAll_5 : decode cX0_learnAll 5 = .ok (.if_icmp .ge 23, 3) := by decide +kernel
theorem dX0_learnAll_8 : decode cX0_learnAll 8 = .ok (.iload_n 1, 1) := by decide +kernel
theorem dX0_learnAll_9 : decode cX0_learnAll 9 = .ok (.iload_n 3, 1) := by decide +kernel
theorem dX0_learnAll_10 : decode cX0_learnAll 10 = .ok (.ishr, 1) := by decide +kernel
theorem dX0_learnAll_11 : decode cX0_learnAll 11 = .ok (.iconst 1, 1) := by decide +kernel
theorem dX0_learnAll_12 : decode cX0_learnAll 12 = .ok (.iand, 1) := by decide +kernel
theorem dX0_learnAll_13 : decode cX0_learnAll 13 = .ok (.ifCond .eq 9, 3) := by decide +kernel
theorem dX0_learnAll_16 : decode cX0_learnAll 16 = .ok (.aload_n 0, 1) := by decide +kernel
theorem dX0_learnAll_17 : decode cX0_learnAll 17 = .ok (.iload_n 3, 1) := by decide +kernel
theorem dX0_learnAll_18 : decode cX0_learnAll 18 = .ok (.iload_n 2, 1) := by decide +kernel
theorem dX0_learnAll_19 : decode cX0_learnAll 19 = .ok (.invokevirtual 44, 3) := by decide +kernel
theorem dX0_learnAll_22 : decode cX0_learnAll 22 = .ok (.iinc 3 1, 3) := by decide +kernel
theorem dX0_learnAll_25 : decode cX0_learnAll 25 = .ok (.goto (-23), 3) := by decide +kernel
theorem dX0_learnAll_28 : decode cX0_learnAll 28 = .ok (.return_, 1) := by decide +kernel
theorem dX0_learn_0 : decode cX0_learn 0 = .ok (.aload_n 0, 1) := by decide +kernel
theorem dX0_learn_1 : decode cX0_learn 1 = .ok (.dup, 1) := by decide +kernel
theorem dX0_learn_2 : decode cX0_learn 2 = .ok (.getfield 28, 3) := by decide +kernel
theorem dX0_learn_5 : decode cX0_learn 5 = .ok (.iconst 1, 1) := by decide +kernel
theorem dX0_learn_6 : decode cX0_learn 6 = .ok (.iload_n 1, 1) := by decide +kernel
theorem dX0_learn_7 : decode cX0_learn 7 = .ok (.ishl, 1) := by decide +kernel
theorem dX0_learn_8 : decode cX0_learn 8 = .ok (.ior, 1) := by decide +kernel
theorem dX0_learn_9 : decode cX0_learn 9 = .ok (.putfield 28, 3) := by decide +kernel
theorem dX0_learn_12 : decode cX0_learn 12 = .ok (.aload_n 0, 1) := by decide +kernel
theorem dX0_learn_13 : decode cX0_learn 13 = .ok (.getfield 9, 3) := by decide +kernel
theorem dX0_learn_16 : decode cX0_learn 16 = .ok (.iload_n 1, 1) := by decide +kernel
theorem dX0_learn_17 : decode cX0_learn 17 = .ok (.iload_n 2, 1) := by decide +kernel
theorem dX0_learn_18 : decode cX0_learn 18 = .ok (.iastore, 1) := by decide +kernel
theorem dX0_learn_19 : decode cX0_learn 19 = .ok (.return_, 1) := by decide +kernel
theorem dX0_forget_0 : decode cX0_forget 0 = .ok (.aload_n 0, 1) := by decide +kernel
theorem dX0_forget_1 : decode cX0_forget 1 = .ok (.dup, 1) := by decide +kernel
theorem dX0_forget_2 : decode cX0_forget 2 = .ok (.getfield 28, 3) := by decide +kernel
theorem dX0_forget_5 : decode cX0_forget 5 = .ok (.iconst 1, 1) := by decide +kernel
theorem dX0_forget_6 : decode cX0_forget 6 = .ok (.iload_n 1, 1) := by decide +kernel
theorem dX0_forget_7 : decode cX0_forget 7 = .ok (.ishl, 1) := by decide +kernel
theorem dX0_forget_8 : decode cX0_forget 8 = .ok (.iconst (-1), 1) := by decide +kernel
theorem dX0_forget_9 : decode cX0_forget 9 = .ok (.ixor, 1) := by decide +kernel
theorem dX0_forget_10 : decode cX0_forget 10 = .ok (.iand, 1) := by decide +kernel
theorem dX0_forget_11 : decode cX0_forget 11 = .ok (.putfield 28, 3) := by decide +kernel
theorem dX0_forget_14 : decode cX0_forget 14 = .ok (.aload_n 0, 1) := by decide +kernel
theorem dX0_forget_15 : decode cX0_forget 15 = .ok (.getfield 9, 3) := by decide +kernel
theorem dX0_forget_18 : decode cX0_forget 18 = .ok (.iload_n 1, 1) := by decide +kernel
theorem dX0_forget_19 : decode cX0_forget 19 = .ok (.iconst 0, 1) := by decide +kernel
theorem dX0_forget_20 : decode cX0_forget 20 = .ok (.iastore, 1) := by decide +kernel
theorem dX0_forget_21 : decode cX0_forget 21 = .ok (.aload_n 0, 1) := by decide +kernel
theorem dX0_forget_22 : decode cX0_forget 22 = .ok (.getfield 15, 3) := by decide +kernel
theorem dX0_forget_25 : decode cX0_forget 25 = .ok (.iload_n 1, 1) := by decide +kernel
theorem dX0_forget_26 : decode cX0_forget 26 = .ok (.iconst 0, 1) := by decide +kernel
theorem dX0_forget_27 : decode cX0_forget 27 = .ok (.iastore, 1) := by decide +kernel
theorem dX0_forget_28 : decode cX0_forget 28 = .ok (.return_, 1) := by decide +kernel
theorem dX0_knows_0 : decode cX0_knows 0 = .ok (.iload_n 1, 1) := by decide +kernel
theorem dX0_knows_1 : decode cX0_knows 1 = .ok (.invokestatic 48, 3) := by decide +kernel
theorem dX0_knows_4 : decode cX0_knows 4 = .ok (.ifCond .eq 18, 3) := by decide +kernel
theorem dX0_knows_7 : decode cX0_knows 7 = .ok (.aload_n 0, 1) := by decide +kernel
theorem dX0_knows_8 : decode cX0_knows 8 = .ok (.getfield 28, 3) := by decide +kernel
theorem dX0_knows_11 : decode cX0_knows 11 = .ok (.iload_n 1, 1) := by decide +kernel
theorem dX0_knows_12 : decode cX0_knows 12 = .ok (.ishr, 1) := by decide +kernel
theorem dX0_knows_13 : decode cX0_knows 13 = .ok (.iconst 1, 1) := by decide +kernel
theorem dX0_knows_14 : decode cX0_knows 14 = .ok (.iand, 1) := by decide +kernel
theorem dX0_knows_15 : decode cX0_knows 15 = .ok (.ifCond .eq 7, 3) := by decide +kernel
theorem dX0_knows_18 : decode cX0_knows 18 = .ok (.iconst 1, 1) := by decide +kernel
theorem dX0_knows_19 : decode cX0_knows 19 = .ok (.goto 4, 3) := by decide +kernel
theorem dX0_knows_22 : decode cX0_knows 22 = .ok (.iconst 0, 1) := by decide +kernel
theorem dX0_knows_23 : decode cX0_knows 23 = .ok (.ireturn, 1) := by decide +kernel
theorem dX0_isOf_0 : decode cX0_isOf 0 = .ok (.aload_n 0, 1) := by decide +kernel
theorem dX0_isOf_1 : decode cX0_isOf 1 = .ok (.getfield 18, 3) := by decide +kernel
theorem dX0_isOf_4 : decode cX0_isOf 4 = .ok (.istore_n 2, 1) := by decide +kernel
theorem dX0_isOf_5 : decode cX0_isOf 5 = .ok (.iconst 0, 1) := by decide +kernel
theorem dX0_isOf_6 : decode cX0_isOf 6 = .ok (.istore_n 3, 1) := by decide +kernel
theorem dX0_isOf_7 : decode cX0_isOf 7 = .ok (.iload_n 3, 1) := by decide +kernel
theorem dX0_isOf_8 : decode cX0_isOf 8 = .ok (.bipush 7, 2) := by decide +kernel
theorem dX0_isOf_10 : decode cX0_isOf 10 = .ok (.if_icmp .ge 24, 3) := by decide +kernel
theorem dX0_isOf_13 : decode cX0_isOf 13 = .ok (.iload_n 2, 1) := by decide +kernel
theorem dX0_isOf_14 : decode cX0_isOf 14 = .ok (.ifCond .lt 20, 3) := by decide +kernel
theorem dX0_isOf_17 : decode cX0_isOf 17 = .ok (.iload_n 2, 1) := by decide +kernel
theorem dX0_isOf_18 : decode cX0_isOf 18 = .ok (.iload_n 1, 1) := by decide +kernel
theorem dX0_isOf_19 : decode cX0_isOf 19 = .ok (.if_icmp .eq 15, 3) := by decide +kernel
theorem dX0_isOf_22 : decode cX0_isOf 22 = .ok (.getstatic 52, 3) := by decide +kernel
theorem dX0_isOf_25 : decode cX0_isOf 25 = .ok (.iload_n 2, 1) := by decide +kernel
theorem dX0_isOf_26 : decode cX0_isOf 26 = .ok (.iaload, 1) := by decide +kernel
theorem dX0_isOf_27 : decode cX0_isOf 27 = .ok (.istore_n 2, 1) := by decide +kernel
theorem dX0_isOf_28 : decode cX0_isOf 28 = .ok (.iinc 3 1, 3) := by decide +kernel
theorem dX0_isOf_31 : decode cX0_isOf 31 = .ok (.goto (-24), 3) := by decide +kernel
theorem dX0_isOf_34 : decode cX0_isOf 34 = .ok (.iload_n 2, 1) := by decide +kernel
theorem dX0_isOf_35 : decode cX0_isOf 35 = .ok (.iload_n 1, 1) := by decide +kernel
theorem dX0_isOf_36 : decode cX0_isOf 36 = .ok (.if_icmp .ne 7, 3) := by decide +kernel
theorem dX0_isOf_39 : decode cX0_isOf 39 = .ok (.iconst 1, 1) := by decide +kernel
theorem dX0_isOf_40 : decode cX0_isOf 40 = .ok (.goto 4, 3) := by decide +kernel
theorem dX0_isOf_43 : decode cX0_isOf 43 = .ok (.iconst 0, 1) := by decide +kernel
theorem dX0_isOf_44 : decode cX0_isOf 44 = .ok (.ireturn, 1) := by decide +kernel
theorem dX0_stays_0 : decode cX0_stays 0 = .ok (.aload_n 0, 1) := by decide +kernel
theorem dX0_stays_1 : decode cX0_stays 1 = .ok (.getfield 18, 3) := by decide +kernel
theorem dX0_stays_4 : decode cX0_stays 4 = .ok (.iconst 5, 1) := by decide +kernel
theorem dX0_stays_5 : decode cX0_stays 5 = .ok (.if_icmp .ne 18, 3) := by decide +kernel
theorem dX0_stays_8 : decode cX0_stays 8 = .ok (.iload_n 1, 1) := by decide +kernel
theorem dX0_stays_9 : decode cX0_stays 9 = .ok (.aload_n 0, 1) := by decide +kernel
theorem dX0_stays_10 : decode cX0_stays 10 = .ok (.getfield 22, 3) := by decide +kernel
theorem dX0_stays_13 : decode cX0_stays 13 = .ok (.iconst 2, 1) := by decide +kernel
theorem dX0_stays_14 : decode cX0_stays 14 = .ok (.iadd, 1) := by decide +kernel
theorem dX0_stays_15 : decode cX0_stays 15 = .ok (.irem, 1) := by decide +kernel
theorem dX0_stays_16 : decode cX0_stays 16 = .ok (.ifCond .ne 7, 3) := by decide +kernel
theorem dX0_stays_19 : decode cX0_stays 19 = .ok (.iconst 1, 1) := by decide +kernel
theorem dX0_stays_20 : decode cX0_stays 20 = .ok (.goto 4, 3) := by decide +kernel
theorem dX0_stays_23 : decode cX0_stays 23 = .ok (.iconst 0, 1) := by decide +kernel
theorem dX0_stays_24 : decode cX0_stays 24 = .ok (.ireturn, 1) := by decide +kernel
theorem dX0_tellsOf_0 : decode cX0_tellsOf 0 = .ok (.aload_n 0, 1) := by decide +kernel
theorem dX0_tellsOf_1 : decode cX0_tellsOf 1 = .ok (.getfield 9, 3) := by decide +kernel
theorem dX0_tellsOf_4 : decode cX0_tellsOf 4 = .ok (.iload_n 1, 1) := by decide +kernel
theorem dX0_tellsOf_5 : decode cX0_tellsOf 5 = .ok (.iaload, 1) := by decide +kernel
theorem dX0_tellsOf_6 : decode cX0_tellsOf 6 = .ok (.istore_n 2, 1) := by decide +kernel
theorem dX0_tellsOf_7 : decode cX0_tellsOf 7 = .ok (.aload_n 0, 1) := by decide +kernel
theorem dX0_tellsOf_8 : decode cX0_tellsOf 8 = .ok (.getfield 18, 3) := by decide +kernel
theorem dX0_tellsOf_11 : decode cX0_tellsOf 11 = .ok (.iconst 3, 1) := by decide +kernel
theorem dX0_tellsOf_12 : decode cX0_tellsOf 12 = .ok (.if_icmp .ne 13, 3) := by decide +kernel
theorem dX0_tellsOf_15 : decode cX0_tellsOf 15 = .ok (.iload_n 2, 1) := by decide +kernel
theorem dX0_tellsOf_16 : decode cX0_tellsOf 16 = .ok (.aload_n 0, 1) := by decide +kernel
theorem dX0_tellsOf_17 : decode cX0_tellsOf 17 = .ok (.getfield 22, 3) := by decide +kernel
theorem dX0_tellsOf_20 : decode cX0_tellsOf 20 = .ok (.iadd, 1) := by decide +kernel
theorem dX0_tellsOf_21 : decode cX0_tellsOf 21 = .ok (.istore_n 2, 1) := by decide +kernel
theorem dX0_tellsOf_22 : decode cX0_tellsOf 22 = .ok (.goto 17, 3) := by decide +kernel
theorem dX0_tellsOf_25 : decode cX0_tellsOf 25 = .ok (.aload_n 0, 1) := by decide +kernel
theorem dX0_tellsOf_26 : decode cX0_tellsOf 26 = .ok (.getfield 18, 3) := by decide +kernel
theorem dX0_tellsOf_29 : decode cX0_tellsOf 29 = .ok (.iconst 4, 1) := by decide +kernel
theorem dX0_tellsOf_30 : decode cX0_tellsOf 30 = .ok (.if_icmp .ne 9, 3) := by decide +kernel
theorem dX0_tellsOf_33 : decode cX0_tellsOf 33 = .ok (.iload_n 2, 1) := by decide +kernel
theorem dX0_tellsOf_34 : decode cX0_tellsOf 34 = .ok (.iload_n 1, 1) := by decide +kernel
theorem dX0_tellsOf_35 : decode cX0_tellsOf 35 = .ok (.iconst 2, 1) := by decide +kernel
theorem dX0_tellsOf_36 : decode cX0_tellsOf 36 = .ok (.irem, 1) := by decide +kernel
theorem dX0_tellsOf_37 : decode cX0_tellsOf 37 = .ok (.iadd, 1) := by decide +kernel
theorem dX0_tellsOf_38 : decode cX0_tellsOf 38 = .ok (.istore_n 2, 1) := by decide +kernel
theorem dX0_tellsOf_39 : decode cX0_tellsOf 39 = .ok (.iconst 0, 1) := by decide +kernel
theorem dX0_tellsOf_40 : decode cX0_tellsOf 40 = .ok (.sipush 999, 3) := by decide +kernel
theorem dX0_tellsOf_43 : decode cX0_tellsOf 43 = .ok (.iload_n 2, 1) := by decide +kernel
theorem dX0_tellsOf_44 : decode cX0_tellsOf 44 = .ok (.invokestatic 55, 3) := by decide +kernel
theorem dX0_tellsOf_47 : decode cX0_tellsOf 47 = .ok (.invokestatic 61, 3) := by decide +kernel
theorem dX0_tellsOf_50 : decode cX0_tellsOf 50 = .ok (.ireturn, 1) := by decide +kernel
theorem dX1_init_0 : decode cX1_init 0 = .ok (.aload_n 0, 1) := by decide +kernel
theorem dX1_init_1 : decode cX1_init 1 = .ok (.invokespecial 3, 3) := by decide +kernel
theorem dX1_init_4 : decode cX1_init 4 = .ok (.aload_n 0, 1) := by decide +kernel
theorem dX1_init_5 : decode cX1_init 5 = .ok (.bipush 24, 2) := by decide +kernel
theorem dX1_init_7 : decode cX1_init 7 = .ok (.newarray .int, 2) := by decide +kernel
theorem dX1_init_9 : decode cX1_init 9 = .ok (.putfield 9, 3) := by decide +kernel
theorem dX1_init_12 : decode cX1_init 12 = .ok (.return_, 1) := by decide +kernel
theorem dX1_lay_0 : decode cX1_lay 0 = .ok (.aload_n 0, 1) := by decide +kernel
theorem dX1_lay_1 : decode cX1_lay 1 = .ok (.iload_n 1, 1) := by decide +kernel
theorem dX1_lay_2 : decode cX1_lay 2 = .ok (.putfield 15, 3) := by decide +kernel
theorem dX1_lay_5 : decode cX1_lay 5 = .ok (.aload_n 0, 1) := by decide +kernel
theorem dX1_lay_6 : decode cX1_lay 6 = .ok (.iload_n 2, 1) := by decide +kernel
theorem dX1_lay_7 : decode cX1_lay 7 = .ok (.putfield 19, 3) := by decide +kernel
theorem dX1_lay_10 : decode cX1_lay 10 = .ok (.iconst 0, 1) := by decide +kernel
theorem dX1_lay_11 : decode cX1_lay 11 = .ok (.istore_n 3, 1) := by decide +kernel
theorem dX1_lay_12 : decode cX1_lay 12 = .ok (.iload_n 3, 1) := by decide +kernel
theorem dX1_lay_13 : decode cX1_lay 13 = .ok (.bipush 24, 2) := by decide +kernel
theorem dX1_lay_15 : decode cX1_lay 15 = .ok (.if_icmp .ge 16, 3) := by decide +kernel
theorem dX1_lay_18 : decode cX1_lay 18 = .ok (.aload_n 0, 1) := by decide +kernel
theorem dX1_lay_19 : decode cX1_lay 19 = .ok (.getfield 9, 3) := by decide +kernel
theorem dX1_lay_22 : decode cX1_lay 22 = .ok (.iload_n 3, 1) := by decide +kernel
theorem dX1_lay_23 : decode cX1_lay 23 = .ok (.iconst 0, 1) := by decide +kernel
theorem dX1_lay_24 : decode cX1_lay 24 = .ok (.iastore, 1) := by decide +kernel
theorem dX1_lay_25 : decode cX1_lay 25 = .ok (.iinc 3 1, 3) := by decide +kernel
theorem dX1_lay_28 : decode cX1_lay 28 = .ok (.goto (-16), 3) := by decide +kernel
theorem dX1_lay_31 : decode cX1_lay 31 = .ok (.return_, 1) := by decide +kernel
theorem dX1_isMissing_0 : decode cX1_isMissing 0 = .ok (.aload_n 0, 1) := by decide +kernel
theorem dX1_isMissing_1 : decode cX1_isMissing 1 = .ok (.getfield 15, 3) := by decide +kernel
theorem dX1_isMissing_4 : decode cX1_isMissing 4 = .ok (.ifCond .ne 7, 3) := by decide +kernel
theorem dX1_isMissing_7 : decode cX1_isMissing 7 = .ok (.iconst 1, 1) := by decide +kernel
theorem dX1_isMissing_8 : decode cX1_isMissing 8 = .ok (.goto 4, 3) := by decide +kernel
theorem dX1_isMissing_11 : decode cX1_isMissing 11 = .ok (.iconst 0, 1) := by decide +kernel
theorem dX1_isMissing_12 : decode cX1_isMissing 12 = .ok (.ireturn, 1) := by decide +kernel
theorem dX1_write_0 : decode cX1_write 0 = .ok (.aload_n 0, 1) := by decide +kernel
theorem dX1_write_1 : decode cX1_write 1 = .ok (.getfield 15, 3) := by decide +kernel
theorem dX1_write_4 : decode cX1_write 4 = .ok (.bipush 8, 2) := by decide +kernel
theorem dX1_write_6 : decode cX1_write 6 = .ok (.if_icmp .ne 14, 3) := by decide +kernel
theorem dX1_write_9 : decode cX1_write 9 = .ok (.aload_n 0, 1) := by decide +kernel
theorem dX1_write_10 : decode cX1_write 10 = .ok (.getfield 9, 3) := by decide +kernel
theorem dX1_write_13 : decode cX1_write 13 = .ok (.iload_n 1, 1) := by decide +kernel
theorem dX1_write_14 : decode cX1_write 14 = .ok (.iload_n 2, 1) := by decide +kernel
theorem dX1_write_15 : decode cX1_write 15 = .ok (.i2b, 1) := by decide +kernel
theorem dX1_write_16 : decode cX1_write 16 = .ok (.iastore, 1) := by decide +kernel
theorem dX1_write_17 : decode cX1_write 17 = .ok (.goto 30, 3) := by decide +kernel
theorem dX1_write_20 : decode cX1_write 20 = .ok (.aload_n 0, 1) := by decide +kernel
theorem dX1_write_21 : decode cX1_write 21 = .ok (.getfield 15, 3) := by decide +kernel
theorem dX1_write_24 : decode cX1_write 24 = .ok (.bipush 16, 2) := by decide +kernel
theorem dX1_write_26 : decode cX1_write 26 = .ok (.if_icmp .ne 14, 3) := by decide +kernel
theorem dX1_write_29 : decode cX1_write 29 = .ok (.aload_n 0, 1) := by decide +kernel
theorem dX1_write_30 : decode cX1_write 30 = .ok (.getfield 9, 3) := by decide +kernel
theorem dX1_write_33 : decode cX1_write 33 = .ok (.iload_n 1, 1) := by decide +kernel
theorem dX1_write_34 : decode cX1_write 34 = .ok (.iload_n 2, 1) := by decide +kernel
theorem dX1_write_35 : decode cX1_write 35 = .ok (.i2s, 1) := by decide +kernel
theorem dX1_write_36 : decode cX1_write 36 = .ok (.iastore, 1) := by decide +kernel
theorem dX1_write_37 : decode cX1_write 37 = .ok (.goto 10, 3) := by decide +kernel
theorem dX1_write_40 : decode cX1_write 40 = .ok (.aload_n 0, 1) := by decide +kernel
theorem dX1_write_41 : decode cX1_write 41 = .ok (.getfield 9, 3) := by decide +kernel
theorem dX1_write_44 : decode cX1_write 44 = .ok (.iload_n 1, 1) := by decide +kernel
theorem dX1_write_45 : decode cX1_write 45 = .ok (.iload_n 2, 1) := by decide +kernel
theorem dX1_write_46 : decode cX1_write 46 = .ok (.iastore, 1) := by decide +kernel
theorem dX1_write_47 : decode cX1_write 47 = .ok (.return_, 1) := by decide +kernel
theorem dX1_holds_0 : decode cX1_holds 0 = .ok (.iload_n 1, 1) := by decide +kernel
theorem dX1_holds_1 : decode cX1_holds 1 = .ok (.ifCond .lt 29, 3) := by decide +kernel
theorem dX1_holds_4 : decode cX1_holds 4 = .ok (.iload_n 2, 1) := by decide +kernel
theorem dX1_holds_5 : decode cX1_holds 5 = .ok (.ifCond .lt 25, 3) := by decide +kernel
theorem dX1_holds_8 : decode cX1_holds 8 = .ok (.iload_n 2, 1) := by decide +kernel
theorem dX1_holds_9 : decode cX1_holds 9 = .ok (.aload_n 0, 1) := by decide +kernel
theorem dX1_holds_10 : decode cX1_holds 10 = .ok (.getfield 19, 3) := by decide +kernel
theorem dX1_holds_13 : decode cX1_holds 13 = .ok (.if_icmp .gt 17, 3) := by decide +kernel
theorem dX1_holds_16 : decode cX1_holds 16 = .ok (.iload_n 1, 1) := by decide +kernel
theorem dX1_holds_17 : decode cX1_holds 17 = .ok (.aload_n 0, 1) := by decide +kernel
theorem dX1_holds_18 : decode cX1_holds 18 = .ok (.getfield 19, 3) := by decide +kernel
theorem dX1_holds_21 : decode cX1_holds 21 = .ok (.iload_n 2, 1) := by decide +kernel
theorem dX1_holds_22 : decode cX1_holds 22 = .ok (.isub, 1) := by decide +kernel
theorem dX1_holds_23 : decode cX1_holds 23 = .ok (.if_icmp .gt 7, 3) := by decide +kernel
theorem dX1_holds_26 : decode cX1_holds 26 = .ok (.iconst 1, 1) := by decide +kernel
theorem dX1_holds_27 : decode cX1_holds 27 = .ok (.goto 4, 3) := by decide +kernel
theorem dX1_holds_30 : decode cX1_holds 30 = .ok (.iconst 0, 1) := by decide +kernel
theorem dX1_holds_31 : decode cX1_holds 31 = .ok (.ireturn, 1) := by decide +kernel
theorem dX2_init_0 : decode cX2_init 0 = .ok (.aload_n 0, 1) := by decide +kernel
theorem dX2_init_1 : decode cX2_init 1 = .ok (.invokespecial 3, 3) := by decide +kernel
theorem dX2_init_4 : decode cX2_init 4 = .ok (.aload_n 0, 1) := by decide +kernel
theorem dX2_init_5 : decode cX2_init 5 = .ok (.bipush 6, 2) := by decide +kernel
theorem dX2_init_7 : decode cX2_init 7 = .ok (.anewarray 9, 3) := by decide +kernel
theorem dX2_init_10 : decode cX2_init 10 = .ok (.putfield 11, 3) := by decide +kernel
theorem dX2_init_13 : decode cX2_init 13 = .ok (.aload_n 0, 1) := by decide +kernel
theorem dX2_init_14 : decode cX2_init 14 = .ok (.bipush 12, 2) := by decide +kernel
theorem dX2_init_16 : decode cX2_init 16 = .ok (.newarray .int, 2) := by decide +kernel
theorem dX2_init_18 : decode cX2_init 18 = .ok (.putfield 17, 3) := by decide +kernel
theorem dX2_init_21 : decode cX2_init 21 = .ok (.aload_n 0, 1) := by decide +kernel
theorem dX2_init_22 : decode cX2_init 22 = .ok (.bipush 12, 2) := by decide +kernel
theorem dX2_init_24 : decode cX2_init 24 = .ok (.newarray .int, 2) := by decide +kernel
theorem dX2_init_26 : decode cX2_init 26 = .ok (.putfield 21, 3) := by decide +kernel
theorem dX2_init_29 : decode cX2_init 29 = .ok (.aload_n 0, 1) := by decide +kernel
theorem dX2_init_30 : decode cX2_init 30 = .ok (.iconst 4, 1) := by decide +kernel
theorem dX2_init_31 : decode cX2_init 31 = .ok (.anewarray 24, 3) := by decide +kernel
theorem dX2_init_34 : decode cX2_init 34 = .ok (.putfield 26, 3) := by decide +kernel
theorem dX2_init_37 : decode cX2_init 37 = .ok (.aload_n 0, 1) := by decide +kernel
theorem dX2_init_38 : decode cX2_init 38 = .ok (.iconst 4, 1) := by decide +kernel
theorem dX2_init_39 : decode cX2_init 39 = .ok (.putfield 30, 3) := by decide +kernel
theorem dX2_init_42 : decode cX2_init 42 = .ok (.aload_n 0, 1) := by decide +kernel
theorem dX2_init_43 : decode cX2_init 43 = .ok (.iconst 1, 1) := by decide +kernel
theorem dX2_init_44 : decode cX2_init 44 = .ok (.putfield 34, 3) := by decide +kernel
theorem dX2_init_47 : decode cX2_init 47 = .ok (.aload_n 0, 1) := by decide +kernel
theorem dX2_init_48 : decode cX2_init 48 = .ok (.bipush 60, 2) := by decide +kernel
theorem dX2_init_50 : decode cX2_init 50 = .ok (.newarray .byte, 2) := by decide +kernel
theorem dX2_init_52 : decode cX2_init 52 = .ok (.putfield 37, 3) := by decide +kernel
theorem dX2_init_55 : decode cX2_init 55 = .ok (.aload_n 0, 1) := by decide +kernel
theorem dX2_init_56 : decode cX2_init 56 = .ok (.iconst 2, 1) := by decide +kernel
theorem dX2_init_57 : decode cX2_init 57 = .ok (.anewarray 41, 3) := by decide +kernel
theorem dX2_init_60 : decode cX2_init 60 = .ok (.putfield 43, 3) := by decide +kernel
theorem dX2_init_63 : decode cX2_init 63 = .ok (.aload_n 0, 1) := by decide +kernel
theorem dX2_init_64 : decode cX2_init 64 = .ok (.bipush 24, 2) := by decide +kernel
theorem dX2_init_66 : decode cX2_init 66 = .ok (.newarray .int, 2) := by decide +kernel
theorem dX2_init_68 : decode cX2_init 68 = .ok (.putfield 47, 3) := by decide +kernel
theorem dX2_init_71 : decode cX2_init 71 = .ok (.iconst 0, 1) := by decide +kernel
theorem dX2_init_72 : decode cX2_init 72 = .ok (.istore_n 1, 1) := by decide +kernel
theorem dX2_init_73 : decode cX2_init 73 = .ok (.iload_n 1, 1) := by decide +kernel
theorem dX2_init_74 : decode cX2_init 74 = .ok (.bipush 6, 2) := by decide +kernel
theorem dX2_init_76 : decode cX2_init 76 = .ok (.if_icmp .ge 22, 3) := by decide +kernel
theorem dX2_init_79 : decode cX2_init 79 = .ok (.aload_n 0, 1) := by decide +kernel
theorem dX2_init_80 : decode cX2_init 80 = .ok (.getfield 11, 3) := by decide +kernel
theorem dX2_init_83 : decode cX2_init 83 = .ok (.iload_n 1, 1) := by decide +kernel
theorem dX2_init_84 : decode cX2_init 84 = .ok (.new 9, 3) := by decide +kernel
theorem dX2_init_87 : decode cX2_init 87 = .ok (.dup, 1) := by decide +kernel
theorem dX2_init_88 : decode cX2_init 88 = .ok (.invokespecial 50, 3) := by decide +kernel
theorem dX2_init_91 : decode cX2_init 91 = .ok (.aastore, 1) := by decide +kernel
theorem dX2_init_92 : decode cX2_init 92 = .ok (.iinc 1 1, 3) := by decide +kernel
theorem dX2_init_95 : decode cX2_init 95 = .ok (.goto (-22), 3) := by decide +kernel
theorem dX2_init_98 : decode cX2_init 98 = .ok (.iconst 0, 1) := by decide +kernel
theorem dX2_init_99 : decode cX2_init 99 = .ok (.istore_n 1, 1) := by decide +kernel
theorem dX2_init_100 : decode cX2_init 100 = .ok (.iload_n 1, 1) := by decide +kernel
theorem dX2_init_101 : decode cX2_init 101 = .ok (.iconst 4, 1) := by decide +kernel
theorem dX2_init_102 : decode cX2_init 102 = .ok (.if_icmp .ge 22, 3) := by decide +kernel
theorem dX2_init_105 : decode cX2_init 105 = .ok (.aload_n 0, 1) := by decide +kernel
theorem dX2_init_106 : decode cX2_init 106 = .ok (.getfield 26, 3) := by decide +kernel
theorem dX2_init_109 : decode cX2_init 109 = .ok (.iload_n 1, 1) := by decide +kernel
theorem dX2_init_110 : decode cX2_init 110 = .ok (.new 24, 3) := by decide +kernel
theorem dX2_init_113 : decode cX2_init 113 = .ok (.dup, 1) := by decide +kernel
theorem dX2_init_114 : decode cX2_init 114 = .ok (.invokespecial 51, 3) := by decide +kernel
theorem dX2_init_117 : decode cX2_init 117 = .ok (.aastore, 1) := by decide +kernel
theorem dX2_init_118 : decode cX2_init 118 = .ok (.iinc 1 1, 3) := by decide +kernel
theorem dX2_init_121 : decode cX2_init 121 = .ok (.goto (-21), 3) := by decide +kernel
theorem dX2_init_124 : decode cX2_init 124 = .ok (.return_, 1) := by decide +kernel
theorem dX2_copyFrom_0 : decode cX2_copyFrom 0 = .ok (.aload_n 0, 1) := by decide +kernel
theorem dX2_copyFrom_1 : decode cX2_copyFrom 1 = .ok (.aload_n 1, 1) := by decide +kernel
theorem dX2_copyFrom_2 : decode cX2_copyFrom 2 = .ok (.getfield 52, 3) := by decide +kernel
theorem dX2_copyFrom_5 : decode cX2_copyFrom 5 = .ok (.putfield 52, 3) := by decide +kernel
theorem dX2_copyFrom_8 : decode cX2_copyFrom 8 = .ok (.aload_n 0, 1) := by decide +kernel
theorem dX2_copyFrom_9 : decode cX2_copyFrom 9 = .ok (.aload_n 1, 1) := by decide +kernel
theorem dX2_copyFrom_10 : decode cX2_copyFrom 10 = .ok (.getfield 55, 3) := by decide +kernel
theorem dX2_copyFrom_13 : decode cX2_copyFrom 13 = .ok (.putfield 55, 3) := by decide +kernel
theorem dX2_copyFrom_16 : decode cX2_copyFrom 16 = .ok (.aload_n 0, 1) := by decide +kernel
theorem dX2_copyFrom_17 : decode cX2_copyFrom 17 = .ok (.aload_n 1, 1) := by decide +kernel
theorem dX2_copyFrom_18 : decode cX2_copyFrom 18 = .ok (.getfield 58, 3) := by decide +kernel
theorem dX2_copyFrom_21 : decode cX2_copyFrom 21 = .ok (.putfield 58, 3) := by decide +kernel
theorem dX2_copyFrom_24 : decode cX2_copyFrom 24 = .ok (.aload_n 0, 1) := by decide +kernel
theorem dX2_copyFrom_25 : decode cX2_copyFrom 25 = .ok (.aload_n 1, 1) := by decide +kernel
theorem dX2_copyFrom_26 : decode cX2_copyFrom 26 = .ok (.getfield 61, 3) := by decide +kernel
theorem dX2_copyFrom_29 : decode cX2_copyFrom 29 = .ok (.putfield 61, 3) := by decide +kernel
theorem dX2_copyFrom_32 : decode cX2_copyFrom 32 = .ok (.aload_n 0, 1) := by decide +kernel
theorem dX2_copyFrom_33 : decode cX2_copyFrom 33 = .ok (.aload_n 1, 1) := by decide +kernel
theorem dX2_copyFrom_34 : decode cX2_copyFrom 34 = .ok (.getfield 64, 3) := by decide +kernel
theorem dX2_copyFrom_37 : decode cX2_copyFrom 37 = .ok (.putfield 64, 3) := by decide +kernel
theorem dX2_copyFrom_40 : decode cX2_copyFrom 40 = .ok (.aload_n 0, 1) := by decide +kernel
theorem dX2_copyFrom_41 : decode cX2_copyFrom 41 = .ok (.aload_n 1, 1) := by decide +kernel
theorem dX2_copyFrom_42 : decode cX2_copyFrom 42 = .ok (.getfield 30, 3) := by decide +kernel
theorem dX2_copyFrom_45 : decode cX2_copyFrom 45 = .ok (.putfield 30, 3) := by decide +kernel
theorem dX2_copyFrom_48 : decode cX2_copyFrom 48 = .ok (.aload_n 0, 1) := by decide +kernel
theorem dX2_copyFrom_49 : decode cX2_copyFrom 49 = .ok (.aload_n 1, 1) := by decide +kernel
theorem dX2_copyFrom_50 : decode cX2_copyFrom 50 = .ok (.getfield 34, 3) := by decide +kernel
theorem dX2_copyFrom_53 : decode cX2_copyFrom 53 = .ok (.putfield 34, 3) := by decide +kernel
theorem dX2_copyFrom_56 : decode cX2_copyFrom 56 = .ok (.aload_n 0, 1) := by decide +kernel
theorem dX2_copyFrom_57 : decode cX2_copyFrom 57 = .ok (.aload_n 1, 1) := by decide +kernel
theorem dX2_copyFrom_58 : decode cX2_copyFrom 58 = .ok (.getfield 67, 3) := by decide +kernel
theorem dX2_copyFrom_61 : decode cX2_copyFrom 61 = .ok (.putfield 67, 3) := by decide +kernel
theorem dX2_copyFrom_64 : decode cX2_copyFrom 64 = .ok (.aload_n 0, 1) := by decide +kernel
theorem dX2_copyFrom_65 : decode cX2_copyFrom 65 = .ok (.aload_n 1, 1) := by decide +kernel
theorem dX2_copyFrom_66 : decode cX2_copyFrom 66 = .ok (.getfield 70, 3) := by decide +kernel
theorem dX2_copyFrom_69 : decode cX2_copyFrom 69 = .ok (.putfield 70, 3) := by decide +kernel
theorem dX2_copyFrom_72 : decode cX2_copyFrom 72 = .ok (.iconst 0, 1) := by decide +kernel
theorem dX2_copyFrom_73 : decode cX2_copyFrom 73 = .ok (.istore_n 2, 1) := by decide +kernel
theorem dX2_copyFrom_74 : decode cX2_copyFrom 74 = .ok (.iload_n 2, 1) := by decide +kernel
theorem dX2_copyFrom_75 : decode cX2_copyFrom 75 = .ok (.aload_n 0, 1) := by decide +kernel
theorem dX2_copyFrom_76 : decode cX2_copyFrom 76 = .ok (.getfield 52, 3) := by decide +kernel
theorem dX2_copyFrom_79 : decode cX2_copyFrom 79 = .ok (.if_icmp .ge 24, 3) := by decide +kernel
theorem dX2_copyFrom_82 : decode cX2_copyFrom 82 = .ok (.aload_n 0, 1) := by decide +kernel
theorem dX2_copyFrom_83 : decode cX2_copyFrom 83 = .ok (.getfield 11, 3) := by decide +kernel
theorem dX2_copyFrom_86 : decode cX2_copyFrom 86 = .ok (.iload_n 2, 1) := by decide +kernel
theorem dX2_copyFrom_87 : decode cX2_copyFrom 87 = .ok (.aaload, 1) := by decide +kernel
theorem dX2_copyFrom_88 : decode cX2_copyFrom 88 = .ok (.aload_n 1, 1) := by decide +kernel
theorem dX2_copyFrom_89 : decode cX2_copyFrom 89 = .ok (.getfield 11, 3) := by decide +kernel
theorem dX2_copyFrom_92 : decode cX2_copyFrom 92 = .ok (.iload_n 2, 1) := by decide +kernel
theorem dX2_copyFrom_93 : decode cX2_copyFrom 93 = .ok (.aaload, 1) := by decide +kernel
theorem dX2_copyFrom_94 : decode cX2_copyFrom 94 = .ok (.invokevirtual 73, 3) := by decide +kernel
theorem dX2_copyFrom_97 : decode cX2_copyFrom 97 = .ok (.iinc 2 1, 3) := by decide +kernel
theorem dX2_copyFrom_100 : decode cX2_copyFrom 100 = .ok (.goto (-26), 3) := by decide +kernel
theorem dX2_copyFrom_103 : decode cX2_copyFrom 103 = .ok (.iconst 0, 1) := by decide +kernel
theorem dX2_copyFrom_104 : decode cX2_copyFrom 104 = .ok (.istore_n 2, 1) := by decide +kernel
theorem dX2_copyFrom_105 : decode cX2_copyFrom 105 = .ok (.iload_n 2, 1) := by decide +kernel
theorem dX2_copyFrom_106 : decode cX2_copyFrom 106 = .ok (.iconst 4, 1) := by decide +kernel
theorem dX2_copyFrom_107 : decode cX2_copyFrom 107 = .ok (.if_icmp .ge 24, 3) := by decide +kernel
theorem dX2_copyFrom_110 : decode cX2_copyFrom 110 = .ok (.aload_n 0, 1) := by decide +kernel
theorem dX2_copyFrom_111 : decode cX2_copyFrom 111 = .ok (.getfield 26, 3) := by decide +kernel
theorem dX2_copyFrom_114 : decode cX2_copyFrom 114 = .ok (.iload_n 2, 1) := by decide +kernel
theorem dX2_copyFrom_115 : decode cX2_copyFrom 115 = .ok (.aaload, 1) := by decide +kernel
theorem dX2_copyFrom_116 : decode cX2_copyFrom 116 = .ok (.aload_n 1, 1) := by decide +kernel
theorem dX2_copyFrom_117 : decode cX2_copyFrom 117 = .ok (.getfield 26, 3) := by decide +kernel
theorem dX2_copyFrom_120 : decode cX2_copyFrom 120 = .ok (.iload_n 2, 1) := by decide +kernel
theorem dX2_copyFrom_121 : decode cX2_copyFrom 121 = .ok (.aaload, 1) := by decide +kernel
theorem dX2_copyFrom_122 : decode cX2_copyFrom 122 = .ok (.invokevirtual 77, 3) := by decide +kernel
theorem dX2_copyFrom_125 : decode cX2_copyFrom 125 = .ok (.iinc 2 1, 3) := by decide +kernel
theorem dX2_copyFrom_128 : decode cX2_copyFrom 128 = .ok (.goto (-23), 3) := by decide +kernel
theorem dX2_copyFrom_131 : decode cX2_copyFrom 131 = .ok (.iconst 0, 1) := by decide +kernel
theorem dX2_copyFrom_132 : decode cX2_copyFrom 132 = .ok (.istore_n 2, 1) := by decide +kernel
theorem dX2_copyFrom_133 : decode cX2_copyFrom 133 = .ok (.iload_n 2, 1) := by decide +kernel
theorem dX2_copyFrom_134 : decode cX2_copyFrom 134 = .ok (.iconst 2, 1) := by decide +kernel
theorem dX2_copyFrom_135 : decode cX2_copyFrom 135 = .ok (.if_icmp .ge 21, 3) := by decide +kernel
theorem dX2_copyFrom_138 : decode cX2_copyFrom 138 = .ok (.aload_n 0, 1) := by decide +kernel
theorem dX2_copyFrom_139 : decode cX2_copyFrom 139 = .ok (.getfield 43, 3) := by decide +kernel
theorem dX2_copyFrom_142 : decode cX2_copyFrom 142 = .ok (.iload_n 2, 1) := by decide +kernel
theorem dX2_copyFrom_143 : decode cX2_copyFrom 143 = .ok (.aload_n 1, 1) := by decide +kernel
theorem dX2_copyFrom_144 : decode cX2_copyFrom 144 = .ok (.getfield 43, 3) := by decide +kernel
theorem dX2_copyFrom_147 : decode cX2_copyFrom 147 = .ok (.iload_n 2, 1) := by decide +kernel
theorem dX2_copyFrom_148 : decode cX2_copyFrom 148 = .ok (.aaload, 1) := by decide +kernel
theorem dX2_copyFrom_149 : decode cX2_copyFrom 149 = .ok (.aastore, 1) := by decide +kernel
theorem dX2_copyFrom_150 : decode cX2_copyFrom 150 = .ok (.iinc 2 1, 3) := by decide +kernel
theorem dX2_copyFrom_153 : decode cX2_copyFrom 153 = .ok (.goto (-20), 3) := by decide +kernel
theorem dX2_copyFrom_156 : decode cX2_copyFrom 156 = .ok (.aload_n 1, 1) := by decide +kernel
theorem dX2_copyFrom_157 : decode cX2_copyFrom 157 = .ok (.getfield 17, 3) := by decide +kernel
theorem dX2_copyFrom_160 : decode cX2_copyFrom 160 = .ok (.iconst 0, 1) := by decide +kernel
theorem dX2_copyFrom_161 : decode cX2_copyFrom 161 = .ok (.aload_n 0, 1) := by decide +kernel
theorem dX2_copyFrom_162 : decode cX2_copyFrom 162 = .ok (.getfield 17, 3) := by decide +kernel
theorem dX2_copyFrom_165 : decode cX2_copyFrom 165 = .ok (.iconst 0, 1) := by decide +kernel
theorem dX2_copyFrom_166 : decode cX2_copyFrom 166 = .ok (.aload_n 0, 1) := by decide +kernel
theorem dX2_copyFrom_167 : decode cX2_copyFrom 167 = .ok (.getfield 55, 3) := by decide +kernel
theorem dX2_copyFrom_170 : decode cX2_copyFrom 170 = .ok (.invokestatic 80, 3) := by decide +kernel
theorem dX2_copyFrom_173 : decode cX2_copyFrom 173 = .ok (.aload_n 1, 1) := by decide +kernel
theorem dX2_copyFrom_174 : decode cX2_copyFrom 174 = .ok (.getfield 21, 3) := by decide +kernel
theorem dX2_copyFrom_177 : decode cX2_copyFrom 177 = .ok (.iconst 0, 1) := by decide +kernel
theorem dX2_copyFrom_178 : decode cX2_copyFrom 178 = .ok (.aload_n 0, 1) := by decide +kernel
theorem dX2_copyFrom_179 : decode cX2_copyFrom 179 = .ok (.getfield 21, 3) := by decide +kernel
theorem dX2_copyFrom_182 : decode cX2_copyFrom 182 = .ok (.iconst 0, 1) := by decide +kernel
theorem dX2_copyFrom_183 : decode cX2_copyFrom 183 = .ok (.aload_n 0, 1) := by decide +kernel
theorem dX2_copyFrom_184 : decode cX2_copyFrom 184 = .ok (.getfield 55, 3) := by decide +kernel
theorem dX2_copyFrom_187 : decode cX2_copyFrom 187 = .ok (.invokestatic 80, 3) := by decide +kernel
theorem dX2_copyFrom_190 : decode cX2_copyFrom 190 = .ok (.aload_n 1, 1) := by decide +kernel
theorem dX2_copyFrom_191 : decode cX2_copyFrom 191 = .ok (.getfield 37, 3) := by decide +kernel
theorem dX2_copyFrom_194 : decode cX2_copyFrom 194 = .ok (.iconst 0, 1) := by decide +kernel
theorem dX2_copyFrom_195 : decode cX2_copyFrom 195 = .ok (.aload_n 0, 1) := by decide +kernel
theorem dX2_copyFrom_196 : decode cX2_copyFrom 196 = .ok (.getfield 37, 3) := by decide +kernel
theorem dX2_copyFrom_199 : decode cX2_copyFrom 199 = .ok (.iconst 0, 1) := by decide +kernel
theorem dX2_copyFrom_200 : decode cX2_copyFrom 200 = .ok (.aload_n 0, 1) := by decide +kernel
theorem dX2_copyFrom_201 : decode cX2_copyFrom 201 = .ok (.getfield 67, 3) := by decide +kernel
theorem dX2_copyFrom_204 : decode cX2_copyFrom 204 = .ok (.invokestatic 80, 3) := by decide +kernel
theorem dX2_copyFrom_207 : decode cX2_copyFrom 207 = .ok (.aload_n 1, 1) := by decide +kernel
theorem dX2_copyFrom_208 : decode cX2_copyFrom 208 = .ok (.getfield 47, 3) := by decide +kernel
theorem dX2_copyFrom_211 : decode cX2_copyFrom 211 = .ok (.iconst 0, 1) := by decide +kernel
theorem dX2_copyFrom_212 : decode cX2_copyFrom 212 = .ok (.aload_n 0, 1) := by decide +kernel
theorem dX2_copyFrom_213 : decode cX2_copyFrom 213 = .ok (.getfield 47, 3) := by decide +kernel
theorem dX2_copyFrom_216 : decode cX2_copyFrom 216 = .ok (.iconst 0, 1) := by decide +kernel
theorem dX2_copyFrom_217 : decode cX2_copyFrom 217 = .ok (.aload_n 0, 1) := by decide +kernel
theorem dX2_copyFrom_218 : decode cX2_copyFrom 218 = .ok (.getfield 70, 3) := by decide +kernel
theorem dX2_copyFrom_221 : decode cX2_copyFrom 221 = .ok (.invokestatic 80, 3) := by decide +kernel
theorem dX2_copyFrom_224 : decode cX2_copyFrom 224 = .ok (.return_, 1) := by decide +kernel
theorem dX2_addBunk_0 : decode cX2_addBunk 0 = .ok (.aload_n 0, 1) := by decide +kernel
theorem dX2_addBunk_1 : decode cX2_addBunk 1 = .ok (.getfield 11, 3) := by decide +kernel
theorem dX2_addBunk_4 : decode cX2_addBunk 4 = .ok (.aload_n 0, 1) := by decide +kernel
theorem dX2_addBunk_5 : decode cX2_addBunk 5 = .ok (.getfield 52, 3) := by decide +kernel
theorem dX2_addBunk_8 : decode cX2_addBunk 8 = .ok (.aaload, 1) := by decide +kernel
theorem dX2_addBunk_9 : decode cX2_addBunk 9 = .ok (.iload_n 1, 1) := by decide +kernel
theorem dX2_addBunk_10 : decode cX2_addBunk 10 = .ok (.iconst (-1), 1) := by decide +kernel
theorem dX2_addBunk_11 : decode cX2_addBunk 11 = .ok (.invokevirtual 86, 3) := by decide +kernel
theorem dX2_addBunk_14 : decode cX2_addBunk 14 = .ok (.aload_n 0, 1) := by decide +kernel
theorem dX2_addBunk_15 : decode cX2_addBunk 15 = .ok (.getfield 11, 3) := by decide +kernel
theorem dX2_addBunk_18 : decode cX2_addBunk 18 = .ok (.aload_n 0, 1) := by decide +kernel
theorem dX2_addBunk_19 : decode cX2_addBunk 19 = .ok (.getfield 52, 3) := by decide +kernel
theorem dX2_addBunk_22 : decode cX2_addBunk 22 = .ok (.aaload, 1) := by decide +kernel
theorem dX2_addBunk_23 : decode cX2_addBunk 23 = .ok (.iconst (-1), 1) := by decide +kernel
theorem dX2_addBunk_24 : decode cX2_addBunk 24 = .ok (.putfield 90, 3) := by decide +kernel
theorem dX2_addBunk_27 : decode cX2_addBunk 27 = .ok (.aload_n 0, 1) := by decide +kernel
theorem dX2_addBunk_28 : decode cX2_addBunk 28 = .ok (.dup, 1) := by decide +kernel
theorem dX2_addBunk_29 : decode cX2_addBunk 29 = .ok (.getfield 52, 3) := by decide +kernel
theorem dX2_addBunk_32 : decode cX2_addBunk 32 = .ok (.iconst 1, 1) := by decide +kernel
theorem dX2_addBunk_33 : decode cX2_addBunk 33 = .ok (.iadd, 1) := by decide +kernel
theorem dX2_addBunk_34 : decode cX2_addBunk 34 = .ok (.putfield 52, 3) := by decide +kernel
theorem dX2_addBunk_37 : decode cX2_addBunk 37 = .ok (.aload_n 0, 1) := by decide +kernel
theorem dX2_addBunk_38 : decode cX2_addBunk 38 = .ok (.getfield 52, 3) := by decide +kernel
theorem dX2_addBunk_41 : decode cX2_addBunk 41 = .ok (.iconst 1, 1) := by decide +kernel
theorem dX2_addBunk_42 : decode cX2_addBunk 42 = .ok (.isub, 1) := by decide +kernel
theorem dX2_addBunk_43 : decode cX2_addBunk 43 = .ok (.ireturn, 1) := by decide +kernel
theorem dX2_enlist_0 : decode cX2_enlist 0 = .ok (.aload_n 0, 1) := by decide +kernel
theorem dX2_enlist_1 : decode cX2_enlist 1 = .ok (.getfield 17, 3) := by decide +kernel
theorem dX2_enlist_4 : decode cX2_enlist 4 = .ok (.aload_n 0, 1) := by decide +kernel
theorem dX2_enlist_5 : decode cX2_enlist 5 = .ok (.getfield 55, 3) := by decide +kernel
theorem dX2_enlist_8 : decode cX2_enlist 8 = .ok (.iload_n 1, 1) := by decide +kernel
theorem dX2_enlist_9 : decode cX2_enlist 9 = .ok (.iastore, 1) := by decide +kernel
theorem dX2_enlist_10 : decode cX2_enlist 10 = .ok (.aload_n 0, 1) := by decide +kernel
theorem dX2_enlist_11 : decode cX2_enlist 11 = .ok (.getfield 21, 3) := by decide +kernel
theorem dX2_enlist_14 : decode cX2_enlist 14 = .ok (.aload_n 0, 1) := by decide +kernel
theorem dX2_enlist_15 : decode cX2_enlist 15 = .ok (.getfield 55, 3) := by decide +kernel
theorem dX2_enlist_18 : decode cX2_enlist 18 = .ok (.iload_n 2, 1) := by decide +kernel
theorem dX2_enlist_19 : decode cX2_enlist 19 = .ok (.iastore, 1) := by decide +kernel
theorem dX2_enlist_20 : decode cX2_enlist 20 = .ok (.aload_n 0, 1) := by decide +kernel
theorem dX2_enlist_21 : decode cX2_enlist 21 = .ok (.dup, 1) := by decide +kernel
theorem dX2_enlist_22 : decode cX2_enlist 22 = .ok (.getfield 55, 3) := by decide +kernel
theorem dX2_enlist_25 : decode cX2_enlist 25 = .ok (.iconst 1, 1) := by decide +kernel
theorem dX2_enlist_26 : decode cX2_enlist 26 = .ok (.iadd, 1) := by decide +kernel
theorem dX2_enlist_27 : decode cX2_enlist 27 = .ok (.putfield 55, 3) := by decide +kernel
theorem dX2_enlist_30 : decode cX2_enlist 30 = .ok (.aload_n 0, 1) := by decide +kernel
theorem dX2_enlist_31 : decode cX2_enlist 31 = .ok (.getfield 55, 3) := by decide +kernel
theorem dX2_enlist_34 : decode cX2_enlist 34 = .ok (.ireturn, 1) := by decide +kernel
theorem dX2_teachOnly_0 : decode cX2_teachOnly 0 = .ok (.iconst 0, 1) := by decide +kernel
theorem dX2_teachOnly_1 : decode cX2_teachOnly 1 = .ok (.istore_n 3, 1) := by decide +kernel
theorem dX2_teachOnly_2 : decode cX2_teachOnly 2 = .ok (.iload_n 3, 1) := by decide +kernel
theorem dX2_teachOnly_3 : decode cX2_teachOnly 3 = .ok (.aload_n 0, 1) := by decide +kernel
theorem dX2_teachOnly_4 : decode cX2_teachOnly 4 = .ok (.getfield 52, 3) := by decide +kernel
theorem dX2_teachOnly_7 : decode cX2_teachOnly 7 = .ok (.if_icmp .ge 31, 3) := by decide +kernel
theorem dX2_teachOnly_10 : decode cX2_teachOnly 10 = .ok (.aload_n 0, 1) := by decide +kernel
theorem dX2_teachOnly_11 : decode cX2_teachOnly 11 = .ok (.getfield 11, 3) := by decide +kernel
theorem dX2_teachOnly_14 : decode cX2_teachOnly 14 = .ok (.iload_n 3, 1) := by decide +kernel
theorem dX2_teachOnly_15 : decode cX2_teachOnly 15 = .ok (.aaload, 1) := by decide +kernel
theorem dX2_teachOnly_16 : decode cX2_teachOnly 16 = .ok (.iload_n 2, 1) := by decide +kernel
theorem dX2_teachOnly_17 : decode cX2_teachOnly 17 = .ok (.iload_n 3, 1) := by decide +kernel
theorem dX2_teachOnly_18 : decode cX2_teachOnly 18 = .ok (.ishr, 1) := by decide +kernel
theorem dX2_teachOnly_19 : decode cX2_teachOnly 19 = .ok (.iconst 1, 1) := by decide +kernel
theorem dX2_teachOnly_20 : decode cX2_teachOnly 20 = .ok (.iand, 1) := by decide +kernel
theorem dX2_teachOnly_21 : decode cX2_teachOnly 21 = .ok (.ifCond .eq 7, 3) := by decide +kernel
theorem dX2_teachOnly_24 : decode cX2_teachOnly 24 = .ok (.iload_n 1, 1) := by decide +kernel
theorem dX2_teachOnly_25 : decode cX2_teachOnly 25 = .ok (.goto 4, 3) := by decide +kernel
theorem dX2_teachOnly_28 : decode cX2_teachOnly 28 = .ok (.iconst (-1), 1) := by decide +kernel
theorem dX2_teachOnly_29 : decode cX2_teachOnly 29 = .ok (.putfield 90, 3) := by decide +kernel
theorem dX2_teachOnly_32 : decode cX2_teachOnly 32 = .ok (.iinc 3 1, 3) := by decide +kernel
theorem dX2_teachOnly_35 : decode cX2_teachOnly 35 = .ok (.goto (-33), 3) := by decide +kernel
theorem dX2_teachOnly_38 : decode cX2_teachOnly 38 = .ok (.return_, 1) := by decide +kernel
theorem dX2_passDay_0 : decode cX2_passDay 0 = .ok (.aload_n 0, 1) := by decide +kernel
theorem dX2_passDay_1 : decode cX2_passDay 1 = .ok (.invokevirtual 93, 3) := by decide +kernel
theorem dX2_passDay_4 : decode cX2_passDay 4 = .ok (.istore_n 1, 1) := by decide +kernel
theorem dX2_passDay_5 : decode cX2_passDay 5 = .ok (.aload_n 0, 1) := by decide +kernel
theorem dX2_passDay_6 : decode cX2_passDay 6 = .ok (.iconst 0, 1) := by decide +kernel
theorem dX2_passDay_7 : decode cX2_passDay 7 = .ok (.invokevirtual 97, 3) := by decide +kernel
theorem dX2_passDay_10 : decode cX2_passDay 10 = .ok (.pop, 1) := by decide +kernel
theorem dX2_passDay_11 : decode cX2_passDay 11 = .ok (.aload_n 0, 1) := by decide +kernel
theorem dX2_passDay_12 : decode cX2_passDay 12 = .ok (.invokevirtual 101, 3) := by decide +kernel
theorem dX2_passDay_15 : decode cX2_passDay 15 = .ok (.iload_n 1, 1) := by decide +kernel
theorem dX2_passDay_16 : decode cX2_passDay 16 = .ok (.ireturn, 1) := by decide +kernel
theorem dX2_passDayByDraws_0 : decode cX2_passDayByDraws 0 = .ok (.aload_n 0, 1) := by decide +kernel
theorem dX2_passDayByDraws_1 : decode cX2_passDayByDraws 1 = .ok (.invokevirtual 93, 3) := by decide +kernel
theorem dX2_passDayByDraws_4 : decode cX2_passDayByDraws 4 = .ok (.pop, 1) := by decide +kernel
theorem dX2_passDayByDraws_5 : decode cX2_passDayByDraws 5 = .ok (.aload_n 0, 1) := by decide +kernel
theorem dX2_passDayByDraws_6 : decode cX2_passDayByDraws 6 = .ok (.iconst 1, 1) := by decide +kernel
theorem dX2_passDayByDraws_7 : decode cX2_passDayByDraws 7 = .ok (.invokevirtual 97, 3) := by decide +kernel
theorem dX2_passDayByDraws_10 : decode cX2_passDayByDraws 10 = .ok (.istore_n 1, 1) := by decide +kernel
theorem dX2_passDayByDraws_11 : decode cX2_passDayByDraws 11 = .ok (.aload_n 0, 1) := by decide +kernel
theorem dX2_passDayByDraws_12 : decode cX2_passDayByDraws 12 = .ok (.invokevirtual 101, 3) := by decide +kernel
theorem dX2_passDayByDraws_15 : decode cX2_passDayByDraws 15 = .ok (.iload_n 1, 1) := by decide +kernel
theorem dX2_passDayByDraws_16 : decode cX2_passDayByDraws 16 = .ok (.ireturn, 1) := by decide +kernel
theorem dX2_relieve_0 : decode cX2_relieve 0 = .ok (.aload_n 0, 1) := by decide +kernel
theorem dX2_relieve_1 : decode cX2_relieve 1 = .ok (.getfield 52, 3) := by decide +kernel
theorem dX2_relieve_4 : decode cX2_relieve 4 = .ok (.ifCond .eq 10, 3) := by decide +kernel
theorem dX2_relieve_7 : decode cX2_relieve 7 = .ok (.aload_n 0, 1) := by decide +kernel
theorem dX2_relieve_8 : decode cX2_relieve 8 = .ok (.getfield 55, 3) := by decide +kernel
theorem dX2_relieve_11 : decode cX2_relieve 11 = .ok (.ifCond .ne 5, 3) := by decide +kernel
theorem dX2_relieve_14 : decode cX2_relieve 14 = .ok (.iconst 0, 1) := by decide +kernel
theorem dX2_relieve_15 : decode cX2_relieve 15 = .ok (.ireturn, 1) := by decide +kernel
theorem dX2_relieve_16 : decode cX2_relieve 16 = .ok (.aload_n 0, 1) := by decide +kernel
theorem dX2_relieve_17 : decode cX2_relieve 17 = .ok (.getfield 11, 3) := by decide +kernel
theorem dX2_relieve_20 : decode cX2_relieve 20 = .ok (.aload_n 0, 1) := by decide +kernel
theorem dX2_relieve_21 : decode cX2_relieve 21 = .ok (.getfield 64, 3) := by decide +kernel
theorem dX2_relieve_24 : decode cX2_relieve 24 = .ok (.aload_n 0, 1) := by decide +kernel
theorem dX2_relieve_25 : decode cX2_relieve 25 = .ok (.getfield 52, 3) := by decide +kernel
theorem dX2_relieve_28 : decode cX2_relieve 28 = .ok (.irem, 1) := by decide +kernel
theorem dX2_relieve_29 : decode cX2_relieve 29 = .ok (.aaload, 1) := by decide +kernel
theorem dX2_relieve_30 : decode cX2_relieve 30 = .ok (.astore_n 1, 1) := by decide +kernel
theorem dX2_relieve_31 : decode cX2_relieve 31 = .ok (.aload_n 1, 1) := by decide +kernel
theorem dX2_relieve_32 : decode cX2_relieve 32 = .ok (.aload_n 0, 1) := by decide +kernel
theorem dX2_relieve_33 : decode cX2_relieve 33 = .ok (.getfield 64, 3) := by decide +kernel
theorem dX2_relieve_36 : decode cX2_relieve 36 = .ok (.invokevirtual 104, 3) := by decide +kernel
theorem dX2_relieve_39 : decode cX2_relieve 39 = .ok (.ifCond .eq 5, 3) := by decide +kernel
theorem dX2_relieve_42 : decode cX2_relieve 42 = .ok (.iconst 0, 1) := by decide +kernel
theorem dX2_relieve_43 : decode cX2_relieve 43 = .ok (.ireturn, 1) := by decide +kernel
theorem dX2_relieve_44 : decode cX2_relieve 44 = .ok (.aload_n 1, 1) := by decide +kernel
theorem dX2_relieve_45 : decode cX2_relieve 45 = .ok (.aload_n 0, 1) := by decide +kernel
theorem dX2_relieve_46 : decode cX2_relieve 46 = .ok (.getfield 17, 3) := by decide +kernel
theorem dX2_relieve_49 : decode cX2_relieve 49 = .ok (.aload_n 0, 1) := by decide +kernel
theorem dX2_relieve_50 : decode cX2_relieve 50 = .ok (.getfield 58, 3) := by decide +kernel
theorem dX2_relieve_53 : decode cX2_relieve 53 = .ok (.iaload, 1) := by decide +kernel
theorem dX2_relieve_54 : decode cX2_relieve 54 = .ok (.aload_n 0, 1) := by decide +kernel
theorem dX2_relieve_55 : decode cX2_relieve 55 = .ok (.getfield 64, 3) := by decide +kernel
theorem dX2_relieve_58 : decode cX2_relieve 58 = .ok (.invokevirtual 86, 3) := by decide +kernel
theorem dX2_relieve_61 : decode cX2_relieve 61 = .ok (.aload_n 1, 1) := by decide +kernel
theorem dX2_relieve_62 : decode cX2_relieve 62 = .ok (.aload_n 0, 1) := by decide +kernel
theorem dX2_relieve_63 : decode cX2_relieve 63 = .ok (.getfield 61, 3) := by decide +kernel
theorem dX2_relieve_66 : decode cX2_relieve 66 = .ok (.iconst 0, 1) := by decide +kernel
theorem dX2_relieve_67 : decode cX2_relieve 67 = .ok (.invokevirtual 108, 3) := by decide +kernel
theorem dX2_relieve_70 : decode cX2_relieve 70 = .ok (.aload_n 1, 1) := by decide +kernel
theorem dX2_relieve_71 : decode cX2_relieve 71 = .ok (.aload_n 0, 1) := by decide +kernel
theorem dX2_relieve_72 : decode cX2_relieve 72 = .ok (.getfield 21, 3) := by decide +kernel
theorem dX2_relieve_75 : decode cX2_relieve 75 = .ok (.aload_n 0, 1) := by decide +kernel
theorem dX2_relieve_76 : decode cX2_relieve 76 = .ok (.getfield 58, 3) := by decide +kernel
theorem dX2_relieve_79 : decode cX2_relieve 79 = .ok (.iaload, 1) := by decide +kernel
theorem dX2_relieve_80 : decode cX2_relieve 80 = .ok (.iconst 1, 1) := by decide +kernel
theorem dX2_relieve_81 : decode cX2_relieve 81 = .ok (.invokevirtual 108, 3) := by decide +kernel
theorem dX2_relieve_84 : decode cX2_relieve 84 = .ok (.aload_n 0, 1) := by decide +kernel
theorem dX2_relieve_85 : decode cX2_relieve 85 = .ok (.aload_n 0, 1) := by decide +kernel
theorem dX2_relieve_86 : decode cX2_relieve 86 = .ok (.getfield 58, 3) := by decide +kernel
theorem dX2_relieve_89 : decode cX2_relieve 89 = .ok (.iconst 1, 1) := by decide +kernel
theorem dX2_relieve_90 : decode cX2_relieve 90 = .ok (.iadd, 1) := by decide +kernel
theorem dX2_relieve_91 : decode cX2_relieve 91 = .ok (.aload_n 0, 1) := by decide +kernel
theorem dX2_relieve_92 : decode cX2_relieve 92 = .ok (.getfield 55, 3) := by decide +kernel
theorem dX2_relieve_95 : decode cX2_relieve 95 = .ok (.irem, 1) := by decide +kernel
theorem dX2_relieve_96 : decode cX2_relieve 96 = .ok (.putfield 58, 3) := by decide +kernel
theorem dX2_relieve_99 : decode cX2_relieve 99 = .ok (.iconst 1, 1) := by decide +kernel
theorem dX2_relieve_100 : decode cX2_relieve 100 = .ok (.ireturn, 1) := by decide +kernel
theorem dX2_teachAll_0 : decode cX2_teachAll 0 = .ok (.iconst 0, 1) := by decide +kernel
theorem dX2_teachAll_1 : decode cX2_teachAll 1 = .ok (.istore_n 2, 1) := by decide +kernel
theorem dX2_teachAll_2 : decode cX2_teachAll 2 = .ok (.iconst 0, 1) := by decide +kernel
theorem dX2_teachAll_3 : decode cX2_teachAll 3 = .ok (.istore_n 3, 1) := by decide +kernel
theorem dX2_teachAll_4 : decode cX2_teachAll 4 = .ok (.iload_n 3, 1) := by decide +kernel
theorem dX2_teachAll_5 : decode cX2_teachAll 5 = .ok (.aload_n 0, 1) := by decide +kernel
theorem dX2_teachAll_6 : decode cX2_teachAll 6 = .ok (.getfield 52, 3) := by decide +kernel
theorem dX2_teachAll_9 : decode cX2_teachAll 9 = .ok (.if_icmp .ge 44, 3) := by decide +kernel
theorem dX2_teachAll_12 : decode cX2_teachAll 12 = .ok (.aload_n 0, 1) := by decide +kernel
theorem dX2_teachAll_13 : decode cX2_teachAll 13 = .ok (.getfield 52, 3) := by decide +kernel
theorem dX2_teachAll_16 : decode cX2_teachAll 16 = .ok (.iconst 1, 1) := by decide +kernel
theorem dX2_teachAll_17 : decode cX2_teachAll 17 = .ok (.if_icmp .le 36, 3) := by decide +kernel
theorem dX2_teachAll_20 : decode cX2_teachAll 20 = .ok (.iload_n 2, 1) := by decide +kernel
theorem dX2_teachAll_21 : decode cX2_teachAll 21 = .ok (.aload_n 0, 1) := by decide +kernel
theorem dX2_teachAll_22 : decode cX2_teachAll 22 = .ok (.aload_n 0, 1) := by decide +kernel
theorem dX2_teachAll_23 : decode cX2_teachAll 23 = .ok (.getfield 11, 3) := by decide +kernel
theorem dX2_teachAll_26 : decode cX2_teachAll 26 = .ok (.iload_n 3, 1) := by decide +kernel
theorem dX2_teachAll_27 : decode cX2_teachAll 27 = .ok (.aaload, 1) := by decide +kernel
theorem dX2_teachAll_28 : decode cX2_teachAll 28 = .ok (.aload_n 0, 1) := by decide +kernel
theorem dX2_teachAll_29 : decode cX2_teachAll 29 = .ok (.getfield 11, 3) := by decide +kernel
theorem dX2_teachAll_32 : decode cX2_teachAll 32 = .ok (.iload_n 3, 1) := by decide +kernel
theorem dX2_teachAll_33 : decode cX2_teachAll 33 = .ok (.iconst 1, 1) := by decide +kernel
theorem dX2_teachAll_34 : decode cX2_teachAll 34 = .ok (.iadd, 1) := by decide +kernel
theorem dX2_teachAll_35 : decode cX2_teachAll 35 = .ok (.aload_n 0, 1) := by decide +kernel
theorem dX2_teachAll_36 : decode cX2_teachAll 36 = .ok (.getfield 52, 3) := by decide +kernel
theorem dX2_teachAll_39 : decode cX2_teachAll 39 = .ok (.irem, 1) := by decide +kernel
theorem dX2_teachAll_40 : decode cX2_teachAll 40 = .ok (.aaload, 1) := by decide +kernel
theorem dX2_teachAll_41 : decode cX2_teachAll 41 = .ok (.iload_n 1, 1) := by decide +kernel
theorem dX2_teachAll_42 : decode cX2_teachAll 42 = .ok (.invokevirtual 111, 3) := by decide +kernel
theorem dX2_teachAll_45 : decode cX2_teachAll 45 = .ok (.iadd, 1) := by decide +kernel
theorem dX2_teachAll_46 : decode cX2_teachAll 46 = .ok (.istore_n 2, 1) := by decide +kernel
theorem dX2_teachAll_47 : decode cX2_teachAll 47 = .ok (.iinc 3 1, 3) := by decide +kernel
theorem dX2_teachAll_50 : decode cX2_teachAll 50 = .ok (.goto (-46), 3) := by decide +kernel
theorem dX2_teachAll_53 : decode cX2_teachAll 53 = .ok (.iload_n 2, 1) := by decide +kernel
theorem dX2_teachAll_54 : decode cX2_teachAll 54 = .ok (.ireturn, 1) := by decide +kernel
theorem dX2_teach_0 : decode cX2_teach 0 = .ok (.aload_n 1, 1) := by decide +kernel
theorem dX2_teach_1 : decode cX2_teach 1 = .ok (.getfield 90, 3) := by decide +kernel
theorem dX2_teach_4 : decode cX2_teach 4 = .ok (.istore 4, 2) := by decide +kernel
theorem dX2_teach_6 : decode cX2_teach 6 = .ok (.aload_n 1, 1) := by decide +kernel
theorem dX2_teach_7 : decode cX2_teach 7 = .ok (.iload 4, 2) := by decide +kernel
theorem dX2_teach_9 : decode cX2_teach 9 = .ok (.invokevirtual 115, 3) := by decide +kernel
theorem dX2_teach_12 : decode cX2_teach 12 = .ok (.ifCond .eq 20, 3) := by decide +kernel
theorem dX2_teach_15 : decode cX2_teach 15 = .ok (.aload_n 1, 1) := by decide +kernel
theorem dX2_teach_16 : decode cX2_teach 16 = .ok (.iconst 2, 1) := by decide +kernel
theorem dX2_teach_17 : decode cX2_teach 17 = .ok (.invokevirtual 118, 3) := by decide +kernel
theorem dX2_teach_20 : decode cX2_teach 20 = .ok (.ifCond .ne 12, 3) := by decide +kernel
theorem dX2_teach_23 : decode cX2_teach 23 = .ok (.aload_n 2, 1) := by decide +kernel
theorem dX2_teach_24 : decode cX2_teach 24 = .ok (.iload 4, 2) := by decide +kernel
theorem dX2_teach_26 : decode cX2_teach 26 = .ok (.invokevirtual 115, 3) := by decide +kernel
theorem dX2_teach_29 : decode cX2_teach 29 = .ok (.ifCond .eq 5, 3) := by decide +kernel
theorem dX2_teach_32 : decode cX2_teach 32 = .ok (.iconst 0, 1) := by decide +kernel
theorem dX2_teach_33 : decode cX2_teach 33 = .ok (.ireturn, 1) := by decide +kernel
theorem dX2_teach_34 : decode cX2_teach 34 = .ok (.aload_n 2, 1) := by decide +kernel
theorem dX2_teach_35 : decode cX2_teach 35 = .ok (.getfield 121, 3) := by decide +kernel
theorem dX2_teach_38 : decode cX2_teach 38 = .ok (.iload 4, 2) := by decide +kernel
theorem dX2_teach_40 : decode cX2_teach 40 = .ok (.bipush 99, 2) := by decide +kernel
theorem dX2_teach_42 : decode cX2_teach 42 = .ok (.aload_n 2, 1) := by decide +kernel
theorem dX2_teach_43 : decode cX2_teach 43 = .ok (.getfield 121, 3) := by decide +kernel
theorem dX2_teach_46 : decode cX2_teach 46 = .ok (.iload 4, 2) := by decide +kernel
theorem dX2_teach_48 : decode cX2_teach 48 = .ok (.iaload, 1) := by decide +kernel
theorem dX2_teach_49 : decode cX2_teach 49 = .ok (.iconst 1, 1) := by decide +kernel
theorem dX2_teach_50 : decode cX2_teach 50 = .ok (.iadd, 1) := by decide +kernel
theorem dX2_teach_51 : decode cX2_teach 51 = .ok (.invokestatic 124, 3) := by decide +kernel
theorem dX2_teach_54 : decode cX2_teach 54 = .ok (.iastore, 1) := by decide +kernel
theorem dX2_teach_55 : decode cX2_teach 55 = .ok (.aload_n 2, 1) := by decide +kernel
theorem dX2_teach_56 : decode cX2_teach 56 = .ok (.getfield 121, 3) := by decide +kernel
theorem dX2_teach_59 : decode cX2_teach 59 = .ok (.iload 4, 2) := by decide +kernel
theorem dX2_teach_61 : decode cX2_teach 61 = .ok (.iaload, 1) := by decide +kernel
theorem dX2_teach_62 : decode cX2_teach 62 = .ok (.aload_n 0, 1) := by decide +kernel
theorem dX2_teach_63 : decode cX2_teach 63 = .ok (.aload_n 2, 1) := by decide +kernel
theorem dX2_teach_64 : decode cX2_teach 64 = .ok (.iload 4, 2) := by decide +kernel
theorem dX2_teach_66 : decode cX2_teach 66 = .ok (.invokevirtual 130, 3) := by decide +kernel
theorem dX2_teach_69 : decode cX2_teach 69 = .ok (.if_icmp .ge 5, 3) := by decide +kernel
theorem dX2_teach_72 : decode cX2_teach 72 = .ok (.iconst 0, 1) := by decide +kernel
theorem dX2_teach_73 : decode cX2_teach 73 = .ok (.ireturn, 1) := by decide +kernel
theorem dX2_teach_74 : decode cX2_teach 74 = .ok (.iload_n 3, 1) := by decide +kernel
theorem dX2_teach_75 : decode cX2_teach 75 = .ok (.ifCond .eq 21, 3) := by decide +kernel
theorem dX2_teach_78 : decode cX2_teach 78 = .ok (.aload_n 0, 1) := by decide +kernel
theorem dX2_teach_79 : decode cX2_teach 79 = .ok (.invokevirtual 134, 3) := by decide +kernel
theorem dX2_teach_82 : decode cX2_teach 82 = .ok (.bipush 16, 2) := by decide +kernel
theorem dX2_teach_84 : decode cX2_teach 84 = .ok (.irem, 1) := by decide +kernel
theorem dX2_teach_85 : decode cX2_teach 85 = .ok (.aload_n 0, 1) := by decide +kernel
theorem dX2_teach_86 : decode cX2_teach 86 = .ok (.getfield 30, 3) := by decide +kernel
theorem dX2_teach_89 : decode cX2_teach 89 = .ok (.if_icmp .ge 7, 3) := by decide +kernel
theorem dX2_teach_92 : decode cX2_teach 92 = .ok (.iconst 1, 1) := by decide +kernel
theorem dX2_teach_93 : decode cX2_teach 93 = .ok (.goto 4, 3) := by decide +kernel
theorem dX2_teach_96 : decode cX2_teach 96 = .ok (.iconst 0, 1) := by decide +kernel
theorem dX2_teach_97 : decode cX2_teach 97 = .ok (.istore 5, 2) := by decide +kernel
theorem dX2_teach_99 : decode cX2_teach 99 = .ok (.aload_n 2, 1) := by decide +kernel
theorem dX2_teach_100 : decode cX2_teach 100 = .ok (.iload 4, 2) := by decide +kernel
theorem dX2_teach_102 : decode cX2_teach 102 = .ok (.sipush 999, 3) := by decide +kernel
theorem dX2_teach_105 : decode cX2_teach 105 = .ok (.aload_n 1, 1) := by decide +kernel
theorem dX2_teach_106 : decode cX2_teach 106 = .ok (.iload 4, 2) := by decide +kernel
theorem dX2_teach_108 : decode cX2_teach 108 = .ok (.invokevirtual 137, 3) := by decide +kernel
theorem dX2_teach_111 : decode cX2_teach 111 = .ok (.iload 5, 2) := by decide +kernel
theorem dX2_teach_113 : decode cX2_teach 113 = .ok (.iadd, 1) := by decide +kernel
theorem dX2_teach_114 : decode cX2_teach 114 = .ok (.invokestatic 124, 3) := by decide +kernel
theorem dX2_teach_117 : decode cX2_teach 117 = .ok (.invokevirtual 141, 3) := by decide +kernel
theorem dX2_teach_120 : decode cX2_teach 120 = .ok (.iload 5, 2) := by decide +kernel
theorem dX2_teach_122 : decode cX2_teach 122 = .ok (.ireturn, 1) := by decide +kernel
theorem dX2_draw_0 : decode cX2_draw 0 = .ok (.aload_n 0, 1) := by decide +kernel
theorem dX2_draw_1 : decode cX2_draw 1 = .ok (.aload_n 0, 1) := by decide +kernel
theorem dX2_draw_2 : decode cX2_draw 2 = .ok (.getfield 34, 3) := by decide +kernel
theorem dX2_draw_5 : decode cX2_draw 5 = .ok (.ldc 144, 2) := by decide +kernel
theorem dX2_draw_7 : decode cX2_draw 7 = .ok (.imul, 1) := by decide +kernel
theorem dX2_draw_8 : decode cX2_draw 8 = .ok (.sipush 12345, 3) := by decide +kernel
theorem dX2_draw_11 : decode cX2_draw 11 = .ok (.iadd, 1) := by decide +kernel
theorem dX2_draw_12 : decode cX2_draw 12 = .ok (.putfield 34, 3) := by decide +kernel
theorem dX2_draw_15 : decode cX2_draw 15 = .ok (.aload_n 0, 1) := by decide +kernel
theorem dX2_draw_16 : decode cX2_draw 16 = .ok (.getfield 34, 3) := by decide +kernel
theorem dX2_draw_19 : decode cX2_draw 19 = .ok (.bipush 8, 2) := by decide +kernel
theorem dX2_draw_21 : decode cX2_draw 21 = .ok (.iushr, 1) := by decide +kernel
theorem dX2_draw_22 : decode cX2_draw 22 = .ok (.ireturn, 1) := by decide +kernel
theorem dX2_endDay_0 : decode cX2_endDay 0 = .ok (.iconst 0, 1) := by decide +kernel
theorem dX2_endDay_1 : decode cX2_endDay 1 = .ok (.istore_n 1, 1) := by decide +kernel
theorem dX2_endDay_2 : decode cX2_endDay 2 = .ok (.iload_n 1, 1) := by decide +kernel
theorem dX2_endDay_3 : decode cX2_endDay 3 = .ok (.iconst 4, 1) := by decide +kernel
theorem dX2_endDay_4 : decode cX2_endDay 4 = .ok (.if_icmp .ge 31, 3) := by decide +kernel
theorem dX2_endDay_7 : decode cX2_endDay 7 = .ok (.aload_n 0, 1) := by decide +kernel
theorem dX2_endDay_8 : decode cX2_endDay 8 = .ok (.getfield 26, 3) := by decide +kernel
theorem dX2_endDay_11 : decode cX2_endDay 11 = .ok (.iload_n 1, 1) := by decide +kernel
theorem dX2_endDay_12 : decode cX2_endDay 12 = .ok (.aaload, 1) := by decide +kernel
theorem dX2_endDay_13 : decode cX2_endDay 13 = .ok (.aload_n 0, 1) := by decide +kernel
theorem dX2_endDay_14 : decode cX2_endDay 14 = .ok (.aload_n 0, 1) := by decide +kernel
theorem dX2_endDay_15 : decode cX2_endDay 15 = .ok (.getfield 26, 3) := by decide +kernel
theorem dX2_endDay_18 : decode cX2_endDay 18 = .ok (.iload_n 1, 1) := by decide +kernel
theorem dX2_endDay_19 : decode cX2_endDay 19 = .ok (.aaload, 1) := by decide +kernel
theorem dX2_endDay_20 : decode cX2_endDay 20 = .ok (.getfield 145, 3) := by decide +kernel
theorem dX2_endDay_23 : decode cX2_endDay 23 = .ok (.invokevirtual 148, 3) := by decide +kernel
theorem dX2_endDay_26 : decode cX2_endDay 26 = .ok (.invokevirtual 151, 3) := by decide +kernel
theorem dX2_endDay_29 : decode cX2_endDay 29 = .ok (.iinc 1 1, 3) := by decide +kernel
theorem dX2_endDay_32 : decode cX2_endDay 32 = .ok (.goto (-30), 3) := by decide +kernel
theorem dX2_endDay_35 : decode cX2_endDay 35 = .ok (.aload_n 0, 1) := by decide +kernel
theorem dX2_endDay_36 : decode cX2_endDay 36 = .ok (.dup, 1) := by decide +kernel
theorem dX2_endDay_37 : decode cX2_endDay 37 = .ok (.getfield 64, 3) := by decide +kernel
theorem dX2_endDay_40 : decode cX2_endDay 40 = .ok (.iconst 1, 1) := by decide +kernel
theorem dX2_endDay_41 : decode cX2_endDay 41 = .ok (.iadd, 1) := by decide +kernel
theorem dX2_endDay_42 : decode cX2_endDay 42 = .ok (.putfield 64, 3) := by decide +kernel
theorem dX2_endDay_45 : decode cX2_endDay 45 = .ok (.return_, 1) := by decide +kernel
theorem dX2_needs_0 : decode cX2_needs 0 = .ok (.aload_n 1, 1) := by decide +kernel
theorem dX2_needs_1 : decode cX2_needs 1 = .ok (.getfield 155, 3) := by decide +kernel
theorem dX2_needs_4 : decode cX2_needs 4 = .ok (.tableswitch 101 1 6 #[40, 42, 101, 40, 101, 49], 40) := by decide +kernel
theorem dX2_needs_44 : decode cX2_needs 44 = .ok (.iconst 1, 1) := by decide +kernel
theorem dX2_needs_45 : decode cX2_needs 45 = .ok (.ireturn, 1) := by decide +kernel
theorem dX2_needs_46 : decode cX2_needs 46 = .ok (.iconst 2, 1) := by decide +kernel
theorem dX2_needs_47 : decode cX2_needs 47 = .ok (.aload_n 1, 1) := by decide +kernel
theorem dX2_needs_48 : decode cX2_needs 48 = .ok (.getfield 158, 3) := by decide +kernel
theorem dX2_needs_51 : decode cX2_needs 51 = .ok (.iadd, 1) := by decide +kernel
theorem dX2_needs_52 : decode cX2_needs 52 = .ok (.ireturn, 1) := by decide +kernel
theorem dX2_needs_53 : decode cX2_needs 53 = .ok (.aload_n 0, 1) := by decide +kernel
theorem dX2_needs_54 : decode cX2_needs 54 = .ok (.getfield 43, 3) := by decide +kernel
theorem dX2_needs_57 : decode cX2_needs 57 = .ok (.iconst 0, 1) := by decide +kernel
theorem dX2_needs_58 : decode cX2_needs 58 = .ok (.aaload, 1) := by decide +kernel
theorem dX2_needs_59 : decode cX2_needs 59 = .ok (.astore_n 3, 1) := by decide +kernel
theorem dX2_needs_60 : decode cX2_needs 60 = .ok (.aload_n 1, 1) := by decide +kernel
theorem dX2_needs_61 : decode cX2_needs 61 = .ok (.getfield 161, 3) := by decide +kernel
theorem dX2_needs_64 : decode cX2_needs 64 = .ok (.invokestatic 164, 3) := by decide +kernel
theorem dX2_needs_67 : decode cX2_needs 67 = .ok (.istore 4, 2) := by decide +kernel
theorem dX2_needs_69 : decode cX2_needs 69 = .ok (.aload_n 3, 1) := by decide +kernel
theorem dX2_needs_70 : decode cX2_needs 70 = .ok (.ifnonnull 10, 3) := by decide +kernel
theorem dX2_needs_73 : decode cX2_needs 73 = .ok (.aload_n 1, 1) := by decide +kernel
theorem dX2_needs_74 : decode cX2_needs 74 = .ok (.getfield 158, 3) := by decide +kernel
theorem dX2_needs_77 : decode cX2_needs 77 = .ok (.goto 14, 3) := by decide +kernel
theorem dX2_needs_80 : decode cX2_needs 80 = .ok (.aload_n 3, 1) := by decide +kernel
theorem dX2_needs_81 : decode cX2_needs 81 = .ok (.iload_n 2, 1) := by decide +kernel
theorem dX2_needs_82 : decode cX2_needs 82 = .ok (.iload 4, 2) := by decide +kernel
theorem dX2_needs_84 : decode cX2_needs 84 = .ok (.aload_n 1, 1) := by decide +kernel
theorem dX2_needs_85 : decode cX2_needs 85 = .ok (.getfield 158, 3) := by decide +kernel
theorem dX2_needs_88 : decode cX2_needs 88 = .ok (.invokevirtual 169, 3) := by decide +kernel
theorem dX2_needs_91 : decode cX2_needs 91 = .ok (.istore 5, 2) := by decide +kernel
theorem dX2_needs_93 : decode cX2_needs 93 = .ok (.iconst 1, 1) := by decide +kernel
theorem dX2_needs_94 : decode cX2_needs 94 = .ok (.bipush 99, 2) := by decide +kernel
theorem dX2_needs_96 : decode cX2_needs 96 = .ok (.iload 5, 2) := by decide +kernel
theorem dX2_needs_98 : decode cX2_needs 98 = .ok (.invokestatic 124, 3) := by decide +kernel
theorem dX2_needs_101 : decode cX2_needs 101 = .ok (.invokestatic 173, 3) := by decide +kernel
theorem dX2_needs_104 : decode cX2_needs 104 = .ok (.ireturn, 1) := by decide +kernel
theorem dX2_needs_105 : decode cX2_needs 105 = .ok (.iconst 2, 1) := by decide +kernel
theorem dX2_needs_106 : decode cX2_needs 106 = .ok (.ireturn, 1) := by decide +kernel
theorem dX2_pay_0 : decode cX2_pay 0 = .ok (.aload_n 1, 1) := by decide +kernel
theorem dX2_pay_1 : decode cX2_pay 1 = .ok (.getfield 161, 3) := by decide +kernel
theorem dX2_pay_4 : decode cX2_pay 4 = .ok (.invokestatic 164, 3) := by decide +kernel
theorem dX2_pay_7 : decode cX2_pay 7 = .ok (.istore_n 2, 1) := by decide +kernel
theorem dX2_pay_8 : decode cX2_pay 8 = .ok (.aload_n 0, 1) := by decide +kernel
theorem dX2_pay_9 : decode cX2_pay 9 = .ok (.getfield 43, 3) := by decide +kernel
theorem dX2_pay_12 : decode cX2_pay 12 = .ok (.iconst 1, 1) := by decide +kernel
theorem dX2_pay_13 : decode cX2_pay 13 = .ok (.aaload, 1) := by decide +kernel
theorem dX2_pay_14 : decode cX2_pay 14 = .ok (.astore_n 3, 1) := by decide +kernel
theorem dX2_pay_15 : decode cX2_pay 15 = .ok (.aload_n 3, 1) := by decide +kernel
theorem dX2_pay_16 : decode cX2_pay 16 = .ok (.ifnonnull 7, 3) := by decide +kernel
theorem dX2_pay_19 : decode cX2_pay 19 = .ok (.iconst 1, 1) := by decide +kernel
theorem dX2_pay_20 : decode cX2_pay 20 = .ok (.iload_n 2, 1) := by decide +kernel
theorem dX2_pay_21 : decode cX2_pay 21 = .ok (.iadd, 1) := by decide +kernel
theorem dX2_pay_22 : decode cX2_pay 22 = .ok (.ireturn, 1) := by decide +kernel
theorem dX2_pay_23 : decode cX2_pay 23 = .ok (.aload_n 1, 1) := by decide +kernel
theorem dX2_pay_24 : decode cX2_pay 24 = .ok (.getfield 176, 3) := by decide +kernel
theorem dX2_pay_27 : decode cX2_pay 27 = .ok (.ifCond .ge 7, 3) := by decide +kernel
theorem dX2_pay_30 : decode cX2_pay 30 = .ok (.iconst 0, 1) := by decide +kernel
theorem dX2_pay_31 : decode cX2_pay 31 = .ok (.goto 12, 3) := by decide +kernel
theorem dX2_pay_34 : decode cX2_pay 34 = .ok (.aload_n 0, 1) := by decide +kernel
theorem dX2_pay_35 : decode cX2_pay 35 = .ok (.getfield 64, 3) := by decide +kernel
theorem dX2_pay_38 : decode cX2_pay 38 = .ok (.aload_n 1, 1) := by decide +kernel
theorem dX2_pay_39 : decode cX2_pay 39 = .ok (.getfield 176, 3) := by decide +kernel
theorem dX2_pay_42 : decode cX2_pay 42 = .ok (.isub, 1) := by decide +kernel
theorem dX2_pay_43 : decode cX2_pay 43 = .ok (.istore 4, 2) := by decide +kernel
theorem dX2_pay_45 : decode cX2_pay 45 = .ok (.iconst 0, 1) := by decide +kernel
theorem dX2_pay_46 : decode cX2_pay 46 = .ok (.sipush 999, 3) := by decide +kernel
theorem dX2_pay_49 : decode cX2_pay 49 = .ok (.aload_n 3, 1) := by decide +kernel
theorem dX2_pay_50 : decode cX2_pay 50 = .ok (.aload_n 1, 1) := by decide +kernel
theorem dX2_pay_51 : decode cX2_pay 51 = .ok (.getfield 155, 3) := by decide +kernel
theorem dX2_pay_54 : decode cX2_pay 54 = .ok (.iload_n 2, 1) := by decide +kernel
theorem dX2_pay_55 : decode cX2_pay 55 = .ok (.iload 4, 2) := by decide +kernel
theorem dX2_pay_57 : decode cX2_pay 57 = .ok (.invokevirtual 169, 3) := by decide +kernel
theorem dX2_pay_60 : decode cX2_pay 60 = .ok (.invokestatic 124, 3) := by decide +kernel
theorem dX2_pay_63 : decode cX2_pay 63 = .ok (.invokestatic 173, 3) := by decide +kernel
theorem dX2_pay_66 : decode cX2_pay 66 = .ok (.ireturn, 1) := by decide +kernel
theorem dX2_payOfAll_0 : decode cX2_payOfAll 0 = .ok (.iconst 0, 1) := by decide +kernel
theorem dX2_payOfAll_1 : decode cX2_payOfAll 1 = .ok (.istore_n 1, 1) := by decide +kernel
theorem dX2_payOfAll_2 : decode cX2_payOfAll 2 = .ok (.iconst 0, 1) := by decide +kernel
theorem dX2_payOfAll_3 : decode cX2_payOfAll 3 = .ok (.istore_n 2, 1) := by decide +kernel
theorem dX2_payOfAll_4 : decode cX2_payOfAll 4 = .ok (.iload_n 2, 1) := by decide +kernel
theorem dX2_payOfAll_5 : decode cX2_payOfAll 5 = .ok (.aload_n 0, 1) := by decide +kernel
theorem dX2_payOfAll_6 : decode cX2_payOfAll 6 = .ok (.getfield 52, 3) := by decide +kernel
theorem dX2_payOfAll_9 : decode cX2_payOfAll 9 = .ok (.if_icmp .ge 22, 3) := by decide +kernel
theorem dX2_payOfAll_12 : decode cX2_payOfAll 12 = .ok (.iload_n 1, 1) := by decide +kernel
theorem dX2_payOfAll_13 : decode cX2_payOfAll 13 = .ok (.aload_n 0, 1) := by decide +kernel
theorem dX2_payOfAll_14 : decode cX2_payOfAll 14 = .ok (.aload_n 0, 1) := by decide +kernel
theorem dX2_payOfAll_15 : decode cX2_payOfAll 15 = .ok (.getfield 11, 3) := by decide +kernel
theorem dX2_payOfAll_18 : decode cX2_payOfAll 18 = .ok (.iload_n 2, 1) := by decide +kernel
theorem dX2_payOfAll_19 : decode cX2_payOfAll 19 = .ok (.aaload, 1) := by decide +kernel
theorem dX2_payOfAll_20 : decode cX2_payOfAll 20 = .ok (.invokevirtual 179, 3) := by decide +kernel
theorem dX2_payOfAll_23 : decode cX2_payOfAll 23 = .ok (.iadd, 1) := by decide +kernel
theorem dX2_payOfAll_24 : decode cX2_payOfAll 24 = .ok (.istore_n 1, 1) := by decide +kernel
theorem dX2_payOfAll_25 : decode cX2_payOfAll 25 = .ok (.iinc 2 1, 3) := by decide +kernel
theorem dX2_payOfAll_28 : decode cX2_payOfAll 28 = .ok (.goto (-24), 3) := by decide +kernel
theorem dX2_payOfAll_31 : decode cX2_payOfAll 31 = .ok (.iload_n 1, 1) := by decide +kernel
theorem dX2_payOfAll_32 : decode cX2_payOfAll 32 = .ok (.ireturn, 1) := by decide +kernel
theorem dX2_doneOfAll_0 : decode cX2_doneOfAll 0 = .ok (.iconst 0, 1) := by decide +kernel
theorem dX2_doneOfAll_1 : decode cX2_doneOfAll 1 = .ok (.istore_n 1, 1) := by decide +kernel
theorem dX2_doneOfAll_2 : decode cX2_doneOfAll 2 = .ok (.iconst 0, 1) := by decide +kernel
theorem dX2_doneOfAll_3 : decode cX2_doneOfAll 3 = .ok (.istore_n 2, 1) := by decide +kernel
theorem dX2_doneOfAll_4 : decode cX2_doneOfAll 4 = .ok (.iload_n 2, 1) := by decide +kernel
theorem dX2_doneOfAll_5 : decode cX2_doneOfAll 5 = .ok (.iconst 4, 1) := by decide +kernel
theorem dX2_doneOfAll_6 : decode cX2_doneOfAll 6 = .ok (.if_icmp .ge 21, 3) := by decide +kernel
theorem dX2_doneOfAll_9 : decode cX2_doneOfAll 9 = .ok (.iload_n 1, 1) := by decide +kernel
theorem dX2_doneOfAll_10 : decode cX2_doneOfAll 10 = .ok (.aload_n 0, 1) := by decide +kernel
theorem dX2_doneOfAll_11 : decode cX2_doneOfAll 11 = .ok (.getfield 26, 3) := by decide +kernel
theorem dX2_doneOfAll_14 : decode cX2_doneOfAll 14 = .ok (.iload_n 2, 1) := by decide +kernel
theorem dX2_doneOfAll_15 : decode cX2_doneOfAll 15 = .ok (.aaload, 1) := by decide +kernel
theorem dX2_doneOfAll_16 : decode cX2_doneOfAll 16 = .ok (.getfield 183, 3) := by decide +kernel
theorem dX2_doneOfAll_19 : decode cX2_doneOfAll 19 = .ok (.iadd, 1) := by decide +kernel
theorem dX2_doneOfAll_20 : decode cX2_doneOfAll 20 = .ok (.istore_n 1, 1) := by decide +kernel
theorem dX2_doneOfAll_21 : decode cX2_doneOfAll 21 = .ok (.iinc 2 1, 3) := by decide +kernel
theorem dX2_doneOfAll_24 : decode cX2_doneOfAll 24 = .ok (.goto (-20), 3) := by decide +kernel
theorem dX2_doneOfAll_27 : decode cX2_doneOfAll 27 = .ok (.iload_n 1, 1) := by decide +kernel
theorem dX2_doneOfAll_28 : decode cX2_doneOfAll 28 = .ok (.ireturn, 1) := by decide +kernel
theorem dX2_knowers_0 : decode cX2_knowers 0 = .ok (.iconst 0, 1) := by decide +kernel
theorem dX2_knowers_1 : decode cX2_knowers 1 = .ok (.istore_n 2, 1) := by decide +kernel
theorem dX2_knowers_2 : decode cX2_knowers 2 = .ok (.iconst 0, 1) := by decide +kernel
theorem dX2_knowers_3 : decode cX2_knowers 3 = .ok (.istore_n 3, 1) := by decide +kernel
theorem dX2_knowers_4 : decode cX2_knowers 4 = .ok (.iload_n 3, 1) := by decide +kernel
theorem dX2_knowers_5 : decode cX2_knowers 5 = .ok (.aload_n 0, 1) := by decide +kernel
theorem dX2_knowers_6 : decode cX2_knowers 6 = .ok (.getfield 52, 3) := by decide +kernel
theorem dX2_knowers_9 : decode cX2_knowers 9 = .ok (.if_icmp .ge 30, 3) := by decide +kernel
theorem dX2_knowers_12 : decode cX2_knowers 12 = .ok (.iload_n 2, 1) := by decide +kernel
theorem dX2_knowers_13 : decode cX2_knowers 13 = .ok (.aload_n 0, 1) := by decide +kernel
theorem dX2_knowers_14 : decode cX2_knowers 14 = .ok (.getfield 11, 3) := by decide +kernel
theorem dX2_knowers_17 : decode cX2_knowers 17 = .ok (.iload_n 3, 1) := by decide +kernel
theorem dX2_knowers_18 : decode cX2_knowers 18 = .ok (.aaload, 1) := by decide +kernel
theorem dX2_knowers_19 : decode cX2_knowers 19 = .ok (.iload_n 1, 1) := by decide +kernel
theorem dX2_knowers_20 : decode cX2_knowers 20 = .ok (.invokevirtual 115, 3) := by decide +kernel
theorem dX2_knowers_23 : decode cX2_knowers 23 = .ok (.ifCond .eq 7, 3) := by decide +kernel
theorem dX2_knowers_26 : decode cX2_knowers 26 = .ok (.iconst 1, 1) := by decide +kernel
theorem dX2_knowers_27 : decode cX2_knowers 27 = .ok (.goto 4, 3) := by decide +kernel
theorem dX2_knowers_30 : decode cX2_knowers 30 = .ok (.iconst 0, 1) := by decide +kernel
theorem dX2_knowers_31 : decode cX2_knowers 31 = .ok (.iadd, 1) := by decide +kernel
theorem dX2_knowers_32 : decode cX2_knowers 32 = .ok (.istore_n 2, 1) := by decide +kernel
theorem dX2_knowers_33 : decode cX2_knowers 33 = .ok (.iinc 3 1, 3) := by decide +kernel
theorem dX2_knowers_36 : decode cX2_knowers 36 = .ok (.goto (-32), 3) := by decide +kernel
theorem dX2_knowers_39 : decode cX2_knowers 39 = .ok (.iload_n 2, 1) := by decide +kernel
theorem dX2_knowers_40 : decode cX2_knowers 40 = .ok (.ireturn, 1) := by decide +kernel
theorem dX2_knownByAny_0 : decode cX2_knownByAny 0 = .ok (.iconst 0, 1) := by decide +kernel
theorem dX2_knownByAny_1 : decode cX2_knownByAny 1 = .ok (.istore_n 1, 1) := by decide +kernel
theorem dX2_knownByAny_2 : decode cX2_knownByAny 2 = .ok (.iconst 0, 1) := by decide +kernel
theorem dX2_knownByAny_3 : decode cX2_knownByAny 3 = .ok (.istore_n 2, 1) := by decide +kernel
theorem dX2_knownByAny_4 : decode cX2_knownByAny 4 = .ok (.iload_n 2, 1) := by decide +kernel
theorem dX2_knownByAny_5 : decode cX2_knownByAny 5 = .ok (.aload_n 0, 1) := by decide +kernel
theorem dX2_knownByAny_6 : decode cX2_knownByAny 6 = .ok (.getfield 52, 3) := by decide +kernel
theorem dX2_knownByAny_9 : decode cX2_knownByAny 9 = .ok (.if_icmp .ge 21, 3) := by decide +kernel
theorem dX2_knownByAny_12 : decode cX2_knownByAny 12 = .ok (.iload_n 1, 1) := by decide +kernel
theorem dX2_knownByAny_13 : decode cX2_knownByAny 13 = .ok (.aload_n 0, 1) := by decide +kernel
theorem dX2_knownByAny_14 : decode cX2_knownByAny 14 = .ok (.getfield 11, 3) := by decide +kernel
theorem dX2_knownByAny_17 : decode cX2_knownByAny 17 = .ok (.iload_n 2, 1) := by decide +kernel
theorem dX2_knownByAny_18 : decode cX2_knownByAny 18 = .ok (.aaload, 1) := by decide +kernel
theorem dX2_knownByAny_19 : decode cX2_knownByAny 19 = .ok (.getfield 161, 3) := by decide +kernel
theorem dX2_knownByAny_22 : decode cX2_knownByAny 22 = .ok (.ior, 1) := by decide +kernel
theorem dX2_knownByAny_23 : decode cX2_knownByAny 23 = .ok (.istore_n 1, 1) := by decide +kernel
theorem dX2_knownByAny_24 : decode cX2_knownByAny 24 = .ok (.iinc 2 1, 3) := by decide +kernel
theorem dX2_knownByAny_27 : decode cX2_knownByAny 27 = .ok (.goto (-23), 3) := by decide +kernel
theorem dX2_knownByAny_30 : decode cX2_knownByAny 30 = .ok (.iload_n 1, 1) := by decide +kernel
theorem dX2_knownByAny_31 : decode cX2_knownByAny 31 = .ok (.ireturn, 1) := by decide +kernel
theorem dX2_canSpare_0 : decode cX2_canSpare 0 = .ok (.iconst 0, 1) := by decide +kernel
theorem dX2_canSpare_1 : decode cX2_canSpare 1 = .ok (.istore_n 3, 1) := by decide +kernel
theorem dX2_canSpare_2 : decode cX2_canSpare 2 = .ok (.iload_n 3, 1) := by decide +kernel
theorem dX2_canSpare_3 : decode cX2_canSpare 3 = .ok (.iconst 4, 1) := by decide +kernel
theorem dX2_canSpare_4 : decode cX2_canSpare 4 = .ok (.if_icmp .ge 96, 3) := by decide +kernel
theorem dX2_canSpare_7 : decode cX2_canSpare 7 = .ok (.aload_n 0, 1) := by decide +kernel
theorem dX2_canSpare_8 : decode cX2_canSpare 8 = .ok (.getfield 26, 3) := by decide +kernel
theorem dX2_canSpare_11 : decode cX2_canSpare 11 = .ok (.iload_n 3, 1) := by decide +kernel
theorem dX2_canSpare_12 : decode cX2_canSpare 12 = .ok (.aaload, 1) := by decide +kernel
theorem dX2_canSpare_13 : decode cX2_canSpare 13 = .ok (.getfield 145, 3) := by decide +kernel
theorem dX2_canSpare_16 : decode cX2_canSpare 16 = .ok (.istore 4, 2) := by decide +kernel
theorem dX2_canSpare_18 : decode cX2_canSpare 18 = .ok (.aload_n 0, 1) := by decide +kernel
theorem dX2_canSpare_19 : decode cX2_canSpare 19 = .ok (.getfield 11, 3) := by decide +kernel
theorem dX2_canSpare_22 : decode cX2_canSpare 22 = .ok (.iload_n 1, 1) := by decide +kernel
theorem dX2_canSpare_23 : decode cX2_canSpare 23 = .ok (.aaload, 1) := by decide +kernel
theorem dX2_canSpare_24 : decode cX2_canSpare 24 = .ok (.iload 4, 2) := by decide +kernel
theorem dX2_canSpare_26 : decode cX2_canSpare 26 = .ok (.invokevirtual 115, 3) := by decide +kernel
theorem dX2_canSpare_29 : decode cX2_canSpare 29 = .ok (.ifCond .eq 7, 3) := by decide +kernel
theorem dX2_canSpare_32 : decode cX2_canSpare 32 = .ok (.iconst 1, 1) := by decide +kernel
theorem dX2_canSpare_33 : decode cX2_canSpare 33 = .ok (.goto 4, 3) := by decide +kernel
theorem dX2_canSpare_36 : decode cX2_canSpare 36 = .ok (.iconst 0, 1) := by decide +kernel
theorem dX2_canSpare_37 : decode cX2_canSpare 37 = .ok (.aload_n 0, 1) := by decide +kernel
theorem dX2_canSpare_38 : decode cX2_canSpare 38 = .ok (.getfield 11, 3) := by decide +kernel
theorem dX2_canSpare_41 : decode cX2_canSpare 41 = .ok (.iload_n 2, 1) := by decide +kernel
theorem dX2_canSpare_42 : decode cX2_canSpare 42 = .ok (.aaload, 1) := by decide +kernel
theorem dX2_canSpare_43 : decode cX2_canSpare 43 = .ok (.iload 4, 2) := by decide +kernel
theorem dX2_canSpare_45 : decode cX2_canSpare 45 = .ok (.invokevirtual 115, 3) := by decide +kernel
theorem dX2_canSpare_48 : decode cX2_canSpare 48 = .ok (.ifCond .eq 7, 3) := by decide +kernel
theorem dX2_canSpare_51 : decode cX2_canSpare 51 = .ok (.iconst 1, 1) := by decide +kernel
theorem dX2_canSpare_52 : decode cX2_canSpare 52 = .ok (.goto 4, 3) := by decide +kernel
theorem dX2_canSpare_55 : decode cX2_canSpare 55 = .ok (.iconst 0, 1) := by decide +kernel
theorem dX2_canSpare_56 : decode cX2_canSpare 56 = .ok (.iadd, 1) := by decide +kernel
theorem dX2_canSpare_57 : decode cX2_canSpare 57 = .ok (.istore 5, 2) := by decide +kernel
theorem dX2_canSpare_59 : decode cX2_canSpare 59 = .ok (.aload_n 0, 1) := by decide +kernel
theorem dX2_canSpare_60 : decode cX2_canSpare 60 = .ok (.getfield 26, 3) := by decide +kernel
theorem dX2_canSpare_63 : decode cX2_canSpare 63 = .ok (.iload_n 3, 1) := by decide +kernel
theorem dX2_canSpare_64 : decode cX2_canSpare 64 = .ok (.aaload, 1) := by decide +kernel
theorem dX2_canSpare_65 : decode cX2_canSpare 65 = .ok (.getfield 186, 3) := by decide +kernel
theorem dX2_canSpare_68 : decode cX2_canSpare 68 = .ok (.ifCond .le 26, 3) := by decide +kernel
theorem dX2_canSpare_71 : decode cX2_canSpare 71 = .ok (.aload_n 0, 1) := by decide +kernel
theorem dX2_canSpare_72 : decode cX2_canSpare 72 = .ok (.iload 4, 2) := by decide +kernel
theorem dX2_canSpare_74 : decode cX2_canSpare 74 = .ok (.invokevirtual 148, 3) := by decide +kernel
theorem dX2_canSpare_77 : decode cX2_canSpare 77 = .ok (.iload 5, 2) := by decide +kernel
theorem dX2_canSpare_79 : decode cX2_canSpare 79 = .ok (.isub, 1) := by decide +kernel
theorem dX2_canSpare_80 : decode cX2_canSpare 80 = .ok (.aload_n 0, 1) := by decide +kernel
theorem dX2_canSpare_81 : decode cX2_canSpare 81 = .ok (.getfield 26, 3) := by decide +kernel
theorem dX2_canSpare_84 : decode cX2_canSpare 84 = .ok (.iload_n 3, 1) := by decide +kernel
theorem dX2_canSpare_85 : decode cX2_canSpare 85 = .ok (.aaload, 1) := by decide +kernel
theorem dX2_canSpare_86 : decode cX2_canSpare 86 = .ok (.getfield 186, 3) := by decide +kernel
theorem dX2_canSpare_89 : decode cX2_canSpare 89 = .ok (.if_icmp .ge 5, 3) := by decide +kernel
theorem dX2_canSpare_92 : decode cX2_canSpare 92 = .ok (.iconst 0, 1) := by decide +kernel
theorem dX2_canSpare_93 : decode cX2_canSpare 93 = .ok (.ireturn, 1) := by decide +kernel
theorem dX2_canSpare_94 : decode cX2_canSpare 94 = .ok (.iinc 3 1, 3) := by decide +kernel
theorem dX2_canSpare_97 : decode cX2_canSpare 97 = .ok (.goto (-95), 3) := by decide +kernel
theorem dX2_canSpare_100 : decode cX2_canSpare 100 = .ok (.iconst 1, 1) := by decide +kernel
theorem dX2_canSpare_101 : decode cX2_canSpare 101 = .ok (.ireturn, 1) := by decide +kernel
theorem dX2_ofMan_0 : decode cX2_ofMan 0 = .ok (.aload_n 0, 1) := by decide +kernel
theorem dX2_ofMan_1 : decode cX2_ofMan 1 = .ok (.getfield 11, 3) := by decide +kernel
theorem dX2_ofMan_4 : decode cX2_ofMan 4 = .ok (.iload_n 1, 1) := by decide +kernel
theorem dX2_ofMan_5 : decode cX2_ofMan 5 = .ok (.aaload, 1) := by decide +kernel
theorem dX2_ofMan_6 : decode cX2_ofMan 6 = .ok (.astore_n 3, 1) := by decide +kernel
theorem dX2_ofMan_7 : decode cX2_ofMan 7 = .ok (.iload_n 2, 1) := by decide +kernel
theorem dX2_ofMan_8 : decode cX2_ofMan 8 = .ok (.tableswitch 71 0 5 #[40, 45, 50, 55, 60, 65], 40) := by decide +kernel
theorem dX2_ofMan_48 : decode cX2_ofMan 48 = .ok (.aload_n 3, 1) := by decide +kernel
theorem dX2_ofMan_49 : decode cX2_ofMan 49 = .ok (.getfield 155, 3) := by decide +kernel
theorem dX2_ofMan_52 : decode cX2_ofMan 52 = .ok (.ireturn, 1) := by decide +kernel
theorem dX2_ofMan_53 : decode cX2_ofMan 53 = .ok (.aload_n 3, 1) := by decide +kernel
theorem dX2_ofMan_54 : decode cX2_ofMan 54 = .ok (.getfield 158, 3) := by decide +kernel
theorem dX2_ofMan_57 : decode cX2_ofMan 57 = .ok (.ireturn, 1) := by decide +kernel
theorem dX2_ofMan_58 : decode cX2_ofMan 58 = .ok (.aload_n 3, 1) := by decide +kernel
theorem dX2_ofMan_59 : decode cX2_ofMan 59 = .ok (.getfield 176, 3) := by decide +kernel
theorem dX2_ofMan_62 : decode cX2_ofMan 62 = .ok (.ireturn, 1) := by decide +kernel
theorem dX2_ofMan_63 : decode cX2_ofMan 63 = .ok (.aload_n 3, 1) := by decide +kernel
theorem dX2_ofMan_64 : decode cX2_ofMan 64 = .ok (.getfield 161, 3) := by decide +kernel
theorem dX2_ofMan_67 : decode cX2_ofMan 67 = .ok (.ireturn, 1) := by decide +kernel
theorem dX2_ofMan_68 : decode cX2_ofMan 68 = .ok (.aload_n 3, 1) := by decide +kernel
theorem dX2_ofMan_69 : decode cX2_ofMan 69 = .ok (.getfield 90, 3) := by decide +kernel
theorem dX2_ofMan_72 : decode cX2_ofMan 72 = .ok (.ireturn, 1) := by decide +kernel
theorem dX2_ofMan_73 : decode cX2_ofMan 73 = .ok (.aload_n 0, 1) := by decide +kernel
theorem dX2_ofMan_74 : decode cX2_ofMan 74 = .ok (.aload_n 3, 1) := by decide +kernel
theorem dX2_ofMan_75 : decode cX2_ofMan 75 = .ok (.invokevirtual 179, 3) := by decide +kernel
theorem dX2_ofMan_78 : decode cX2_ofMan 78 = .ok (.ireturn, 1) := by decide +kernel
theorem dX2_ofMan_79 : decode cX2_ofMan 79 = .ok (.aload_n 0, 1) := by decide +kernel
theorem dX2_ofMan_80 : decode cX2_ofMan 80 = .ok (.aload_n 3, 1) := by decide +kernel
theorem dX2_ofMan_81 : decode cX2_ofMan 81 = .ok (.iload_n 2, 1) := by decide +kernel
theorem dX2_ofMan_82 : decode cX2_ofMan 82 = .ok (.bipush 6, 2) := by decide +kernel
theorem dX2_ofMan_84 : decode cX2_ofMan 84 = .ok (.idiv, 1) := by decide +kernel
theorem dX2_ofMan_85 : decode cX2_ofMan 85 = .ok (.iload_n 2, 1) := by decide +kernel
theorem dX2_ofMan_86 : decode cX2_ofMan 86 = .ok (.bipush 6, 2) := by decide +kernel
theorem dX2_ofMan_88 : decode cX2_ofMan 88 = .ok (.irem, 1) := by decide +kernel
theorem dX2_ofMan_89 : decode cX2_ofMan 89 = .ok (.invokevirtual 189, 3) := by decide +kernel
theorem dX2_ofMan_92 : decode cX2_ofMan 92 = .ok (.ireturn, 1) := by decide +kernel
theorem dX2_ofKnack_0 : decode cX2_ofKnack 0 = .ok (.iload_n 2, 1) := by decide +kernel
theorem dX2_ofKnack_1 : decode cX2_ofKnack 1 = .ok (.lookupswitch 41 #[(1, 27), (2, 34)], 27) := by decide +kernel
theorem dX2_ofKnack_28 : decode cX2_ofKnack 28 = .ok (.aload_n 1, 1) := by decide +kernel
theorem dX2_ofKnack_29 : decode cX2_ofKnack 29 = .ok (.getfield 193, 3) := by decide +kernel
theorem dX2_ofKnack_32 : decode cX2_ofKnack 32 = .ok (.iload_n 3, 1) := by decide +kernel
theorem dX2_ofKnack_33 : decode cX2_ofKnack 33 = .ok (.iaload, 1) := by decide +kernel
theorem dX2_ofKnack_34 : decode cX2_ofKnack 34 = .ok (.ireturn, 1) := by decide +kernel
theorem dX2_ofKnack_35 : decode cX2_ofKnack 35 = .ok (.aload_n 1, 1) := by decide +kernel
theorem dX2_ofKnack_36 : decode cX2_ofKnack 36 = .ok (.getfield 121, 3) := by decide +kernel
theorem dX2_ofKnack_39 : decode cX2_ofKnack 39 = .ok (.iload_n 3, 1) := by decide +kernel
theorem dX2_ofKnack_40 : decode cX2_ofKnack 40 = .ok (.iaload, 1) := by decide +kernel
theorem dX2_ofKnack_41 : decode cX2_ofKnack 41 = .ok (.ireturn, 1) := by decide +kernel
theorem dX2_ofKnack_42 : decode cX2_ofKnack 42 = .ok (.aload_n 0, 1) := by decide +kernel
theorem dX2_ofKnack_43 : decode cX2_ofKnack 43 = .ok (.aload_n 1, 1) := by decide +kernel
theorem dX2_ofKnack_44 : decode cX2_ofKnack 44 = .ok (.iload_n 3, 1) := by decide +kernel
theorem dX2_ofKnack_45 : decode cX2_ofKnack 45 = .ok (.invokevirtual 130, 3) := by decide +kernel
theorem dX2_ofKnack_48 : decode cX2_ofKnack 48 = .ok (.ireturn, 1) := by decide +kernel
theorem dX2_ofTask_0 : decode cX2_ofTask 0 = .ok (.aload_n 0, 1) := by decide +kernel
theorem dX2_ofTask_1 : decode cX2_ofTask 1 = .ok (.getfield 26, 3) := by decide +kernel
theorem dX2_ofTask_4 : decode cX2_ofTask 4 = .ok (.iload_n 1, 1) := by decide +kernel
theorem dX2_ofTask_5 : decode cX2_ofTask 5 = .ok (.aaload, 1) := by decide +kernel
theorem dX2_ofTask_6 : decode cX2_ofTask 6 = .ok (.astore_n 3, 1) := by decide +kernel
theorem dX2_ofTask_7 : decode cX2_ofTask 7 = .ok (.iload_n 2, 1) := by decide +kernel
theorem dX2_ofTask_8 : decode cX2_ofTask 8 = .ok (.tableswitch 56 0 3 #[32, 37, 42, 51], 32) := by decide +kernel
theorem dX2_ofTask_40 : decode cX2_ofTask 40 = .ok (.aload_n 3, 1) := by decide +kernel
theorem dX2_ofTask_41 : decode cX2_ofTask 41 = .ok (.getfield 145, 3) := by decide +kernel
theorem dX2_ofTask_44 : decode cX2_ofTask 44 = .ok (.ireturn, 1) := by decide +kernel
theorem dX2_ofTask_45 : decode cX2_ofTask 45 = .ok (.aload_n 3, 1) := by decide +kernel
theorem dX2_ofTask_46 : decode cX2_ofTask 46 = .ok (.getfield 186, 3) := by decide +kernel
theorem dX2_ofTask_49 : decode cX2_ofTask 49 = .ok (.ireturn, 1) := by decide +kernel
theorem dX2_ofTask_50 : decode cX2_ofTask 50 = .ok (.aload_n 0, 1) := by decide +kernel
theorem dX2_ofTask_51 : decode cX2_ofTask 51 = .ok (.aload_n 3, 1) := by decide +kernel
theorem dX2_ofTask_52 : decode cX2_ofTask 52 = .ok (.getfield 145, 3) := by decide +kernel
theorem dX2_ofTask_55 : decode cX2_ofTask 55 = .ok (.invokevirtual 148, 3) := by decide +kernel
theorem dX2_ofTask_58 : decode cX2_ofTask 58 = .ok (.ireturn, 1) := by decide +kernel
theorem dX2_ofTask_59 : decode cX2_ofTask 59 = .ok (.aload_n 3, 1) := by decide +kernel
theorem dX2_ofTask_60 : decode cX2_ofTask 60 = .ok (.getfield 183, 3) := by decide +kernel
theorem dX2_ofTask_63 : decode cX2_ofTask 63 = .ok (.ireturn, 1) := by decide +kernel
theorem dX2_ofTask_64 : decode cX2_ofTask 64 = .ok (.aload_n 3, 1) := by decide +kernel
theorem dX2_ofTask_65 : decode cX2_ofTask 65 = .ok (.getfield 196, 3) := by decide +kernel
theorem dX2_ofTask_68 : decode cX2_ofTask 68 = .ok (.ireturn, 1) := by decide +kernel
theorem dX3_init_0 : decode cX3_init 0 = .ok (.aload_n 0, 1) := by decide +kernel
theorem dX3_init_1 : decode cX3_init 1 = .ok (.invokespecial 3, 3) := by decide +kernel
theorem dX3_init_4 : decode cX3_init 4 = .ok (.return_, 1) := by decide +kernel
theorem dX3_copyFrom_0 : decode cX3_copyFrom 0 = .ok (.aload_n 0, 1) := by decide +kernel
theorem dX3_copyFrom_1 : decode cX3_copyFrom 1 = .ok (.aload_n 1, 1) := by decide +kernel
theorem dX3_copyFrom_2 : decode cX3_copyFrom 2 = .ok (.getfield 9, 3) := by decide +kernel
theorem dX3_copyFrom_5 : decode cX3_copyFrom 5 = .ok (.putfield 9, 3) := by decide +kernel
theorem dX3_copyFrom_8 : decode cX3_copyFrom 8 = .ok (.aload_n 0, 1) := by decide +kernel
theorem dX3_copyFrom_9 : decode cX3_copyFrom 9 = .ok (.aload_n 1, 1) := by decide +kernel
theorem dX3_copyFrom_10 : decode cX3_copyFrom 10 = .ok (.getfield 15, 3) := by decide +kernel
theorem dX3_copyFrom_13 : decode cX3_copyFrom 13 = .ok (.putfield 15, 3) := by decide +kernel
theorem dX3_copyFrom_16 : decode cX3_copyFrom 16 = .ok (.aload_n 0, 1) := by decide +kernel
theorem dX3_copyFrom_17 : decode cX3_copyFrom 17 = .ok (.aload_n 1, 1) := by decide +kernel
theorem dX3_copyFrom_18 : decode cX3_copyFrom 18 = .ok (.getfield 18, 3) := by decide +kernel
theorem dX3_copyFrom_21 : decode cX3_copyFrom 21 = .ok (.putfield 18, 3) := by decide +kernel
theorem dX3_copyFrom_24 : decode cX3_copyFrom 24 = .ok (.aload_n 0, 1) := by decide +kernel
theorem dX3_copyFrom_25 : decode cX3_copyFrom 25 = .ok (.aload_n 1, 1) := by decide +kernel
theorem dX3_copyFrom_26 : decode cX3_copyFrom 26 = .ok (.getfield 21, 3) := by decide +kernel
theorem dX3_copyFrom_29 : decode cX3_copyFrom 29 = .ok (.putfield 21, 3) := by decide +kernel
theorem dX3_copyFrom_32 : decode cX3_copyFrom 32 = .ok (.return_, 1) := by decide +kernel
theorem dX3_tryWith_0 : decode cX3_tryWith 0 = .ok (.aload_n 0, 1) := by decide +kernel
theorem dX3_tryWith_1 : decode cX3_tryWith 1 = .ok (.getfield 15, 3) := by decide +kernel
theorem dX3_tryWith_4 : decode cX3_tryWith 4 = .ok (.ifCond .ne 4, 3) := by decide +kernel
theorem dX3_tryWith_7 : decode cX3_tryWith 7 = .ok (.return_, 1) := by decide +kernel
theorem dX3_tryWith_8 : decode cX3_tryWith 8 = .ok (.iload_n 1, 1) := by decide +kernel
theorem dX3_tryWith_9 : decode cX3_tryWith 9 = .ok (.aload_n 0, 1) := by decide +kernel
theorem dX3_tryWith_10 : decode cX3_tryWith 10 = .ok (.getfield 15, 3) := by decide +kernel
theorem dX3_tryWith_13 : decode cX3_tryWith 13 = .ok (.if_icmp .lt 21, 3) := by decide +kernel
theorem dX3_tryWith_16 : decode cX3_tryWith 16 = .ok (.aload_n 0, 1) := by decide +kernel
theorem dX3_tryWith_17 : decode cX3_tryWith 17 = .ok (.ldc 24, 2) := by decide +kernel
theorem dX3_tryWith_19 : decode cX3_tryWith 19 = .ok (.aload_n 0, 1) := by decide +kernel
theorem dX3_tryWith_20 : decode cX3_tryWith 20 = .ok (.getfield 18, 3) := by decide +kernel
theorem dX3_tryWith_23 : decode cX3_tryWith 23 = .ok (.iconst 1, 1) := by decide +kernel
theorem dX3_tryWith_24 : decode cX3_tryWith 24 = .ok (.iadd, 1) := by decide +kernel
theorem dX3_tryWith_25 : decode cX3_tryWith 25 = .ok (.invokestatic 25, 3) := by decide +kernel
theorem dX3_tryWith_28 : decode cX3_tryWith 28 = .ok (.putfield 18, 3) := by decide +kernel
theorem dX3_tryWith_31 : decode cX3_tryWith 31 = .ok (.goto 18, 3) := by decide +kernel
theorem dX3_tryWith_34 : decode cX3_tryWith 34 = .ok (.aload_n 0, 1) := by decide +kernel
theorem dX3_tryWith_35 : decode cX3_tryWith 35 = .ok (.ldc 24, 2) := by decide +kernel
theorem dX3_tryWith_37 : decode cX3_tryWith 37 = .ok (.aload_n 0, 1) := by decide +kernel
theorem dX3_tryWith_38 : decode cX3_tryWith 38 = .ok (.getfield 21, 3) := by decide +kernel
theorem dX3_tryWith_41 : decode cX3_tryWith 41 = .ok (.iconst 1, 1) := by decide +kernel
theorem dX3_tryWith_42 : decode cX3_tryWith 42 = .ok (.iadd, 1) := by decide +kernel
theorem dX3_tryWith_43 : decode cX3_tryWith 43 = .ok (.invokestatic 25, 3) := by decide +kernel
theorem dX3_tryWith_46 : decode cX3_tryWith 46 = .ok (.putfield 21, 3) := by decide +kernel
theorem dX3_tryWith_49 : decode cX3_tryWith 49 = .ok (.return_, 1) := by decide +kernel
theorem dX4_init_0 : decode cX4_init 0 = .ok (.aload_n 0, 1) := by decide +kernel
theorem dX4_init_1 : decode cX4_init 1 = .ok (.invokespecial 1, 3) := by decide +kernel
theorem dX4_init_4 : decode cX4_init 4 = .ok (.aload_n 0, 1) := by decide +kernel
theorem dX4_init_5 : decode cX4_init 5 = .ok (.iload_n 2, 1) := by decide +kernel
theorem dX4_init_6 : decode cX4_init 6 = .ok (.newarray .int, 2) := by decide +kernel
theorem dX4_init_8 : decode cX4_init 8 = .ok (.putfield 7, 3) := by decide +kernel
theorem dX4_init_11 : decode cX4_init 11 = .ok (.aload_n 0, 1) := by decide +kernel
theorem dX4_init_12 : decode cX4_init 12 = .ok (.iload_n 2, 1) := by decide +kernel
theorem dX4_init_13 : decode cX4_init 13 = .ok (.newarray .int, 2) := by decide +kernel
theorem dX4_init_15 : decode cX4_init 15 = .ok (.putfield 13, 3) := by decide +kernel
theorem dX4_init_18 : decode cX4_init 18 = .ok (.aload_n 1, 1) := by decide +kernel
theorem dX4_init_19 : decode cX4_init 19 = .ok (.iconst 0, 1) := by decide +kernel
theorem dX4_init_20 : decode cX4_init 20 = .ok (.aload_n 0, 1) := by decide +kernel
theorem dX4_init_21 : decode cX4_init 21 = .ok (.getfield 7, 3) := by decide +kernel
theorem dX4_init_24 : decode cX4_init 24 = .ok (.iconst 0, 1) := by decide +kernel
theorem dX4_init_25 : decode cX4_init 25 = .ok (.iload_n 2, 1) := by decide +kernel
theorem dX4_init_26 : decode cX4_init 26 = .ok (.invokestatic 16, 3) := by decide +kernel
theorem dX4_init_29 : decode cX4_init 29 = .ok (.return_, 1) := by decide +kernel
theorem dX4_value_0 : decode cX4_value 0 = .ok (.iconst 0, 1) := by decide +kernel
theorem dX4_value_1 : decode cX4_value 1 = .ok (.istore 4, 2) := by decide +kernel
theorem dX4_value_3 : decode cX4_value 3 = .ok (.iconst 0, 1) := by decide +kernel
theorem dX4_value_4 : decode cX4_value 4 = .ok (.istore 5, 2) := by decide +kernel
theorem dX4_value_6 : decode cX4_value 6 = .ok (.iload 5, 2) := by decide +kernel
theorem dX4_value_8 : decode cX4_value 8 = .ok (.aload_n 0, 1) := by decide +kernel
theorem dX4_value_9 : decode cX4_value 9 = .ok (.getfield 7, 3) := by decide +kernel
theorem dX4_value_12 : decode cX4_value 12 = .ok (.arraylength, 1) := by decide +kernel
theorem dX4_value_13 : decode cX4_value 13 = .ok (.if_icmp .ge 189, 3) := by decide +kernel
theorem dX4_value_16 : decode cX4_value 16 = .ok (.aload_n 0, 1) := by decide +kernel
theorem dX4_value_17 : decode cX4_value 17 = .ok (.getfield 7, 3) := by decide +kernel
theorem dX4_value_20 : decode cX4_value 20 = .ok (.iload 5, 2) := by decide +kernel
theorem dX4_value_22 : decode cX4_value 22 = .ok (.iaload, 1) := by decide +kernel
theorem dX4_value_23 : decode cX4_value 23 = .ok (.istore 6, 2) := by decide +kernel
theorem dX4_value_25 : decode cX4_value 25 = .ok (.iload 6, 2) := by decide +kernel
theorem dX4_value_27 : decode cX4_value 27 = .ok (.ifCond .lt 18, 3) := by decide +kernel
theorem dX4_value_30 : decode cX4_value 30 = .ok (.aload_n 0, 1) := by decide +kernel
theorem dX4_value_31 : decode cX4_value 31 = .ok (.getfield 13, 3) := by decide +kernel
theorem dX4_value_34 : decode cX4_value 34 = .ok (.iload 4, 2) := by decide +kernel
theorem dX4_value_36 : decode cX4_value 36 = .ok (.iinc 4 1, 3) := by decide +kernel
theorem dX4_value_39 : decode cX4_value 39 = .ok (.iload 6, 2) := by decide +kernel
theorem dX4_value_41 : decode cX4_value 41 = .ok (.iastore, 1) := by decide +kernel
theorem dX4_value_42 : decode cX4_value 42 = .ok (.goto 154, 3) := by decide +kernel
theorem dX4_value_45 : decode cX4_value 45 = .ok (.iload 6, 2) := by decide +kernel
theorem dX4_value_47 : decode cX4_value 47 = .ok (.bipush (-107), 2) := by decide +kernel
theorem dX4_value_49 : decode cX4_value 49 = .ok (.if_icmp .ne 17, 3) := by decide +kernel
theorem dX4_value_52 : decode cX4_value 52 = .ok (.aload_n 0, 1) := by decide +kernel
theorem dX4_value_53 : decode cX4_value 53 = .ok (.getfield 13, 3) := by decide +kernel
theorem dX4_value_56 : decode cX4_value 56 = .ok (.iload 4, 2) := by decide +kernel
theorem dX4_value_58 : decode cX4_value 58 = .ok (.iinc 4 1, 3) := by decide +kernel
theorem dX4_value_61 : decode cX4_value 61 = .ok (.iload_n 1, 1) := by decide +kernel
theorem dX4_value_62 : decode cX4_value 62 = .ok (.iastore, 1) := by decide +kernel
theorem dX4_value_63 : decode cX4_value 63 = .ok (.goto 133, 3) := by decide +kernel
theorem dX4_value_66 : decode cX4_value 66 = .ok (.iload 6, 2) := by decide +kernel
theorem dX4_value_68 : decode cX4_value 68 = .ok (.bipush (-104), 2) := by decide +kernel
theorem dX4_value_70 : decode cX4_value 70 = .ok (.if_icmp .ne 17, 3) := by decide +kernel
theorem dX4_value_73 : decode cX4_value 73 = .ok (.aload_n 0, 1) := by decide +kernel
theorem dX4_value_74 : decode cX4_value 74 = .ok (.getfield 13, 3) := by decide +kernel
theorem dX4_value_77 : decode cX4_value 77 = .ok (.iload 4, 2) := by decide +kernel
theorem dX4_value_79 : decode cX4_value 79 = .ok (.iinc 4 1, 3) := by decide +kernel
theorem dX4_value_82 : decode cX4_value 82 = .ok (.iload_n 2, 1) := by decide +kernel
theorem dX4_value_83 : decode cX4_value 83 = .ok (.iastore, 1) := by decide +kernel
theorem dX4_value_84 : decode cX4_value 84 = .ok (.goto 112, 3) := by decide +kernel
theorem dX4_value_87 : decode cX4_value 87 = .ok (.iload 6, 2) := by decide +kernel
theorem dX4_value_89 : decode cX4_value 89 = .ok (.bipush (-109), 2) := by decide +kernel
theorem dX4_value_91 : decode cX4_value 91 = .ok (.if_icmp .eq 10, 3) := by decide +kernel
theorem dX4_value_94 : decode cX4_value 94 = .ok (.iload 6, 2) := by decide +kernel
theorem dX4_value_96 : decode cX4_value 96 = .ok (.bipush (-100), 2) := by decide +kernel
theorem dX4_value_98 : decode cX4_value 98 = .ok (.if_icmp .ne 17, 3) := by decide +kernel
theorem dX4_value_101 : decode cX4_value 101 = .ok (.aload_n 0, 1) := by decide +kernel
theorem dX4_value_102 : decode cX4_value 102 = .ok (.getfield 13, 3) := by decide +kernel
theorem dX4_value_105 : decode cX4_value 105 = .ok (.iload 4, 2) := by decide +kernel
theorem dX4_value_107 : decode cX4_value 107 = .ok (.iinc 4 1, 3) := by decide +kernel
theorem dX4_value_110 : decode cX4_value 110 = .ok (.iload_n 3, 1) := by decide +kernel
theorem dX4_value_111 : decode cX4_value 111 = .ok (.iastore, 1) := by decide +kernel
theorem dX4_value_112 : decode cX4_value 112 = .ok (.goto 84, 3) := by decide +kernel
theorem dX4_value_115 : decode cX4_value 115 = .ok (.iload 6, 2) := by decide +kernel
theorem dX4_value_117 : decode cX4_value 117 = .ok (.bipush (-33), 2) := by decide +kernel
theorem dX4_value_119 : decode cX4_value 119 = .ok (.if_icmp .ne 37, 3) := by decide +kernel
theorem dX4_value_122 : decode cX4_value 122 = .ok (.iload 4, 2) := by decide +kernel
theorem dX4_value_124 : decode cX4_value 124 = .ok (.ifCond .le 32, 3) := by decide +kernel
theorem dX4_value_127 : decode cX4_value 127 = .ok (.aload_n 0, 1) := by decide +kernel
theorem dX4_value_128 : decode cX4_value 128 = .ok (.getfield 13, 3) := by decide +kernel
theorem dX4_value_131 : decode cX4_value 131 = .ok (.iload 4, 2) := by decide +kernel
theorem dX4_value_133 : decode cX4_value 133 = .ok (.iconst 1, 1) := by decide +kernel
theorem dX4_value_134 : decode cX4_value 134 = .ok (.isub, 1) := by decide +kernel
theorem dX4_value_135 : decode cX4_value 135 = .ok (.aload_n 0, 1) := by decide +kernel
theorem dX4_value_136 : decode cX4_value 136 = .ok (.getfield 13, 3) := by decide +kernel
theorem dX4_value_139 : decode cX4_value 139 = .ok (.iload 4, 2) := by decide +kernel
theorem dX4_value_141 : decode cX4_value 141 = .ok (.iconst 1, 1) := by decide +kernel
theorem dX4_value_142 : decode cX4_value 142 = .ok (.isub, 1) := by decide +kernel
theorem dX4_value_143 : decode cX4_value 143 = .ok (.iaload, 1) := by decide +kernel
theorem dX4_value_144 : decode cX4_value 144 = .ok (.ifCond .ne 7, 3) := by decide +kernel
theorem dX4_value_147 : decode cX4_value 147 = .ok (.iconst 1, 1) := by decide +kernel
theorem dX4_value_148 : decode cX4_value 148 = .ok (.goto 4, 3) := by decide +kernel
theorem dX4_value_151 : decode cX4_value 151 = .ok (.iconst 0, 1) := by decide +kernel
theorem dX4_value_152 : decode cX4_value 152 = .ok (.iastore, 1) := by decide +kernel
theorem dX4_value_153 : decode cX4_value 153 = .ok (.goto 43, 3) := by decide +kernel
theorem dX4_value_156 : decode cX4_value 156 = .ok (.iload 4, 2) := by decide +kernel
theorem dX4_value_158 : decode cX4_value 158 = .ok (.iconst 1, 1) := by decide +kernel
theorem dX4_value_159 : decode cX4_value 159 = .ok (.if_icmp .le 37, 3) := by decide +kernel
theorem dX4_value_162 : decode cX4_value 162 = .ok (.iinc 4 (-1), 3) := by decide +kernel
theorem dX4_value_165 : decode cX4_value 165 = .ok (.aload_n 0, 1) := by decide +kernel
theorem dX4_value_166 : decode cX4_value 166 = .ok (.getfield 13, 3) := by decide +kernel
theorem dX4_value_169 : decode cX4_value 169 = .ok (.iload 4, 2) := by decide +kernel
theorem dX4_value_171 : decode cX4_value 171 = .ok (.iconst 1, 1) := by decide +kernel
theorem dX4_value_172 : decode cX4_value 172 = .ok (.isub, 1) := by decide +kernel
theorem dX4_value_173 : decode cX4_value 173 = .ok (.iload 6, 2) := by decide +kernel
theorem dX4_value_175 : decode cX4_value 175 = .ok (.ineg, 1) := by decide +kernel
theorem dX4_value_176 : decode cX4_value 176 = .ok (.aload_n 0, 1) := by decide +kernel
theorem dX4_value_177 : decode cX4_value 177 = .ok (.getfield 13, 3) := by decide +kernel
theorem dX4_value_180 : decode cX4_value 180 = .ok (.iload 4, 2) := by decide +kernel
theorem dX4_value_182 : decode cX4_value 182 = .ok (.iconst 1, 1) := by decide +kernel
theorem dX4_value_183 : decode cX4_value 183 = .ok (.isub, 1) := by decide +kernel
theorem dX4_value_184 : decode cX4_value 184 = .ok (.iaload, 1) := by decide +kernel
theorem dX4_value_185 : decode cX4_value 185 = .ok (.aload_n 0, 1) := by decide +kernel
theorem dX4_value_186 : decode cX4_value 186 = .ok (.getfield 13, 3) := by decide +kernel
theorem dX4_value_189 : decode cX4_value 189 = .ok (.iload 4, 2) := by decide +kernel
theorem dX4_value_191 : decode cX4_value 191 = .ok (.iaload, 1) := by decide +kernel
theorem dX4_value_192 : decode cX4_value 192 = .ok (.invokestatic 22, 3) := by decide +kernel
theorem dX4_value_195 : decode cX4_value 195 = .ok (.iastore, 1) := by decide +kernel
theorem dX4_value_196 : decode cX4_value 196 = .ok (.iinc 5 1, 3) := by decide +kernel
theorem dX4_value_199 : decode cX4_value 199 = .ok (.goto (-193), 3) := by decide +kernel
theorem dX4_value_202 : decode cX4_value 202 = .ok (.iload 4, 2) := by decide +kernel
theorem dX4_value_204 : decode cX4_value 204 = .ok (.ifCond .le 12, 3) := by decide +kernel
theorem dX4_value_207 : decode cX4_value 207 = .ok (.aload_n 0, 1) := by decide +kernel
theorem dX4_value_208 : decode cX4_value 208 = .ok (.getfield 13, 3) := by decide +kernel
theorem dX4_value_211 : decode cX4_value 211 = .ok (.iconst 0, 1) := by decide +kernel
theorem dX4_value_212 : decode cX4_value 212 = .ok (.iaload, 1) := by decide +kernel
theorem dX4_value_213 : decode cX4_value 213 = .ok (.goto 4, 3) := by decide +kernel
theorem dX4_value_216 : decode cX4_value 216 = .ok (.iconst 0, 1) := by decide +kernel
theorem dX4_value_217 : decode cX4_value 217 = .ok (.ireturn, 1) := by decide +kernel
theorem dX4_joined_0 : decode cX4_joined 0 = .ok (.iload_n 0, 1) := by decide +kernel
theorem dX4_joined_1 : decode cX4_joined 1 = .ok (.lookupswitch 188 #[(37, 176), (38, 105), (42, 160), (43, 152), (45, 156), (47, 164), (60, 119), (61, 130), (62, 141), (124, 91)], 91) := by decide +kernel
theorem dX4_joined_92 : decode cX4_joined 92 = .ok (.iload_n 1, 1) := by decide +kernel
theorem dX4_joined_93 : decode cX4_joined 93 = .ok (.ifCond .ne 7, 3) := by decide +kernel
theorem dX4_joined_96 : decode cX4_joined 96 = .ok (.iload_n 2, 1) := by decide +kernel
theorem dX4_joined_97 : decode cX4_joined 97 = .ok (.ifCond .eq 7, 3) := by decide +kernel
theorem dX4_joined_100 : decode cX4_joined 100 = .ok (.iconst 1, 1) := by decide +kernel
theorem dX4_joined_101 : decode cX4_joined 101 = .ok (.goto 4, 3) := by decide +kernel
theorem dX4_joined_104 : decode cX4_joined 104 = .ok (.iconst 0, 1) := by decide +kernel
theorem dX4_joined_105 : decode cX4_joined 105 = .ok (.ireturn, 1) := by decide +kernel
theorem dX4_joined_106 : decode cX4_joined 106 = .ok (.iload_n 1, 1) := by decide +kernel
theorem dX4_joined_107 : decode cX4_joined 107 = .ok (.ifCond .eq 11, 3) := by decide +kernel
theorem dX4_joined_110 : decode cX4_joined 110 = .ok (.iload_n 2, 1) := by decide +kernel
theorem dX4_joined_111 : decode cX4_joined 111 = .ok (.ifCond .eq 7, 3) := by decide +kernel
theorem dX4_joined_114 : decode cX4_joined 114 = .ok (.iconst 1, 1) := by decide +kernel
theorem dX4_joined_115 : decode cX4_joined 115 = .ok (.goto 4, 3) := by decide +kernel
theorem dX4_joined_118 : decode cX4_joined 118 = .ok (.iconst 0, 1) := by decide +kernel
theorem dX4_joined_119 : decode cX4_joined 119 = .ok (.ireturn, 1) := by decide +kernel
theorem dX4_joined_120 : decode cX4_joined 120 = .ok (.iload_n 1, 1) := by decide +kernel
theorem dX4_joined_121 : decode cX4_joined 121 = .ok (.iload_n 2, 1) := by decide +kernel
theorem dX4_joined_122 : decode cX4_joined 122 = .ok (.if_icmp .ge 7, 3) := by decide +kernel
theorem dX4_joined_125 : decode cX4_joined 125 = .ok (.iconst 1, 1) := by decide +kernel
theorem dX4_joined_126 : decode cX4_joined 126 = .ok (.goto 4, 3) := by decide +kernel
theorem dX4_joined_129 : decode cX4_joined 129 = .ok (.iconst 0, 1) := by decide +kernel
theorem dX4_joined_130 : decode cX4_joined 130 = .ok (.ireturn, 1) := by decide +kernel
theorem dX4_joined_131 : decode cX4_joined 131 = .ok (.iload_n 1, 1) := by decide +kernel
theorem dX4_joined_132 : decode cX4_joined 132 = .ok (.iload_n 2, 1) := by decide +kernel
theorem dX4_joined_133 : decode cX4_joined 133 = .ok (.if_icmp .ne 7, 3) := by decide +kernel
theorem dX4_joined_136 : decode cX4_joined 136 = .ok (.iconst 1, 1) := by decide +kernel
theorem dX4_joined_137 : decode cX4_joined 137 = .ok (.goto 4, 3) := by decide +kernel
theorem dX4_joined_140 : decode cX4_joined 140 = .ok (.iconst 0, 1) := by decide +kernel
theorem dX4_joined_141 : decode cX4_joined 141 = .ok (.ireturn, 1) := by decide +kernel
theorem dX4_joined_142 : decode cX4_joined 142 = .ok (.iload_n 1, 1) := by decide +kernel
theorem dX4_joined_143 : decode cX4_joined 143 = .ok (.iload_n 2, 1) := by decide +kernel
theorem dX4_joined_144 : decode cX4_joined 144 = .ok (.if_icmp .le 7, 3) := by decide +kernel
theorem dX4_joined_147 : decode cX4_joined 147 = .ok (.iconst 1, 1) := by decide +kernel
theorem dX4_joined_148 : decode cX4_joined 148 = .ok (.goto 4, 3) := by decide +kernel
theorem dX4_joined_151 : decode cX4_joined 151 = .ok (.iconst 0, 1) := by decide +kernel
theorem dX4_joined_152 : decode cX4_joined 152 = .ok (.ireturn, 1) := by decide +kernel
theorem dX4_joined_153 : decode cX4_joined 153 = .ok (.iload_n 1, 1) := by decide +kernel
theorem dX4_joined_154 : decode cX4_joined 154 = .ok (.iload_n 2, 1) := by decide +kernel
theorem dX4_joined_155 : decode cX4_joined 155 = .ok (.iadd, 1) := by decide +kernel
theorem dX4_joined_156 : decode cX4_joined 156 = .ok (.ireturn, 1) := by decide +kernel
theorem dX4_joined_157 : decode cX4_joined 157 = .ok (.iload_n 1, 1) := by decide +kernel
theorem dX4_joined_158 : decode cX4_joined 158 = .ok (.iload_n 2, 1) := by decide +kernel
theorem dX4_joined_159 : decode cX4_joined 159 = .ok (.isub, 1) := by decide +kernel
theorem dX4_joined_160 : decode cX4_joined 160 = .ok (.ireturn, 1) := by decide +kernel
theorem dX4_joined_161 : decode cX4_joined 161 = .ok (.iload_n 1, 1) := by decide +kernel
theorem dX4_joined_162 : decode cX4_joined 162 = .ok (.iload_n 2, 1) := by decide +kernel
theorem dX4_joined_163 : decode cX4_joined 163 = .ok (.imul, 1) := by decide +kernel
theorem dX4_joined_164 : decode cX4_joined 164 = .ok (.ireturn, 1) := by decide +kernel
theorem dX4_joined_165 : decode cX4_joined 165 = .ok (.iload_n 2, 1) := by decide +kernel
theorem dX4_joined_166 : decode cX4_joined 166 = .ok (.ifCond .ne 7, 3) := by decide +kernel
theorem dX4_joined_169 : decode cX4_joined 169 = .ok (.iconst 0, 1) := by decide +kernel
theorem dX4_joined_170 : decode cX4_joined 170 = .ok (.goto 6, 3) := by decide +kernel
theorem dX4_joined_173 : decode cX4_joined 173 = .ok (.iload_n 1, 1) := by decide +kernel
theorem dX4_joined_174 : decode cX4_joined 174 = .ok (.iload_n 2, 1) := by decide +kernel
theorem dX4_joined_175 : decode cX4_joined 175 = .ok (.idiv, 1) := by decide +kernel
theorem dX4_joined_176 : decode cX4_joined 176 = .ok (.ireturn, 1) := by decide +kernel
theorem dX4_joined_177 : decode cX4_joined 177 = .ok (.iload_n 2, 1) := by decide +kernel
theorem dX4_joined_178 : decode cX4_joined 178 = .ok (.ifCond .ne 7, 3) := by decide +kernel
theorem dX4_joined_181 : decode cX4_joined 181 = .ok (.iconst 0, 1) := by decide +kernel
theorem dX4_joined_182 : decode cX4_joined 182 = .ok (.goto 6, 3) := by decide +kernel
theorem dX4_joined_185 : decode cX4_joined 185 = .ok (.iload_n 1, 1) := by decide +kernel
theorem dX4_joined_186 : decode cX4_joined 186 = .ok (.iload_n 2, 1) := by decide +kernel
theorem dX4_joined_187 : decode cX4_joined 187 = .ok (.irem, 1) := by decide +kernel
theorem dX4_joined_188 : decode cX4_joined 188 = .ok (.ireturn, 1) := by decide +kernel
theorem dX4_joined_189 : decode cX4_joined 189 = .ok (.iconst 0, 1) := by decide +kernel
theorem dX4_joined_190 : decode cX4_joined 190 = .ok (.ireturn, 1) := by decide +kernel
theorem dX5_init_0 : decode cX5_init 0 = .ok (.aload_n 0, 1) := by decide +kernel
theorem dX5_init_1 : decode cX5_init 1 = .ok (.invokespecial 3, 3) := by decide +kernel
theorem dX5_init_4 : decode cX5_init 4 = .ok (.aload_n 0, 1) := by decide +kernel
theorem dX5_init_5 : decode cX5_init 5 = .ok (.bipush 60, 2) := by decide +kernel
theorem dX5_init_7 : decode cX5_init 7 = .ok (.newarray .int, 2) := by decide +kernel
theorem dX5_init_9 : decode cX5_init 9 = .ok (.putfield 9, 3) := by decide +kernel
theorem dX5_init_12 : decode cX5_init 12 = .ok (.return_, 1) := by decide +kernel
theorem dX5_read_0 : decode cX5_read 0 = .ok (.aload_n 0, 1) := by decide +kernel
theorem dX5_read_1 : decode cX5_read 1 = .ok (.aload_n 1, 1) := by decide +kernel
theorem dX5_read_2 : decode cX5_read 2 = .ok (.putfield 15, 3) := by decide +kernel
theorem dX5_read_5 : decode cX5_read 5 = .ok (.aload_n 0, 1) := by decide +kernel
theorem dX5_read_6 : decode cX5_read 6 = .ok (.iload_n 2, 1) := by decide +kernel
theorem dX5_read_7 : decode cX5_read 7 = .ok (.aload_n 1, 1) := by decide +kernel
theorem dX5_read_8 : decode cX5_read 8 = .ok (.arraylength, 1) := by decide +kernel
theorem dX5_read_9 : decode cX5_read 9 = .ok (.invokestatic 19, 3) := by decide +kernel
theorem dX5_read_12 : decode cX5_read 12 = .ok (.putfield 25, 3) := by decide +kernel
theorem dX5_read_15 : decode cX5_read 15 = .ok (.aload_n 0, 1) := by decide +kernel
theorem dX5_read_16 : decode cX5_read 16 = .ok (.iload_n 3, 1) := by decide +kernel
theorem dX5_read_17 : decode cX5_read 17 = .ok (.putfield 29, 3) := by decide +kernel
theorem dX5_read_20 : decode cX5_read 20 = .ok (.aload_n 0, 1) := by decide +kernel
theorem dX5_read_21 : decode cX5_read 21 = .ok (.iconst 0, 1) := by decide +kernel
theorem dX5_read_22 : decode cX5_read 22 = .ok (.putfield 32, 3) := by decide +kernel
theorem dX5_read_25 : decode cX5_read 25 = .ok (.aload_n 0, 1) := by decide +kernel
theorem dX5_read_26 : decode cX5_read 26 = .ok (.iconst 0, 1) := by decide +kernel
theorem dX5_read_27 : decode cX5_read 27 = .ok (.putfield 35, 3) := by decide +kernel
theorem dX5_read_30 : decode cX5_read 30 = .ok (.aload_n 0, 1) := by decide +kernel
theorem dX5_read_31 : decode cX5_read 31 = .ok (.iconst (-1), 1) := by decide +kernel
theorem dX5_read_32 : decode cX5_read 32 = .ok (.putfield 38, 3) := by decide +kernel
theorem dX5_read_35 : decode cX5_read 35 = .ok (.aload_n 0, 1) := by decide +kernel
theorem dX5_read_36 : decode cX5_read 36 = .ok (.iconst 0, 1) := by decide +kernel
theorem dX5_read_37 : decode cX5_read 37 = .ok (.invokevirtual 41, 3) := by decide +kernel
theorem dX5_read_40 : decode cX5_read 40 = .ok (.aload_n 0, 1) := by decide +kernel
theorem dX5_read_41 : decode cX5_read 41 = .ok (.getfield 32, 3) := by decide +kernel
theorem dX5_read_44 : decode cX5_read 44 = .ok (.aload_n 0, 1) := by decide +kernel
theorem dX5_read_45 : decode cX5_read 45 = .ok (.getfield 25, 3) := by decide +kernel
theorem dX5_read_48 : decode cX5_read 48 = .ok (.if_icmp .ge 7, 3) := by decide +kernel
theorem dX5_read_51 : decode cX5_read 51 = .ok (.aload_n 0, 1) := by decide +kernel
theorem dX5_read_52 : decode cX5_read 52 = .ok (.invokevirtual 45, 3) := by decide +kernel
theorem dX5_read_55 : decode cX5_read 55 = .ok (.aload_n 0, 1) := by decide +kernel
theorem dX5_read_56 : decode cX5_read 56 = .ok (.getfield 38, 3) := by decide +kernel
theorem dX5_read_59 : decode cX5_read 59 = .ok (.ifCond .ge 21, 3) := by decide +kernel
theorem dX5_read_62 : decode cX5_read 62 = .ok (.new 48, 3) := by decide +kernel
theorem dX5_read_65 : decode cX5_read 65 = .ok (.dup, 1) := by decide +kernel
theorem dX5_read_66 : decode cX5_read 66 = .ok (.aload_n 0, 1) := by decide +kernel
theorem dX5_read_67 : decode cX5_read 67 = .ok (.getfield 9, 3) := by decide +kernel
theorem dX5_read_70 : decode cX5_read 70 = .ok (.aload_n 0, 1) := by decide +kernel
theorem dX5_read_71 : decode cX5_read 71 = .ok (.getfield 35, 3) := by decide +kernel
theorem dX5_read_74 : decode cX5_read 74 = .ok (.invokespecial 50, 3) := by decide +kernel
theorem dX5_read_77 : decode cX5_read 77 = .ok (.goto 4, 3) := by decide +kernel
theorem dX5_read_80 : decode cX5_read 80 = .ok (.aconst_null, 1) := by decide +kernel
theorem dX5_read_81 : decode cX5_read 81 = .ok (.areturn, 1) := by decide +kernel
theorem dX5_readT_0 : decode cX5_readT 0 = .ok (.aload_n 0, 1) := by decide +kernel
theorem dX5_readT_1 : decode cX5_readT 1 = .ok (.iload_n 1, 1) := by decide +kernel
theorem dX5_readT_2 : decode cX5_readT 2 = .ok (.invokevirtual 53, 3) := by decide +kernel
theorem dX5_readT_5 : decode cX5_readT 5 = .ok (.iconst 0, 1) := by decide +kernel
theorem dX5_readT_6 : decode cX5_readT 6 = .ok (.istore_n 2, 1) := by decide +kernel
theorem dX5_readT_7 : decode cX5_readT 7 = .ok (.iload_n 2, 1) := by decide +kernel
theorem dX5_readT_8 : decode cX5_readT 8 = .ok (.aload_n 0, 1) := by decide +kernel
theorem dX5_readT_9 : decode cX5_readT 9 = .ok (.getfield 25, 3) := by decide +kernel
theorem dX5_readT_12 : decode cX5_readT 12 = .ok (.if_icmp .ge 29, 3) := by decide +kernel
theorem dX5_readT_15 : decode cX5_readT 15 = .ok (.aload_n 0, 1) := by decide +kernel
theorem dX5_readT_16 : decode cX5_readT 16 = .ok (.bipush 124, 2) := by decide +kernel
theorem dX5_readT_18 : decode cX5_readT 18 = .ok (.invokevirtual 56, 3) := by decide +kernel
theorem dX5_readT_21 : decode cX5_readT 21 = .ok (.ifCond .eq 20, 3) := by decide +kernel
theorem dX5_readT_24 : decode cX5_readT 24 = .ok (.aload_n 0, 1) := by decide +kernel
theorem dX5_readT_25 : decode cX5_readT 25 = .ok (.iload_n 1, 1) := by decide +kernel
theorem dX5_readT_26 : decode cX5_readT 26 = .ok (.invokevirtual 53, 3) := by decide +kernel
theorem dX5_readT_29 : decode cX5_readT 29 = .ok (.aload_n 0, 1) := by decide +kernel
theorem dX5_readT_30 : decode cX5_readT 30 = .ok (.bipush (-124), 2) := by decide +kernel
theorem dX5_readT_32 : decode cX5_readT 32 = .ok (.invokevirtual 60, 3) := by decide +kernel
theorem dX5_readT_35 : decode cX5_readT 35 = .ok (.iinc 2 1, 3) := by decide +kernel
theorem dX5_readT_38 : decode cX5_readT 38 = .ok (.goto (-31), 3) := by decide +kernel
theorem dX5_readT_41 : decode cX5_readT 41 = .ok (.return_, 1) := by decide +kernel
theorem dX5_readA_0 : decode cX5_readA 0 = .ok (.aload_n 0, 1) := by decide +kernel
theorem dX5_readA_1 : decode cX5_readA 1 = .ok (.iload_n 1, 1) := by decide +kernel
theorem dX5_readA_2 : decode cX5_readA 2 = .ok (.invokevirtual 63, 3) := by decide +kernel
theorem dX5_readA_5 : decode cX5_readA 5 = .ok (.iconst 0, 1) := by decide +kernel
theorem dX5_readA_6 : decode cX5_readA 6 = .ok (.istore_n 2, 1) := by decide +kernel
theorem dX5_readA_7 : decode cX5_readA 7 = .ok (.iload_n 2, 1) := by decide +kernel
theorem dX5_readA_8 : decode cX5_readA 8 = .ok (.aload_n 0, 1) := by decide +kernel
theorem dX5_readA_9 : decode cX5_readA 9 = .ok (.getfield 25, 3) := by decide +kernel
theorem dX5_readA_12 : decode cX5_readA 12 = .ok (.if_icmp .ge 29, 3) := by decide +kernel
theorem dX5_readA_15 : decode cX5_readA 15 = .ok (.aload_n 0, 1) := by decide +kernel
theorem dX5_readA_16 : decode cX5_readA 16 = .ok (.bipush 38, 2) := by decide +kernel
theorem dX5_readA_18 : decode cX5_readA 18 = .ok (.invokevirtual 56, 3) := by decide +kernel
theorem dX5_readA_21 : decode cX5_readA 21 = .ok (.ifCond .eq 20, 3) := by decide +kernel
theorem dX5_readA_24 : decode cX5_readA 24 = .ok (.aload_n 0, 1) := by decide +kernel
theorem dX5_readA_25 : decode cX5_readA 25 = .ok (.iload_n 1, 1) := by decide +kernel
theorem dX5_readA_26 : decode cX5_readA 26 = .ok (.invokevirtual 63, 3) := by decide +kernel
theorem dX5_readA_29 : decode cX5_readA 29 = .ok (.aload_n 0, 1) := by decide +kernel
theorem dX5_readA_30 : decode cX5_readA 30 = .ok (.bipush (-38), 2) := by decide +kernel
theorem dX5_readA_32 : decode cX5_readA 32 = .ok (.invokevirtual 60, 3) := by decide +kernel
theorem dX5_readA_35 : decode cX5_readA 35 = .ok (.iinc 2 1, 3) := by decide +kernel
theorem dX5_readA_38 : decode cX5_readA 38 = .ok (.goto (-31), 3) := by decide +kernel
theorem dX5_readA_41 : decode cX5_readA 41 = .ok (.return_, 1) := by decide +kernel
theorem dX5_readB_0 : decode cX5_readB 0 = .ok (.aload_n 0, 1) := by decide +kernel
theorem dX5_readB_1 : decode cX5_readB 1 = .ok (.iload_n 1, 1) := by decide +kernel
theorem dX5_readB_2 : decode cX5_readB 2 = .ok (.invokevirtual 66, 3) := by decide +kernel
theorem dX5_readB_5 : decode cX5_readB 5 = .ok (.aload_n 0, 1) := by decide +kernel
theorem dX5_readB_6 : decode cX5_readB 6 = .ok (.invokevirtual 69, 3) := by decide +kernel
theorem dX5_readB_9 : decode cX5_readB 9 = .ok (.istore_n 2, 1) := by decide +kernel
theorem dX5_readB_10 : decode cX5_readB 10 = .ok (.iload_n 2, 1) := by decide +kernel
theorem dX5_readB_11 : decode cX5_readB 11 = .ok (.bipush 60, 2) := by decide +kernel
theorem dX5_readB_13 : decode cX5_readB 13 = .ok (.if_icmp .eq 15, 3) := by decide +kernel
theorem dX5_readB_16 : decode cX5_readB 16 = .ok (.iload_n 2, 1) := by decide +kernel
theorem dX5_readB_17 : decode cX5_readB 17 = .ok (.bipush 61, 2) := by decide +kernel
theorem dX5_readB_19 : decode cX5_readB 19 = .ok (.if_icmp .eq 9, 3) := by decide +kernel
theorem dX5_readB_22 : decode cX5_readB 22 = .ok (.iload_n 2, 1) := by decide +kernel
theorem dX5_readB_23 : decode cX5_readB 23 = .ok (.bipush 62, 2) := by decide +kernel
theorem dX5_readB_25 : decode cX5_readB 25 = .ok (.if_icmp .ne 24, 3) := by decide +kernel
theorem dX5_readB_28 : decode cX5_readB 28 = .ok (.aload_n 0, 1) := by decide +kernel
theorem dX5_readB_29 : decode cX5_readB 29 = .ok (.dup, 1) := by decide +kernel
theorem dX5_readB_30 : decode cX5_readB 30 = .ok (.getfield 32, 3) := by decide +kernel
theorem dX5_readB_33 : decode cX5_readB 33 = .ok (.iconst 1, 1) := by decide +kernel
theorem dX5_readB_34 : decode cX5_readB 34 = .ok (.iadd, 1) := by decide +kernel
theorem dX5_readB_35 : decode cX5_readB 35 = .ok (.putfield 32, 3) := by decide +kernel
theorem dX5_readB_38 : decode cX5_readB 38 = .ok (.aload_n 0, 1) := by decide +kernel
theorem dX5_readB_39 : decode cX5_readB 39 = .ok (.iload_n 1, 1) := by decide +kernel
theorem dX5_readB_40 : decode cX5_readB 40 = .ok (.invokevirtual 66, 3) := by decide +kernel
theorem dX5_readB_43 : decode cX5_readB 43 = .ok (.aload_n 0, 1) := by decide +kernel
theorem dX5_readB_44 : decode cX5_readB 44 = .ok (.iload_n 2, 1) := by decide +kernel
theorem dX5_readB_45 : decode cX5_readB 45 = .ok (.ineg, 1) := by decide +kernel
theorem dX5_readB_46 : decode cX5_readB 46 = .ok (.invokevirtual 60, 3) := by decide +kernel
theorem dX5_readB_49 : decode cX5_readB 49 = .ok (.return_, 1) := by decide +kernel
theorem dX5_readS_0 : decode cX5_readS 0 = .ok (.aload_n 0, 1) := by decide +kernel
theorem dX5_readS_1 : decode cX5_readS 1 = .ok (.iload_n 1, 1) := by decide +kernel
theorem dX5_readS_2 : decode cX5_readS 2 = .ok (.invokevirtual 73, 3) := by decide +kernel
theorem dX5_readS_5 : decode cX5_readS 5 = .ok (.iconst 0, 1) := by decide +kernel
theorem dX5_readS_6 : decode cX5_readS 6 = .ok (.istore_n 2, 1) := by decide +kernel
theorem dX5_readS_7 : decode cX5_readS 7 = .ok (.iload_n 2, 1) := by decide +kernel
theorem dX5_readS_8 : decode cX5_readS 8 = .ok (.aload_n 0, 1) := by decide +kernel
theorem dX5_readS_9 : decode cX5_readS 9 = .ok (.getfield 25, 3) := by decide +kernel
theorem dX5_readS_12 : decode cX5_readS 12 = .ok (.if_icmp .ge 53, 3) := by decide +kernel
theorem dX5_readS_15 : decode cX5_readS 15 = .ok (.aload_n 0, 1) := by decide +kernel
theorem dX5_readS_16 : decode cX5_readS 16 = .ok (.invokevirtual 69, 3) := by decide +kernel
theorem dX5_readS_19 : decode cX5_readS 19 = .ok (.bipush 43, 2) := by decide +kernel
theorem dX5_readS_21 : decode cX5_readS 21 = .ok (.if_icmp .eq 12, 3) := by decide +kernel
theorem dX5_readS_24 : decode cX5_readS 24 = .ok (.aload_n 0, 1) := by decide +kernel
theorem dX5_readS_25 : decode cX5_readS 25 = .ok (.invokevirtual 69, 3) := by decide +kernel
theorem dX5_readS_28 : decode cX5_readS 28 = .ok (.bipush 45, 2) := by decide +kernel
theorem dX5_readS_30 : decode cX5_readS 30 = .ok (.if_icmp .ne 35, 3) := by decide +kernel
theorem dX5_readS_33 : decode cX5_readS 33 = .ok (.aload_n 0, 1) := by decide +kernel
theorem dX5_readS_34 : decode cX5_readS 34 = .ok (.invokevirtual 69, 3) := by decide +kernel
theorem dX5_readS_37 : decode cX5_readS 37 = .ok (.istore_n 3, 1) := by decide +kernel
theorem dX5_readS_38 : decode cX5_readS 38 = .ok (.aload_n 0, 1) := by decide +kernel
theorem dX5_readS_39 : decode cX5_readS 39 = .ok (.dup, 1) := by decide +kernel
theorem dX5_readS_40 : decode cX5_readS 40 = .ok (.getfield 32, 3) := by decide +kernel
theorem dX5_readS_43 : decode cX5_readS 43 = .ok (.iconst 1, 1) := by decide +kernel
theorem dX5_readS_44 : decode cX5_readS 44 = .ok (.iadd, 1) := by decide +kernel
theorem dX5_readS_45 : decode cX5_readS 45 = .ok (.putfield 32, 3) := by decide +kernel
theorem dX5_readS_48 : decode cX5_readS 48 = .ok (.aload_n 0, 1) := by decide +kernel
theorem dX5_readS_49 : decode cX5_readS 49 = .ok (.iload_n 1, 1) := by decide +kernel
theorem dX5_readS_50 : decode cX5_readS 50 = .ok (.invokevirtual 73, 3) := by decide +kernel
theorem dX5_readS_53 : decode cX5_readS 53 = .ok (.aload_n 0, 1) := by decide +kernel
theorem dX5_readS_54 : decode cX5_readS 54 = .ok (.iload_n 3, 1) := by decide +kernel
theorem dX5_readS_55 : decode cX5_readS 55 = .ok (.ineg, 1) := by decide +kernel
theorem dX5_readS_56 : decode cX5_readS 56 = .ok (.invokevirtual 60, 3) := by decide +kernel
theorem dX5_readS_59 : decode cX5_readS 59 = .ok (.iinc 2 1, 3) := by decide +kernel
theorem dX5_readS_62 : decode cX5_readS 62 = .ok (.goto (-55), 3) := by decide +kernel
theorem dX5_readS_65 : decode cX5_readS 65 = .ok (.return_, 1) := by decide +kernel
theorem dX5_readP_0 : decode cX5_readP 0 = .ok (.aload_n 0, 1) := by decide +kernel
theorem dX5_readP_1 : decode cX5_readP 1 = .ok (.iload_n 1, 1) := by decide +kernel
theorem dX5_readP_2 : decode cX5_readP 2 = .ok (.invokevirtual 76, 3) := by decide +kernel
theorem dX5_readP_5 : decode cX5_readP 5 = .ok (.iconst 0, 1) := by decide +kernel
theorem dX5_readP_6 : decode cX5_readP 6 = .ok (.istore_n 2, 1) := by decide +kernel
theorem dX5_readP_7 : decode cX5_readP 7 = .ok (.iload_n 2, 1) := by decide +kernel
theorem dX5_readP_8 : decode cX5_readP 8 = .ok (.aload_n 0, 1) := by decide +kernel
theorem dX5_readP_9 : decode cX5_readP 9 = .ok (.getfield 25, 3) := by decide +kernel
theorem dX5_readP_12 : decode cX5_readP 12 = .ok (.if_icmp .ge 62, 3) := by decide +kernel
theorem dX5_readP_15 : decode cX5_readP 15 = .ok (.aload_n 0, 1) := by decide +kernel
theorem dX5_readP_16 : decode cX5_readP 16 = .ok (.invokevirtual 69, 3) := by decide +kernel
theorem dX5_readP_19 : decode cX5_readP 19 = .ok (.bipush 42, 2) := by decide +kernel
theorem dX5_readP_21 : decode cX5_readP 21 = .ok (.if_icmp .eq 21, 3) := by decide +kernel
theorem dX5_readP_24 : decode cX5_readP 24 = .ok (.aload_n 0, 1) := by decide +kernel
theorem dX5_readP_25 : decode cX5_readP 25 = .ok (.invokevirtual 69, 3) := by decide +kernel
theorem dX5_readP_28 : decode cX5_readP 28 = .ok (.bipush 47, 2) := by decide +kernel
theorem dX5_readP_30 : decode cX5_readP 30 = .ok (.if_icmp .eq 12, 3) := by decide +kernel
theorem dX5_readP_33 : decode cX5_readP 33 = .ok (.aload_n 0, 1) := by decide +kernel
theorem dX5_readP_34 : decode cX5_readP 34 = .ok (.invokevirtual 69, 3) := by decide +kernel
theorem dX5_readP_37 : decode cX5_readP 37 = .ok (.bipush 37, 2) := by decide +kernel
theorem dX5_readP_39 : decode cX5_readP 39 = .ok (.if_icmp .ne 35, 3) := by decide +kernel
theorem dX5_readP_42 : decode cX5_readP 42 = .ok (.aload_n 0, 1) := by decide +kernel
theorem dX5_readP_43 : decode cX5_readP 43 = .ok (.invokevirtual 69, 3) := by decide +kernel
theorem dX5_readP_46 : decode cX5_readP 46 = .ok (.istore_n 3, 1) := by decide +kernel
theorem dX5_readP_47 : decode cX5_readP 47 = .ok (.aload_n 0, 1) := by decide +kernel
theorem dX5_readP_48 : decode cX5_readP 48 = .ok (.dup, 1) := by decide +kernel
theorem dX5_readP_49 : decode cX5_readP 49 = .ok (.getfield 32, 3) := by decide +kernel
theorem dX5_readP_52 : decode cX5_readP 52 = .ok (.iconst 1, 1) := by decide +kernel
theorem dX5_readP_53 : decode cX5_readP 53 = .ok (.iadd, 1) := by decide +kernel
theorem dX5_readP_54 : decode cX5_readP 54 = .ok (.putfield 32, 3) := by decide +kernel
theorem dX5_readP_57 : decode cX5_readP 57 = .ok (.aload_n 0, 1) := by decide +kernel
theorem dX5_readP_58 : decode cX5_readP 58 = .ok (.iload_n 1, 1) := by decide +kernel
theorem dX5_readP_59 : decode cX5_readP 59 = .ok (.invokevirtual 76, 3) := by decide +kernel
theorem dX5_readP_62 : decode cX5_readP 62 = .ok (.aload_n 0, 1) := by decide +kernel
theorem dX5_readP_63 : decode cX5_readP 63 = .ok (.iload_n 3, 1) := by decide +kernel
theorem dX5_readP_64 : decode cX5_readP 64 = .ok (.ineg, 1) := by decide +kernel
theorem dX5_readP_65 : decode cX5_readP 65 = .ok (.invokevirtual 60, 3) := by decide +kernel
theorem dX5_readP_68 : decode cX5_readP 68 = .ok (.iinc 2 1, 3) := by decide +kernel
theorem dX5_readP_71 : decode cX5_readP 71 = .ok (.goto (-64), 3) := by decide +kernel
theorem dX5_readP_74 : decode cX5_readP 74 = .ok (.return_, 1) := by decide +kernel
theorem dX5_readQ_0 : decode cX5_readQ 0 = .ok (.aload_n 0, 1) := by decide +kernel
theorem dX5_readQ_1 : decode cX5_readQ 1 = .ok (.invokevirtual 69, 3) := by decide +kernel
theorem dX5_readQ_4 : decode cX5_readQ 4 = .ok (.istore_n 2, 1) := by decide +kernel
theorem dX5_readQ_5 : decode cX5_readQ 5 = .ok (.iload_n 2, 1) := by decide +kernel
theorem dX5_readQ_6 : decode cX5_readQ 6 = .ok (.invokestatic 79, 3) := by decide +kernel
theorem dX5_readQ_9 : decode cX5_readQ 9 = .ok (.ifCond .eq 10, 3) := by decide +kernel
theorem dX5_readQ_12 : decode cX5_readQ 12 = .ok (.aload_n 0, 1) := by decide +kernel
theorem dX5_readQ_13 : decode cX5_readQ 13 = .ok (.invokevirtual 82, 3) := by decide +kernel
theorem dX5_readQ_16 : decode cX5_readQ 16 = .ok (.goto 127, 3) := by decide +kernel
theorem dX5_readQ_19 : decode cX5_readQ 19 = .ok (.iload_n 2, 1) := by decide +kernel
theorem dX5_readQ_20 : decode cX5_readQ 20 = .ok (.bipush 107, 2) := by decide +kernel
theorem dX5_readQ_22 : decode cX5_readQ 22 = .ok (.if_icmp .eq 17, 3) := by decide +kernel
theorem dX5_readQ_25 : decode cX5_readQ 25 = .ok (.iload_n 2, 1) := by decide +kernel
theorem dX5_readQ_26 : decode cX5_readQ 26 = .ok (.bipush 104, 2) := by decide +kernel
theorem dX5_readQ_28 : decode cX5_readQ 28 = .ok (.if_icmp .eq 11, 3) := by decide +kernel
theorem dX5_readQ_31 : decode cX5_readQ 31 = .ok (.iload_n 2, 1) := by decide +kernel
theorem dX5_readQ_32 : decode cX5_readQ 32 = .ok (.aload_n 0, 1) := by decide +kernel
theorem dX5_readQ_33 : decode cX5_readQ 33 = .ok (.getfield 29, 3) := by decide +kernel
theorem dX5_readQ_36 : decode cX5_readQ 36 = .ok (.if_icmp .ne 22, 3) := by decide +kernel
theorem dX5_readQ_39 : decode cX5_readQ 39 = .ok (.aload_n 0, 1) := by decide +kernel
theorem dX5_readQ_40 : decode cX5_readQ 40 = .ok (.dup, 1) := by decide +kernel
theorem dX5_readQ_41 : decode cX5_readQ 41 = .ok (.getfield 32, 3) := by decide +kernel
theorem dX5_readQ_44 : decode cX5_readQ 44 = .ok (.iconst 1, 1) := by decide +kernel
theorem dX5_readQ_45 : decode cX5_readQ 45 = .ok (.iadd, 1) := by decide +kernel
theorem dX5_readQ_46 : decode cX5_readQ 46 = .ok (.putfield 32, 3) := by decide +kernel
theorem dX5_readQ_49 : decode cX5_readQ 49 = .ok (.aload_n 0, 1) := by decide +kernel
theorem dX5_readQ_50 : decode cX5_readQ 50 = .ok (.iload_n 2, 1) := by decide +kernel
theorem dX5_readQ_51 : decode cX5_readQ 51 = .ok (.ineg, 1) := by decide +kernel
theorem dX5_readQ_52 : decode cX5_readQ 52 = .ok (.invokevirtual 60, 3) := by decide +kernel
theorem dX5_readQ_55 : decode cX5_readQ 55 = .ok (.goto 88, 3) := by decide +kernel
theorem dX5_readQ_58 : decode cX5_readQ 58 = .ok (.iload_n 2, 1) := by decide +kernel
theorem dX5_readQ_59 : decode cX5_readQ 59 = .ok (.bipush 33, 2) := by decide +kernel
theorem dX5_readQ_61 : decode cX5_readQ 61 = .ok (.if_icmp .ne 34, 3) := by decide +kernel
theorem dX5_readQ_64 : decode cX5_readQ 64 = .ok (.iload_n 1, 1) := by decide +kernel
theorem dX5_readQ_65 : decode cX5_readQ 65 = .ok (.iconst 5, 1) := by decide +kernel
theorem dX5_readQ_66 : decode cX5_readQ 66 = .ok (.if_icmp .ge 29, 3) := by decide +kernel
theorem dX5_readQ_69 : decode cX5_readQ 69 = .ok (.aload_n 0, 1) := by decide +kernel
theorem dX5_readQ_70 : decode cX5_readQ 70 = .ok (.dup, 1) := by decide +kernel
theorem dX5_readQ_71 : decode cX5_readQ 71 = .ok (.getfield 32, 3) := by decide +kernel
theorem dX5_readQ_74 : decode cX5_readQ 74 = .ok (.iconst 1, 1) := by decide +kernel
theorem dX5_readQ_75 : decode cX5_readQ 75 = .ok (.iadd, 1) := by decide +kernel
theorem dX5_readQ_76 : decode cX5_readQ 76 = .ok (.putfield 32, 3) := by decide +kernel
theorem dX5_readQ_79 : decode cX5_readQ 79 = .ok (.aload_n 0, 1) := by decide +kernel
theorem dX5_readQ_80 : decode cX5_readQ 80 = .ok (.iload_n 1, 1) := by decide +kernel
theorem dX5_readQ_81 : decode cX5_readQ 81 = .ok (.iconst 1, 1) := by decide +kernel
theorem dX5_readQ_82 : decode cX5_readQ 82 = .ok (.iadd, 1) := by decide +kernel
theorem dX5_readQ_83 : decode cX5_readQ 83 = .ok (.invokevirtual 76, 3) := by decide +kernel
theorem dX5_readQ_86 : decode cX5_readQ 86 = .ok (.aload_n 0, 1) := by decide +kernel
theorem dX5_readQ_87 : decode cX5_readQ 87 = .ok (.iload_n 2, 1) := by decide +kernel
theorem dX5_readQ_88 : decode cX5_readQ 88 = .ok (.ineg, 1) := by decide +kernel
theorem dX5_readQ_89 : decode cX5_readQ 89 = .ok (.invokevirtual 60, 3) := by decide +kernel
theorem dX5_readQ_92 : decode cX5_readQ 92 = .ok (.goto 51, 3) := by decide +kernel
theorem dX5_readQ_95 : decode cX5_readQ 95 = .ok (.iload_n 2, 1) := by decide +kernel
theorem dX5_readQ_96 : decode cX5_readQ 96 = .ok (.bipush 40, 2) := by decide +kernel
theorem dX5_readQ_98 : decode cX5_readQ 98 = .ok (.if_icmp .ne 41, 3) := by decide +kernel
theorem dX5_readQ_101 : decode cX5_readQ 101 = .ok (.iload_n 1, 1) := by decide +kernel
theorem dX5_readQ_102 : decode cX5_readQ 102 = .ok (.iconst 5, 1) := by decide +kernel
theorem dX5_readQ_103 : decode cX5_readQ 103 = .ok (.if_icmp .ge 36, 3) := by decide +kernel
theorem dX5_readQ_106 : decode cX5_readQ 106 = .ok (.aload_n 0, 1) := by decide +kernel
theorem dX5_readQ_107 : decode cX5_readQ 107 = .ok (.dup, 1) := by decide +kernel
theorem dX5_readQ_108 : decode cX5_readQ 108 = .ok (.getfield 32, 3) := by decide +kernel
theorem dX5_readQ_111 : decode cX5_readQ 111 = .ok (.iconst 1, 1) := by decide +kernel
theorem dX5_readQ_112 : decode cX5_readQ 112 = .ok (.iadd, 1) := by decide +kernel
theorem dX5_readQ_113 : decode cX5_readQ 113 = .ok (.putfield 32, 3) := by decide +kernel
theorem dX5_readQ_116 : decode cX5_readQ 116 = .ok (.aload_n 0, 1) := by decide +kernel
theorem dX5_readQ_117 : decode cX5_readQ 117 = .ok (.iload_n 1, 1) := by decide +kernel
theorem dX5_readQ_118 : decode cX5_readQ 118 = .ok (.iconst 1, 1) := by decide +kernel
theorem dX5_readQ_119 : decode cX5_readQ 119 = .ok (.iadd, 1) := by decide +kernel
theorem dX5_readQ_120 : decode cX5_readQ 120 = .ok (.invokevirtual 41, 3) := by decide +kernel
theorem dX5_readQ_123 : decode cX5_readQ 123 = .ok (.aload_n 0, 1) := by decide +kernel
theorem dX5_readQ_124 : decode cX5_readQ 124 = .ok (.bipush 41, 2) := by decide +kernel
theorem dX5_readQ_126 : decode cX5_readQ 126 = .ok (.invokevirtual 56, 3) := by decide +kernel
theorem dX5_readQ_129 : decode cX5_readQ 129 = .ok (.ifCond .ne 14, 3) := by decide +kernel
theorem dX5_readQ_132 : decode cX5_readQ 132 = .ok (.aload_n 0, 1) := by decide +kernel
theorem dX5_readQ_133 : decode cX5_readQ 133 = .ok (.invokevirtual 45, 3) := by decide +kernel
theorem dX5_readQ_136 : decode cX5_readQ 136 = .ok (.goto 7, 3) := by decide +kernel
theorem dX5_readQ_139 : decode cX5_readQ 139 = .ok (.aload_n 0, 1) := by decide +kernel
theorem dX5_readQ_140 : decode cX5_readQ 140 = .ok (.invokevirtual 45, 3) := by decide +kernel
theorem dX5_readQ_143 : decode cX5_readQ 143 = .ok (.return_, 1) := by decide +kernel
theorem dX5_readNumber_0 : decode cX5_readNumber 0 = .ok (.iconst 0, 1) := by decide +kernel
theorem dX5_readNumber_1 : decode cX5_readNumber 1 = .ok (.istore_n 1, 1) := by decide +kernel
theorem dX5_readNumber_2 : decode cX5_readNumber 2 = .ok (.iconst 0, 1) := by decide +kernel
theorem dX5_readNumber_3 : decode cX5_readNumber 3 = .ok (.istore_n 2, 1) := by decide +kernel
theorem dX5_readNumber_4 : decode cX5_readNumber 4 = .ok (.iload_n 2, 1) := by decide +kernel
theorem dX5_readNumber_5 : decode cX5_readNumber 5 = .ok (.iconst 4, 1) := by decide +kernel
theorem dX5_readNumber_6 : decode cX5_readNumber 6 = .ok (.if_icmp .ge 42, 3) := by decide +kernel
theorem dX5_readNumber_9 : decode cX5_readNumber 9 = .ok (.aload_n 0, 1) := by decide +kernel
theorem dX5_readNumber_10 : decode cX5_readNumber 10 = .ok (.invokevirtual 69, 3) := by decide +kernel
theorem dX5_readNumber_13 : decode cX5_readNumber 13 = .ok (.invokestatic 79, 3) := by decide +kernel
theorem dX5_readNumber_16 : decode cX5_readNumber 16 = .ok (.ifCond .eq 32, 3) := by decide +kernel
theorem dX5_readNumber_19 : decode cX5_readNumber 19 = .ok (.bipush 10, 2) := by decide +kernel
theorem dX5_readNumber_21 : decode cX5_readNumber 21 = .ok (.iload_n 1, 1) := by decide +kernel
theorem dX5_readNumber_22 : decode cX5_readNumber 22 = .ok (.imul, 1) := by decide +kernel
theorem dX5_readNumber_23 : decode cX5_readNumber 23 = .ok (.aload_n 0, 1) := by decide +kernel
theorem dX5_readNumber_24 : decode cX5_readNumber 24 = .ok (.invokevirtual 69, 3) := by decide +kernel
theorem dX5_readNumber_27 : decode cX5_readNumber 27 = .ok (.iadd, 1) := by decide +kernel
theorem dX5_readNumber_28 : decode cX5_readNumber 28 = .ok (.bipush 48, 2) := by decide +kernel
theorem dX5_readNumber_30 : decode cX5_readNumber 30 = .ok (.isub, 1) := by decide +kernel
theorem dX5_readNumber_31 : decode cX5_readNumber 31 = .ok (.istore_n 1, 1) := by decide +kernel
theorem dX5_readNumber_32 : decode cX5_readNumber 32 = .ok (.aload_n 0, 1) := by decide +kernel
theorem dX5_readNumber_33 : decode cX5_readNumber 33 = .ok (.dup, 1) := by decide +kernel
theorem dX5_readNumber_34 : decode cX5_readNumber 34 = .ok (.getfield 32, 3) := by decide +kernel
theorem dX5_readNumber_37 : decode cX5_readNumber 37 = .ok (.iconst 1, 1) := by decide +kernel
theorem dX5_readNumber_38 : decode cX5_readNumber 38 = .ok (.iadd, 1) := by decide +kernel
theorem dX5_readNumber_39 : decode cX5_readNumber 39 = .ok (.putfield 32, 3) := by decide +kernel
theorem dX5_readNumber_42 : decode cX5_readNumber 42 = .ok (.iinc 2 1, 3) := by decide +kernel
theorem dX5_readNumber_45 : decode cX5_readNumber 45 = .ok (.goto (-41), 3) := by decide +kernel
theorem dX5_readNumber_48 : decode cX5_readNumber 48 = .ok (.aload_n 0, 1) := by decide +kernel
theorem dX5_readNumber_49 : decode cX5_readNumber 49 = .ok (.iload_n 1, 1) := by decide +kernel
theorem dX5_readNumber_50 : decode cX5_readNumber 50 = .ok (.invokevirtual 60, 3) := by decide +kernel
theorem dX5_readNumber_53 : decode cX5_readNumber 53 = .ok (.return_, 1) := by decide +kernel
theorem dX5_isDigit_0 : decode cX5_isDigit 0 = .ok (.iload_n 0, 1) := by decide +kernel
theorem dX5_isDigit_1 : decode cX5_isDigit 1 = .ok (.bipush 48, 2) := by decide +kernel
theorem dX5_isDigit_3 : decode cX5_isDigit 3 = .ok (.if_icmp .lt 13, 3) := by decide +kernel
theorem dX5_isDigit_6 : decode cX5_isDigit 6 = .ok (.iload_n 0, 1) := by decide +kernel
theorem dX5_isDigit_7 : decode cX5_isDigit 7 = .ok (.bipush 57, 2) := by decide +kernel
theorem dX5_isDigit_9 : decode cX5_isDigit 9 = .ok (.if_icmp .gt 7, 3) := by decide +kernel
theorem dX5_isDigit_12 : decode cX5_isDigit 12 = .ok (.iconst 1, 1) := by decide +kernel
theorem dX5_isDigit_13 : decode cX5_isDigit 13 = .ok (.goto 4, 3) := by decide +kernel
theorem dX5_isDigit_16 : decode cX5_isDigit 16 = .ok (.iconst 0, 1) := by decide +kernel
theorem dX5_isDigit_17 : decode cX5_isDigit 17 = .ok (.ireturn, 1) := by decide +kernel
theorem dX5_ahead_0 : decode cX5_ahead 0 = .ok (.aload_n 0, 1) := by decide +kernel
theorem dX5_ahead_1 : decode cX5_ahead 1 = .ok (.getfield 38, 3) := by decide +kernel
theorem dX5_ahead_4 : decode cX5_ahead 4 = .ok (.ifCond .ge 30, 3) := by decide +kernel
theorem dX5_ahead_7 : decode cX5_ahead 7 = .ok (.aload_n 0, 1) := by decide +kernel
theorem dX5_ahead_8 : decode cX5_ahead 8 = .ok (.getfield 32, 3) := by decide +kernel
theorem dX5_ahead_11 : decode cX5_ahead 11 = .ok (.aload_n 0, 1) := by decide +kernel
theorem dX5_ahead_12 : decode cX5_ahead 12 = .ok (.getfield 25, 3) := by decide +kernel
theorem dX5_ahead_15 : decode cX5_ahead 15 = .ok (.if_icmp .ge 19, 3) := by decide +kernel
theorem dX5_ahead_18 : decode cX5_ahead 18 = .ok (.aload_n 0, 1) := by decide +kernel
theorem dX5_ahead_19 : decode cX5_ahead 19 = .ok (.getfield 15, 3) := by decide +kernel
theorem dX5_ahead_22 : decode cX5_ahead 22 = .ok (.aload_n 0, 1) := by decide +kernel
theorem dX5_ahead_23 : decode cX5_ahead 23 = .ok (.getfield 32, 3) := by decide +kernel
theorem dX5_ahead_26 : decode cX5_ahead 26 = .ok (.baload, 1) := by decide +kernel
theorem dX5_ahead_27 : decode cX5_ahead 27 = .ok (.sipush 255, 3) := by decide +kernel
theorem dX5_ahead_30 : decode cX5_ahead 30 = .ok (.iand, 1) := by decide +kernel
theorem dX5_ahead_31 : decode cX5_ahead 31 = .ok (.goto 4, 3) := by decide +kernel
theorem dX5_ahead_34 : decode cX5_ahead 34 = .ok (.iconst (-1), 1) := by decide +kernel
theorem dX5_ahead_35 : decode cX5_ahead 35 = .ok (.ireturn, 1) := by decide +kernel
theorem dX5_takes_0 : decode cX5_takes 0 = .ok (.aload_n 0, 1) := by decide +kernel
theorem dX5_takes_1 : decode cX5_takes 1 = .ok (.invokevirtual 69, 3) := by decide +kernel
theorem dX5_takes_4 : decode cX5_takes 4 = .ok (.iload_n 1, 1) := by decide +kernel
theorem dX5_takes_5 : decode cX5_takes 5 = .ok (.if_icmp .eq 5, 3) := by decide +kernel
theorem dX5_takes_8 : decode cX5_takes 8 = .ok (.iconst 0, 1) := by decide +kernel
theorem dX5_takes_9 : decode cX5_takes 9 = .ok (.ireturn, 1) := by decide +kernel
theorem dX5_takes_10 : decode cX5_takes 10 = .ok (.aload_n 0, 1) := by decide +kernel
theorem dX5_takes_11 : decode cX5_takes 11 = .ok (.dup, 1) := by decide +kernel
theorem dX5_takes_12 : decode cX5_takes 12 = .ok (.getfield 32, 3) := by decide +kernel
theorem dX5_takes_15 : decode cX5_takes 15 = .ok (.iconst 1, 1) := by decide +kernel
theorem dX5_takes_16 : decode cX5_takes 16 = .ok (.iadd, 1) := by decide +kernel
theorem dX5_takes_17 : decode cX5_takes 17 = .ok (.putfield 32, 3) := by decide +kernel
theorem dX5_takes_20 : decode cX5_takes 20 = .ok (.iconst 1, 1) := by decide +kernel
theorem dX5_takes_21 : decode cX5_takes 21 = .ok (.ireturn, 1) := by decide +kernel
theorem dX5_step_0 : decode cX5_step 0 = .ok (.aload_n 0, 1) := by decide +kernel
theorem dX5_step_1 : decode cX5_step 1 = .ok (.getfield 38, 3) := by decide +kernel
theorem dX5_step_4 : decode cX5_step 4 = .ok (.ifCond .ge 35, 3) := by decide +kernel
theorem dX5_step_7 : decode cX5_step 7 = .ok (.aload_n 0, 1) := by decide +kernel
theorem dX5_step_8 : decode cX5_step 8 = .ok (.getfield 35, 3) := by decide +kernel
theorem dX5_step_11 : decode cX5_step 11 = .ok (.aload_n 0, 1) := by decide +kernel
theorem dX5_step_12 : decode cX5_step 12 = .ok (.getfield 9, 3) := by decide +kernel
theorem dX5_step_15 : decode cX5_step 15 = .ok (.arraylength, 1) := by decide +kernel
theorem dX5_step_16 : decode cX5_step 16 = .ok (.if_icmp .ge 23, 3) := by decide +kernel
theorem dX5_step_19 : decode cX5_step 19 = .ok (.aload_n 0, 1) := by decide +kernel
theorem dX5_step_20 : decode cX5_step 20 = .ok (.getfield 9, 3) := by decide +kernel
theorem dX5_step_23 : decode cX5_step 23 = .ok (.aload_n 0, 1) := by decide +kernel
theorem dX5_step_24 : decode cX5_step 24 = .ok (.getfield 35, 3) := by decide +kernel
theorem dX5_step_27 : decode cX5_step 27 = .ok (.iload_n 1, 1) := by decide +kernel
theorem dX5_step_28 : decode cX5_step 28 = .ok (.iastore, 1) := by decide +kernel
theorem dX5_step_29 : decode cX5_step 29 = .ok (.aload_n 0, 1) := by decide +kernel
theorem dX5_step_30 : decode cX5_step 30 = .ok (.dup, 1) := by decide +kernel
theorem dX5_step_31 : decode cX5_step 31 = .ok (.getfield 35, 3) := by decide +kernel
theorem dX5_step_34 : decode cX5_step 34 = .ok (.iconst 1, 1) := by decide +kernel
theorem dX5_step_35 : decode cX5_step 35 = .ok (.iadd, 1) := by decide +kernel
theorem dX5_step_36 : decode cX5_step 36 = .ok (.putfield 35, 3) := by decide +kernel
theorem dX5_step_39 : decode cX5_step 39 = .ok (.return_, 1) := by decide +kernel
theorem dX5_fail_0 : decode cX5_fail 0 = .ok (.aload_n 0, 1) := by decide +kernel
theorem dX5_fail_1 : decode cX5_fail 1 = .ok (.getfield 38, 3) := by decide +kernel
theorem dX5_fail_4 : decode cX5_fail 4 = .ok (.ifCond .ge 11, 3) := by decide +kernel
theorem dX5_fail_7 : decode cX5_fail 7 = .ok (.aload_n 0, 1) := by decide +kernel
theorem dX5_fail_8 : decode cX5_fail 8 = .ok (.aload_n 0, 1) := by decide +kernel
theorem dX5_fail_9 : decode cX5_fail 9 = .ok (.getfield 32, 3) := by decide +kernel
theorem dX5_fail_12 : decode cX5_fail 12 = .ok (.putfield 38, 3) := by decide +kernel
theorem dX5_fail_15 : decode cX5_fail 15 = .ok (.return_, 1) := by decide +kernel
theorem dX6_init_0 : decode cX6_init 0 = .ok (.aload_n 0, 1) := by decide +kernel
theorem dX6_init_1 : decode cX6_init 1 = .ok (.invokespecial 3, 3) := by decide +kernel
theorem dX6_init_4 : decode cX6_init 4 = .ok (.aload_n 0, 1) := by decide +kernel
theorem dX6_init_5 : decode cX6_init 5 = .ok (.bipush 30, 2) := by decide +kernel
theorem dX6_init_7 : decode cX6_init 7 = .ok (.newarray .int, 2) := by decide +kernel
theorem dX6_init_9 : decode cX6_init 9 = .ok (.putfield 9, 3) := by decide +kernel
theorem dX6_init_12 : decode cX6_init 12 = .ok (.return_, 1) := by decide +kernel
theorem dX6_speak_0 : decode cX6_speak 0 = .ok (.aload_n 0, 1) := by decide +kernel
theorem dX6_speak_1 : decode cX6_speak 1 = .ok (.iload_n 1, 1) := by decide +kernel
theorem dX6_speak_2 : decode cX6_speak 2 = .ok (.putfield 15, 3) := by decide +kernel
theorem dX6_speak_5 : decode cX6_speak 5 = .ok (.aload_n 0, 1) := by decide +kernel
theorem dX6_speak_6 : decode cX6_speak 6 = .ok (.iload_n 2, 1) := by decide +kernel
theorem dX6_speak_7 : decode cX6_speak 7 = .ok (.putfield 19, 3) := by decide +kernel
theorem dX6_speak_10 : decode cX6_speak 10 = .ok (.aload_n 0, 1) := by decide +kernel
theorem dX6_speak_11 : decode cX6_speak 11 = .ok (.iload_n 3, 1) := by decide +kernel
theorem dX6_speak_12 : decode cX6_speak 12 = .ok (.putfield 22, 3) := by decide +kernel
theorem dX6_speak_15 : decode cX6_speak 15 = .ok (.aload_n 0, 1) := by decide +kernel
theorem dX6_speak_16 : decode cX6_speak 16 = .ok (.iconst 0, 1) := by decide +kernel
theorem dX6_speak_17 : decode cX6_speak 17 = .ok (.putfield 25, 3) := by decide +kernel
theorem dX6_speak_20 : decode cX6_speak 20 = .ok (.aload_n 0, 1) := by decide +kernel
theorem dX6_speak_21 : decode cX6_speak 21 = .ok (.iconst 0, 1) := by decide +kernel
theorem dX6_speak_22 : decode cX6_speak 22 = .ok (.putfield 28, 3) := by decide +kernel
theorem dX6_speak_25 : decode cX6_speak 25 = .ok (.aload_n 0, 1) := by decide +kernel
theorem dX6_speak_26 : decode cX6_speak 26 = .ok (.aload_n 0, 1) := by decide +kernel
theorem dX6_speak_27 : decode cX6_speak 27 = .ok (.getfield 15, 3) := by decide +kernel
theorem dX6_speak_30 : decode cX6_speak 30 = .ok (.iload 4, 2) := by decide +kernel
theorem dX6_speak_32 : decode cX6_speak 32 = .ok (.iload 5, 2) := by decide +kernel
theorem dX6_speak_34 : decode cX6_speak 34 = .ok (.iconst 0, 1) := by decide +kernel
theorem dX6_speak_35 : decode cX6_speak 35 = .ok (.invokevirtual 32, 3) := by decide +kernel
theorem dX6_speak_38 : decode cX6_speak 38 = .ok (.ireturn, 1) := by decide +kernel
theorem dX6_own_0 : decode cX6_own 0 = .ok (.aload_n 0, 1) := by decide +kernel
theorem dX6_own_1 : decode cX6_own 1 = .ok (.aload_n 0, 1) := by decide +kernel
theorem dX6_own_2 : decode cX6_own 2 = .ok (.getfield 15, 3) := by decide +kernel
theorem dX6_own_5 : decode cX6_own 5 = .ok (.iload_n 1, 1) := by decide +kernel
theorem dX6_own_6 : decode cX6_own 6 = .ok (.iload_n 2, 1) := by decide +kernel
theorem dX6_own_7 : decode cX6_own 7 = .ok (.iload_n 3, 1) := by decide +kernel
theorem dX6_own_8 : decode cX6_own 8 = .ok (.invokevirtual 32, 3) := by decide +kernel
theorem dX6_own_11 : decode cX6_own 11 = .ok (.ireturn, 1) := by decide +kernel
theorem dX6_above_0 : decode cX6_above 0 = .ok (.aload_n 0, 1) := by decide +kernel
theorem dX6_above_1 : decode cX6_above 1 = .ok (.getstatic 36, 3) := by decide +kernel
theorem dX6_above_4 : decode cX6_above 4 = .ok (.iload_n 1, 1) := by decide +kernel
theorem dX6_above_5 : decode cX6_above 5 = .ok (.bipush 10, 2) := by decide +kernel
theorem dX6_above_7 : decode cX6_above 7 = .ok (.idiv, 1) := by decide +kernel
theorem dX6_above_8 : decode cX6_above 8 = .ok (.iconst 1, 1) := by decide +kernel
theorem dX6_above_9 : decode cX6_above 9 = .ok (.isub, 1) := by decide +kernel
theorem dX6_above_10 : decode cX6_above 10 = .ok (.iaload, 1) := by decide +kernel
theorem dX6_above_11 : decode cX6_above 11 = .ok (.iload_n 2, 1) := by decide +kernel
theorem dX6_above_12 : decode cX6_above 12 = .ok (.iload_n 3, 1) := by decide +kernel
theorem dX6_above_13 : decode cX6_above 13 = .ok (.iload 4, 2) := by decide +kernel
theorem dX6_above_15 : decode cX6_above 15 = .ok (.invokevirtual 32, 3) := by decide +kernel
theorem dX6_above_18 : decode cX6_above 18 = .ok (.ireturn, 1) := by decide +kernel
theorem dX6_speakFrom_0 : decode cX6_speakFrom 0 = .ok (.iload_n 1, 1) := by decide +kernel
theorem dX6_speakFrom_1 : decode cX6_speakFrom 1 = .ok (.istore 5, 2) := by decide +kernel
theorem dX6_speakFrom_3 : decode cX6_speakFrom 3 = .ok (.iconst 0, 1) := by decide +kernel
theorem dX6_speakFrom_4 : decode cX6_speakFrom 4 = .ok (.istore 6, 2) := by decide +kernel
theorem dX6_speakFrom_6 : decode cX6_speakFrom 6 = .ok (.iload 6, 2) := by decide +kernel
theorem dX6_speakFrom_8 : decode cX6_speakFrom 8 = .ok (.bipush 7, 2) := by decide +kernel
theorem dX6_speakFrom_10 : decode cX6_speakFrom 10 = .ok (.if_icmp .ge 51, 3) := by decide +kernel
theorem dX6_speakFrom_13 : decode cX6_speakFrom 13 = .ok (.iload 5, 2) := by decide +kernel
theorem dX6_speakFrom_15 : decode cX6_speakFrom 15 = .ok (.ifCond .lt 46, 3) := by decide +kernel
theorem dX6_speakFrom_18 : decode cX6_speakFrom 18 = .ok (.getstatic 39, 3) := by decide +kernel
theorem dX6_speakFrom_21 : decode cX6_speakFrom 21 = .ok (.iconst 4, 1) := by decide +kernel
theorem dX6_speakFrom_22 : decode cX6_speakFrom 22 = .ok (.iload 5, 2) := by decide +kernel
theorem dX6_speakFrom_24 : decode cX6_speakFrom 24 = .ok (.imul, 1) := by decide +kernel
theorem dX6_speakFrom_25 : decode cX6_speakFrom 25 = .ok (.iload_n 2, 1) := by decide +kernel
theorem dX6_speakFrom_26 : decode cX6_speakFrom 26 = .ok (.iadd, 1) := by decide +kernel
theorem dX6_speakFrom_27 : decode cX6_speakFrom 27 = .ok (.iaload, 1) := by decide +kernel
theorem dX6_speakFrom_28 : decode cX6_speakFrom 28 = .ok (.istore 7, 2) := by decide +kernel
theorem dX6_speakFrom_30 : decode cX6_speakFrom 30 = .ok (.iload 7, 2) := by decide +kernel
theorem dX6_speakFrom_32 : decode cX6_speakFrom 32 = .ok (.ifCond .eq 15, 3) := by decide +kernel
theorem dX6_speakFrom_35 : decode cX6_speakFrom 35 = .ok (.aload_n 0, 1) := by decide +kernel
theorem dX6_speakFrom_36 : decode cX6_speakFrom 36 = .ok (.iload 7, 2) := by decide +kernel
theorem dX6_speakFrom_38 : decode cX6_speakFrom 38 = .ok (.iload_n 3, 1) := by decide +kernel
theorem dX6_speakFrom_39 : decode cX6_speakFrom 39 = .ok (.iload 4, 2) := by decide +kernel
theorem dX6_speakFrom_41 : decode cX6_speakFrom 41 = .ok (.iconst 1, 1) := by decide +kernel
theorem dX6_speakFrom_42 : decode cX6_speakFrom 42 = .ok (.iadd, 1) := by decide +kernel
theorem dX6_speakFrom_43 : decode cX6_speakFrom 43 = .ok (.invokevirtual 42, 3) := by decide +kernel
theorem dX6_speakFrom_46 : decode cX6_speakFrom 46 = .ok (.ireturn, 1) := by decide +kernel
theorem dX6_speakFrom_47 : decode cX6_speakFrom 47 = .ok (.getstatic 36, 3) := by decide +kernel
theorem dX6_speakFrom_50 : decode cX6_speakFrom 50 = .ok (.iload 5, 2) := by decide +kernel
theorem dX6_speakFrom_52 : decode cX6_speakFrom 52 = .ok (.iaload, 1) := by decide +kernel
theorem dX6_speakFrom_53 : decode cX6_speakFrom 53 = .ok (.istore 5, 2) := by decide +kernel
theorem dX6_speakFrom_55 : decode cX6_speakFrom 55 = .ok (.iinc 6 1, 3) := by decide +kernel
theorem dX6_speakFrom_58 : decode cX6_speakFrom 58 = .ok (.goto (-52), 3) := by decide +kernel
theorem dX6_speakFrom_61 : decode cX6_speakFrom 61 = .ok (.iconst 0, 1) := by decide +kernel
theorem dX6_speakFrom_62 : decode cX6_speakFrom 62 = .ok (.ireturn, 1) := by decide +kernel
theorem dX6_run_0 : decode cX6_run 0 = .ok (.aload_n 0, 1) := by decide +kernel
theorem dX6_run_1 : decode cX6_run 1 = .ok (.getfield 28, 3) := by decide +kernel
theorem dX6_run_4 : decode cX6_run 4 = .ok (.ifCond .ne 9, 3) := by decide +kernel
theorem dX6_run_7 : decode cX6_run 7 = .ok (.iload_n 3, 1) := by decide +kernel
theorem dX6_run_8 : decode cX6_run 8 = .ok (.bipush 30, 2) := by decide +kernel
theorem dX6_run_10 : decode cX6_run 10 = .ok (.if_icmp .le 5, 3) := by decide +kernel
theorem dX6_run_13 : decode cX6_run 13 = .ok (.iconst 0, 1) := by decide +kernel
theorem dX6_run_14 : decode cX6_run 14 = .ok (.ireturn, 1) := by decide +kernel
theorem dX6_run_15 : decode cX6_run 15 = .ok (.aload_n 0, 1) := by decide +kernel
theorem dX6_run_16 : decode cX6_run 16 = .ok (.iload_n 1, 1) := by decide +kernel
theorem dX6_run_17 : decode cX6_run 17 = .ok (.invokevirtual 46, 3) := by decide +kernel
theorem dX6_run_20 : decode cX6_run 20 = .ok (.iload_n 1, 1) := by decide +kernel
theorem dX6_run_21 : decode cX6_run 21 = .ok (.lookupswitch 263 #[(10, 115), (11, 122), (12, 132), (13, 145), (20, 160), (21, 172), (30, 189), (40, 200), (50, 211), (51, 222), (60, 236), (70, 247), (71, 249)], 115) := by decide +kernel
theorem dX6_run_136 : decode cX6_run 136 = .ok (.iload_n 2, 1) := by decide +kernel
theorem dX6_run_137 : decode cX6_run 137 = .ok (.aload_n 0, 1) := by decide +kernel
theorem dX6_run_138 : decode cX6_run 138 = .ok (.getfield 19, 3) := by decide +kernel
theorem dX6_run_141 : decode cX6_run 141 = .ok (.iadd, 1) := by decide +kernel
theorem dX6_run_142 : decode cX6_run 142 = .ok (.ireturn, 1) := by decide +kernel
theorem dX6_run_143 : decode cX6_run 143 = .ok (.aload_n 0, 1) := by decide +kernel
theorem dX6_run_144 : decode cX6_run 144 = .ok (.iconst 0, 1) := by decide +kernel
theorem dX6_run_145 : decode cX6_run 145 = .ok (.iload_n 2, 1) := by decide +kernel
theorem dX6_run_146 : decode cX6_run 146 = .ok (.iload_n 3, 1) := by decide +kernel
theorem dX6_run_147 : decode cX6_run 147 = .ok (.invokevirtual 50, 3) := by decide +kernel
theorem dX6_run_150 : decode cX6_run 150 = .ok (.iconst 2, 1) := by decide +kernel
theorem dX6_run_151 : decode cX6_run 151 = .ok (.imul, 1) := by decide +kernel
theorem dX6_run_152 : decode cX6_run 152 = .ok (.ireturn, 1) := by decide +kernel
theorem dX6_run_153 : decode cX6_run 153 = .ok (.aload_n 0, 1) := by decide +kernel
theorem dX6_run_154 : decode cX6_run 154 = .ok (.iconst 1, 1) := by decide +kernel
theorem dX6_run_155 : decode cX6_run 155 = .ok (.iload_n 2, 1) := by decide +kernel
theorem dX6_run_156 : decode cX6_run 156 = .ok (.iload_n 3, 1) := by decide +kernel
theorem dX6_run_157 : decode cX6_run 157 = .ok (.invokevirtual 50, 3) := by decide +kernel
theorem dX6_run_160 : decode cX6_run 160 = .ok (.aload_n 0, 1) := by decide +kernel
theorem dX6_run_161 : decode cX6_run 161 = .ok (.getfield 22, 3) := by decide +kernel
theorem dX6_run_164 : decode cX6_run 164 = .ok (.isub, 1) := by decide +kernel
theorem dX6_run_165 : decode cX6_run 165 = .ok (.ireturn, 1) := by decide +kernel
theorem dX6_run_166 : decode cX6_run 166 = .ok (.aload_n 0, 1) := by decide +kernel
theorem dX6_run_167 : decode cX6_run 167 = .ok (.iload_n 2, 1) := by decide +kernel
theorem dX6_run_168 : decode cX6_run 168 = .ok (.aload_n 0, 1) := by decide +kernel
theorem dX6_run_169 : decode cX6_run 169 = .ok (.getfield 22, 3) := by decide +kernel
theorem dX6_run_172 : decode cX6_run 172 = .ok (.aload_n 0, 1) := by decide +kernel
theorem dX6_run_173 : decode cX6_run 173 = .ok (.getfield 19, 3) := by decide +kernel
theorem dX6_run_176 : decode cX6_run 176 = .ok (.isub, 1) := by decide +kernel
theorem dX6_run_177 : decode cX6_run 177 = .ok (.invokevirtual 53, 3) := by decide +kernel
theorem dX6_run_180 : decode cX6_run 180 = .ok (.ireturn, 1) := by decide +kernel
theorem dX6_run_181 : decode cX6_run 181 = .ok (.aload_n 0, 1) := by decide +kernel
theorem dX6_run_182 : decode cX6_run 182 = .ok (.iload_n 1, 1) := by decide +kernel
theorem dX6_run_183 : decode cX6_run 183 = .ok (.iconst 0, 1) := by decide +kernel
theorem dX6_run_184 : decode cX6_run 184 = .ok (.iload_n 2, 1) := by decide +kernel
theorem dX6_run_185 : decode cX6_run 185 = .ok (.iload_n 3, 1) := by decide +kernel
theorem dX6_run_186 : decode cX6_run 186 = .ok (.invokevirtual 57, 3) := by decide +kernel
theorem dX6_run_189 : decode cX6_run 189 = .ok (.bipush 6, 2) := by decide +kernel
theorem dX6_run_191 : decode cX6_run 191 = .ok (.isub, 1) := by decide +kernel
theorem dX6_run_192 : decode cX6_run 192 = .ok (.ireturn, 1) := by decide +kernel
theorem dX6_run_193 : decode cX6_run 193 = .ok (.aload_n 0, 1) := by decide +kernel
theorem dX6_run_194 : decode cX6_run 194 = .ok (.iload_n 1, 1) := by decide +kernel
theorem dX6_run_195 : decode cX6_run 195 = .ok (.iconst 3, 1) := by decide +kernel
theorem dX6_run_196 : decode cX6_run 196 = .ok (.iload_n 2, 1) := by decide +kernel
theorem dX6_run_197 : decode cX6_run 197 = .ok (.iload_n 3, 1) := by decide +kernel
theorem dX6_run_198 : decode cX6_run 198 = .ok (.invokevirtual 57, 3) := by decide +kernel
theorem dX6_run_201 : decode cX6_run 201 = .ok (.aload_n 0, 1) := by decide +kernel
theorem dX6_run_202 : decode cX6_run 202 = .ok (.iconst 1, 1) := by decide +kernel
theorem dX6_run_203 : decode cX6_run 203 = .ok (.iconst 1, 1) := by decide +kernel
theorem dX6_run_204 : decode cX6_run 204 = .ok (.iload_n 3, 1) := by decide +kernel
theorem dX6_run_205 : decode cX6_run 205 = .ok (.invokevirtual 50, 3) := by decide +kernel
theorem dX6_run_208 : decode cX6_run 208 = .ok (.iadd, 1) := by decide +kernel
theorem dX6_run_209 : decode cX6_run 209 = .ok (.ireturn, 1) := by decide +kernel
theorem dX6_run_210 : decode cX6_run 210 = .ok (.iconst 0, 1) := by decide +kernel
theorem dX6_run_211 : decode cX6_run 211 = .ok (.aload_n 0, 1) := by decide +kernel
theorem dX6_run_212 : decode cX6_run 212 = .ok (.iload_n 1, 1) := by decide +kernel
theorem dX6_run_213 : decode cX6_run 213 = .ok (.iconst 1, 1) := by decide +kernel
theorem dX6_run_214 : decode cX6_run 214 = .ok (.iload_n 2, 1) := by decide +kernel
theorem dX6_run_215 : decode cX6_run 215 = .ok (.iload_n 3, 1) := by decide +kernel
theorem dX6_run_216 : decode cX6_run 216 = .ok (.invokevirtual 57, 3) := by decide +kernel
theorem dX6_run_219 : decode cX6_run 219 = .ok (.isub, 1) := by decide +kernel
theorem dX6_run_220 : decode cX6_run 220 = .ok (.ireturn, 1) := by decide +kernel
theorem dX6_run_221 : decode cX6_run 221 = .ok (.aload_n 0, 1) := by decide +kernel
theorem dX6_run_222 : decode cX6_run 222 = .ok (.iload_n 1, 1) := by decide +kernel
theorem dX6_run_223 : decode cX6_run 223 = .ok (.iconst 2, 1) := by decide +kernel
theorem dX6_run_224 : decode cX6_run 224 = .ok (.iload_n 2, 1) := by decide +kernel
theorem dX6_run_225 : decode cX6_run 225 = .ok (.iconst 2, 1) := by decide +kernel
theorem dX6_run_226 : decode cX6_run 226 = .ok (.idiv, 1) := by decide +kernel
theorem dX6_run_227 : decode cX6_run 227 = .ok (.iload_n 3, 1) := by decide +kernel
theorem dX6_run_228 : decode cX6_run 228 = .ok (.invokevirtual 57, 3) := by decide +kernel
theorem dX6_run_231 : decode cX6_run 231 = .ok (.ireturn, 1) := by decide +kernel
theorem dX6_run_232 : decode cX6_run 232 = .ok (.aload_n 0, 1) := by decide +kernel
theorem dX6_run_233 : decode cX6_run 233 = .ok (.iload_n 1, 1) := by decide +kernel
theorem dX6_run_234 : decode cX6_run 234 = .ok (.iconst 0, 1) := by decide +kernel
theorem dX6_run_235 : decode cX6_run 235 = .ok (.iload_n 2, 1) := by decide +kernel
theorem dX6_run_236 : decode cX6_run 236 = .ok (.iload_n 3, 1) := by decide +kernel
theorem dX6_run_237 : decode cX6_run 237 = .ok (.invokevirtual 57, 3) := by decide +kernel
theorem dX6_run_240 : decode cX6_run 240 = .ok (.iconst 3, 1) := by decide +kernel
theorem dX6_run_241 : decode cX6_run 241 = .ok (.imul, 1) := by decide +kernel
theorem dX6_run_242 : decode cX6_run 242 = .ok (.ireturn, 1) := by decide +kernel
theorem dX6_run_243 : decode cX6_run 243 = .ok (.aload_n 0, 1) := by decide +kernel
theorem dX6_run_244 : decode cX6_run 244 = .ok (.iload_n 1, 1) := by decide +kernel
theorem dX6_run_245 : decode cX6_run 245 = .ok (.iconst 2, 1) := by decide +kernel
theorem dX6_run_246 : decode cX6_run 246 = .ok (.iload_n 2, 1) := by decide +kernel
theorem dX6_run_247 : decode cX6_run 247 = .ok (.iload_n 3, 1) := by decide +kernel
theorem dX6_run_248 : decode cX6_run 248 = .ok (.invokevirtual 57, 3) := by decide +kernel
theorem dX6_run_251 : decode cX6_run 251 = .ok (.aload_n 0, 1) := by decide +kernel
theorem dX6_run_252 : decode cX6_run 252 = .ok (.getfield 19, 3) := by decide +kernel
theorem dX6_run_255 : decode cX6_run 255 = .ok (.ixor, 1) := by decide +kernel
theorem dX6_run_256 : decode cX6_run 256 = .ok (.ireturn, 1) := by decide +kernel
theorem dX6_run_257 : decode cX6_run 257 = .ok (.aload_n 0, 1) := by decide +kernel
theorem dX6_run_258 : decode cX6_run 258 = .ok (.iload_n 1, 1) := by decide +kernel
theorem dX6_run_259 : decode cX6_run 259 = .ok (.iconst 1, 1) := by decide +kernel
theorem dX6_run_260 : decode cX6_run 260 = .ok (.iload_n 2, 1) := by decide +kernel
theorem dX6_run_261 : decode cX6_run 261 = .ok (.iconst 1, 1) := by decide +kernel
theorem dX6_run_262 : decode cX6_run 262 = .ok (.iadd, 1) := by decide +kernel
theorem dX6_run_263 : decode cX6_run 263 = .ok (.iload_n 3, 1) := by decide +kernel
theorem dX6_run_264 : decode cX6_run 264 = .ok (.invokevirtual 57, 3) := by decide +kernel
theorem dX6_run_267 : decode cX6_run 267 = .ok (.ireturn, 1) := by decide +kernel
theorem dX6_run_268 : decode cX6_run 268 = .ok (.iconst 5, 1) := by decide +kernel
theorem dX6_run_269 : decode cX6_run 269 = .ok (.ireturn, 1) := by decide +kernel
theorem dX6_run_270 : decode cX6_run 270 = .ok (.aload_n 0, 1) := by decide +kernel
theorem dX6_run_271 : decode cX6_run 271 = .ok (.iload_n 1, 1) := by decide +kernel
theorem dX6_run_272 : decode cX6_run 272 = .ok (.iconst 1, 1) := by decide +kernel
theorem dX6_run_273 : decode cX6_run 273 = .ok (.iload_n 2, 1) := by decide +kernel
theorem dX6_run_274 : decode cX6_run 274 = .ok (.iload_n 3, 1) := by decide +kernel
theorem dX6_run_275 : decode cX6_run 275 = .ok (.invokevirtual 57, 3) := by decide +kernel
theorem dX6_run_278 : decode cX6_run 278 = .ok (.aload_n 0, 1) := by decide +kernel
theorem dX6_run_279 : decode cX6_run 279 = .ok (.getfield 22, 3) := by decide +kernel
theorem dX6_run_282 : decode cX6_run 282 = .ok (.iadd, 1) := by decide +kernel
theorem dX6_run_283 : decode cX6_run 283 = .ok (.ireturn, 1) := by decide +kernel
theorem dX6_run_284 : decode cX6_run 284 = .ok (.iconst 0, 1) := by decide +kernel
theorem dX6_run_285 : decode cX6_run 285 = .ok (.ireturn, 1) := by decide +kernel
theorem dX6_begin_0 : decode cX6_begin 0 = .ok (.aload_n 0, 1) := by decide +kernel
theorem dX6_begin_1 : decode cX6_begin 1 = .ok (.getfield 25, 3) := by decide +kernel
theorem dX6_begin_4 : decode cX6_begin 4 = .ok (.bipush 30, 2) := by decide +kernel
theorem dX6_begin_6 : decode cX6_begin 6 = .ok (.if_icmp .ge 23, 3) := by decide +kernel
theorem dX6_begin_9 : decode cX6_begin 9 = .ok (.aload_n 0, 1) := by decide +kernel
theorem dX6_begin_10 : decode cX6_begin 10 = .ok (.getfield 9, 3) := by decide +kernel
theorem dX6_begin_13 : decode cX6_begin 13 = .ok (.aload_n 0, 1) := by decide +kernel
theorem dX6_begin_14 : decode cX6_begin 14 = .ok (.getfield 25, 3) := by decide +kernel
theorem dX6_begin_17 : decode cX6_begin 17 = .ok (.iload_n 1, 1) := by decide +kernel
theorem dX6_begin_18 : decode cX6_begin 18 = .ok (.iastore, 1) := by decide +kernel
theorem dX6_begin_19 : decode cX6_begin 19 = .ok (.aload_n 0, 1) := by decide +kernel
theorem dX6_begin_20 : decode cX6_begin 20 = .ok (.dup, 1) := by decide +kernel
theorem dX6_begin_21 : decode cX6_begin 21 = .ok (.getfield 25, 3) := by decide +kernel
theorem dX6_begin_24 : decode cX6_begin 24 = .ok (.iconst 1, 1) := by decide +kernel
theorem dX6_begin_25 : decode cX6_begin 25 = .ok (.iadd, 1) := by decide +kernel
theorem dX6_begin_26 : decode cX6_begin 26 = .ok (.putfield 25, 3) := by decide +kernel
theorem dX6_begin_29 : decode cX6_begin 29 = .ok (.return_, 1) := by decide +kernel
theorem dX6_part_0 : decode cX6_part 0 = .ok (.iload_n 2, 1) := by decide +kernel
theorem dX6_part_1 : decode cX6_part 1 = .ok (.ifCond .ne 10, 3) := by decide +kernel
theorem dX6_part_4 : decode cX6_part 4 = .ok (.aload_n 0, 1) := by decide +kernel
theorem dX6_part_5 : decode cX6_part 5 = .ok (.iconst 1, 1) := by decide +kernel
theorem dX6_part_6 : decode cX6_part 6 = .ok (.putfield 28, 3) := by decide +kernel
theorem dX6_part_9 : decode cX6_part 9 = .ok (.iconst 0, 1) := by decide +kernel
theorem dX6_part_10 : decode cX6_part 10 = .ok (.ireturn, 1) := by decide +kernel
theorem dX6_part_11 : decode cX6_part 11 = .ok (.iload_n 1, 1) := by decide +kernel
theorem dX6_part_12 : decode cX6_part 12 = .ok (.iload_n 2, 1) := by decide +kernel
theorem dX6_part_13 : decode cX6_part 13 = .ok (.idiv, 1) := by decide +kernel
theorem dX6_part_14 : decode cX6_part 14 = .ok (.ireturn, 1) := by decide +kernel
theorem dJ6_bitCount_0f7a4_0 : decode cJ6_bitCount_0f7a4 0 = .ok (.iload_n 0, 1) := by decide +kernel
theorem dJ6_bitCount_0f7a4_1 : decode cJ6_bitCount_0f7a4 1 = .ok (.iload_n 0, 1) := by decide +kernel
theorem dJ6_bitCount_0f7a4_2 : decode cJ6_bitCount_0f7a4 2 = .ok (.iconst 1, 1) := by decide +kernel
theorem dJ6_bitCount_0f7a4_3 : decode cJ6_bitCount_0f7a4 3 = .ok (.iushr, 1) := by decide +kernel
theorem dJ6_bitCount_0f7a4_4 : decode cJ6_bitCount_0f7a4 4 = .ok (.ldc_w 265, 3) := by decide +kernel
theorem dJ6_bitCount_0f7a4_7 : decode cJ6_bitCount_0f7a4 7 = .ok (.iand, 1) := by decide +kernel
theorem dJ6_bitCount_0f7a4_8 : decode cJ6_bitCount_0f7a4 8 = .ok (.isub, 1) := by decide +kernel
theorem dJ6_bitCount_0f7a4_9 : decode cJ6_bitCount_0f7a4 9 = .ok (.istore_n 0, 1) := by decide +kernel
theorem dJ6_bitCount_0f7a4_10 : decode cJ6_bitCount_0f7a4 10 = .ok (.iload_n 0, 1) := by decide +kernel
theorem dJ6_bitCount_0f7a4_11 : decode cJ6_bitCount_0f7a4 11 = .ok (.ldc_w 266, 3) := by decide +kernel
theorem dJ6_bitCount_0f7a4_14 : decode cJ6_bitCount_0f7a4 14 = .ok (.iand, 1) := by decide +kernel
theorem dJ6_bitCount_0f7a4_15 : decode cJ6_bitCount_0f7a4 15 = .ok (.iload_n 0, 1) := by decide +kernel
theorem dJ6_bitCount_0f7a4_16 : decode cJ6_bitCount_0f7a4 16 = .ok (.iconst 2, 1) := by decide +kernel
theorem dJ6_bitCount_0f7a4_17 : decode cJ6_bitCount_0f7a4 17 = .ok (.iushr, 1) := by decide +kernel
theorem dJ6_bitCount_0f7a4_18 : decode cJ6_bitCount_0f7a4 18 = .ok (.ldc_w 266, 3) := by decide +kernel
theorem dJ6_bitCount_0f7a4_21 : decode cJ6_bitCount_0f7a4 21 = .ok (.iand, 1) := by decide +kernel
theorem dJ6_bitCount_0f7a4_22 : decode cJ6_bitCount_0f7a4 22 = .ok (.iadd, 1) := by decide +kernel
theorem dJ6_bitCount_0f7a4_23 : decode cJ6_bitCount_0f7a4 23 = .ok (.istore_n 0, 1) := by decide +kernel
theorem dJ6_bitCount_0f7a4_24 : decode cJ6_bitCount_0f7a4 24 = .ok (.iload_n 0, 1) := by decide +kernel
theorem dJ6_bitCount_0f7a4_25 : decode cJ6_bitCount_0f7a4 25 = .ok (.iload_n 0, 1) := by decide +kernel
theorem dJ6_bitCount_0f7a4_26 : decode cJ6_bitCount_0f7a4 26 = .ok (.iconst 4, 1) := by decide +kernel
theorem dJ6_bitCount_0f7a4_27 : decode cJ6_bitCount_0f7a4 27 = .ok (.iushr, 1) := by decide +kernel
theorem dJ6_bitCount_0f7a4_28 : decode cJ6_bitCount_0f7a4 28 = .ok (.iadd, 1) := by decide +kernel
theorem dJ6_bitCount_0f7a4_29 : decode cJ6_bitCount_0f7a4 29 = .ok (.ldc_w 267, 3) := by decide +kernel
theorem dJ6_bitCount_0f7a4_32 : decode cJ6_bitCount_0f7a4 32 = .ok (.iand, 1) := by decide +kernel
theorem dJ6_bitCount_0f7a4_33 : decode cJ6_bitCount_0f7a4 33 = .ok (.istore_n 0, 1) := by decide +kernel
theorem dJ6_bitCount_0f7a4_34 : decode cJ6_bitCount_0f7a4 34 = .ok (.iload_n 0, 1) := by decide +kernel
theorem dJ6_bitCount_0f7a4_35 : decode cJ6_bitCount_0f7a4 35 = .ok (.iload_n 0, 1) := by decide +kernel
theorem dJ6_bitCount_0f7a4_36 : decode cJ6_bitCount_0f7a4 36 = .ok (.bipush 8, 2) := by decide +kernel
theorem dJ6_bitCount_0f7a4_38 : decode cJ6_bitCount_0f7a4 38 = .ok (.iushr, 1) := by decide +kernel
theorem dJ6_bitCount_0f7a4_39 : decode cJ6_bitCount_0f7a4 39 = .ok (.iadd, 1) := by decide +kernel
theorem dJ6_bitCount_0f7a4_40 : decode cJ6_bitCount_0f7a4 40 = .ok (.istore_n 0, 1) := by decide +kernel
theorem dJ6_bitCount_0f7a4_41 : decode cJ6_bitCount_0f7a4 41 = .ok (.iload_n 0, 1) := by decide +kernel
theorem dJ6_bitCount_0f7a4_42 : decode cJ6_bitCount_0f7a4 42 = .ok (.iload_n 0, 1) := by decide +kernel
theorem dJ6_bitCount_0f7a4_43 : decode cJ6_bitCount_0f7a4 43 = .ok (.bipush 16, 2) := by decide +kernel
theorem dJ6_bitCount_0f7a4_45 : decode cJ6_bitCount_0f7a4 45 = .ok (.iushr, 1) := by decide +kernel
theorem dJ6_bitCount_0f7a4_46 : decode cJ6_bitCount_0f7a4 46 = .ok (.iadd, 1) := by decide +kernel
theorem dJ6_bitCount_0f7a4_47 : decode cJ6_bitCount_0f7a4 47 = .ok (.istore_n 0, 1) := by decide +kernel
theorem dJ6_bitCount_0f7a4_48 : decode cJ6_bitCount_0f7a4 48 = .ok (.iload_n 0, 1) := by decide +kernel
theorem dJ6_bitCount_0f7a4_49 : decode cJ6_bitCount_0f7a4 49 = .ok (.bipush 63, 2) := by decide +kernel
theorem dJ6_bitCount_0f7a4_51 : decode cJ6_bitCount_0f7a4 51 = .ok (.iand, 1) := by decide +kernel
theorem dJ6_bitCount_0f7a4_52 : decode cJ6_bitCount_0f7a4 52 = .ok (.ireturn, 1) := by decide +kernel
end
section
/-! decode rows -/
theorem dX7_init_0 : decode cX7_init 0 = .ok (.aload_n 0, 1) := by decide +kernel
theorem dX7_init_1 : decode cX7_init 1 = .ok (.invokespecial 1, 3) := by decide +kernel
theorem dX7_init_4 : decode cX7_init 4 = .ok (.aload_n 0, 1) := by decide +kernel
theorem dX7_init_5 : decode cX7_init 5 = .ok (.new 7, 3) := by decide +kernel
theorem dX7_init_8 : decode cX7_init 8 = .ok (.dup, 1) := by decide +kernel
theorem dX7_init_9 : decode cX7_init 9 = .ok (.invokespecial 9, 3) := by decide +kernel
theorem dX7_init_12 : decode cX7_init 12 = .ok (.putfield 10, 3) := by decide +kernel
theorem dX7_init_15 : decode cX7_init 15 = .ok (.aload_n 0, 1) := by decide +kernel
theorem dX7_init_16 : decode cX7_init 16 = .ok (.new 7, 3) := by decide +kernel
theorem dX7_init_19 : decode cX7_init 19 = .ok (.dup, 1) := by decide +kernel
theorem dX7_init_20 : decode cX7_init 20 = .ok (.invokespecial 9, 3) := by decide +kernel
theorem dX7_init_23 : decode cX7_init 23 = .ok (.putfield 16, 3) := by decide +kernel
theorem dX7_init_26 : decode cX7_init 26 = .ok (.aload_n 0, 1) := by decide +kernel
theorem dX7_init_27 : decode cX7_init 27 = .ok (.new 7, 3) := by decide +kernel
theorem dX7_init_30 : decode cX7_init 30 = .ok (.dup, 1) := by decide +kernel
theorem dX7_init_31 : decode cX7_init 31 = .ok (.invokespecial 9, 3) := by decide +kernel
theorem dX7_init_34 : decode cX7_init 34 = .ok (.putfield 19, 3) := by decide +kernel
theorem dX7_init_37 : decode cX7_init 37 = .ok (.aload_n 0, 1) := by decide +kernel
theorem dX7_init_38 : decode cX7_init 38 = .ok (.new 22, 3) := by decide +kernel
theorem dX7_init_41 : decode cX7_init 41 = .ok (.dup, 1) := by decide +kernel
theorem dX7_init_42 : decode cX7_init 42 = .ok (.invokespecial 24, 3) := by decide +kernel
theorem dX7_init_45 : decode cX7_init 45 = .ok (.putfield 25, 3) := by decide +kernel
theorem dX7_init_48 : decode cX7_init 48 = .ok (.aload_n 0, 1) := by decide +kernel
theorem dX7_init_49 : decode cX7_init 49 = .ok (.new 29, 3) := by decide +kernel
theorem dX7_init_52 : decode cX7_init 52 = .ok (.dup, 1) := by decide +kernel
theorem dX7_init_53 : decode cX7_init 53 = .ok (.invokespecial 31, 3) := by decide +kernel
theorem dX7_init_56 : decode cX7_init 56 = .ok (.putfield 32, 3) := by decide +kernel
theorem dX7_init_59 : decode cX7_init 59 = .ok (.aload_n 0, 1) := by decide +kernel
theorem dX7_init_60 : decode cX7_init 60 = .ok (.iconst 4, 1) := by decide +kernel
theorem dX7_init_61 : decode cX7_init 61 = .ok (.anewarray 36, 3) := by decide +kernel
theorem dX7_init_64 : decode cX7_init 64 = .ok (.putfield 38, 3) := by decide +kernel
theorem dX7_init_67 : decode cX7_init 67 = .ok (.aload_n 0, 1) := by decide +kernel
theorem dX7_init_68 : decode cX7_init 68 = .ok (.bipush 7, 2) := by decide +kernel
theorem dX7_init_70 : decode cX7_init 70 = .ok (.newarray .int, 2) := by decide +kernel
theorem dX7_init_72 : decode cX7_init 72 = .ok (.putfield 42, 3) := by decide +kernel
theorem dX7_init_75 : decode cX7_init 75 = .ok (.iconst 0, 1) := by decide +kernel
theorem dX7_init_76 : decode cX7_init 76 = .ok (.istore_n 1, 1) := by decide +kernel
theorem dX7_init_77 : decode cX7_init 77 = .ok (.iload_n 1, 1) := by decide +kernel
theorem dX7_init_78 : decode cX7_init 78 = .ok (.iconst 4, 1) := by decide +kernel
theorem dX7_init_79 : decode cX7_init 79 = .ok (.if_icmp .ge 22, 3) := by decide +kernel
theorem dX7_init_82 : decode cX7_init 82 = .ok (.aload_n 0, 1) := by decide +kernel
theorem dX7_init_83 : decode cX7_init 83 = .ok (.getfield 38, 3) := by decide +kernel
theorem dX7_init_86 : decode cX7_init 86 = .ok (.iload_n 1, 1) := by decide +kernel
theorem dX7_init_87 : decode cX7_init 87 = .ok (.new 36, 3) := by decide +kernel
theorem dX7_init_90 : decode cX7_init 90 = .ok (.dup, 1) := by decide +kernel
theorem dX7_init_91 : decode cX7_init 91 = .ok (.invokespecial 46, 3) := by decide +kernel
theorem dX7_init_94 : decode cX7_init 94 = .ok (.aastore, 1) := by decide +kernel
theorem dX7_init_95 : decode cX7_init 95 = .ok (.iinc 1 1, 3) := by decide +kernel
theorem dX7_init_98 : decode cX7_init 98 = .ok (.goto (-21), 3) := by decide +kernel
theorem dX7_init_101 : decode cX7_init 101 = .ok (.return_, 1) := by decide +kernel
theorem dX7_bunk_0 : decode cX7_bunk 0 = .ok (.iload_n 1, 1) := by decide +kernel
theorem dX7_bunk_1 : decode cX7_bunk 1 = .ok (.iconst 0, 1) := by decide +kernel
theorem dX7_bunk_2 : decode cX7_bunk 2 = .ok (.bipush 69, 2) := by decide +kernel
theorem dX7_bunk_4 : decode cX7_bunk 4 = .ok (.invokestatic 47, 3) := by decide +kernel
theorem dX7_bunk_7 : decode cX7_bunk 7 = .ok (.ifCond .ne 9, 3) := by decide +kernel
theorem dX7_bunk_10 : decode cX7_bunk 10 = .ok (.aload_n 0, 1) := by decide +kernel
theorem dX7_bunk_11 : decode cX7_bunk 11 = .ok (.iconst 1, 1) := by decide +kernel
theorem dX7_bunk_12 : decode cX7_bunk 12 = .ok (.invokevirtual 51, 3) := by decide +kernel
theorem dX7_bunk_15 : decode cX7_bunk 15 = .ok (.ireturn, 1) := by decide +kernel
theorem dX7_bunk_16 : decode cX7_bunk 16 = .ok (.aload_n 0, 1) := by decide +kernel
theorem dX7_bunk_17 : decode cX7_bunk 17 = .ok (.getfield 10, 3) := by decide +kernel
theorem dX7_bunk_20 : decode cX7_bunk 20 = .ok (.getfield 55, 3) := by decide +kernel
theorem dX7_bunk_23 : decode cX7_bunk 23 = .ok (.bipush 6, 2) := by decide +kernel
theorem dX7_bunk_25 : decode cX7_bunk 25 = .ok (.if_icmp .lt 9, 3) := by decide +kernel
theorem dX7_bunk_28 : decode cX7_bunk 28 = .ok (.aload_n 0, 1) := by decide +kernel
theorem dX7_bunk_29 : decode cX7_bunk 29 = .ok (.iconst 4, 1) := by decide +kernel
theorem dX7_bunk_30 : decode cX7_bunk 30 = .ok (.invokevirtual 51, 3) := by decide +kernel
theorem dX7_bunk_33 : decode cX7_bunk 33 = .ok (.ireturn, 1) := by decide +kernel
theorem dX7_bunk_34 : decode cX7_bunk 34 = .ok (.aload_n 0, 1) := by decide +kernel
theorem dX7_bunk_35 : decode cX7_bunk 35 = .ok (.getfield 10, 3) := by decide +kernel
theorem dX7_bunk_38 : decode cX7_bunk 38 = .ok (.iload_n 1, 1) := by decide +kernel
theorem dX7_bunk_39 : decode cX7_bunk 39 = .ok (.invokevirtual 59, 3) := by decide +kernel
theorem dX7_bunk_42 : decode cX7_bunk 42 = .ok (.ireturn, 1) := by decide +kernel
theorem dX7_bunkIs_0 : decode cX7_bunkIs 0 = .ok (.aload_n 0, 1) := by decide +kernel
theorem dX7_bunkIs_1 : decode cX7_bunkIs 1 = .ok (.iload_n 1, 1) := by decide +kernel
theorem dX7_bunkIs_2 : decode cX7_bunkIs 2 = .ok (.invokevirtual 62, 3) := by decide +kernel
theorem dX7_bunkIs_5 : decode cX7_bunkIs 5 = .ok (.ifCond .eq 13, 3) := by decide +kernel
theorem dX7_bunkIs_8 : decode cX7_bunkIs 8 = .ok (.iload_n 2, 1) := by decide +kernel
theorem dX7_bunkIs_9 : decode cX7_bunkIs 9 = .ok (.iconst 0, 1) := by decide +kernel
theorem dX7_bunkIs_10 : decode cX7_bunkIs 10 = .ok (.bipush 23, 2) := by decide +kernel
theorem dX7_bunkIs_12 : decode cX7_bunkIs 12 = .ok (.invokestatic 47, 3) := by decide +kernel
theorem dX7_bunkIs_15 : decode cX7_bunkIs 15 = .ok (.ifCond .ne 9, 3) := by decide +kernel
theorem dX7_bunkIs_18 : decode cX7_bunkIs 18 = .ok (.aload_n 0, 1) := by decide +kernel
theorem dX7_bunkIs_19 : decode cX7_bunkIs 19 = .ok (.iconst 1, 1) := by decide +kernel
theorem dX7_bunkIs_20 : decode cX7_bunkIs 20 = .ok (.invokevirtual 51, 3) := by decide +kernel
theorem dX7_bunkIs_23 : decode cX7_bunkIs 23 = .ok (.ireturn, 1) := by decide +kernel
theorem dX7_bunkIs_24 : decode cX7_bunkIs 24 = .ok (.aload_n 0, 1) := by decide +kernel
theorem dX7_bunkIs_25 : decode cX7_bunkIs 25 = .ok (.getfield 10, 3) := by decide +kernel
theorem dX7_bunkIs_28 : decode cX7_bunkIs 28 = .ok (.iload_n 1, 1) := by decide +kernel
theorem dX7_bunkIs_29 : decode cX7_bunkIs 29 = .ok (.iload_n 2, 1) := by decide +kernel
theorem dX7_bunkIs_30 : decode cX7_bunkIs 30 = .ok (.invokevirtual 66, 3) := by decide +kernel
theorem dX7_bunkIs_33 : decode cX7_bunkIs 33 = .ok (.ireturn, 1) := by decide +kernel
theorem dX7_as_0 : decode cX7_as 0 = .ok (.aload_n 0, 1) := by decide +kernel
theorem dX7_as_1 : decode cX7_as 1 = .ok (.iload_n 1, 1) := by decide +kernel
theorem dX7_as_2 : decode cX7_as 2 = .ok (.invokevirtual 62, 3) := by decide +kernel
theorem dX7_as_5 : decode cX7_as 5 = .ok (.ifCond .eq 13, 3) := by decide +kernel
theorem dX7_as_8 : decode cX7_as 8 = .ok (.iload_n 2, 1) := by decide +kernel
theorem dX7_as_9 : decode cX7_as 9 = .ok (.iconst 0, 1) := by decide +kernel
theorem dX7_as_10 : decode cX7_as 10 = .ok (.bipush 6, 2) := by decide +kernel
theorem dX7_as_12 : decode cX7_as 12 = .ok (.invokestatic 47, 3) := by decide +kernel
theorem dX7_as_15 : decode cX7_as 15 = .ok (.ifCond .ne 9, 3) := by decide +kernel
theorem dX7_as_18 : decode cX7_as 18 = .ok (.aload_n 0, 1) := by decide +kernel
theorem dX7_as_19 : decode cX7_as 19 = .ok (.iconst 1, 1) := by decide +kernel
theorem dX7_as_20 : decode cX7_as 20 = .ok (.invokevirtual 51, 3) := by decide +kernel
theorem dX7_as_23 : decode cX7_as 23 = .ok (.ireturn, 1) := by decide +kernel
theorem dX7_as_24 : decode cX7_as 24 = .ok (.aload_n 0, 1) := by decide +kernel
theorem dX7_as_25 : decode cX7_as 25 = .ok (.getfield 10, 3) := by decide +kernel
theorem dX7_as_28 : decode cX7_as 28 = .ok (.getfield 70, 3) := by decide +kernel
theorem dX7_as_31 : decode cX7_as 31 = .ok (.iload_n 1, 1) := by decide +kernel
theorem dX7_as_32 : decode cX7_as 32 = .ok (.aaload, 1) := by decide +kernel
theorem dX7_as_33 : decode cX7_as 33 = .ok (.iload_n 2, 1) := by decide +kernel
theorem dX7_as_34 : decode cX7_as 34 = .ok (.invokevirtual 74, 3) := by decide +kernel
theorem dX7_as_37 : decode cX7_as 37 = .ok (.ifCond .ne 9, 3) := by decide +kernel
theorem dX7_as_40 : decode cX7_as 40 = .ok (.aload_n 0, 1) := by decide +kernel
theorem dX7_as_41 : decode cX7_as 41 = .ok (.iconst 5, 1) := by decide +kernel
theorem dX7_as_42 : decode cX7_as 42 = .ok (.invokevirtual 51, 3) := by decide +kernel
theorem dX7_as_45 : decode cX7_as 45 = .ok (.ireturn, 1) := by decide +kernel
theorem dX7_as_46 : decode cX7_as 46 = .ok (.aload_n 0, 1) := by decide +kernel
theorem dX7_as_47 : decode cX7_as 47 = .ok (.getfield 10, 3) := by decide +kernel
theorem dX7_as_50 : decode cX7_as 50 = .ok (.getfield 70, 3) := by decide +kernel
theorem dX7_as_53 : decode cX7_as 53 = .ok (.iload_n 1, 1) := by decide +kernel
theorem dX7_as_54 : decode cX7_as 54 = .ok (.aaload, 1) := by decide +kernel
theorem dX7_as_55 : decode cX7_as 55 = .ok (.getfield 79, 3) := by decide +kernel
theorem dX7_as_58 : decode cX7_as 58 = .ok (.ireturn, 1) := by decide +kernel
theorem dX7_set_0 : decode cX7_set 0 = .ok (.aload_n 0, 1) := by decide +kernel
theorem dX7_set_1 : decode cX7_set 1 = .ok (.iload_n 1, 1) := by decide +kernel
theorem dX7_set_2 : decode cX7_set 2 = .ok (.invokevirtual 62, 3) := by decide +kernel
theorem dX7_set_5 : decode cX7_set 5 = .ok (.ifCond .eq 11, 3) := by decide +kernel
theorem dX7_set_8 : decode cX7_set 8 = .ok (.iload_n 2, 1) := by decide +kernel
theorem dX7_set_9 : decode cX7_set 9 = .ok (.iload_n 3, 1) := by decide +kernel
theorem dX7_set_10 : decode cX7_set 10 = .ok (.invokestatic 82, 3) := by decide +kernel
theorem dX7_set_13 : decode cX7_set 13 = .ok (.ifCond .ne 9, 3) := by decide +kernel
theorem dX7_set_16 : decode cX7_set 16 = .ok (.aload_n 0, 1) := by decide +kernel
theorem dX7_set_17 : decode cX7_set 17 = .ok (.iconst 1, 1) := by decide +kernel
theorem dX7_set_18 : decode cX7_set 18 = .ok (.invokevirtual 51, 3) := by decide +kernel
theorem dX7_set_21 : decode cX7_set 21 = .ok (.ireturn, 1) := by decide +kernel
theorem dX7_set_22 : decode cX7_set 22 = .ok (.aload_n 0, 1) := by decide +kernel
theorem dX7_set_23 : decode cX7_set 23 = .ok (.getfield 10, 3) := by decide +kernel
theorem dX7_set_26 : decode cX7_set 26 = .ok (.getfield 70, 3) := by decide +kernel
theorem dX7_set_29 : decode cX7_set 29 = .ok (.iload_n 1, 1) := by decide +kernel
theorem dX7_set_30 : decode cX7_set 30 = .ok (.aaload, 1) := by decide +kernel
theorem dX7_set_31 : decode cX7_set 31 = .ok (.astore 4, 2) := by decide +kernel
theorem dX7_set_33 : decode cX7_set 33 = .ok (.aload_n 0, 1) := by decide +kernel
theorem dX7_set_34 : decode cX7_set 34 = .ok (.getfield 10, 3) := by decide +kernel
theorem dX7_set_37 : decode cX7_set 37 = .ok (.iload_n 1, 1) := by decide +kernel
theorem dX7_set_38 : decode cX7_set 38 = .ok (.iload_n 2, 1) := by decide +kernel
theorem dX7_set_39 : decode cX7_set 39 = .ok (.invokevirtual 66, 3) := by decide +kernel
theorem dX7_set_42 : decode cX7_set 42 = .ok (.istore 5, 2) := by decide +kernel
theorem dX7_set_44 : decode cX7_set 44 = .ok (.iload_n 2, 1) := by decide +kernel
theorem dX7_set_45 : decode cX7_set 45 = .ok (.ifCond .ne 12, 3) := by decide +kernel
theorem dX7_set_48 : decode cX7_set 48 = .ok (.aload 4, 2) := by decide +kernel
theorem dX7_set_50 : decode cX7_set 50 = .ok (.iload_n 3, 1) := by decide +kernel
theorem dX7_set_51 : decode cX7_set 51 = .ok (.putfield 86, 3) := by decide +kernel
theorem dX7_set_54 : decode cX7_set 54 = .ok (.goto 23, 3) := by decide +kernel
theorem dX7_set_57 : decode cX7_set 57 = .ok (.iload_n 2, 1) := by decide +kernel
theorem dX7_set_58 : decode cX7_set 58 = .ok (.iconst 1, 1) := by decide +kernel
theorem dX7_set_59 : decode cX7_set 59 = .ok (.if_icmp .ne 12, 3) := by decide +kernel
theorem dX7_set_62 : decode cX7_set 62 = .ok (.aload 4, 2) := by decide +kernel
theorem dX7_set_64 : decode cX7_set 64 = .ok (.iload_n 3, 1) := by decide +kernel
theorem dX7_set_65 : decode cX7_set 65 = .ok (.putfield 89, 3) := by decide +kernel
theorem dX7_set_68 : decode cX7_set 68 = .ok (.goto 9, 3) := by decide +kernel
theorem dX7_set_71 : decode cX7_set 71 = .ok (.aload 4, 2) := by decide +kernel
theorem dX7_set_73 : decode cX7_set 73 = .ok (.iload_n 3, 1) := by decide +kernel
theorem dX7_set_74 : decode cX7_set 74 = .ok (.putfield 92, 3) := by decide +kernel
theorem dX7_set_77 : decode cX7_set 77 = .ok (.iload 5, 2) := by decide +kernel
theorem dX7_set_79 : decode cX7_set 79 = .ok (.ireturn, 1) := by decide +kernel
theorem dX7_know_0 : decode cX7_know 0 = .ok (.aload_n 0, 1) := by decide +kernel
theorem dX7_know_1 : decode cX7_know 1 = .ok (.iload_n 1, 1) := by decide +kernel
theorem dX7_know_2 : decode cX7_know 2 = .ok (.invokevirtual 62, 3) := by decide +kernel
theorem dX7_know_5 : decode cX7_know 5 = .ok (.ifCond .eq 21, 3) := by decide +kernel
theorem dX7_know_8 : decode cX7_know 8 = .ok (.iload_n 2, 1) := by decide +kernel
theorem dX7_know_9 : decode cX7_know 9 = .ok (.invokestatic 95, 3) := by decide +kernel
theorem dX7_know_12 : decode cX7_know 12 = .ok (.ifCond .eq 14, 3) := by decide +kernel
theorem dX7_know_15 : decode cX7_know 15 = .ok (.iload_n 3, 1) := by decide +kernel
theorem dX7_know_16 : decode cX7_know 16 = .ok (.iconst (-1), 1) := by decide +kernel
theorem dX7_know_17 : decode cX7_know 17 = .ok (.sipush 999, 3) := by decide +kernel
theorem dX7_know_20 : decode cX7_know 20 = .ok (.invokestatic 47, 3) := by decide +kernel
theorem dX7_know_23 : decode cX7_know 23 = .ok (.ifCond .ne 9, 3) := by decide +kernel
theorem dX7_know_26 : decode cX7_know 26 = .ok (.aload_n 0, 1) := by decide +kernel
theorem dX7_know_27 : decode cX7_know 27 = .ok (.iconst 1, 1) := by decide +kernel
theorem dX7_know_28 : decode cX7_know 28 = .ok (.invokevirtual 51, 3) := by decide +kernel
theorem dX7_know_31 : decode cX7_know 31 = .ok (.ireturn, 1) := by decide +kernel
theorem dX7_know_32 : decode cX7_know 32 = .ok (.aload_n 0, 1) := by decide +kernel
theorem dX7_know_33 : decode cX7_know 33 = .ok (.getfield 10, 3) := by decide +kernel
theorem dX7_know_36 : decode cX7_know 36 = .ok (.getfield 70, 3) := by decide +kernel
theorem dX7_know_39 : decode cX7_know 39 = .ok (.iload_n 1, 1) := by decide +kernel
theorem dX7_know_40 : decode cX7_know 40 = .ok (.aaload, 1) := by decide +kernel
theorem dX7_know_41 : decode cX7_know 41 = .ok (.astore 4, 2) := by decide +kernel
theorem dX7_know_43 : decode cX7_know 43 = .ok (.aload 4, 2) := by decide +kernel
theorem dX7_know_45 : decode cX7_know 45 = .ok (.iload_n 2, 1) := by decide +kernel
theorem dX7_know_46 : decode cX7_know 46 = .ok (.invokevirtual 98, 3) := by decide +kernel
theorem dX7_know_49 : decode cX7_know 49 = .ok (.ifCond .eq 13, 3) := by decide +kernel
theorem dX7_know_52 : decode cX7_know 52 = .ok (.aload 4, 2) := by decide +kernel
theorem dX7_know_54 : decode cX7_know 54 = .ok (.getfield 101, 3) := by decide +kernel
theorem dX7_know_57 : decode cX7_know 57 = .ok (.iload_n 2, 1) := by decide +kernel
theorem dX7_know_58 : decode cX7_know 58 = .ok (.iaload, 1) := by decide +kernel
theorem dX7_know_59 : decode cX7_know 59 = .ok (.goto 4, 3) := by decide +kernel
theorem dX7_know_62 : decode cX7_know 62 = .ok (.iconst (-1), 1) := by decide +kernel
theorem dX7_know_63 : decode cX7_know 63 = .ok (.istore 5, 2) := by decide +kernel
theorem dX7_know_65 : decode cX7_know 65 = .ok (.iload_n 3, 1) := by decide +kernel
theorem dX7_know_66 : decode cX7_know 66 = .ok (.ifCond .ge 12, 3) := by decide +kernel
theorem dX7_know_69 : decode cX7_know 69 = .ok (.aload 4, 2) := by decide +kernel
theorem dX7_know_71 : decode cX7_know 71 = .ok (.iload_n 2, 1) := by decide +kernel
theorem dX7_know_72 : decode cX7_know 72 = .ok (.invokevirtual 104, 3) := by decide +kernel
theorem dX7_know_75 : decode cX7_know 75 = .ok (.goto 10, 3) := by decide +kernel
theorem dX7_know_78 : decode cX7_know 78 = .ok (.aload 4, 2) := by decide +kernel
theorem dX7_know_80 : decode cX7_know 80 = .ok (.iload_n 2, 1) := by decide +kernel
theorem dX7_know_81 : decode cX7_know 81 = .ok (.iload_n 3, 1) := by decide +kernel
theorem dX7_know_82 : decode cX7_know 82 = .ok (.invokevirtual 108, 3) := by decide +kernel
theorem dX7_know_85 : decode cX7_know 85 = .ok (.iload 5, 2) := by decide +kernel
theorem dX7_know_87 : decode cX7_know 87 = .ok (.ireturn, 1) := by decide +kernel
theorem dX7_roster_0 : decode cX7_roster 0 = .ok (.iload_n 1, 1) := by decide +kernel
theorem dX7_roster_1 : decode cX7_roster 1 = .ok (.iload_n 2, 1) := by decide +kernel
theorem dX7_roster_2 : decode cX7_roster 2 = .ok (.invokestatic 112, 3) := by decide +kernel
theorem dX7_roster_5 : decode cX7_roster 5 = .ok (.ifCond .ne 9, 3) := by decide +kernel
theorem dX7_roster_8 : decode cX7_roster 8 = .ok (.aload_n 0, 1) := by decide +kernel
theorem dX7_roster_9 : decode cX7_roster 9 = .ok (.iconst 1, 1) := by decide +kernel
theorem dX7_roster_10 : decode cX7_roster 10 = .ok (.invokevirtual 51, 3) := by decide +kernel
theorem dX7_roster_13 : decode cX7_roster 13 = .ok (.ireturn, 1) := by decide +kernel
theorem dX7_roster_14 : decode cX7_roster 14 = .ok (.aload_n 0, 1) := by decide +kernel
theorem dX7_roster_15 : decode cX7_roster 15 = .ok (.getfield 10, 3) := by decide +kernel
theorem dX7_roster_18 : decode cX7_roster 18 = .ok (.getfield 115, 3) := by decide +kernel
theorem dX7_roster_21 : decode cX7_roster 21 = .ok (.bipush 12, 2) := by decide +kernel
theorem dX7_roster_23 : decode cX7_roster 23 = .ok (.if_icmp .lt 9, 3) := by decide +kernel
theorem dX7_roster_26 : decode cX7_roster 26 = .ok (.aload_n 0, 1) := by decide +kernel
theorem dX7_roster_27 : decode cX7_roster 27 = .ok (.iconst 4, 1) := by decide +kernel
theorem dX7_roster_28 : decode cX7_roster 28 = .ok (.invokevirtual 51, 3) := by decide +kernel
theorem dX7_roster_31 : decode cX7_roster 31 = .ok (.ireturn, 1) := by decide +kernel
theorem dX7_roster_32 : decode cX7_roster 32 = .ok (.aload_n 0, 1) := by decide +kernel
theorem dX7_roster_33 : decode cX7_roster 33 = .ok (.getfield 10, 3) := by decide +kernel
theorem dX7_roster_36 : decode cX7_roster 36 = .ok (.iload_n 1, 1) := by decide +kernel
theorem dX7_roster_37 : decode cX7_roster 37 = .ok (.iload_n 2, 1) := by decide +kernel
theorem dX7_roster_38 : decode cX7_roster 38 = .ok (.invokevirtual 118, 3) := by decide +kernel
theorem dX7_roster_41 : decode cX7_roster 41 = .ok (.ireturn, 1) := by decide +kernel
theorem dX7_book_0 : decode cX7_book 0 = .ok (.iload_n 1, 1) := by decide +kernel
theorem dX7_book_1 : decode cX7_book 1 = .ok (.iconst 0, 1) := by decide +kernel
theorem dX7_book_2 : decode cX7_book 2 = .ok (.bipush 63, 2) := by decide +kernel
theorem dX7_book_4 : decode cX7_book 4 = .ok (.invokestatic 47, 3) := by decide +kernel
theorem dX7_book_7 : decode cX7_book 7 = .ok (.ifCond .ne 9, 3) := by decide +kernel
theorem dX7_book_10 : decode cX7_book 10 = .ok (.aload_n 0, 1) := by decide +kernel
theorem dX7_book_11 : decode cX7_book 11 = .ok (.iconst 1, 1) := by decide +kernel
theorem dX7_book_12 : decode cX7_book 12 = .ok (.invokevirtual 51, 3) := by decide +kernel
theorem dX7_book_15 : decode cX7_book 15 = .ok (.ireturn, 1) := by decide +kernel
theorem dX7_book_16 : decode cX7_book 16 = .ok (.aload_n 0, 1) := by decide +kernel
theorem dX7_book_17 : decode cX7_book 17 = .ok (.getfield 10, 3) := by decide +kernel
theorem dX7_book_20 : decode cX7_book 20 = .ok (.getfield 121, 3) := by decide +kernel
theorem dX7_book_23 : decode cX7_book 23 = .ok (.istore_n 2, 1) := by decide +kernel
theorem dX7_book_24 : decode cX7_book 24 = .ok (.aload_n 0, 1) := by decide +kernel
theorem dX7_book_25 : decode cX7_book 25 = .ok (.getfield 10, 3) := by decide +kernel
theorem dX7_book_28 : decode cX7_book 28 = .ok (.iload_n 1, 1) := by decide +kernel
theorem dX7_book_29 : decode cX7_book 29 = .ok (.putfield 121, 3) := by decide +kernel
theorem dX7_book_32 : decode cX7_book 32 = .ok (.iload_n 2, 1) := by decide +kernel
theorem dX7_book_33 : decode cX7_book 33 = .ok (.ireturn, 1) := by decide +kernel
theorem dX7_task_0 : decode cX7_task 0 = .ok (.iload_n 1, 1) := by decide +kernel
theorem dX7_task_1 : decode cX7_task 1 = .ok (.iconst 0, 1) := by decide +kernel
theorem dX7_task_2 : decode cX7_task 2 = .ok (.iconst 3, 1) := by decide +kernel
theorem dX7_task_3 : decode cX7_task 3 = .ok (.invokestatic 47, 3) := by decide +kernel
theorem dX7_task_6 : decode cX7_task 6 = .ok (.ifCond .eq 20, 3) := by decide +kernel
theorem dX7_task_9 : decode cX7_task 9 = .ok (.iload_n 2, 1) := by decide +kernel
theorem dX7_task_10 : decode cX7_task 10 = .ok (.invokestatic 95, 3) := by decide +kernel
theorem dX7_task_13 : decode cX7_task 13 = .ok (.ifCond .eq 13, 3) := by decide +kernel
theorem dX7_task_16 : decode cX7_task 16 = .ok (.iload_n 3, 1) := by decide +kernel
theorem dX7_task_17 : decode cX7_task 17 = .ok (.iconst 0, 1) := by decide +kernel
theorem dX7_task_18 : decode cX7_task 18 = .ok (.bipush 6, 2) := by decide +kernel
theorem dX7_task_20 : decode cX7_task 20 = .ok (.invokestatic 47, 3) := by decide +kernel
theorem dX7_task_23 : decode cX7_task 23 = .ok (.ifCond .ne 9, 3) := by decide +kernel
theorem dX7_task_26 : decode cX7_task 26 = .ok (.aload_n 0, 1) := by decide +kernel
theorem dX7_task_27 : decode cX7_task 27 = .ok (.iconst 1, 1) := by decide +kernel
theorem dX7_task_28 : decode cX7_task 28 = .ok (.invokevirtual 51, 3) := by decide +kernel
theorem dX7_task_31 : decode cX7_task 31 = .ok (.ireturn, 1) := by decide +kernel
theorem dX7_task_32 : decode cX7_task 32 = .ok (.aload_n 0, 1) := by decide +kernel
theorem dX7_task_33 : decode cX7_task 33 = .ok (.getfield 10, 3) := by decide +kernel
theorem dX7_task_36 : decode cX7_task 36 = .ok (.getfield 124, 3) := by decide +kernel
theorem dX7_task_39 : decode cX7_task 39 = .ok (.iload_n 1, 1) := by decide +kernel
theorem dX7_task_40 : decode cX7_task 40 = .ok (.aaload, 1) := by decide +kernel
theorem dX7_task_41 : decode cX7_task 41 = .ok (.astore 4, 2) := by decide +kernel
theorem dX7_task_43 : decode cX7_task 43 = .ok (.bipush 10, 2) := by decide +kernel
theorem dX7_task_45 : decode cX7_task 45 = .ok (.aload 4, 2) := by decide +kernel
theorem dX7_task_47 : decode cX7_task 47 = .ok (.getfield 128, 3) := by decide +kernel
theorem dX7_task_50 : decode cX7_task 50 = .ok (.imul, 1) := by decide +kernel
theorem dX7_task_51 : decode cX7_task 51 = .ok (.aload 4, 2) := by decide +kernel
theorem dX7_task_53 : decode cX7_task 53 = .ok (.getfield 133, 3) := by decide +kernel
theorem dX7_task_56 : decode cX7_task 56 = .ok (.iadd, 1) := by decide +kernel
theorem dX7_task_57 : decode cX7_task 57 = .ok (.istore 5, 2) := by decide +kernel
theorem dX7_task_59 : decode cX7_task 59 = .ok (.aload 4, 2) := by decide +kernel
theorem dX7_task_61 : decode cX7_task 61 = .ok (.iload_n 2, 1) := by decide +kernel
theorem dX7_task_62 : decode cX7_task 62 = .ok (.putfield 128, 3) := by decide +kernel
theorem dX7_task_65 : decode cX7_task 65 = .ok (.aload 4, 2) := by decide +kernel
theorem dX7_task_67 : decode cX7_task 67 = .ok (.iload_n 3, 1) := by decide +kernel
theorem dX7_task_68 : decode cX7_task 68 = .ok (.putfield 133, 3) := by decide +kernel
theorem dX7_task_71 : decode cX7_task 71 = .ok (.iload 5, 2) := by decide +kernel
theorem dX7_task_73 : decode cX7_task 73 = .ok (.ireturn, 1) := by decide +kernel
theorem dX7_taskIs_0 : decode cX7_taskIs 0 = .ok (.iload_n 1, 1) := by decide +kernel
theorem dX7_taskIs_1 : decode cX7_taskIs 1 = .ok (.iconst 0, 1) := by decide +kernel
theorem dX7_taskIs_2 : decode cX7_taskIs 2 = .ok (.iconst 3, 1) := by decide +kernel
theorem dX7_taskIs_3 : decode cX7_taskIs 3 = .ok (.invokestatic 47, 3) := by decide +kernel
theorem dX7_taskIs_6 : decode cX7_taskIs 6 = .ok (.ifCond .eq 12, 3) := by decide +kernel
theorem dX7_taskIs_9 : decode cX7_taskIs 9 = .ok (.iload_n 2, 1) := by decide +kernel
theorem dX7_taskIs_10 : decode cX7_taskIs 10 = .ok (.iconst 0, 1) := by decide +kernel
theorem dX7_taskIs_11 : decode cX7_taskIs 11 = .ok (.iconst 4, 1) := by decide +kernel
theorem dX7_taskIs_12 : decode cX7_taskIs 12 = .ok (.invokestatic 47, 3) := by decide +kernel
theorem dX7_taskIs_15 : decode cX7_taskIs 15 = .ok (.ifCond .ne 9, 3) := by decide +kernel
theorem dX7_taskIs_18 : decode cX7_taskIs 18 = .ok (.aload_n 0, 1) := by decide +kernel
theorem dX7_taskIs_19 : decode cX7_taskIs 19 = .ok (.iconst 1, 1) := by decide +kernel
theorem dX7_taskIs_20 : decode cX7_taskIs 20 = .ok (.invokevirtual 51, 3) := by decide +kernel
theorem dX7_taskIs_23 : decode cX7_taskIs 23 = .ok (.ireturn, 1) := by decide +kernel
theorem dX7_taskIs_24 : decode cX7_taskIs 24 = .ok (.aload_n 0, 1) := by decide +kernel
theorem dX7_taskIs_25 : decode cX7_taskIs 25 = .ok (.getfield 10, 3) := by decide +kernel
theorem dX7_taskIs_28 : decode cX7_taskIs 28 = .ok (.iload_n 1, 1) := by decide +kernel
theorem dX7_taskIs_29 : decode cX7_taskIs 29 = .ok (.iload_n 2, 1) := by decide +kernel
theorem dX7_taskIs_30 : decode cX7_taskIs 30 = .ok (.invokevirtual 136, 3) := by decide +kernel
theorem dX7_taskIs_33 : decode cX7_taskIs 33 = .ok (.ireturn, 1) := by decide +kernel
theorem dX7_feed_0 : decode cX7_feed 0 = .ok (.iload_n 3, 1) := by decide +kernel
theorem dX7_feed_1 : decode cX7_feed 1 = .ok (.iconst 1, 1) := by decide +kernel
theorem dX7_feed_2 : decode cX7_feed 2 = .ok (.bipush 8, 2) := by decide +kernel
theorem dX7_feed_4 : decode cX7_feed 4 = .ok (.invokestatic 47, 3) := by decide +kernel
theorem dX7_feed_7 : decode cX7_feed 7 = .ok (.ifCond .ne 9, 3) := by decide +kernel
theorem dX7_feed_10 : decode cX7_feed 10 = .ok (.aload_n 0, 1) := by decide +kernel
theorem dX7_feed_11 : decode cX7_feed 11 = .ok (.iconst 1, 1) := by decide +kernel
theorem dX7_feed_12 : decode cX7_feed 12 = .ok (.invokevirtual 51, 3) := by decide +kernel
theorem dX7_feed_15 : decode cX7_feed 15 = .ok (.ireturn, 1) := by decide +kernel
theorem dX7_feed_16 : decode cX7_feed 16 = .ok (.aload_n 0, 1) := by decide +kernel
theorem dX7_feed_17 : decode cX7_feed 17 = .ok (.getfield 10, 3) := by decide +kernel
theorem dX7_feed_20 : decode cX7_feed 20 = .ok (.getfield 139, 3) := by decide +kernel
theorem dX7_feed_23 : decode cX7_feed 23 = .ok (.iload_n 3, 1) := by decide +kernel
theorem dX7_feed_24 : decode cX7_feed 24 = .ok (.iadd, 1) := by decide +kernel
theorem dX7_feed_25 : decode cX7_feed 25 = .ok (.bipush 60, 2) := by decide +kernel
theorem dX7_feed_27 : decode cX7_feed 27 = .ok (.if_icmp .le 9, 3) := by decide +kernel
theorem dX7_feed_30 : decode cX7_feed 30 = .ok (.aload_n 0, 1) := by decide +kernel
theorem dX7_feed_31 : decode cX7_feed 31 = .ok (.iconst 4, 1) := by decide +kernel
theorem dX7_feed_32 : decode cX7_feed 32 = .ok (.invokevirtual 51, 3) := by decide +kernel
theorem dX7_feed_35 : decode cX7_feed 35 = .ok (.ireturn, 1) := by decide +kernel
theorem dX7_feed_36 : decode cX7_feed 36 = .ok (.iconst 0, 1) := by decide +kernel
theorem dX7_feed_37 : decode cX7_feed 37 = .ok (.istore 4, 2) := by decide +kernel
theorem dX7_feed_39 : decode cX7_feed 39 = .ok (.iload 4, 2) := by decide +kernel
theorem dX7_feed_41 : decode cX7_feed 41 = .ok (.iload_n 3, 1) := by decide +kernel
theorem dX7_feed_42 : decode cX7_feed 42 = .ok (.if_icmp .ge 46, 3) := by decide +kernel
theorem dX7_feed_45 : decode cX7_feed 45 = .ok (.aload_n 0, 1) := by decide +kernel
theorem dX7_feed_46 : decode cX7_feed 46 = .ok (.getfield 10, 3) := by decide +kernel
theorem dX7_feed_49 : decode cX7_feed 49 = .ok (.getfield 142, 3) := by decide +kernel
theorem dX7_feed_52 : decode cX7_feed 52 = .ok (.aload_n 0, 1) := by decide +kernel
theorem dX7_feed_53 : decode cX7_feed 53 = .ok (.getfield 10, 3) := by decide +kernel
theorem dX7_feed_56 : decode cX7_feed 56 = .ok (.getfield 139, 3) := by decide +kernel
theorem dX7_feed_59 : decode cX7_feed 59 = .ok (.lload_n 1, 1) := by decide +kernel
theorem dX7_feed_60 : decode cX7_feed 60 = .ok (.bipush 8, 2) := by decide +kernel
theorem dX7_feed_62 : decode cX7_feed 62 = .ok (.iload 4, 2) := by decide +kernel
theorem dX7_feed_64 : decode cX7_feed 64 = .ok (.imul, 1) := by decide +kernel
theorem dX7_feed_65 : decode cX7_feed 65 = .ok (.lushr, 1) := by decide +kernel
theorem dX7_feed_66 : decode cX7_feed 66 = .ok (.l2i, 1) := by decide +kernel
theorem dX7_feed_67 : decode cX7_feed 67 = .ok (.i2b, 1) := by decide +kernel
theorem dX7_feed_68 : decode cX7_feed 68 = .ok (.bastore, 1) := by decide +kernel
theorem dX7_feed_69 : decode cX7_feed 69 = .ok (.aload_n 0, 1) := by decide +kernel
theorem dX7_feed_70 : decode cX7_feed 70 = .ok (.getfield 10, 3) := by decide +kernel
theorem dX7_feed_73 : decode cX7_feed 73 = .ok (.dup, 1) := by decide +kernel
theorem dX7_feed_74 : decode cX7_feed 74 = .ok (.getfield 139, 3) := by decide +kernel
theorem dX7_feed_77 : decode cX7_feed 77 = .ok (.iconst 1, 1) := by decide +kernel
theorem dX7_feed_78 : decode cX7_feed 78 = .ok (.iadd, 1) := by decide +kernel
theorem dX7_feed_79 : decode cX7_feed 79 = .ok (.putfield 139, 3) := by decide +kernel
theorem dX7_feed_82 : decode cX7_feed 82 = .ok (.iinc 4 1, 3) := by decide +kernel
theorem dX7_feed_85 : decode cX7_feed 85 = .ok (.goto (-46), 3) := by decide +kernel
theorem dX7_feed_88 : decode cX7_feed 88 = .ok (.aload_n 0, 1) := by decide +kernel
theorem dX7_feed_89 : decode cX7_feed 89 = .ok (.getfield 10, 3) := by decide +kernel
theorem dX7_feed_92 : decode cX7_feed 92 = .ok (.getfield 139, 3) := by decide +kernel
theorem dX7_feed_95 : decode cX7_feed 95 = .ok (.ireturn, 1) := by decide +kernel
theorem dX7_text_0 : decode cX7_text 0 = .ok (.iload_n 1, 1) := by decide +kernel
theorem dX7_text_1 : decode cX7_text 1 = .ok (.iconst 0, 1) := by decide +kernel
theorem dX7_text_2 : decode cX7_text 2 = .ok (.iconst 1, 1) := by decide +kernel
theorem dX7_text_3 : decode cX7_text 3 = .ok (.invokestatic 47, 3) := by decide +kernel
theorem dX7_text_6 : decode cX7_text 6 = .ok (.ifCond .ne 9, 3) := by decide +kernel
theorem dX7_text_9 : decode cX7_text 9 = .ok (.aload_n 0, 1) := by decide +kernel
theorem dX7_text_10 : decode cX7_text 10 = .ok (.iconst 1, 1) := by decide +kernel
theorem dX7_text_11 : decode cX7_text 11 = .ok (.invokevirtual 51, 3) := by decide +kernel
theorem dX7_text_14 : decode cX7_text 14 = .ok (.ireturn, 1) := by decide +kernel
theorem dX7_text_15 : decode cX7_text 15 = .ok (.aload_n 0, 1) := by decide +kernel
theorem dX7_text_16 : decode cX7_text 16 = .ok (.getfield 25, 3) := by decide +kernel
theorem dX7_text_19 : decode cX7_text 19 = .ok (.aload_n 0, 1) := by decide +kernel
theorem dX7_text_20 : decode cX7_text 20 = .ok (.getfield 10, 3) := by decide +kernel
theorem dX7_text_23 : decode cX7_text 23 = .ok (.getfield 142, 3) := by decide +kernel
theorem dX7_text_26 : decode cX7_text 26 = .ok (.aload_n 0, 1) := by decide +kernel
theorem dX7_text_27 : decode cX7_text 27 = .ok (.getfield 10, 3) := by decide +kernel
theorem dX7_text_30 : decode cX7_text 30 = .ok (.getfield 139, 3) := by decide +kernel
theorem dX7_text_33 : decode cX7_text 33 = .ok (.iload_n 1, 1) := by decide +kernel
theorem dX7_text_34 : decode cX7_text 34 = .ok (.ifCond .ne 8, 3) := by decide +kernel
theorem dX7_text_37 : decode cX7_text 37 = .ok (.bipush 109, 2) := by decide +kernel
theorem dX7_text_39 : decode cX7_text 39 = .ok (.goto 5, 3) := by decide +kernel
theorem dX7_text_42 : decode cX7_text 42 = .ok (.bipush 100, 2) := by decide +kernel
theorem dX7_text_44 : decode cX7_text 44 = .ok (.invokevirtual 146, 3) := by decide +kernel
theorem dX7_text_47 : decode cX7_text 47 = .ok (.astore_n 2, 1) := by decide +kernel
theorem dX7_text_48 : decode cX7_text 48 = .ok (.aload_n 0, 1) := by decide +kernel
theorem dX7_text_49 : decode cX7_text 49 = .ok (.getfield 10, 3) := by decide +kernel
theorem dX7_text_52 : decode cX7_text 52 = .ok (.iconst 0, 1) := by decide +kernel
theorem dX7_text_53 : decode cX7_text 53 = .ok (.putfield 139, 3) := by decide +kernel
theorem dX7_text_56 : decode cX7_text 56 = .ok (.aload_n 2, 1) := by decide +kernel
theorem dX7_text_57 : decode cX7_text 57 = .ok (.ifnonnull 14, 3) := by decide +kernel
theorem dX7_text_60 : decode cX7_text 60 = .ok (.bipush (-10), 2) := by decide +kernel
theorem dX7_text_62 : decode cX7_text 62 = .ok (.aload_n 0, 1) := by decide +kernel
theorem dX7_text_63 : decode cX7_text 63 = .ok (.getfield 25, 3) := by decide +kernel
theorem dX7_text_66 : decode cX7_text 66 = .ok (.getfield 150, 3) := by decide +kernel
theorem dX7_text_69 : decode cX7_text 69 = .ok (.isub, 1) := by decide +kernel
theorem dX7_text_70 : decode cX7_text 70 = .ok (.ireturn, 1) := by decide +kernel
theorem dX7_text_71 : decode cX7_text 71 = .ok (.aload_n 0, 1) := by decide +kernel
theorem dX7_text_72 : decode cX7_text 72 = .ok (.getfield 10, 3) := by decide +kernel
theorem dX7_text_75 : decode cX7_text 75 = .ok (.getfield 153, 3) := by decide +kernel
theorem dX7_text_78 : decode cX7_text 78 = .ok (.iload_n 1, 1) := by decide +kernel
theorem dX7_text_79 : decode cX7_text 79 = .ok (.aload_n 2, 1) := by decide +kernel
theorem dX7_text_80 : decode cX7_text 80 = .ok (.aastore, 1) := by decide +kernel
theorem dX7_text_81 : decode cX7_text 81 = .ok (.iconst 1, 1) := by decide +kernel
theorem dX7_text_82 : decode cX7_text 82 = .ok (.ireturn, 1) := by decide +kernel
theorem dX7_untell_0 : decode cX7_untell 0 = .ok (.iload_n 1, 1) := by decide +kernel
theorem dX7_untell_1 : decode cX7_untell 1 = .ok (.iconst 0, 1) := by decide +kernel
theorem dX7_untell_2 : decode cX7_untell 2 = .ok (.iconst 1, 1) := by decide +kernel
theorem dX7_untell_3 : decode cX7_untell 3 = .ok (.invokestatic 47, 3) := by decide +kernel
theorem dX7_untell_6 : decode cX7_untell 6 = .ok (.ifCond .ne 9, 3) := by decide +kernel
theorem dX7_untell_9 : decode cX7_untell 9 = .ok (.aload_n 0, 1) := by decide +kernel
theorem dX7_untell_10 : decode cX7_untell 10 = .ok (.iconst 1, 1) := by decide +kernel
theorem dX7_untell_11 : decode cX7_untell 11 = .ok (.invokevirtual 51, 3) := by decide +kernel
theorem dX7_untell_14 : decode cX7_untell 14 = .ok (.ireturn, 1) := by decide +kernel
theorem dX7_untell_15 : decode cX7_untell 15 = .ok (.aload_n 0, 1) := by decide +kernel
theorem dX7_untell_16 : decode cX7_untell 16 = .ok (.getfield 10, 3) := by decide +kernel
theorem dX7_untell_19 : decode cX7_untell 19 = .ok (.getfield 153, 3) := by decide +kernel
theorem dX7_untell_22 : decode cX7_untell 22 = .ok (.iload_n 1, 1) := by decide +kernel
theorem dX7_untell_23 : decode cX7_untell 23 = .ok (.aaload, 1) := by decide +kernel
theorem dX7_untell_24 : decode cX7_untell 24 = .ok (.ifnonnull 7, 3) := by decide +kernel
theorem dX7_untell_27 : decode cX7_untell 27 = .ok (.iconst 0, 1) := by decide +kernel
theorem dX7_untell_28 : decode cX7_untell 28 = .ok (.goto 4, 3) := by decide +kernel
theorem dX7_untell_31 : decode cX7_untell 31 = .ok (.iconst 1, 1) := by decide +kernel
theorem dX7_untell_32 : decode cX7_untell 32 = .ok (.istore_n 2, 1) := by decide +kernel
theorem dX7_untell_33 : decode cX7_untell 33 = .ok (.aload_n 0, 1) := by decide +kernel
theorem dX7_untell_34 : decode cX7_untell 34 = .ok (.getfield 10, 3) := by decide +kernel
theorem dX7_untell_37 : decode cX7_untell 37 = .ok (.getfield 153, 3) := by decide +kernel
theorem dX7_untell_40 : decode cX7_untell 40 = .ok (.iload_n 1, 1) := by decide +kernel
theorem dX7_untell_41 : decode cX7_untell 41 = .ok (.aconst_null, 1) := by decide +kernel
theorem dX7_untell_42 : decode cX7_untell 42 = .ok (.aastore, 1) := by decide +kernel
theorem dX7_untell_43 : decode cX7_untell 43 = .ok (.iload_n 2, 1) := by decide +kernel
theorem dX7_untell_44 : decode cX7_untell 44 = .ok (.ireturn, 1) := by decide +kernel
theorem dX7_days_0 : decode cX7_days 0 = .ok (.iload_n 1, 1) := by decide +kernel
theorem dX7_days_1 : decode cX7_days 1 = .ok (.iconst 1, 1) := by decide +kernel
theorem dX7_days_2 : decode cX7_days 2 = .ok (.bipush 90, 2) := by decide +kernel
theorem dX7_days_4 : decode cX7_days 4 = .ok (.invokestatic 47, 3) := by decide +kernel
theorem dX7_days_7 : decode cX7_days 7 = .ok (.ifCond .ne 9, 3) := by decide +kernel
theorem dX7_days_10 : decode cX7_days 10 = .ok (.aload_n 0, 1) := by decide +kernel
theorem dX7_days_11 : decode cX7_days 11 = .ok (.iconst 1, 1) := by decide +kernel
theorem dX7_days_12 : decode cX7_days 12 = .ok (.invokevirtual 51, 3) := by decide +kernel
theorem dX7_days_15 : decode cX7_days 15 = .ok (.ireturn, 1) := by decide +kernel
theorem dX7_days_16 : decode cX7_days 16 = .ok (.aload_n 0, 1) := by decide +kernel
theorem dX7_days_17 : decode cX7_days 17 = .ok (.getfield 10, 3) := by decide +kernel
theorem dX7_days_20 : decode cX7_days 20 = .ok (.getfield 157, 3) := by decide +kernel
theorem dX7_days_23 : decode cX7_days 23 = .ok (.iload_n 1, 1) := by decide +kernel
theorem dX7_days_24 : decode cX7_days 24 = .ok (.iadd, 1) := by decide +kernel
theorem dX7_days_25 : decode cX7_days 25 = .ok (.sipush 9999, 3) := by decide +kernel
theorem dX7_days_28 : decode cX7_days 28 = .ok (.if_icmp .le 9, 3) := by decide +kernel
theorem dX7_days_31 : decode cX7_days 31 = .ok (.aload_n 0, 1) := by decide +kernel
theorem dX7_days_32 : decode cX7_days 32 = .ok (.iconst 3, 1) := by decide +kernel
theorem dX7_days_33 : decode cX7_days 33 = .ok (.invokevirtual 51, 3) := by decide +kernel
theorem dX7_days_36 : decode cX7_days 36 = .ok (.ireturn, 1) := by decide +kernel
theorem dX7_days_37 : decode cX7_days 37 = .ok (.iconst 0, 1) := by decide +kernel
theorem dX7_days_38 : decode cX7_days 38 = .ok (.istore_n 2, 1) := by decide +kernel
theorem dX7_days_39 : decode cX7_days 39 = .ok (.iconst 0, 1) := by decide +kernel
theorem dX7_days_40 : decode cX7_days 40 = .ok (.istore_n 3, 1) := by decide +kernel
theorem dX7_days_41 : decode cX7_days 41 = .ok (.iload_n 3, 1) := by decide +kernel
theorem dX7_days_42 : decode cX7_days 42 = .ok (.iload_n 1, 1) := by decide +kernel
theorem dX7_days_43 : decode cX7_days 43 = .ok (.if_icmp .ge 19, 3) := by decide +kernel
theorem dX7_days_46 : decode cX7_days 46 = .ok (.iload_n 2, 1) := by decide +kernel
theorem dX7_days_47 : decode cX7_days 47 = .ok (.aload_n 0, 1) := by decide +kernel
theorem dX7_days_48 : decode cX7_days 48 = .ok (.getfield 10, 3) := by decide +kernel
theorem dX7_days_51 : decode cX7_days 51 = .ok (.invokevirtual 160, 3) := by decide +kernel
theorem dX7_days_54 : decode cX7_days 54 = .ok (.iadd, 1) := by decide +kernel
theorem dX7_days_55 : decode cX7_days 55 = .ok (.istore_n 2, 1) := by decide +kernel
theorem dX7_days_56 : decode cX7_days 56 = .ok (.iinc 3 1, 3) := by decide +kernel
theorem dX7_days_59 : decode cX7_days 59 = .ok (.goto (-18), 3) := by decide +kernel
theorem dX7_days_62 : decode cX7_days 62 = .ok (.iload_n 2, 1) := by decide +kernel
theorem dX7_days_63 : decode cX7_days 63 = .ok (.ireturn, 1) := by decide +kernel
theorem dX7_draws_0 : decode cX7_draws 0 = .ok (.iload_n 1, 1) := by decide +kernel
theorem dX7_draws_1 : decode cX7_draws 1 = .ok (.iconst 1, 1) := by decide +kernel
theorem dX7_draws_2 : decode cX7_draws 2 = .ok (.bipush 90, 2) := by decide +kernel
theorem dX7_draws_4 : decode cX7_draws 4 = .ok (.invokestatic 47, 3) := by decide +kernel
theorem dX7_draws_7 : decode cX7_draws 7 = .ok (.ifCond .ne 9, 3) := by decide +kernel
theorem dX7_draws_10 : decode cX7_draws 10 = .ok (.aload_n 0, 1) := by decide +kernel
theorem dX7_draws_11 : decode cX7_draws 11 = .ok (.iconst 1, 1) := by decide +kernel
theorem dX7_draws_12 : decode cX7_draws 12 = .ok (.invokevirtual 51, 3) := by decide +kernel
theorem dX7_draws_15 : decode cX7_draws 15 = .ok (.ireturn, 1) := by decide +kernel
theorem dX7_draws_16 : decode cX7_draws 16 = .ok (.aload_n 0, 1) := by decide +kernel
theorem dX7_draws_17 : decode cX7_draws 17 = .ok (.getfield 10, 3) := by decide +kernel
theorem dX7_draws_20 : decode cX7_draws 20 = .ok (.getfield 157, 3) := by decide +kernel
theorem dX7_draws_23 : decode cX7_draws 23 = .ok (.iload_n 1, 1) := by decide +kernel
theorem dX7_draws_24 : decode cX7_draws 24 = .ok (.iadd, 1) := by decide +kernel
theorem dX7_draws_25 : decode cX7_draws 25 = .ok (.sipush 9999, 3) := by decide +kernel
theorem dX7_draws_28 : decode cX7_draws 28 = .ok (.if_icmp .le 9, 3) := by decide +kernel
theorem dX7_draws_31 : decode cX7_draws 31 = .ok (.aload_n 0, 1) := by decide +kernel
theorem dX7_draws_32 : decode cX7_draws 32 = .ok (.iconst 3, 1) := by decide +kernel
theorem dX7_draws_33 : decode cX7_draws 33 = .ok (.invokevirtual 51, 3) := by decide +kernel
theorem dX7_draws_36 : decode cX7_draws 36 = .ok (.ireturn, 1) := by decide +kernel
theorem dX7_draws_37 : decode cX7_draws 37 = .ok (.iconst 0, 1) := by decide +kernel
theorem dX7_draws_38 : decode cX7_draws 38 = .ok (.istore_n 2, 1) := by decide +kernel
theorem dX7_draws_39 : decode cX7_draws 39 = .ok (.iconst 0, 1) := by decide +kernel
theorem dX7_draws_40 : decode cX7_draws 40 = .ok (.istore_n 3, 1) := by decide +kernel
theorem dX7_draws_41 : decode cX7_draws 41 = .ok (.iload_n 3, 1) := by decide +kernel
theorem dX7_draws_42 : decode cX7_draws 42 = .ok (.iload_n 1, 1) := by decide +kernel
theorem dX7_draws_43 : decode cX7_draws 43 = .ok (.if_icmp .ge 19, 3) := by decide +kernel
theorem dX7_draws_46 : decode cX7_draws 46 = .ok (.iload_n 2, 1) := by decide +kernel
theorem dX7_draws_47 : decode cX7_draws 47 = .ok (.aload_n 0, 1) := by decide +kernel
theorem dX7_draws_48 : decode cX7_draws 48 = .ok (.getfield 10, 3) := by decide +kernel
theorem dX7_draws_51 : decode cX7_draws 51 = .ok (.invokevirtual 164, 3) := by decide +kernel
theorem dX7_draws_54 : decode cX7_draws 54 = .ok (.iadd, 1) := by decide +kernel
theorem dX7_draws_55 : decode cX7_draws 55 = .ok (.istore_n 2, 1) := by decide +kernel
theorem dX7_draws_56 : decode cX7_draws 56 = .ok (.iinc 3 1, 3) := by decide +kernel
theorem dX7_draws_59 : decode cX7_draws 59 = .ok (.goto (-18), 3) := by decide +kernel
theorem dX7_draws_62 : decode cX7_draws 62 = .ok (.iload_n 2, 1) := by decide +kernel
theorem dX7_draws_63 : decode cX7_draws 63 = .ok (.ireturn, 1) := by decide +kernel
theorem dX7_misheard_0 : decode cX7_misheard 0 = .ok (.iload_n 1, 1) := by decide +kernel
theorem dX7_misheard_1 : decode cX7_misheard 1 = .ok (.iconst 0, 1) := by decide +kernel
theorem dX7_misheard_2 : decode cX7_misheard 2 = .ok (.bipush 16, 2) := by decide +kernel
theorem dX7_misheard_4 : decode cX7_misheard 4 = .ok (.invokestatic 47, 3) := by decide +kernel
theorem dX7_misheard_7 : decode cX7_misheard 7 = .ok (.ifCond .ne 9, 3) := by decide +kernel
theorem dX7_misheard_10 : decode cX7_misheard 10 = .ok (.aload_n 0, 1) := by decide +kernel
theorem dX7_misheard_11 : decode cX7_misheard 11 = .ok (.iconst 1, 1) := by decide +kernel
theorem dX7_misheard_12 : decode cX7_misheard 12 = .ok (.invokevirtual 51, 3) := by decide +kernel
theorem dX7_misheard_15 : decode cX7_misheard 15 = .ok (.ireturn, 1) := by decide +kernel
theorem dX7_misheard_16 : decode cX7_misheard 16 = .ok (.aload_n 0, 1) := by decide +kernel
theorem dX7_misheard_17 : decode cX7_misheard 17 = .ok (.getfield 10, 3) := by decide +kernel
theorem dX7_misheard_20 : decode cX7_misheard 20 = .ok (.getfield 167, 3) := by decide +kernel
theorem dX7_misheard_23 : decode cX7_misheard 23 = .ok (.istore_n 2, 1) := by decide +kernel
theorem dX7_misheard_24 : decode cX7_misheard 24 = .ok (.aload_n 0, 1) := by decide +kernel
theorem dX7_misheard_25 : decode cX7_misheard 25 = .ok (.getfield 10, 3) := by decide +kernel
theorem dX7_misheard_28 : decode cX7_misheard 28 = .ok (.iload_n 1, 1) := by decide +kernel
theorem dX7_misheard_29 : decode cX7_misheard 29 = .ok (.putfield 167, 3) := by decide +kernel
theorem dX7_misheard_32 : decode cX7_misheard 32 = .ok (.iload_n 2, 1) := by decide +kernel
theorem dX7_misheard_33 : decode cX7_misheard 33 = .ok (.ireturn, 1) := by decide +kernel
theorem dX7_seed_0 : decode cX7_seed 0 = .ok (.aload_n 0, 1) := by decide +kernel
theorem dX7_seed_1 : decode cX7_seed 1 = .ok (.getfield 10, 3) := by decide +kernel
theorem dX7_seed_4 : decode cX7_seed 4 = .ok (.getfield 170, 3) := by decide +kernel
theorem dX7_seed_7 : decode cX7_seed 7 = .ok (.istore_n 2, 1) := by decide +kernel
theorem dX7_seed_8 : decode cX7_seed 8 = .ok (.aload_n 0, 1) := by decide +kernel
theorem dX7_seed_9 : decode cX7_seed 9 = .ok (.getfield 10, 3) := by decide +kernel
theorem dX7_seed_12 : decode cX7_seed 12 = .ok (.iload_n 1, 1) := by decide +kernel
theorem dX7_seed_13 : decode cX7_seed 13 = .ok (.putfield 170, 3) := by decide +kernel
theorem dX7_seed_16 : decode cX7_seed 16 = .ok (.iload_n 2, 1) := by decide +kernel
theorem dX7_seed_17 : decode cX7_seed 17 = .ok (.ireturn, 1) := by decide +kernel
theorem dX7_then_0 : decode cX7_then 0 = .ok (.iload_n 1, 1) := by decide +kernel
theorem dX7_then_1 : decode cX7_then 1 = .ok (.iconst 0, 1) := by decide +kernel
theorem dX7_then_2 : decode cX7_then 2 = .ok (.bipush 90, 2) := by decide +kernel
theorem dX7_then_4 : decode cX7_then 4 = .ok (.invokestatic 47, 3) := by decide +kernel
theorem dX7_then_7 : decode cX7_then 7 = .ok (.ifCond .eq 21, 3) := by decide +kernel
theorem dX7_then_10 : decode cX7_then 10 = .ok (.aload_n 0, 1) := by decide +kernel
theorem dX7_then_11 : decode cX7_then 11 = .ok (.iload_n 2, 1) := by decide +kernel
theorem dX7_then_12 : decode cX7_then 12 = .ok (.invokevirtual 62, 3) := by decide +kernel
theorem dX7_then_15 : decode cX7_then 15 = .ok (.ifCond .eq 13, 3) := by decide +kernel
theorem dX7_then_18 : decode cX7_then 18 = .ok (.iload_n 3, 1) := by decide +kernel
theorem dX7_then_19 : decode cX7_then 19 = .ok (.iconst 0, 1) := by decide +kernel
theorem dX7_then_20 : decode cX7_then 20 = .ok (.bipush 23, 2) := by decide +kernel
theorem dX7_then_22 : decode cX7_then 22 = .ok (.invokestatic 47, 3) := by decide +kernel
theorem dX7_then_25 : decode cX7_then 25 = .ok (.ifCond .ne 9, 3) := by decide +kernel
theorem dX7_then_28 : decode cX7_then 28 = .ok (.aload_n 0, 1) := by decide +kernel
theorem dX7_then_29 : decode cX7_then 29 = .ok (.iconst 1, 1) := by decide +kernel
theorem dX7_then_30 : decode cX7_then 30 = .ok (.invokevirtual 51, 3) := by decide +kernel
theorem dX7_then_33 : decode cX7_then 33 = .ok (.ireturn, 1) := by decide +kernel
theorem dX7_then_34 : decode cX7_then 34 = .ok (.aload_n 0, 1) := by decide +kernel
theorem dX7_then_35 : decode cX7_then 35 = .ok (.iload_n 1, 1) := by decide +kernel
theorem dX7_then_36 : decode cX7_then 36 = .ok (.invokevirtual 173, 3) := by decide +kernel
theorem dX7_then_39 : decode cX7_then 39 = .ok (.aload_n 0, 1) := by decide +kernel
theorem dX7_then_40 : decode cX7_then 40 = .ok (.getfield 19, 3) := by decide +kernel
theorem dX7_then_43 : decode cX7_then 43 = .ok (.iload_n 2, 1) := by decide +kernel
theorem dX7_then_44 : decode cX7_then 44 = .ok (.iload_n 3, 1) := by decide +kernel
theorem dX7_then_45 : decode cX7_then 45 = .ok (.invokevirtual 66, 3) := by decide +kernel
theorem dX7_then_48 : decode cX7_then 48 = .ok (.ireturn, 1) := by decide +kernel
theorem dX7_thenTask_0 : decode cX7_thenTask 0 = .ok (.iload_n 1, 1) := by decide +kernel
theorem dX7_thenTask_1 : decode cX7_thenTask 1 = .ok (.iconst 0, 1) := by decide +kernel
theorem dX7_thenTask_2 : decode cX7_thenTask 2 = .ok (.bipush 90, 2) := by decide +kernel
theorem dX7_thenTask_4 : decode cX7_thenTask 4 = .ok (.invokestatic 47, 3) := by decide +kernel
theorem dX7_thenTask_7 : decode cX7_thenTask 7 = .ok (.ifCond .eq 21, 3) := by decide +kernel
theorem dX7_thenTask_10 : decode cX7_thenTask 10 = .ok (.iload_n 2, 1) := by decide +kernel
theorem dX7_thenTask_11 : decode cX7_thenTask 11 = .ok (.iconst 0, 1) := by decide +kernel
theorem dX7_thenTask_12 : decode cX7_thenTask 12 = .ok (.iconst 3, 1) := by decide +kernel
theorem dX7_thenTask_13 : decode cX7_thenTask 13 = .ok (.invokestatic 47, 3) := by decide +kernel
theorem dX7_thenTask_16 : decode cX7_thenTask 16 = .ok (.ifCond .eq 12, 3) := by decide +kernel
theorem dX7_thenTask_19 : decode cX7_thenTask 19 = .ok (.iload_n 3, 1) := by decide +kernel
theorem dX7_thenTask_20 : decode cX7_thenTask 20 = .ok (.iconst 0, 1) := by decide +kernel
theorem dX7_thenTask_21 : decode cX7_thenTask 21 = .ok (.iconst 4, 1) := by decide +kernel
theorem dX7_thenTask_22 : decode cX7_thenTask 22 = .ok (.invokestatic 47, 3) := by decide +kernel
theorem dX7_thenTask_25 : decode cX7_thenTask 25 = .ok (.ifCond .ne 9, 3) := by decide +kernel
theorem dX7_thenTask_28 : decode cX7_thenTask 28 = .ok (.aload_n 0, 1) := by decide +kernel
theorem dX7_thenTask_29 : decode cX7_thenTask 29 = .ok (.iconst 1, 1) := by decide +kernel
theorem dX7_thenTask_30 : decode cX7_thenTask 30 = .ok (.invokevirtual 51, 3) := by decide +kernel
theorem dX7_thenTask_33 : decode cX7_thenTask 33 = .ok (.ireturn, 1) := by decide +kernel
theorem dX7_thenTask_34 : decode cX7_thenTask 34 = .ok (.aload_n 0, 1) := by decide +kernel
theorem dX7_thenTask_35 : decode cX7_thenTask 35 = .ok (.iload_n 1, 1) := by decide +kernel
theorem dX7_thenTask_36 : decode cX7_thenTask 36 = .ok (.invokevirtual 173, 3) := by decide +kernel
theorem dX7_thenTask_39 : decode cX7_thenTask 39 = .ok (.aload_n 0, 1) := by decide +kernel
theorem dX7_thenTask_40 : decode cX7_thenTask 40 = .ok (.getfield 19, 3) := by decide +kernel
theorem dX7_thenTask_43 : decode cX7_thenTask 43 = .ok (.iload_n 2, 1) := by decide +kernel
theorem dX7_thenTask_44 : decode cX7_thenTask 44 = .ok (.iload_n 3, 1) := by decide +kernel
theorem dX7_thenTask_45 : decode cX7_thenTask 45 = .ok (.invokevirtual 136, 3) := by decide +kernel
theorem dX7_thenTask_48 : decode cX7_thenTask 48 = .ok (.ireturn, 1) := by decide +kernel
theorem dX7_lost_0 : decode cX7_lost 0 = .ok (.iload_n 1, 1) := by decide +kernel
theorem dX7_lost_1 : decode cX7_lost 1 = .ok (.invokestatic 95, 3) := by decide +kernel
theorem dX7_lost_4 : decode cX7_lost 4 = .ok (.ifCond .eq 13, 3) := by decide +kernel
theorem dX7_lost_7 : decode cX7_lost 7 = .ok (.iload_n 2, 1) := by decide +kernel
theorem dX7_lost_8 : decode cX7_lost 8 = .ok (.iconst 0, 1) := by decide +kernel
theorem dX7_lost_9 : decode cX7_lost 9 = .ok (.bipush 90, 2) := by decide +kernel
theorem dX7_lost_11 : decode cX7_lost 11 = .ok (.invokestatic 47, 3) := by decide +kernel
theorem dX7_lost_14 : decode cX7_lost 14 = .ok (.ifCond .ne 9, 3) := by decide +kernel
theorem dX7_lost_17 : decode cX7_lost 17 = .ok (.aload_n 0, 1) := by decide +kernel
theorem dX7_lost_18 : decode cX7_lost 18 = .ok (.iconst 1, 1) := by decide +kernel
theorem dX7_lost_19 : decode cX7_lost 19 = .ok (.invokevirtual 51, 3) := by decide +kernel
theorem dX7_lost_22 : decode cX7_lost 22 = .ok (.ireturn, 1) := by decide +kernel
theorem dX7_lost_23 : decode cX7_lost 23 = .ok (.aload_n 0, 1) := by decide +kernel
theorem dX7_lost_24 : decode cX7_lost 24 = .ok (.iconst 0, 1) := by decide +kernel
theorem dX7_lost_25 : decode cX7_lost 25 = .ok (.invokevirtual 173, 3) := by decide +kernel
theorem dX7_lost_28 : decode cX7_lost 28 = .ok (.iconst 0, 1) := by decide +kernel
theorem dX7_lost_29 : decode cX7_lost 29 = .ok (.istore_n 3, 1) := by decide +kernel
theorem dX7_lost_30 : decode cX7_lost 30 = .ok (.iload_n 3, 1) := by decide +kernel
theorem dX7_lost_31 : decode cX7_lost 31 = .ok (.iload_n 2, 1) := by decide +kernel
theorem dX7_lost_32 : decode cX7_lost 32 = .ok (.if_icmp .gt 30, 3) := by decide +kernel
theorem dX7_lost_35 : decode cX7_lost 35 = .ok (.aload_n 0, 1) := by decide +kernel
theorem dX7_lost_36 : decode cX7_lost 36 = .ok (.getfield 19, 3) := by decide +kernel
theorem dX7_lost_39 : decode cX7_lost 39 = .ok (.iload_n 1, 1) := by decide +kernel
theorem dX7_lost_40 : decode cX7_lost 40 = .ok (.invokevirtual 176, 3) := by decide +kernel
theorem dX7_lost_43 : decode cX7_lost 43 = .ok (.ifCond .ne 5, 3) := by decide +kernel
theorem dX7_lost_46 : decode cX7_lost 46 = .ok (.iload_n 3, 1) := by decide +kernel
theorem dX7_lost_47 : decode cX7_lost 47 = .ok (.ireturn, 1) := by decide +kernel
theorem dX7_lost_48 : decode cX7_lost 48 = .ok (.aload_n 0, 1) := by decide +kernel
theorem dX7_lost_49 : decode cX7_lost 49 = .ok (.getfield 19, 3) := by decide +kernel
theorem dX7_lost_52 : decode cX7_lost 52 = .ok (.invokevirtual 160, 3) := by decide +kernel
theorem dX7_lost_55 : decode cX7_lost 55 = .ok (.pop, 1) := by decide +kernel
theorem dX7_lost_56 : decode cX7_lost 56 = .ok (.iinc 3 1, 3) := by decide +kernel
theorem dX7_lost_59 : decode cX7_lost 59 = .ok (.goto (-29), 3) := by decide +kernel
theorem dX7_lost_62 : decode cX7_lost 62 = .ok (.aload_n 0, 1) := by decide +kernel
theorem dX7_lost_63 : decode cX7_lost 63 = .ok (.iconst 2, 1) := by decide +kernel
theorem dX7_lost_64 : decode cX7_lost 64 = .ok (.invokevirtual 51, 3) := by decide +kernel
theorem dX7_lost_67 : decode cX7_lost 67 = .ok (.ireturn, 1) := by decide +kernel
theorem dX7_teachers_0 : decode cX7_teachers 0 = .ok (.iload_n 1, 1) := by decide +kernel
theorem dX7_teachers_1 : decode cX7_teachers 1 = .ok (.invokestatic 95, 3) := by decide +kernel
theorem dX7_teachers_4 : decode cX7_teachers 4 = .ok (.ifCond .eq 22, 3) := by decide +kernel
theorem dX7_teachers_7 : decode cX7_teachers 7 = .ok (.iload_n 2, 1) := by decide +kernel
theorem dX7_teachers_8 : decode cX7_teachers 8 = .ok (.iconst 1, 1) := by decide +kernel
theorem dX7_teachers_9 : decode cX7_teachers 9 = .ok (.bipush 30, 2) := by decide +kernel
theorem dX7_teachers_11 : decode cX7_teachers 11 = .ok (.invokestatic 47, 3) := by decide +kernel
theorem dX7_teachers_14 : decode cX7_teachers 14 = .ok (.ifCond .eq 12, 3) := by decide +kernel
theorem dX7_teachers_17 : decode cX7_teachers 17 = .ok (.iload_n 3, 1) := by decide +kernel
theorem dX7_teachers_18 : decode cX7_teachers 18 = .ok (.iconst 0, 1) := by decide +kernel
theorem dX7_teachers_19 : decode cX7_teachers 19 = .ok (.iconst 1, 1) := by decide +kernel
theorem dX7_teachers_20 : decode cX7_teachers 20 = .ok (.invokestatic 47, 3) := by decide +kernel
theorem dX7_teachers_23 : decode cX7_teachers 23 = .ok (.ifCond .ne 9, 3) := by decide +kernel
theorem dX7_teachers_26 : decode cX7_teachers 26 = .ok (.aload_n 0, 1) := by decide +kernel
theorem dX7_teachers_27 : decode cX7_teachers 27 = .ok (.iconst 1, 1) := by decide +kernel
theorem dX7_teachers_28 : decode cX7_teachers 28 = .ok (.invokevirtual 51, 3) := by decide +kernel
theorem dX7_teachers_31 : decode cX7_teachers 31 = .ok (.ireturn, 1) := by decide +kernel
theorem dX7_teachers_32 : decode cX7_teachers 32 = .ok (.iconst (-1), 1) := by decide +kernel
theorem dX7_teachers_33 : decode cX7_teachers 33 = .ok (.istore 4, 2) := by decide +kernel
theorem dX7_teachers_35 : decode cX7_teachers 35 = .ok (.iconst 0, 1) := by decide +kernel
theorem dX7_teachers_36 : decode cX7_teachers 36 = .ok (.istore 5, 2) := by decide +kernel
theorem dX7_teachers_38 : decode cX7_teachers 38 = .ok (.iload 5, 2) := by decide +kernel
theorem dX7_teachers_40 : decode cX7_teachers 40 = .ok (.iconst 1, 1) := by decide +kernel
theorem dX7_teachers_41 : decode cX7_teachers 41 = .ok (.aload_n 0, 1) := by decide +kernel
theorem dX7_teachers_42 : decode cX7_teachers 42 = .ok (.getfield 10, 3) := by decide +kernel
theorem dX7_teachers_45 : decode cX7_teachers 45 = .ok (.getfield 55, 3) := by decide +kernel
theorem dX7_teachers_48 : decode cX7_teachers 48 = .ok (.ishl, 1) := by decide +kernel
theorem dX7_teachers_49 : decode cX7_teachers 49 = .ok (.if_icmp .ge 54, 3) := by decide +kernel
theorem dX7_teachers_52 : decode cX7_teachers 52 = .ok (.iload 4, 2) := by decide +kernel
theorem dX7_teachers_54 : decode cX7_teachers 54 = .ok (.ifCond .lt 16, 3) := by decide +kernel
theorem dX7_teachers_57 : decode cX7_teachers 57 = .ok (.iload 5, 2) := by decide +kernel
theorem dX7_teachers_59 : decode cX7_teachers 59 = .ok (.invokestatic 179, 3) := by decide +kernel
theorem dX7_teachers_62 : decode cX7_teachers 62 = .ok (.iload 4, 2) := by decide +kernel
theorem dX7_teachers_64 : decode cX7_teachers 64 = .ok (.invokestatic 179, 3) := by decide +kernel
theorem dX7_teachers_67 : decode cX7_teachers 67 = .ok (.if_icmp .ge 7, 3) := by decide +kernel
theorem dX7_teachers_70 : decode cX7_teachers 70 = .ok (.iconst 1, 1) := by decide +kernel
theorem dX7_teachers_71 : decode cX7_teachers 71 = .ok (.goto 4, 3) := by decide +kernel
theorem dX7_teachers_74 : decode cX7_teachers 74 = .ok (.iconst 0, 1) := by decide +kernel
theorem dX7_teachers_75 : decode cX7_teachers 75 = .ok (.istore 6, 2) := by decide +kernel
theorem dX7_teachers_77 : decode cX7_teachers 77 = .ok (.iload 6, 2) := by decide +kernel
theorem dX7_teachers_79 : decode cX7_teachers 79 = .ok (.ifCond .eq 18, 3) := by decide +kernel
theorem dX7_teachers_82 : decode cX7_teachers 82 = .ok (.aload_n 0, 1) := by decide +kernel
theorem dX7_teachers_83 : decode cX7_teachers 83 = .ok (.iload_n 1, 1) := by decide +kernel
theorem dX7_teachers_84 : decode cX7_teachers 84 = .ok (.iload_n 2, 1) := by decide +kernel
theorem dX7_teachers_85 : decode cX7_teachers 85 = .ok (.iload 5, 2) := by decide +kernel
theorem dX7_teachers_87 : decode cX7_teachers 87 = .ok (.invokevirtual 184, 3) := by decide +kernel
theorem dX7_teachers_90 : decode cX7_teachers 90 = .ok (.ifCond .eq 7, 3) := by decide +kernel
theorem dX7_teachers_93 : decode cX7_teachers 93 = .ok (.iload 5, 2) := by decide +kernel
theorem dX7_teachers_95 : decode cX7_teachers 95 = .ok (.istore 4, 2) := by decide +kernel
theorem dX7_teachers_97 : decode cX7_teachers 97 = .ok (.iinc 5 1, 3) := by decide +kernel
theorem dX7_teachers_100 : decode cX7_teachers 100 = .ok (.goto (-62), 3) := by decide +kernel
theorem dX7_teachers_103 : decode cX7_teachers 103 = .ok (.iload 4, 2) := by decide +kernel
theorem dX7_teachers_105 : decode cX7_teachers 105 = .ok (.ifCond .ge 9, 3) := by decide +kernel
theorem dX7_teachers_108 : decode cX7_teachers 108 = .ok (.aload_n 0, 1) := by decide +kernel
theorem dX7_teachers_109 : decode cX7_teachers 109 = .ok (.iconst 2, 1) := by decide +kernel
theorem dX7_teachers_110 : decode cX7_teachers 110 = .ok (.invokevirtual 51, 3) := by decide +kernel
theorem dX7_teachers_113 : decode cX7_teachers 113 = .ok (.ireturn, 1) := by decide +kernel
theorem dX7_teachers_114 : decode cX7_teachers 114 = .ok (.iload_n 3, 1) := by decide +kernel
theorem dX7_teachers_115 : decode cX7_teachers 115 = .ok (.ifCond .ne 11, 3) := by decide +kernel
theorem dX7_teachers_118 : decode cX7_teachers 118 = .ok (.iload 4, 2) := by decide +kernel
theorem dX7_teachers_120 : decode cX7_teachers 120 = .ok (.invokestatic 179, 3) := by decide +kernel
theorem dX7_teachers_123 : decode cX7_teachers 123 = .ok (.goto 5, 3) := by decide +kernel
theorem dX7_teachers_126 : decode cX7_teachers 126 = .ok (.iload 4, 2) := by decide +kernel
theorem dX7_teachers_128 : decode cX7_teachers 128 = .ok (.ireturn, 1) := by decide +kernel
theorem dX7_storm_0 : decode cX7_storm 0 = .ok (.iload_n 1, 1) := by decide +kernel
theorem dX7_storm_1 : decode cX7_storm 1 = .ok (.iconst 0, 1) := by decide +kernel
theorem dX7_storm_2 : decode cX7_storm 2 = .ok (.iconst 1, 1) := by decide +kernel
theorem dX7_storm_3 : decode cX7_storm 3 = .ok (.invokestatic 47, 3) := by decide +kernel
theorem dX7_storm_6 : decode cX7_storm 6 = .ok (.ifCond .ne 9, 3) := by decide +kernel
theorem dX7_storm_9 : decode cX7_storm 9 = .ok (.aload_n 0, 1) := by decide +kernel
theorem dX7_storm_10 : decode cX7_storm 10 = .ok (.iconst 1, 1) := by decide +kernel
theorem dX7_storm_11 : decode cX7_storm 11 = .ok (.invokevirtual 51, 3) := by decide +kernel
theorem dX7_storm_14 : decode cX7_storm 14 = .ok (.ireturn, 1) := by decide +kernel
theorem dX7_storm_15 : decode cX7_storm 15 = .ok (.iconst 0, 1) := by decide +kernel
theorem dX7_storm_16 : decode cX7_storm 16 = .ok (.istore_n 2, 1) := by decide +kernel
theorem dX7_storm_17 : decode cX7_storm 17 = .ok (.iconst (-1), 1) := by decide +kernel
theorem dX7_storm_18 : decode cX7_storm 18 = .ok (.istore_n 3, 1) := by decide +kernel
theorem dX7_storm_19 : decode cX7_storm 19 = .ok (.iconst 0, 1) := by decide +kernel
theorem dX7_storm_20 : decode cX7_storm 20 = .ok (.istore 4, 2) := by decide +kernel
theorem dX7_storm_22 : decode cX7_storm 22 = .ok (.iload 4, 2) := by decide +kernel
theorem dX7_storm_24 : decode cX7_storm 24 = .ok (.aload_n 0, 1) := by decide +kernel
theorem dX7_storm_25 : decode cX7_storm 25 = .ok (.getfield 10, 3) := by decide +kernel
theorem dX7_storm_28 : decode cX7_storm 28 = .ok (.getfield 55, 3) := by decide +kernel
theorem dX7_storm_31 : decode cX7_storm 31 = .ok (.if_icmp .ge 67, 3) := by decide +kernel
theorem dX7_storm_34 : decode cX7_storm 34 = .ok (.iload 4, 2) := by decide +kernel
theorem dX7_storm_36 : decode cX7_storm 36 = .ok (.iconst 1, 1) := by decide +kernel
theorem dX7_storm_37 : decode cX7_storm 37 = .ok (.iadd, 1) := by decide +kernel
theorem dX7_storm_38 : decode cX7_storm 38 = .ok (.istore 5, 2) := by decide +kernel
theorem dX7_storm_40 : decode cX7_storm 40 = .ok (.iload 5, 2) := by decide +kernel
theorem dX7_storm_42 : decode cX7_storm 42 = .ok (.aload_n 0, 1) := by decide +kernel
theorem dX7_storm_43 : decode cX7_storm 43 = .ok (.getfield 10, 3) := by decide +kernel
theorem dX7_storm_46 : decode cX7_storm 46 = .ok (.getfield 55, 3) := by decide +kernel
theorem dX7_storm_49 : decode cX7_storm 49 = .ok (.if_icmp .ge 43, 3) := by decide +kernel
theorem dX7_storm_52 : decode cX7_storm 52 = .ok (.aload_n 0, 1) := by decide +kernel
theorem dX7_storm_53 : decode cX7_storm 53 = .ok (.getfield 10, 3) := by decide +kernel
theorem dX7_storm_56 : decode cX7_storm 56 = .ok (.iload 4, 2) := by decide +kernel
theorem dX7_storm_58 : decode cX7_storm 58 = .ok (.iload 5, 2) := by decide +kernel
theorem dX7_storm_60 : decode cX7_storm 60 = .ok (.invokevirtual 187, 3) := by decide +kernel
theorem dX7_storm_63 : decode cX7_storm 63 = .ok (.ifCond .eq 23, 3) := by decide +kernel
theorem dX7_storm_66 : decode cX7_storm 66 = .ok (.iinc 2 1, 3) := by decide +kernel
theorem dX7_storm_69 : decode cX7_storm 69 = .ok (.iload_n 3, 1) := by decide +kernel
theorem dX7_storm_70 : decode cX7_storm 70 = .ok (.ifCond .ge 14, 3) := by decide +kernel
theorem dX7_storm_73 : decode cX7_storm 73 = .ok (.bipush 10, 2) := by decide +kernel
theorem dX7_storm_75 : decode cX7_storm 75 = .ok (.iload 4, 2) := by decide +kernel
theorem dX7_storm_77 : decode cX7_storm 77 = .ok (.imul, 1) := by decide +kernel
theorem dX7_storm_78 : decode cX7_storm 78 = .ok (.iload 5, 2) := by decide +kernel
theorem dX7_storm_80 : decode cX7_storm 80 = .ok (.iadd, 1) := by decide +kernel
theorem dX7_storm_81 : decode cX7_storm 81 = .ok (.goto 4, 3) := by decide +kernel
theorem dX7_storm_84 : decode cX7_storm 84 = .ok (.iload_n 3, 1) := by decide +kernel
theorem dX7_storm_85 : decode cX7_storm 85 = .ok (.istore_n 3, 1) := by decide +kernel
theorem dX7_storm_86 : decode cX7_storm 86 = .ok (.iinc 5 1, 3) := by decide +kernel
theorem dX7_storm_89 : decode cX7_storm 89 = .ok (.goto (-49), 3) := by decide +kernel
theorem dX7_storm_92 : decode cX7_storm 92 = .ok (.iinc 4 1, 3) := by decide +kernel
theorem dX7_storm_95 : decode cX7_storm 95 = .ok (.goto (-73), 3) := by decide +kernel
theorem dX7_storm_98 : decode cX7_storm 98 = .ok (.iload_n 1, 1) := by decide +kernel
theorem dX7_storm_99 : decode cX7_storm 99 = .ok (.ifCond .ne 5, 3) := by decide +kernel
theorem dX7_storm_102 : decode cX7_storm 102 = .ok (.iload_n 2, 1) := by decide +kernel
theorem dX7_storm_103 : decode cX7_storm 103 = .ok (.ireturn, 1) := by decide +kernel
theorem dX7_storm_104 : decode cX7_storm 104 = .ok (.iload_n 3, 1) := by decide +kernel
theorem dX7_storm_105 : decode cX7_storm 105 = .ok (.ifCond .ge 11, 3) := by decide +kernel
theorem dX7_storm_108 : decode cX7_storm 108 = .ok (.aload_n 0, 1) := by decide +kernel
theorem dX7_storm_109 : decode cX7_storm 109 = .ok (.iconst 2, 1) := by decide +kernel
theorem dX7_storm_110 : decode cX7_storm 110 = .ok (.invokevirtual 51, 3) := by decide +kernel
theorem dX7_storm_113 : decode cX7_storm 113 = .ok (.goto 4, 3) := by decide +kernel
theorem dX7_storm_116 : decode cX7_storm 116 = .ok (.iload_n 3, 1) := by decide +kernel
theorem dX7_storm_117 : decode cX7_storm 117 = .ok (.ireturn, 1) := by decide +kernel
theorem dX7_saves_0 : decode cX7_saves 0 = .ok (.iload_n 1, 1) := by decide +kernel
theorem dX7_saves_1 : decode cX7_saves 1 = .ok (.invokestatic 95, 3) := by decide +kernel
theorem dX7_saves_4 : decode cX7_saves 4 = .ok (.ifCond .eq 13, 3) := by decide +kernel
theorem dX7_saves_7 : decode cX7_saves 7 = .ok (.iload_n 2, 1) := by decide +kernel
theorem dX7_saves_8 : decode cX7_saves 8 = .ok (.iconst 0, 1) := by decide +kernel
theorem dX7_saves_9 : decode cX7_saves 9 = .ok (.bipush 90, 2) := by decide +kernel
theorem dX7_saves_11 : decode cX7_saves 11 = .ok (.invokestatic 47, 3) := by decide +kernel
theorem dX7_saves_14 : decode cX7_saves 14 = .ok (.ifCond .ne 9, 3) := by decide +kernel
theorem dX7_saves_17 : decode cX7_saves 17 = .ok (.aload_n 0, 1) := by decide +kernel
theorem dX7_saves_18 : decode cX7_saves 18 = .ok (.iconst 1, 1) := by decide +kernel
theorem dX7_saves_19 : decode cX7_saves 19 = .ok (.invokevirtual 51, 3) := by decide +kernel
theorem dX7_saves_22 : decode cX7_saves 22 = .ok (.ireturn, 1) := by decide +kernel
theorem dX7_saves_23 : decode cX7_saves 23 = .ok (.iconst 1, 1) := by decide +kernel
theorem dX7_saves_24 : decode cX7_saves 24 = .ok (.iload_n 1, 1) := by decide +kernel
theorem dX7_saves_25 : decode cX7_saves 25 = .ok (.ishl, 1) := by decide +kernel
theorem dX7_saves_26 : decode cX7_saves 26 = .ok (.istore_n 3, 1) := by decide +kernel
theorem dX7_saves_27 : decode cX7_saves 27 = .ok (.aload_n 0, 1) := by decide +kernel
theorem dX7_saves_28 : decode cX7_saves 28 = .ok (.aload_n 0, 1) := by decide +kernel
theorem dX7_saves_29 : decode cX7_saves 29 = .ok (.getfield 10, 3) := by decide +kernel
theorem dX7_saves_32 : decode cX7_saves 32 = .ok (.getfield 121, 3) := by decide +kernel
theorem dX7_saves_35 : decode cX7_saves 35 = .ok (.iload_n 3, 1) := by decide +kernel
theorem dX7_saves_36 : decode cX7_saves 36 = .ok (.ior, 1) := by decide +kernel
theorem dX7_saves_37 : decode cX7_saves 37 = .ok (.iload_n 2, 1) := by decide +kernel
theorem dX7_saves_38 : decode cX7_saves 38 = .ok (.invokevirtual 190, 3) := by decide +kernel
theorem dX7_saves_41 : decode cX7_saves 41 = .ok (.aload_n 0, 1) := by decide +kernel
theorem dX7_saves_42 : decode cX7_saves 42 = .ok (.aload_n 0, 1) := by decide +kernel
theorem dX7_saves_43 : decode cX7_saves 43 = .ok (.getfield 10, 3) := by decide +kernel
theorem dX7_saves_46 : decode cX7_saves 46 = .ok (.getfield 121, 3) := by decide +kernel
theorem dX7_saves_49 : decode cX7_saves 49 = .ok (.iload_n 3, 1) := by decide +kernel
theorem dX7_saves_50 : decode cX7_saves 50 = .ok (.iconst (-1), 1) := by decide +kernel
theorem dX7_saves_51 : decode cX7_saves 51 = .ok (.ixor, 1) := by decide +kernel
theorem dX7_saves_52 : decode cX7_saves 52 = .ok (.iand, 1) := by decide +kernel
theorem dX7_saves_53 : decode cX7_saves 53 = .ok (.iload_n 2, 1) := by decide +kernel
theorem dX7_saves_54 : decode cX7_saves 54 = .ok (.invokevirtual 190, 3) := by decide +kernel
theorem dX7_saves_57 : decode cX7_saves 57 = .ok (.isub, 1) := by decide +kernel
theorem dX7_saves_58 : decode cX7_saves 58 = .ok (.ireturn, 1) := by decide +kernel
theorem dX7_changes_0 : decode cX7_changes 0 = .ok (.iload_n 1, 1) := by decide +kernel
theorem dX7_changes_1 : decode cX7_changes 1 = .ok (.invokestatic 95, 3) := by decide +kernel
theorem dX7_changes_4 : decode cX7_changes 4 = .ok (.ifCond .eq 14, 3) := by decide +kernel
theorem dX7_changes_7 : decode cX7_changes 7 = .ok (.iload_n 2, 1) := by decide +kernel
theorem dX7_changes_8 : decode cX7_changes 8 = .ok (.iconst 0, 1) := by decide +kernel
theorem dX7_changes_9 : decode cX7_changes 9 = .ok (.sipush 999, 3) := by decide +kernel
theorem dX7_changes_12 : decode cX7_changes 12 = .ok (.invokestatic 47, 3) := by decide +kernel
theorem dX7_changes_15 : decode cX7_changes 15 = .ok (.ifCond .ne 9, 3) := by decide +kernel
theorem dX7_changes_18 : decode cX7_changes 18 = .ok (.aload_n 0, 1) := by decide +kernel
theorem dX7_changes_19 : decode cX7_changes 19 = .ok (.iconst 1, 1) := by decide +kernel
theorem dX7_changes_20 : decode cX7_changes 20 = .ok (.invokevirtual 51, 3) := by decide +kernel
theorem dX7_changes_23 : decode cX7_changes 23 = .ok (.ireturn, 1) := by decide +kernel
theorem dX7_changes_24 : decode cX7_changes 24 = .ok (.iload_n 2, 1) := by decide +kernel
theorem dX7_changes_25 : decode cX7_changes 25 = .ok (.istore_n 3, 1) := by decide +kernel
theorem dX7_changes_26 : decode cX7_changes 26 = .ok (.iconst 0, 1) := by decide +kernel
theorem dX7_changes_27 : decode cX7_changes 27 = .ok (.istore 4, 2) := by decide +kernel
theorem dX7_changes_29 : decode cX7_changes 29 = .ok (.iconst 0, 1) := by decide +kernel
theorem dX7_changes_30 : decode cX7_changes 30 = .ok (.istore 5, 2) := by decide +kernel
theorem dX7_changes_32 : decode cX7_changes 32 = .ok (.iload 5, 2) := by decide +kernel
theorem dX7_changes_34 : decode cX7_changes 34 = .ok (.aload_n 0, 1) := by decide +kernel
theorem dX7_changes_35 : decode cX7_changes 35 = .ok (.getfield 10, 3) := by decide +kernel
theorem dX7_changes_38 : decode cX7_changes 38 = .ok (.getfield 55, 3) := by decide +kernel
theorem dX7_changes_41 : decode cX7_changes 41 = .ok (.if_icmp .ge 59, 3) := by decide +kernel
theorem dX7_changes_44 : decode cX7_changes 44 = .ok (.aload_n 0, 1) := by decide +kernel
theorem dX7_changes_45 : decode cX7_changes 45 = .ok (.getfield 10, 3) := by decide +kernel
theorem dX7_changes_48 : decode cX7_changes 48 = .ok (.getfield 70, 3) := by decide +kernel
theorem dX7_changes_51 : decode cX7_changes 51 = .ok (.iload 5, 2) := by decide +kernel
theorem dX7_changes_53 : decode cX7_changes 53 = .ok (.aaload, 1) := by decide +kernel
theorem dX7_changes_54 : decode cX7_changes 54 = .ok (.astore 6, 2) := by decide +kernel
theorem dX7_changes_56 : decode cX7_changes 56 = .ok (.aload 6, 2) := by decide +kernel
theorem dX7_changes_58 : decode cX7_changes 58 = .ok (.iload_n 1, 1) := by decide +kernel
theorem dX7_changes_59 : decode cX7_changes 59 = .ok (.invokevirtual 98, 3) := by decide +kernel
theorem dX7_changes_62 : decode cX7_changes 62 = .ok (.ifCond .eq 32, 3) := by decide +kernel
theorem dX7_changes_65 : decode cX7_changes 65 = .ok (.iload 4, 2) := by decide +kernel
theorem dX7_changes_67 : decode cX7_changes 67 = .ok (.aload 6, 2) := by decide +kernel
theorem dX7_changes_69 : decode cX7_changes 69 = .ok (.getfield 101, 3) := by decide +kernel
theorem dX7_changes_72 : decode cX7_changes 72 = .ok (.iload_n 1, 1) := by decide +kernel
theorem dX7_changes_73 : decode cX7_changes 73 = .ok (.iaload, 1) := by decide +kernel
theorem dX7_changes_74 : decode cX7_changes 74 = .ok (.iload_n 3, 1) := by decide +kernel
theorem dX7_changes_75 : decode cX7_changes 75 = .ok (.if_icmp .ne 7, 3) := by decide +kernel
theorem dX7_changes_78 : decode cX7_changes 78 = .ok (.iconst 0, 1) := by decide +kernel
theorem dX7_changes_79 : decode cX7_changes 79 = .ok (.goto 4, 3) := by decide +kernel
theorem dX7_changes_82 : decode cX7_changes 82 = .ok (.iconst 1, 1) := by decide +kernel
theorem dX7_changes_83 : decode cX7_changes 83 = .ok (.iadd, 1) := by decide +kernel
theorem dX7_changes_84 : decode cX7_changes 84 = .ok (.istore 4, 2) := by decide +kernel
theorem dX7_changes_86 : decode cX7_changes 86 = .ok (.aload 6, 2) := by decide +kernel
theorem dX7_changes_88 : decode cX7_changes 88 = .ok (.getfield 101, 3) := by decide +kernel
theorem dX7_changes_91 : decode cX7_changes 91 = .ok (.iload_n 1, 1) := by decide +kernel
theorem dX7_changes_92 : decode cX7_changes 92 = .ok (.iaload, 1) := by decide +kernel
theorem dX7_changes_93 : decode cX7_changes 93 = .ok (.istore_n 3, 1) := by decide +kernel
theorem dX7_changes_94 : decode cX7_changes 94 = .ok (.iinc 5 1, 3) := by decide +kernel
theorem dX7_changes_97 : decode cX7_changes 97 = .ok (.goto (-65), 3) := by decide +kernel
theorem dX7_changes_100 : decode cX7_changes 100 = .ok (.iload 4, 2) := by decide +kernel
theorem dX7_changes_102 : decode cX7_changes 102 = .ok (.ireturn, 1) := by decide +kernel
theorem dX7_began_0 : decode cX7_began 0 = .ok (.iload_n 1, 1) := by decide +kernel
theorem dX7_began_1 : decode cX7_began 1 = .ok (.invokestatic 95, 3) := by decide +kernel
theorem dX7_began_4 : decode cX7_began 4 = .ok (.ifCond .eq 14, 3) := by decide +kernel
theorem dX7_began_7 : decode cX7_began 7 = .ok (.iload_n 2, 1) := by decide +kernel
theorem dX7_began_8 : decode cX7_began 8 = .ok (.iconst 0, 1) := by decide +kernel
theorem dX7_began_9 : decode cX7_began 9 = .ok (.sipush 999, 3) := by decide +kernel
theorem dX7_began_12 : decode cX7_began 12 = .ok (.invokestatic 47, 3) := by decide +kernel
theorem dX7_began_15 : decode cX7_began 15 = .ok (.ifCond .ne 9, 3) := by decide +kernel
theorem dX7_began_18 : decode cX7_began 18 = .ok (.aload_n 0, 1) := by decide +kernel
theorem dX7_began_19 : decode cX7_began 19 = .ok (.iconst 1, 1) := by decide +kernel
theorem dX7_began_20 : decode cX7_began 20 = .ok (.invokevirtual 51, 3) := by decide +kernel
theorem dX7_began_23 : decode cX7_began 23 = .ok (.ireturn, 1) := by decide +kernel
theorem dX7_began_24 : decode cX7_began 24 = .ok (.iconst 0, 1) := by decide +kernel
theorem dX7_began_25 : decode cX7_began 25 = .ok (.istore_n 3, 1) := by decide +kernel
theorem dX7_began_26 : decode cX7_began 26 = .ok (.iconst 0, 1) := by decide +kernel
theorem dX7_began_27 : decode cX7_began 27 = .ok (.istore 4, 2) := by decide +kernel
theorem dX7_began_29 : decode cX7_began 29 = .ok (.iconst 0, 1) := by decide +kernel
theorem dX7_began_30 : decode cX7_began 30 = .ok (.istore 5, 2) := by decide +kernel
theorem dX7_began_32 : decode cX7_began 32 = .ok (.iload 5, 2) := by decide +kernel
theorem dX7_began_34 : decode cX7_began 34 = .ok (.aload_n 0, 1) := by decide +kernel
theorem dX7_began_35 : decode cX7_began 35 = .ok (.getfield 10, 3) := by decide +kernel
theorem dX7_began_38 : decode cX7_began 38 = .ok (.getfield 55, 3) := by decide +kernel
theorem dX7_began_41 : decode cX7_began 41 = .ok (.if_icmp .ge 67, 3) := by decide +kernel
theorem dX7_began_44 : decode cX7_began 44 = .ok (.aload_n 0, 1) := by decide +kernel
theorem dX7_began_45 : decode cX7_began 45 = .ok (.getfield 10, 3) := by decide +kernel
theorem dX7_began_48 : decode cX7_began 48 = .ok (.getfield 70, 3) := by decide +kernel
theorem dX7_began_51 : decode cX7_began 51 = .ok (.iload 5, 2) := by decide +kernel
theorem dX7_began_53 : decode cX7_began 53 = .ok (.aaload, 1) := by decide +kernel
theorem dX7_began_54 : decode cX7_began 54 = .ok (.astore 6, 2) := by decide +kernel
theorem dX7_began_56 : decode cX7_began 56 = .ok (.aload 6, 2) := by decide +kernel
theorem dX7_began_58 : decode cX7_began 58 = .ok (.iload_n 1, 1) := by decide +kernel
theorem dX7_began_59 : decode cX7_began 59 = .ok (.invokevirtual 98, 3) := by decide +kernel
theorem dX7_began_62 : decode cX7_began 62 = .ok (.ifCond .eq 40, 3) := by decide +kernel
theorem dX7_began_65 : decode cX7_began 65 = .ok (.aload 6, 2) := by decide +kernel
theorem dX7_began_67 : decode cX7_began 67 = .ok (.getfield 101, 3) := by decide +kernel
theorem dX7_began_70 : decode cX7_began 70 = .ok (.iload_n 1, 1) := by decide +kernel
theorem dX7_began_71 : decode cX7_began 71 = .ok (.iaload, 1) := by decide +kernel
theorem dX7_began_72 : decode cX7_began 72 = .ok (.iload_n 2, 1) := by decide +kernel
theorem dX7_began_73 : decode cX7_began 73 = .ok (.if_icmp .ne 29, 3) := by decide +kernel
theorem dX7_began_76 : decode cX7_began 76 = .ok (.iload_n 3, 1) := by decide +kernel
theorem dX7_began_77 : decode cX7_began 77 = .ok (.ifCond .eq 16, 3) := by decide +kernel
theorem dX7_began_80 : decode cX7_began 80 = .ok (.iload 4, 2) := by decide +kernel
theorem dX7_began_82 : decode cX7_began 82 = .ok (.aload 6, 2) := by decide +kernel
theorem dX7_began_84 : decode cX7_began 84 = .ok (.getfield 193, 3) := by decide +kernel
theorem dX7_began_87 : decode cX7_began 87 = .ok (.invokestatic 196, 3) := by decide +kernel
theorem dX7_began_90 : decode cX7_began 90 = .ok (.goto 8, 3) := by decide +kernel
theorem dX7_began_93 : decode cX7_began 93 = .ok (.aload 6, 2) := by decide +kernel
theorem dX7_began_95 : decode cX7_began 95 = .ok (.getfield 193, 3) := by decide +kernel
theorem dX7_began_98 : decode cX7_began 98 = .ok (.istore 4, 2) := by decide +kernel
theorem dX7_began_100 : decode cX7_began 100 = .ok (.iconst 1, 1) := by decide +kernel
theorem dX7_began_101 : decode cX7_began 101 = .ok (.istore_n 3, 1) := by decide +kernel
theorem dX7_began_102 : decode cX7_began 102 = .ok (.iinc 5 1, 3) := by decide +kernel
theorem dX7_began_105 : decode cX7_began 105 = .ok (.goto (-73), 3) := by decide +kernel
theorem dX7_began_108 : decode cX7_began 108 = .ok (.iload_n 3, 1) := by decide +kernel
theorem dX7_began_109 : decode cX7_began 109 = .ok (.ifCond .eq 8, 3) := by decide +kernel
theorem dX7_began_112 : decode cX7_began 112 = .ok (.iload 4, 2) := by decide +kernel
theorem dX7_began_114 : decode cX7_began 114 = .ok (.goto 8, 3) := by decide +kernel
theorem dX7_began_117 : decode cX7_began 117 = .ok (.aload_n 0, 1) := by decide +kernel
theorem dX7_began_118 : decode cX7_began 118 = .ok (.iconst 2, 1) := by decide +kernel
theorem dX7_began_119 : decode cX7_began 119 = .ok (.invokevirtual 51, 3) := by decide +kernel
theorem dX7_began_122 : decode cX7_began 122 = .ok (.ireturn, 1) := by decide +kernel
theorem dX7_handed_0 : decode cX7_handed 0 = .ok (.aload_n 0, 1) := by decide +kernel
theorem dX7_handed_1 : decode cX7_handed 1 = .ok (.iload_n 1, 1) := by decide +kernel
theorem dX7_handed_2 : decode cX7_handed 2 = .ok (.invokevirtual 62, 3) := by decide +kernel
theorem dX7_handed_5 : decode cX7_handed 5 = .ok (.ifCond .eq 10, 3) := by decide +kernel
theorem dX7_handed_8 : decode cX7_handed 8 = .ok (.iload_n 2, 1) := by decide +kernel
theorem dX7_handed_9 : decode cX7_handed 9 = .ok (.invokestatic 95, 3) := by decide +kernel
theorem dX7_handed_12 : decode cX7_handed 12 = .ok (.ifCond .ne 9, 3) := by decide +kernel
theorem dX7_handed_15 : decode cX7_handed 15 = .ok (.aload_n 0, 1) := by decide +kernel
theorem dX7_handed_16 : decode cX7_handed 16 = .ok (.iconst 1, 1) := by decide +kernel
theorem dX7_handed_17 : decode cX7_handed 17 = .ok (.invokevirtual 51, 3) := by decide +kernel
theorem dX7_handed_20 : decode cX7_handed 20 = .ok (.ireturn, 1) := by decide +kernel
theorem dX7_handed_21 : decode cX7_handed 21 = .ok (.aload_n 0, 1) := by decide +kernel
theorem dX7_handed_22 : decode cX7_handed 22 = .ok (.getfield 10, 3) := by decide +kernel
theorem dX7_handed_25 : decode cX7_handed 25 = .ok (.getfield 70, 3) := by decide +kernel
theorem dX7_handed_28 : decode cX7_handed 28 = .ok (.iload_n 1, 1) := by decide +kernel
theorem dX7_handed_29 : decode cX7_handed 29 = .ok (.aaload, 1) := by decide +kernel
theorem dX7_handed_30 : decode cX7_handed 30 = .ok (.iload_n 2, 1) := by decide +kernel
theorem dX7_handed_31 : decode cX7_handed 31 = .ok (.invokevirtual 98, 3) := by decide +kernel
theorem dX7_handed_34 : decode cX7_handed 34 = .ok (.ifCond .ne 9, 3) := by decide +kernel
theorem dX7_handed_37 : decode cX7_handed 37 = .ok (.aload_n 0, 1) := by decide +kernel
theorem dX7_handed_38 : decode cX7_handed 38 = .ok (.iconst 3, 1) := by decide +kernel
theorem dX7_handed_39 : decode cX7_handed 39 = .ok (.invokevirtual 51, 3) := by decide +kernel
theorem dX7_handed_42 : decode cX7_handed 42 = .ok (.ireturn, 1) := by decide +kernel
theorem dX7_handed_43 : decode cX7_handed 43 = .ok (.iconst 0, 1) := by decide +kernel
theorem dX7_handed_44 : decode cX7_handed 44 = .ok (.istore_n 3, 1) := by decide +kernel
theorem dX7_handed_45 : decode cX7_handed 45 = .ok (.iload_n 3, 1) := by decide +kernel
theorem dX7_handed_46 : decode cX7_handed 46 = .ok (.aload_n 0, 1) := by decide +kernel
theorem dX7_handed_47 : decode cX7_handed 47 = .ok (.getfield 10, 3) := by decide +kernel
theorem dX7_handed_50 : decode cX7_handed 50 = .ok (.getfield 55, 3) := by decide +kernel
theorem dX7_handed_53 : decode cX7_handed 53 = .ok (.iconst 1, 1) := by decide +kernel
theorem dX7_handed_54 : decode cX7_handed 54 = .ok (.isub, 1) := by decide +kernel
theorem dX7_handed_55 : decode cX7_handed 55 = .ok (.if_icmp .ge 35, 3) := by decide +kernel
theorem dX7_handed_58 : decode cX7_handed 58 = .ok (.aload_n 0, 1) := by decide +kernel
theorem dX7_handed_59 : decode cX7_handed 59 = .ok (.getfield 10, 3) := by decide +kernel
theorem dX7_handed_62 : decode cX7_handed 62 = .ok (.getfield 70, 3) := by decide +kernel
theorem dX7_handed_65 : decode cX7_handed 65 = .ok (.iload_n 1, 1) := by decide +kernel
theorem dX7_handed_66 : decode cX7_handed 66 = .ok (.iload_n 3, 1) := by decide +kernel
theorem dX7_handed_67 : decode cX7_handed 67 = .ok (.iadd, 1) := by decide +kernel
theorem dX7_handed_68 : decode cX7_handed 68 = .ok (.aload_n 0, 1) := by decide +kernel
theorem dX7_handed_69 : decode cX7_handed 69 = .ok (.getfield 10, 3) := by decide +kernel
theorem dX7_handed_72 : decode cX7_handed 72 = .ok (.getfield 55, 3) := by decide +kernel
theorem dX7_handed_75 : decode cX7_handed 75 = .ok (.irem, 1) := by decide +kernel
theorem dX7_handed_76 : decode cX7_handed 76 = .ok (.aaload, 1) := by decide +kernel
theorem dX7_handed_77 : decode cX7_handed 77 = .ok (.iconst 2, 1) := by decide +kernel
theorem dX7_handed_78 : decode cX7_handed 78 = .ok (.invokevirtual 74, 3) := by decide +kernel
theorem dX7_handed_81 : decode cX7_handed 81 = .ok (.ifCond .ne 9, 3) := by decide +kernel
theorem dX7_handed_84 : decode cX7_handed 84 = .ok (.iinc 3 1, 3) := by decide +kernel
theorem dX7_handed_87 : decode cX7_handed 87 = .ok (.goto (-42), 3) := by decide +kernel
theorem dX7_handed_90 : decode cX7_handed 90 = .ok (.iload_n 3, 1) := by decide +kernel
theorem dX7_handed_91 : decode cX7_handed 91 = .ok (.ireturn, 1) := by decide +kernel
theorem dX7_wages_0 : decode cX7_wages 0 = .ok (.iload_n 1, 1) := by decide +kernel
theorem dX7_wages_1 : decode cX7_wages 1 = .ok (.iconst 1, 1) := by decide +kernel
theorem dX7_wages_2 : decode cX7_wages 2 = .ok (.bipush 90, 2) := by decide +kernel
theorem dX7_wages_4 : decode cX7_wages 4 = .ok (.invokestatic 47, 3) := by decide +kernel
theorem dX7_wages_7 : decode cX7_wages 7 = .ok (.ifCond .ne 9, 3) := by decide +kernel
theorem dX7_wages_10 : decode cX7_wages 10 = .ok (.aload_n 0, 1) := by decide +kernel
theorem dX7_wages_11 : decode cX7_wages 11 = .ok (.iconst 1, 1) := by decide +kernel
theorem dX7_wages_12 : decode cX7_wages 12 = .ok (.invokevirtual 51, 3) := by decide +kernel
theorem dX7_wages_15 : decode cX7_wages 15 = .ok (.ireturn, 1) := by decide +kernel
theorem dX7_wages_16 : decode cX7_wages 16 = .ok (.aload_n 0, 1) := by decide +kernel
theorem dX7_wages_17 : decode cX7_wages 17 = .ok (.iconst 0, 1) := by decide +kernel
theorem dX7_wages_18 : decode cX7_wages 18 = .ok (.invokevirtual 173, 3) := by decide +kernel
theorem dX7_wages_21 : decode cX7_wages 21 = .ok (.iconst 0, 1) := by decide +kernel
theorem dX7_wages_22 : decode cX7_wages 22 = .ok (.istore_n 2, 1) := by decide +kernel
theorem dX7_wages_23 : decode cX7_wages 23 = .ok (.iconst 0, 1) := by decide +kernel
theorem dX7_wages_24 : decode cX7_wages 24 = .ok (.istore_n 3, 1) := by decide +kernel
theorem dX7_wages_25 : decode cX7_wages 25 = .ok (.iload_n 3, 1) := by decide +kernel
theorem dX7_wages_26 : decode cX7_wages 26 = .ok (.iload_n 1, 1) := by decide +kernel
theorem dX7_wages_27 : decode cX7_wages 27 = .ok (.if_icmp .ge 27, 3) := by decide +kernel
theorem dX7_wages_30 : decode cX7_wages 30 = .ok (.aload_n 0, 1) := by decide +kernel
theorem dX7_wages_31 : decode cX7_wages 31 = .ok (.getfield 19, 3) := by decide +kernel
theorem dX7_wages_34 : decode cX7_wages 34 = .ok (.invokevirtual 160, 3) := by decide +kernel
theorem dX7_wages_37 : decode cX7_wages 37 = .ok (.pop, 1) := by decide +kernel
theorem dX7_wages_38 : decode cX7_wages 38 = .ok (.iload_n 2, 1) := by decide +kernel
theorem dX7_wages_39 : decode cX7_wages 39 = .ok (.aload_n 0, 1) := by decide +kernel
theorem dX7_wages_40 : decode cX7_wages 40 = .ok (.getfield 19, 3) := by decide +kernel
theorem dX7_wages_43 : decode cX7_wages 43 = .ok (.invokevirtual 201, 3) := by decide +kernel
theorem dX7_wages_46 : decode cX7_wages 46 = .ok (.iadd, 1) := by decide +kernel
theorem dX7_wages_47 : decode cX7_wages 47 = .ok (.istore_n 2, 1) := by decide +kernel
theorem dX7_wages_48 : decode cX7_wages 48 = .ok (.iinc 3 1, 3) := by decide +kernel
theorem dX7_wages_51 : decode cX7_wages 51 = .ok (.goto (-26), 3) := by decide +kernel
theorem dX7_wages_54 : decode cX7_wages 54 = .ok (.iload_n 2, 1) := by decide +kernel
theorem dX7_wages_55 : decode cX7_wages 55 = .ok (.ireturn, 1) := by decide +kernel
theorem dX7_voice_0 : decode cX7_voice 0 = .ok (.aload_n 0, 1) := by decide +kernel
theorem dX7_voice_1 : decode cX7_voice 1 = .ok (.iload_n 1, 1) := by decide +kernel
theorem dX7_voice_2 : decode cX7_voice 2 = .ok (.invokevirtual 62, 3) := by decide +kernel
theorem dX7_voice_5 : decode cX7_voice 5 = .ok (.ifCond .eq 12, 3) := by decide +kernel
theorem dX7_voice_8 : decode cX7_voice 8 = .ok (.iload_n 2, 1) := by decide +kernel
theorem dX7_voice_9 : decode cX7_voice 9 = .ok (.iconst 0, 1) := by decide +kernel
theorem dX7_voice_10 : decode cX7_voice 10 = .ok (.iconst 3, 1) := by decide +kernel
theorem dX7_voice_11 : decode cX7_voice 11 = .ok (.invokestatic 47, 3) := by decide +kernel
theorem dX7_voice_14 : decode cX7_voice 14 = .ok (.ifCond .ne 9, 3) := by decide +kernel
theorem dX7_voice_17 : decode cX7_voice 17 = .ok (.aload_n 0, 1) := by decide +kernel
theorem dX7_voice_18 : decode cX7_voice 18 = .ok (.iconst 1, 1) := by decide +kernel
theorem dX7_voice_19 : decode cX7_voice 19 = .ok (.invokevirtual 51, 3) := by decide +kernel
theorem dX7_voice_22 : decode cX7_voice 22 = .ok (.ireturn, 1) := by decide +kernel
theorem dX7_voice_23 : decode cX7_voice 23 = .ok (.aload_n 0, 1) := by decide +kernel
theorem dX7_voice_24 : decode cX7_voice 24 = .ok (.getfield 10, 3) := by decide +kernel
theorem dX7_voice_27 : decode cX7_voice 27 = .ok (.getfield 70, 3) := by decide +kernel
theorem dX7_voice_30 : decode cX7_voice 30 = .ok (.iload_n 1, 1) := by decide +kernel
theorem dX7_voice_31 : decode cX7_voice 31 = .ok (.aaload, 1) := by decide +kernel
theorem dX7_voice_32 : decode cX7_voice 32 = .ok (.astore 4, 2) := by decide +kernel
theorem dX7_voice_34 : decode cX7_voice 34 = .ok (.aload_n 0, 1) := by decide +kernel
theorem dX7_voice_35 : decode cX7_voice 35 = .ok (.getfield 32, 3) := by decide +kernel
theorem dX7_voice_38 : decode cX7_voice 38 = .ok (.aload 4, 2) := by decide +kernel
theorem dX7_voice_40 : decode cX7_voice 40 = .ok (.getfield 86, 3) := by decide +kernel
theorem dX7_voice_43 : decode cX7_voice 43 = .ok (.iload_n 1, 1) := by decide +kernel
theorem dX7_voice_44 : decode cX7_voice 44 = .ok (.aload 4, 2) := by decide +kernel
theorem dX7_voice_46 : decode cX7_voice 46 = .ok (.getfield 89, 3) := by decide +kernel
theorem dX7_voice_49 : decode cX7_voice 49 = .ok (.iload_n 2, 1) := by decide +kernel
theorem dX7_voice_50 : decode cX7_voice 50 = .ok (.iload_n 3, 1) := by decide +kernel
theorem dX7_voice_51 : decode cX7_voice 51 = .ok (.invokevirtual 204, 3) := by decide +kernel
theorem dX7_voice_54 : decode cX7_voice 54 = .ok (.istore 5, 2) := by decide +kernel
theorem dX7_voice_56 : decode cX7_voice 56 = .ok (.aload_n 0, 1) := by decide +kernel
theorem dX7_voice_57 : decode cX7_voice 57 = .ok (.getfield 32, 3) := by decide +kernel
theorem dX7_voice_60 : decode cX7_voice 60 = .ok (.getfield 208, 3) := by decide +kernel
theorem dX7_voice_63 : decode cX7_voice 63 = .ok (.ifCond .eq 12, 3) := by decide +kernel
theorem dX7_voice_66 : decode cX7_voice 66 = .ok (.aload_n 0, 1) := by decide +kernel
theorem dX7_voice_67 : decode cX7_voice 67 = .ok (.bipush 6, 2) := by decide +kernel
theorem dX7_voice_69 : decode cX7_voice 69 = .ok (.invokevirtual 51, 3) := by decide +kernel
theorem dX7_voice_72 : decode cX7_voice 72 = .ok (.goto 5, 3) := by decide +kernel
theorem dX7_voice_75 : decode cX7_voice 75 = .ok (.iload 5, 2) := by decide +kernel
theorem dX7_voice_77 : decode cX7_voice 77 = .ok (.ireturn, 1) := by decide +kernel
theorem dX7_body_0 : decode cX7_body 0 = .ok (.iload_n 1, 1) := by decide +kernel
theorem dX7_body_1 : decode cX7_body 1 = .ok (.iconst 0, 1) := by decide +kernel
theorem dX7_body_2 : decode cX7_body 2 = .ok (.aload_n 0, 1) := by decide +kernel
theorem dX7_body_3 : decode cX7_body 3 = .ok (.getfield 32, 3) := by decide +kernel
theorem dX7_body_6 : decode cX7_body 6 = .ok (.getfield 212, 3) := by decide +kernel
theorem dX7_body_9 : decode cX7_body 9 = .ok (.iconst 1, 1) := by decide +kernel
theorem dX7_body_10 : decode cX7_body 10 = .ok (.isub, 1) := by decide +kernel
theorem dX7_body_11 : decode cX7_body 11 = .ok (.invokestatic 47, 3) := by decide +kernel
theorem dX7_body_14 : decode cX7_body 14 = .ok (.ifCond .eq 15, 3) := by decide +kernel
theorem dX7_body_17 : decode cX7_body 17 = .ok (.aload_n 0, 1) := by decide +kernel
theorem dX7_body_18 : decode cX7_body 18 = .ok (.getfield 32, 3) := by decide +kernel
theorem dX7_body_21 : decode cX7_body 21 = .ok (.getfield 215, 3) := by decide +kernel
theorem dX7_body_24 : decode cX7_body 24 = .ok (.iload_n 1, 1) := by decide +kernel
theorem dX7_body_25 : decode cX7_body 25 = .ok (.iaload, 1) := by decide +kernel
theorem dX7_body_26 : decode cX7_body 26 = .ok (.goto 8, 3) := by decide +kernel
theorem dX7_body_29 : decode cX7_body 29 = .ok (.aload_n 0, 1) := by decide +kernel
theorem dX7_body_30 : decode cX7_body 30 = .ok (.iconst 2, 1) := by decide +kernel
theorem dX7_body_31 : decode cX7_body 31 = .ok (.invokevirtual 51, 3) := by decide +kernel
theorem dX7_body_34 : decode cX7_body 34 = .ok (.ireturn, 1) := by decide +kernel
theorem dX7_sheet_0 : decode cX7_sheet 0 = .ok (.iload_n 1, 1) := by decide +kernel
theorem dX7_sheet_1 : decode cX7_sheet 1 = .ok (.invokestatic 218, 3) := by decide +kernel
theorem dX7_sheet_4 : decode cX7_sheet 4 = .ok (.ifCond .eq 25, 3) := by decide +kernel
theorem dX7_sheet_7 : decode cX7_sheet 7 = .ok (.iload_n 2, 1) := by decide +kernel
theorem dX7_sheet_8 : decode cX7_sheet 8 = .ok (.ifCond .eq 27, 3) := by decide +kernel
theorem dX7_sheet_11 : decode cX7_sheet 11 = .ok (.iload_n 2, 1) := by decide +kernel
theorem dX7_sheet_12 : decode cX7_sheet 12 = .ok (.bipush 8, 2) := by decide +kernel
theorem dX7_sheet_14 : decode cX7_sheet 14 = .ok (.if_icmp .eq 21, 3) := by decide +kernel
theorem dX7_sheet_17 : decode cX7_sheet 17 = .ok (.iload_n 2, 1) := by decide +kernel
theorem dX7_sheet_18 : decode cX7_sheet 18 = .ok (.bipush 16, 2) := by decide +kernel
theorem dX7_sheet_20 : decode cX7_sheet 20 = .ok (.if_icmp .eq 15, 3) := by decide +kernel
theorem dX7_sheet_23 : decode cX7_sheet 23 = .ok (.iload_n 2, 1) := by decide +kernel
theorem dX7_sheet_24 : decode cX7_sheet 24 = .ok (.bipush 32, 2) := by decide +kernel
theorem dX7_sheet_26 : decode cX7_sheet 26 = .ok (.if_icmp .eq 9, 3) := by decide +kernel
theorem dX7_sheet_29 : decode cX7_sheet 29 = .ok (.aload_n 0, 1) := by decide +kernel
theorem dX7_sheet_30 : decode cX7_sheet 30 = .ok (.iconst 1, 1) := by decide +kernel
theorem dX7_sheet_31 : decode cX7_sheet 31 = .ok (.invokevirtual 51, 3) := by decide +kernel
theorem dX7_sheet_34 : decode cX7_sheet 34 = .ok (.ireturn, 1) := by decide +kernel
theorem dX7_sheet_35 : decode cX7_sheet 35 = .ok (.iload_n 2, 1) := by decide +kernel
theorem dX7_sheet_36 : decode cX7_sheet 36 = .ok (.ifCond .eq 13, 3) := by decide +kernel
theorem dX7_sheet_39 : decode cX7_sheet 39 = .ok (.iload_n 3, 1) := by decide +kernel
theorem dX7_sheet_40 : decode cX7_sheet 40 = .ok (.ifCond .ge 9, 3) := by decide +kernel
theorem dX7_sheet_43 : decode cX7_sheet 43 = .ok (.aload_n 0, 1) := by decide +kernel
theorem dX7_sheet_44 : decode cX7_sheet 44 = .ok (.iconst 3, 1) := by decide +kernel
theorem dX7_sheet_45 : decode cX7_sheet 45 = .ok (.invokevirtual 51, 3) := by decide +kernel
theorem dX7_sheet_48 : decode cX7_sheet 48 = .ok (.ireturn, 1) := by decide +kernel
theorem dX7_sheet_49 : decode cX7_sheet 49 = .ok (.iload_n 2, 1) := by decide +kernel
theorem dX7_sheet_50 : decode cX7_sheet 50 = .ok (.ifCond .eq 15, 3) := by decide +kernel
theorem dX7_sheet_53 : decode cX7_sheet 53 = .ok (.iload_n 3, 1) := by decide +kernel
theorem dX7_sheet_54 : decode cX7_sheet 54 = .ok (.bipush 24, 2) := by decide +kernel
theorem dX7_sheet_56 : decode cX7_sheet 56 = .ok (.if_icmp .le 9, 3) := by decide +kernel
theorem dX7_sheet_59 : decode cX7_sheet 59 = .ok (.aload_n 0, 1) := by decide +kernel
theorem dX7_sheet_60 : decode cX7_sheet 60 = .ok (.iconst 1, 1) := by decide +kernel
theorem dX7_sheet_61 : decode cX7_sheet 61 = .ok (.invokevirtual 51, 3) := by decide +kernel
theorem dX7_sheet_64 : decode cX7_sheet 64 = .ok (.ireturn, 1) := by decide +kernel
theorem dX7_sheet_65 : decode cX7_sheet 65 = .ok (.aload_n 0, 1) := by decide +kernel
theorem dX7_sheet_66 : decode cX7_sheet 66 = .ok (.getfield 38, 3) := by decide +kernel
theorem dX7_sheet_69 : decode cX7_sheet 69 = .ok (.iload_n 1, 1) := by decide +kernel
theorem dX7_sheet_70 : decode cX7_sheet 70 = .ok (.aaload, 1) := by decide +kernel
theorem dX7_sheet_71 : decode cX7_sheet 71 = .ok (.iload_n 2, 1) := by decide +kernel
theorem dX7_sheet_72 : decode cX7_sheet 72 = .ok (.iload_n 2, 1) := by decide +kernel
theorem dX7_sheet_73 : decode cX7_sheet 73 = .ok (.ifCond .ne 7, 3) := by decide +kernel
theorem dX7_sheet_76 : decode cX7_sheet 76 = .ok (.iconst 0, 1) := by decide +kernel
theorem dX7_sheet_77 : decode cX7_sheet 77 = .ok (.goto 4, 3) := by decide +kernel
theorem dX7_sheet_80 : decode cX7_sheet 80 = .ok (.iload_n 3, 1) := by decide +kernel
theorem dX7_sheet_81 : decode cX7_sheet 81 = .ok (.invokevirtual 221, 3) := by decide +kernel
theorem dX7_sheet_84 : decode cX7_sheet 84 = .ok (.iconst 1, 1) := by decide +kernel
theorem dX7_sheet_85 : decode cX7_sheet 85 = .ok (.ireturn, 1) := by decide +kernel
theorem dX7_put_0 : decode cX7_put 0 = .ok (.iload_n 1, 1) := by decide +kernel
theorem dX7_put_1 : decode cX7_put 1 = .ok (.invokestatic 218, 3) := by decide +kernel
theorem dX7_put_4 : decode cX7_put 4 = .ok (.ifCond .ne 9, 3) := by decide +kernel
theorem dX7_put_7 : decode cX7_put 7 = .ok (.aload_n 0, 1) := by decide +kernel
theorem dX7_put_8 : decode cX7_put 8 = .ok (.iconst 1, 1) := by decide +kernel
theorem dX7_put_9 : decode cX7_put 9 = .ok (.invokevirtual 51, 3) := by decide +kernel
theorem dX7_put_12 : decode cX7_put 12 = .ok (.ireturn, 1) := by decide +kernel
theorem dX7_put_13 : decode cX7_put 13 = .ok (.aload_n 0, 1) := by decide +kernel
theorem dX7_put_14 : decode cX7_put 14 = .ok (.getfield 38, 3) := by decide +kernel
theorem dX7_put_17 : decode cX7_put 17 = .ok (.iload_n 1, 1) := by decide +kernel
theorem dX7_put_18 : decode cX7_put 18 = .ok (.aaload, 1) := by decide +kernel
theorem dX7_put_19 : decode cX7_put 19 = .ok (.astore 4, 2) := by decide +kernel
theorem dX7_put_21 : decode cX7_put 21 = .ok (.aload 4, 2) := by decide +kernel
theorem dX7_put_23 : decode cX7_put 23 = .ok (.invokevirtual 224, 3) := by decide +kernel
theorem dX7_put_26 : decode cX7_put 26 = .ok (.ifCond .eq 9, 3) := by decide +kernel
theorem dX7_put_29 : decode cX7_put 29 = .ok (.aload_n 0, 1) := by decide +kernel
theorem dX7_put_30 : decode cX7_put 30 = .ok (.iconst 2, 1) := by decide +kernel
theorem dX7_put_31 : decode cX7_put 31 = .ok (.invokevirtual 51, 3) := by decide +kernel
theorem dX7_put_34 : decode cX7_put 34 = .ok (.ireturn, 1) := by decide +kernel
theorem dX7_put_35 : decode cX7_put 35 = .ok (.iload_n 2, 1) := by decide +kernel
theorem dX7_put_36 : decode cX7_put 36 = .ok (.iconst 0, 1) := by decide +kernel
theorem dX7_put_37 : decode cX7_put 37 = .ok (.aload 4, 2) := by decide +kernel
theorem dX7_put_39 : decode cX7_put 39 = .ok (.getfield 228, 3) := by decide +kernel
theorem dX7_put_42 : decode cX7_put 42 = .ok (.iconst 1, 1) := by decide +kernel
theorem dX7_put_43 : decode cX7_put 43 = .ok (.isub, 1) := by decide +kernel
theorem dX7_put_44 : decode cX7_put 44 = .ok (.invokestatic 47, 3) := by decide +kernel
theorem dX7_put_47 : decode cX7_put 47 = .ok (.ifCond .ne 9, 3) := by decide +kernel
theorem dX7_put_50 : decode cX7_put 50 = .ok (.aload_n 0, 1) := by decide +kernel
theorem dX7_put_51 : decode cX7_put 51 = .ok (.iconst 1, 1) := by decide +kernel
theorem dX7_put_52 : decode cX7_put 52 = .ok (.invokevirtual 51, 3) := by decide +kernel
theorem dX7_put_55 : decode cX7_put 55 = .ok (.ireturn, 1) := by decide +kernel
theorem dX7_put_56 : decode cX7_put 56 = .ok (.aload 4, 2) := by decide +kernel
theorem dX7_put_58 : decode cX7_put 58 = .ok (.iload_n 2, 1) := by decide +kernel
theorem dX7_put_59 : decode cX7_put 59 = .ok (.iload_n 3, 1) := by decide +kernel
theorem dX7_put_60 : decode cX7_put 60 = .ok (.invokevirtual 231, 3) := by decide +kernel
theorem dX7_put_63 : decode cX7_put 63 = .ok (.iconst 1, 1) := by decide +kernel
theorem dX7_put_64 : decode cX7_put 64 = .ok (.ireturn, 1) := by decide +kernel
theorem dX7_move_0 : decode cX7_move 0 = .ok (.iload_n 1, 1) := by decide +kernel
theorem dX7_move_1 : decode cX7_move 1 = .ok (.invokestatic 218, 3) := by decide +kernel
theorem dX7_move_4 : decode cX7_move 4 = .ok (.ifCond .eq 10, 3) := by decide +kernel
theorem dX7_move_7 : decode cX7_move 7 = .ok (.iload_n 3, 1) := by decide +kernel
theorem dX7_move_8 : decode cX7_move 8 = .ok (.invokestatic 218, 3) := by decide +kernel
theorem dX7_move_11 : decode cX7_move 11 = .ok (.ifCond .ne 9, 3) := by decide +kernel
theorem dX7_move_14 : decode cX7_move 14 = .ok (.aload_n 0, 1) := by decide +kernel
theorem dX7_move_15 : decode cX7_move 15 = .ok (.iconst 1, 1) := by decide +kernel
theorem dX7_move_16 : decode cX7_move 16 = .ok (.invokevirtual 51, 3) := by decide +kernel
theorem dX7_move_19 : decode cX7_move 19 = .ok (.ireturn, 1) := by decide +kernel
theorem dX7_move_20 : decode cX7_move 20 = .ok (.aload_n 0, 1) := by decide +kernel
theorem dX7_move_21 : decode cX7_move 21 = .ok (.getfield 38, 3) := by decide +kernel
theorem dX7_move_24 : decode cX7_move 24 = .ok (.iload_n 1, 1) := by decide +kernel
theorem dX7_move_25 : decode cX7_move 25 = .ok (.aaload, 1) := by decide +kernel
theorem dX7_move_26 : decode cX7_move 26 = .ok (.astore 6, 2) := by decide +kernel
theorem dX7_move_28 : decode cX7_move 28 = .ok (.aload_n 0, 1) := by decide +kernel
theorem dX7_move_29 : decode cX7_move 29 = .ok (.getfield 38, 3) := by decide +kernel
theorem dX7_move_32 : decode cX7_move 32 = .ok (.iload_n 3, 1) := by decide +kernel
theorem dX7_move_33 : decode cX7_move 33 = .ok (.aaload, 1) := by decide +kernel
theorem dX7_move_34 : decode cX7_move 34 = .ok (.astore 7, 2) := by decide +kernel
theorem dX7_move_36 : decode cX7_move 36 = .ok (.aload 6, 2) := by decide +kernel
theorem dX7_move_38 : decode cX7_move 38 = .ok (.invokevirtual 224, 3) := by decide +kernel
theorem dX7_move_41 : decode cX7_move 41 = .ok (.ifCond .ne 11, 3) := by decide +kernel
theorem dX7_move_44 : decode cX7_move 44 = .ok (.aload 7, 2) := by decide +kernel
theorem dX7_move_46 : decode cX7_move 46 = .ok (.invokevirtual 224, 3) := by decide +kernel
theorem dX7_move_49 : decode cX7_move 49 = .ok (.ifCond .eq 9, 3) := by decide +kernel
theorem dX7_move_52 : decode cX7_move 52 = .ok (.aload_n 0, 1) := by decide +kernel
theorem dX7_move_53 : decode cX7_move 53 = .ok (.iconst 2, 1) := by decide +kernel
theorem dX7_move_54 : decode cX7_move 54 = .ok (.invokevirtual 51, 3) := by decide +kernel
theorem dX7_move_57 : decode cX7_move 57 = .ok (.ireturn, 1) := by decide +kernel
theorem dX7_move_58 : decode cX7_move 58 = .ok (.aload 6, 2) := by decide +kernel
theorem dX7_move_60 : decode cX7_move 60 = .ok (.getfield 234, 3) := by decide +kernel
theorem dX7_move_63 : decode cX7_move 63 = .ok (.aload 7, 2) := by decide +kernel
theorem dX7_move_65 : decode cX7_move 65 = .ok (.getfield 234, 3) := by decide +kernel
theorem dX7_move_68 : decode cX7_move 68 = .ok (.if_icmp .eq 9, 3) := by decide +kernel
theorem dX7_move_71 : decode cX7_move 71 = .ok (.aload_n 0, 1) := by decide +kernel
theorem dX7_move_72 : decode cX7_move 72 = .ok (.iconst 5, 1) := by decide +kernel
theorem dX7_move_73 : decode cX7_move 73 = .ok (.invokevirtual 51, 3) := by decide +kernel
theorem dX7_move_76 : decode cX7_move 76 = .ok (.ireturn, 1) := by decide +kernel
theorem dX7_move_77 : decode cX7_move 77 = .ok (.aload 6, 2) := by decide +kernel
theorem dX7_move_79 : decode cX7_move 79 = .ok (.iload_n 2, 1) := by decide +kernel
theorem dX7_move_80 : decode cX7_move 80 = .ok (.iload 5, 2) := by decide +kernel
theorem dX7_move_82 : decode cX7_move 82 = .ok (.invokevirtual 237, 3) := by decide +kernel
theorem dX7_move_85 : decode cX7_move 85 = .ok (.ifCond .eq 15, 3) := by decide +kernel
theorem dX7_move_88 : decode cX7_move 88 = .ok (.aload 7, 2) := by decide +kernel
theorem dX7_move_90 : decode cX7_move 90 = .ok (.iload 4, 2) := by decide +kernel
theorem dX7_move_92 : decode cX7_move 92 = .ok (.iload 5, 2) := by decide +kernel
theorem dX7_move_94 : decode cX7_move 94 = .ok (.invokevirtual 237, 3) := by decide +kernel
theorem dX7_move_97 : decode cX7_move 97 = .ok (.ifCond .ne 9, 3) := by decide +kernel
theorem dX7_move_100 : decode cX7_move 100 = .ok (.aload_n 0, 1) := by decide +kernel
theorem dX7_move_101 : decode cX7_move 101 = .ok (.iconst 1, 1) := by decide +kernel
theorem dX7_move_102 : decode cX7_move 102 = .ok (.invokevirtual 51, 3) := by decide +kernel
theorem dX7_move_105 : decode cX7_move 105 = .ok (.ireturn, 1) := by decide +kernel
theorem dX7_move_106 : decode cX7_move 106 = .ok (.aload 6, 2) := by decide +kernel
theorem dX7_move_108 : decode cX7_move 108 = .ok (.getfield 240, 3) := by decide +kernel
theorem dX7_move_111 : decode cX7_move 111 = .ok (.iload_n 2, 1) := by decide +kernel
theorem dX7_move_112 : decode cX7_move 112 = .ok (.aload 7, 2) := by decide +kernel
theorem dX7_move_114 : decode cX7_move 114 = .ok (.getfield 240, 3) := by decide +kernel
theorem dX7_move_117 : decode cX7_move 117 = .ok (.iload 4, 2) := by decide +kernel
theorem dX7_move_119 : decode cX7_move 119 = .ok (.iload 5, 2) := by decide +kernel
theorem dX7_move_121 : decode cX7_move 121 = .ok (.invokestatic 243, 3) := by decide +kernel
theorem dX7_move_124 : decode cX7_move 124 = .ok (.iload 5, 2) := by decide +kernel
theorem dX7_move_126 : decode cX7_move 126 = .ok (.ireturn, 1) := by decide +kernel
theorem dX7_rosters_0 : decode cX7_rosters 0 = .ok (.iload_n 1, 1) := by decide +kernel
theorem dX7_rosters_1 : decode cX7_rosters 1 = .ok (.invokestatic 218, 3) := by decide +kernel
theorem dX7_rosters_4 : decode cX7_rosters 4 = .ok (.ifCond .ne 9, 3) := by decide +kernel
theorem dX7_rosters_7 : decode cX7_rosters 7 = .ok (.aload_n 0, 1) := by decide +kernel
theorem dX7_rosters_8 : decode cX7_rosters 8 = .ok (.iconst 1, 1) := by decide +kernel
theorem dX7_rosters_9 : decode cX7_rosters 9 = .ok (.invokevirtual 51, 3) := by decide +kernel
theorem dX7_rosters_12 : decode cX7_rosters 12 = .ok (.ireturn, 1) := by decide +kernel
theorem dX7_rosters_13 : decode cX7_rosters 13 = .ok (.aload_n 0, 1) := by decide +kernel
theorem dX7_rosters_14 : decode cX7_rosters 14 = .ok (.getfield 38, 3) := by decide +kernel
theorem dX7_rosters_17 : decode cX7_rosters 17 = .ok (.iload_n 1, 1) := by decide +kernel
theorem dX7_rosters_18 : decode cX7_rosters 18 = .ok (.aaload, 1) := by decide +kernel
theorem dX7_rosters_19 : decode cX7_rosters 19 = .ok (.astore_n 2, 1) := by decide +kernel
theorem dX7_rosters_20 : decode cX7_rosters 20 = .ok (.aload_n 2, 1) := by decide +kernel
theorem dX7_rosters_21 : decode cX7_rosters 21 = .ok (.invokevirtual 224, 3) := by decide +kernel
theorem dX7_rosters_24 : decode cX7_rosters 24 = .ok (.ifCond .eq 9, 3) := by decide +kernel
theorem dX7_rosters_27 : decode cX7_rosters 27 = .ok (.aload_n 0, 1) := by decide +kernel
theorem dX7_rosters_28 : decode cX7_rosters 28 = .ok (.iconst 2, 1) := by decide +kernel
theorem dX7_rosters_29 : decode cX7_rosters 29 = .ok (.invokevirtual 51, 3) := by decide +kernel
theorem dX7_rosters_32 : decode cX7_rosters 32 = .ok (.ireturn, 1) := by decide +kernel
theorem dX7_rosters_33 : decode cX7_rosters 33 = .ok (.iconst 0, 1) := by decide +kernel
theorem dX7_rosters_34 : decode cX7_rosters 34 = .ok (.istore_n 3, 1) := by decide +kernel
theorem dX7_rosters_35 : decode cX7_rosters 35 = .ok (.iconst 0, 1) := by decide +kernel
theorem dX7_rosters_36 : decode cX7_rosters 36 = .ok (.istore 4, 2) := by decide +kernel
theorem dX7_rosters_38 : decode cX7_rosters 38 = .ok (.iload 4, 2) := by decide +kernel
theorem dX7_rosters_40 : decode cX7_rosters 40 = .ok (.iconst 1, 1) := by decide +kernel
theorem dX7_rosters_41 : decode cX7_rosters 41 = .ok (.iadd, 1) := by decide +kernel
theorem dX7_rosters_42 : decode cX7_rosters 42 = .ok (.aload_n 2, 1) := by decide +kernel
theorem dX7_rosters_43 : decode cX7_rosters 43 = .ok (.getfield 228, 3) := by decide +kernel
theorem dX7_rosters_46 : decode cX7_rosters 46 = .ok (.if_icmp .ge 69, 3) := by decide +kernel
theorem dX7_rosters_49 : decode cX7_rosters 49 = .ok (.aload_n 2, 1) := by decide +kernel
theorem dX7_rosters_50 : decode cX7_rosters 50 = .ok (.getfield 240, 3) := by decide +kernel
theorem dX7_rosters_53 : decode cX7_rosters 53 = .ok (.iload 4, 2) := by decide +kernel
theorem dX7_rosters_55 : decode cX7_rosters 55 = .ok (.iaload, 1) := by decide +kernel
theorem dX7_rosters_56 : decode cX7_rosters 56 = .ok (.istore 5, 2) := by decide +kernel
theorem dX7_rosters_58 : decode cX7_rosters 58 = .ok (.aload_n 2, 1) := by decide +kernel
theorem dX7_rosters_59 : decode cX7_rosters 59 = .ok (.getfield 240, 3) := by decide +kernel
theorem dX7_rosters_62 : decode cX7_rosters 62 = .ok (.iload 4, 2) := by decide +kernel
theorem dX7_rosters_64 : decode cX7_rosters 64 = .ok (.iconst 1, 1) := by decide +kernel
theorem dX7_rosters_65 : decode cX7_rosters 65 = .ok (.iadd, 1) := by decide +kernel
theorem dX7_rosters_66 : decode cX7_rosters 66 = .ok (.iaload, 1) := by decide +kernel
theorem dX7_rosters_67 : decode cX7_rosters 67 = .ok (.istore 6, 2) := by decide +kernel
theorem dX7_rosters_69 : decode cX7_rosters 69 = .ok (.iload 5, 2) := by decide +kernel
theorem dX7_rosters_71 : decode cX7_rosters 71 = .ok (.iload 6, 2) := by decide +kernel
theorem dX7_rosters_73 : decode cX7_rosters 73 = .ok (.invokestatic 112, 3) := by decide +kernel
theorem dX7_rosters_76 : decode cX7_rosters 76 = .ok (.ifCond .eq 39, 3) := by decide +kernel
theorem dX7_rosters_79 : decode cX7_rosters 79 = .ok (.aload_n 0, 1) := by decide +kernel
theorem dX7_rosters_80 : decode cX7_rosters 80 = .ok (.getfield 10, 3) := by decide +kernel
theorem dX7_rosters_83 : decode cX7_rosters 83 = .ok (.getfield 115, 3) := by decide +kernel
theorem dX7_rosters_86 : decode cX7_rosters 86 = .ok (.bipush 12, 2) := by decide +kernel
theorem dX7_rosters_88 : decode cX7_rosters 88 = .ok (.if_icmp .lt 6, 3) := by decide +kernel
theorem dX7_rosters_91 : decode cX7_rosters 91 = .ok (.goto 24, 3) := by decide +kernel
theorem dX7_rosters_94 : decode cX7_rosters 94 = .ok (.aload_n 0, 1) := by decide +kernel
theorem dX7_rosters_95 : decode cX7_rosters 95 = .ok (.getfield 10, 3) := by decide +kernel
theorem dX7_rosters_98 : decode cX7_rosters 98 = .ok (.iload 5, 2) := by decide +kernel
theorem dX7_rosters_100 : decode cX7_rosters 100 = .ok (.iload 6, 2) := by decide +kernel
theorem dX7_rosters_102 : decode cX7_rosters 102 = .ok (.invokevirtual 118, 3) := by decide +kernel
theorem dX7_rosters_105 : decode cX7_rosters 105 = .ok (.pop, 1) := by decide +kernel
theorem dX7_rosters_106 : decode cX7_rosters 106 = .ok (.iinc 3 1, 3) := by decide +kernel
theorem dX7_rosters_109 : decode cX7_rosters 109 = .ok (.iinc 4 2, 3) := by decide +kernel
theorem dX7_rosters_112 : decode cX7_rosters 112 = .ok (.goto (-74), 3) := by decide +kernel
theorem dX7_rosters_115 : decode cX7_rosters 115 = .ok (.iload_n 3, 1) := by decide +kernel
theorem dX7_rosters_116 : decode cX7_rosters 116 = .ok (.ireturn, 1) := by decide +kernel
theorem dX7_judge_0 : decode cX7_judge 0 = .ok (.iload_n 1, 1) := by decide +kernel
theorem dX7_judge_1 : decode cX7_judge 1 = .ok (.invokestatic 218, 3) := by decide +kernel
theorem dX7_judge_4 : decode cX7_judge 4 = .ok (.ifCond .ne 9, 3) := by decide +kernel
theorem dX7_judge_7 : decode cX7_judge 7 = .ok (.aload_n 0, 1) := by decide +kernel
theorem dX7_judge_8 : decode cX7_judge 8 = .ok (.iconst 1, 1) := by decide +kernel
theorem dX7_judge_9 : decode cX7_judge 9 = .ok (.invokevirtual 51, 3) := by decide +kernel
theorem dX7_judge_12 : decode cX7_judge 12 = .ok (.ireturn, 1) := by decide +kernel
theorem dX7_judge_13 : decode cX7_judge 13 = .ok (.aload_n 0, 1) := by decide +kernel
theorem dX7_judge_14 : decode cX7_judge 14 = .ok (.getfield 38, 3) := by decide +kernel
theorem dX7_judge_17 : decode cX7_judge 17 = .ok (.iload_n 1, 1) := by decide +kernel
theorem dX7_judge_18 : decode cX7_judge 18 = .ok (.aaload, 1) := by decide +kernel
theorem dX7_judge_19 : decode cX7_judge 19 = .ok (.astore_n 2, 1) := by decide +kernel
theorem dX7_judge_20 : decode cX7_judge 20 = .ok (.aload_n 2, 1) := by decide +kernel
theorem dX7_judge_21 : decode cX7_judge 21 = .ok (.invokevirtual 224, 3) := by decide +kernel
theorem dX7_judge_24 : decode cX7_judge 24 = .ok (.ifCond .eq 9, 3) := by decide +kernel
theorem dX7_judge_27 : decode cX7_judge 27 = .ok (.aload_n 0, 1) := by decide +kernel
theorem dX7_judge_28 : decode cX7_judge 28 = .ok (.iconst 2, 1) := by decide +kernel
theorem dX7_judge_29 : decode cX7_judge 29 = .ok (.invokevirtual 51, 3) := by decide +kernel
theorem dX7_judge_32 : decode cX7_judge 32 = .ok (.ireturn, 1) := by decide +kernel
theorem dX7_judge_33 : decode cX7_judge 33 = .ok (.aload_n 2, 1) := by decide +kernel
theorem dX7_judge_34 : decode cX7_judge 34 = .ok (.getfield 228, 3) := by decide +kernel
theorem dX7_judge_37 : decode cX7_judge 37 = .ok (.aload_n 0, 1) := by decide +kernel
theorem dX7_judge_38 : decode cX7_judge 38 = .ok (.getfield 10, 3) := by decide +kernel
theorem dX7_judge_41 : decode cX7_judge 41 = .ok (.getfield 55, 3) := by decide +kernel
theorem dX7_judge_44 : decode cX7_judge 44 = .ok (.invokestatic 196, 3) := by decide +kernel
theorem dX7_judge_47 : decode cX7_judge 47 = .ok (.istore_n 3, 1) := by decide +kernel
theorem dX7_judge_48 : decode cX7_judge 48 = .ok (.iconst 0, 1) := by decide +kernel
theorem dX7_judge_49 : decode cX7_judge 49 = .ok (.istore 4, 2) := by decide +kernel
theorem dX7_judge_51 : decode cX7_judge 51 = .ok (.iload 4, 2) := by decide +kernel
theorem dX7_judge_53 : decode cX7_judge 53 = .ok (.iload_n 3, 1) := by decide +kernel
theorem dX7_judge_54 : decode cX7_judge 54 = .ok (.if_icmp .ge 35, 3) := by decide +kernel
theorem dX7_judge_57 : decode cX7_judge 57 = .ok (.aload_n 2, 1) := by decide +kernel
theorem dX7_judge_58 : decode cX7_judge 58 = .ok (.getfield 240, 3) := by decide +kernel
theorem dX7_judge_61 : decode cX7_judge 61 = .ok (.iload 4, 2) := by decide +kernel
theorem dX7_judge_63 : decode cX7_judge 63 = .ok (.iaload, 1) := by decide +kernel
theorem dX7_judge_64 : decode cX7_judge 64 = .ok (.aload_n 0, 1) := by decide +kernel
theorem dX7_judge_65 : decode cX7_judge 65 = .ok (.getfield 10, 3) := by decide +kernel
theorem dX7_judge_68 : decode cX7_judge 68 = .ok (.getfield 70, 3) := by decide +kernel
theorem dX7_judge_71 : decode cX7_judge 71 = .ok (.iload 4, 2) := by decide +kernel
theorem dX7_judge_73 : decode cX7_judge 73 = .ok (.aaload, 1) := by decide +kernel
theorem dX7_judge_74 : decode cX7_judge 74 = .ok (.getfield 79, 3) := by decide +kernel
theorem dX7_judge_77 : decode cX7_judge 77 = .ok (.if_icmp .eq 6, 3) := by decide +kernel
theorem dX7_judge_80 : decode cX7_judge 80 = .ok (.iload 4, 2) := by decide +kernel
theorem dX7_judge_82 : decode cX7_judge 82 = .ok (.ireturn, 1) := by decide +kernel
theorem dX7_judge_83 : decode cX7_judge 83 = .ok (.iinc 4 1, 3) := by decide +kernel
theorem dX7_judge_86 : decode cX7_judge 86 = .ok (.goto (-35), 3) := by decide +kernel
theorem dX7_judge_89 : decode cX7_judge 89 = .ok (.aload_n 2, 1) := by decide +kernel
theorem dX7_judge_90 : decode cX7_judge 90 = .ok (.getfield 228, 3) := by decide +kernel
theorem dX7_judge_93 : decode cX7_judge 93 = .ok (.aload_n 0, 1) := by decide +kernel
theorem dX7_judge_94 : decode cX7_judge 94 = .ok (.getfield 10, 3) := by decide +kernel
theorem dX7_judge_97 : decode cX7_judge 97 = .ok (.getfield 55, 3) := by decide +kernel
theorem dX7_judge_100 : decode cX7_judge 100 = .ok (.if_icmp .ne 7, 3) := by decide +kernel
theorem dX7_judge_103 : decode cX7_judge 103 = .ok (.iconst (-1), 1) := by decide +kernel
theorem dX7_judge_104 : decode cX7_judge 104 = .ok (.goto 4, 3) := by decide +kernel
theorem dX7_judge_107 : decode cX7_judge 107 = .ok (.iload_n 3, 1) := by decide +kernel
theorem dX7_judge_108 : decode cX7_judge 108 = .ok (.ireturn, 1) := by decide +kernel
theorem dX7_image_0 : decode cX7_image 0 = .ok (.aload_n 0, 1) := by decide +kernel
theorem dX7_image_1 : decode cX7_image 1 = .ok (.getfield 16, 3) := by decide +kernel
theorem dX7_image_4 : decode cX7_image 4 = .ok (.aload_n 0, 1) := by decide +kernel
theorem dX7_image_5 : decode cX7_image 5 = .ok (.getfield 10, 3) := by decide +kernel
theorem dX7_image_8 : decode cX7_image 8 = .ok (.invokevirtual 249, 3) := by decide +kernel
theorem dX7_image_11 : decode cX7_image 11 = .ok (.aload_n 0, 1) := by decide +kernel
theorem dX7_image_12 : decode cX7_image 12 = .ok (.dup, 1) := by decide +kernel
theorem dX7_image_13 : decode cX7_image 13 = .ok (.getfield 253, 3) := by decide +kernel
theorem dX7_image_16 : decode cX7_image 16 = .ok (.iconst 1, 1) := by decide +kernel
theorem dX7_image_17 : decode cX7_image 17 = .ok (.iadd, 1) := by decide +kernel
theorem dX7_image_18 : decode cX7_image 18 = .ok (.putfield 253, 3) := by decide +kernel
theorem dX7_image_21 : decode cX7_image 21 = .ok (.aload_n 0, 1) := by decide +kernel
theorem dX7_image_22 : decode cX7_image 22 = .ok (.getfield 253, 3) := by decide +kernel
theorem dX7_image_25 : decode cX7_image 25 = .ok (.ireturn, 1) := by decide +kernel
theorem dX7_restore_0 : decode cX7_restore 0 = .ok (.aload_n 0, 1) := by decide +kernel
theorem dX7_restore_1 : decode cX7_restore 1 = .ok (.getfield 253, 3) := by decide +kernel
theorem dX7_restore_4 : decode cX7_restore 4 = .ok (.ifCond .ne 9, 3) := by decide +kernel
theorem dX7_restore_7 : decode cX7_restore 7 = .ok (.aload_n 0, 1) := by decide +kernel
theorem dX7_restore_8 : decode cX7_restore 8 = .ok (.iconst 2, 1) := by decide +kernel
theorem dX7_restore_9 : decode cX7_restore 9 = .ok (.invokevirtual 51, 3) := by decide +kernel
theorem dX7_restore_12 : decode cX7_restore 12 = .ok (.ireturn, 1) := by decide +kernel
theorem dX7_restore_13 : decode cX7_restore 13 = .ok (.aload_n 0, 1) := by decide +kernel
theorem dX7_restore_14 : decode cX7_restore 14 = .ok (.getfield 10, 3) := by decide +kernel
theorem dX7_restore_17 : decode cX7_restore 17 = .ok (.aload_n 0, 1) := by decide +kernel
theorem dX7_restore_18 : decode cX7_restore 18 = .ok (.getfield 16, 3) := by decide +kernel
theorem dX7_restore_21 : decode cX7_restore 21 = .ok (.invokevirtual 249, 3) := by decide +kernel
theorem dX7_restore_24 : decode cX7_restore 24 = .ok (.aload_n 0, 1) := by decide +kernel
theorem dX7_restore_25 : decode cX7_restore 25 = .ok (.getfield 10, 3) := by decide +kernel
theorem dX7_restore_28 : decode cX7_restore 28 = .ok (.getfield 157, 3) := by decide +kernel
theorem dX7_restore_31 : decode cX7_restore 31 = .ok (.ireturn, 1) := by decide +kernel
theorem dX7_tell_0 : decode cX7_tell 0 = .ok (.aload_n 0, 1) := by decide +kernel
theorem dX7_tell_1 : decode cX7_tell 1 = .ok (.getfield 10, 3) := by decide +kernel
theorem dX7_tell_4 : decode cX7_tell 4 = .ok (.getfield 256, 3) := by decide +kernel
theorem dX7_tell_7 : decode cX7_tell 7 = .ok (.bipush 24, 2) := by decide +kernel
theorem dX7_tell_9 : decode cX7_tell 9 = .ok (.if_icmp .lt 9, 3) := by decide +kernel
theorem dX7_tell_12 : decode cX7_tell 12 = .ok (.aload_n 0, 1) := by decide +kernel
theorem dX7_tell_13 : decode cX7_tell 13 = .ok (.iconst 4, 1) := by decide +kernel
theorem dX7_tell_14 : decode cX7_tell 14 = .ok (.invokevirtual 51, 3) := by decide +kernel
theorem dX7_tell_17 : decode cX7_tell 17 = .ok (.ireturn, 1) := by decide +kernel
theorem dX7_tell_18 : decode cX7_tell 18 = .ok (.aload_n 0, 1) := by decide +kernel
theorem dX7_tell_19 : decode cX7_tell 19 = .ok (.getfield 10, 3) := by decide +kernel
theorem dX7_tell_22 : decode cX7_tell 22 = .ok (.getfield 259, 3) := by decide +kernel
theorem dX7_tell_25 : decode cX7_tell 25 = .ok (.aload_n 0, 1) := by decide +kernel
theorem dX7_tell_26 : decode cX7_tell 26 = .ok (.getfield 10, 3) := by decide +kernel
theorem dX7_tell_29 : decode cX7_tell 29 = .ok (.getfield 256, 3) := by decide +kernel
theorem dX7_tell_32 : decode cX7_tell 32 = .ok (.iload_n 1, 1) := by decide +kernel
theorem dX7_tell_33 : decode cX7_tell 33 = .ok (.iastore, 1) := by decide +kernel
theorem dX7_tell_34 : decode cX7_tell 34 = .ok (.aload_n 0, 1) := by decide +kernel
theorem dX7_tell_35 : decode cX7_tell 35 = .ok (.getfield 10, 3) := by decide +kernel
theorem dX7_tell_38 : decode cX7_tell 38 = .ok (.dup, 1) := by decide +kernel
theorem dX7_tell_39 : decode cX7_tell 39 = .ok (.getfield 256, 3) := by decide +kernel
theorem dX7_tell_42 : decode cX7_tell 42 = .ok (.iconst 1, 1) := by decide +kernel
theorem dX7_tell_43 : decode cX7_tell 43 = .ok (.iadd, 1) := by decide +kernel
theorem dX7_tell_44 : decode cX7_tell 44 = .ok (.putfield 256, 3) := by decide +kernel
theorem dX7_tell_47 : decode cX7_tell 47 = .ok (.aload_n 0, 1) := by decide +kernel
theorem dX7_tell_48 : decode cX7_tell 48 = .ok (.getfield 10, 3) := by decide +kernel
theorem dX7_tell_51 : decode cX7_tell 51 = .ok (.getfield 256, 3) := by decide +kernel
theorem dX7_tell_54 : decode cX7_tell 54 = .ok (.ireturn, 1) := by decide +kernel
theorem dX7_check_0 : decode cX7_check 0 = .ok (.aload_n 0, 1) := by decide +kernel
theorem dX7_check_1 : decode cX7_check 1 = .ok (.getfield 10, 3) := by decide +kernel
theorem dX7_check_4 : decode cX7_check 4 = .ok (.getfield 256, 3) := by decide +kernel
theorem dX7_check_7 : decode cX7_check 7 = .ok (.istore_n 2, 1) := by decide +kernel
theorem dX7_check_8 : decode cX7_check 8 = .ok (.aload_n 0, 1) := by decide +kernel
theorem dX7_check_9 : decode cX7_check 9 = .ok (.getfield 10, 3) := by decide +kernel
theorem dX7_check_12 : decode cX7_check 12 = .ok (.iconst 0, 1) := by decide +kernel
theorem dX7_check_13 : decode cX7_check 13 = .ok (.putfield 256, 3) := by decide +kernel
theorem dX7_check_16 : decode cX7_check 16 = .ok (.iload_n 1, 1) := by decide +kernel
theorem dX7_check_17 : decode cX7_check 17 = .ok (.invokestatic 95, 3) := by decide +kernel
theorem dX7_check_20 : decode cX7_check 20 = .ok (.ifCond .ne 9, 3) := by decide +kernel
theorem dX7_check_23 : decode cX7_check 23 = .ok (.aload_n 0, 1) := by decide +kernel
theorem dX7_check_24 : decode cX7_check 24 = .ok (.iconst 1, 1) := by decide +kernel
theorem dX7_check_25 : decode cX7_check 25 = .ok (.invokevirtual 51, 3) := by decide +kernel
theorem dX7_check_28 : decode cX7_check 28 = .ok (.ireturn, 1) := by decide +kernel
theorem dX7_check_29 : decode cX7_check 29 = .ok (.aload_n 0, 1) := by decide +kernel
theorem dX7_check_30 : decode cX7_check 30 = .ok (.iconst 0, 1) := by decide +kernel
theorem dX7_check_31 : decode cX7_check 31 = .ok (.invokevirtual 173, 3) := by decide +kernel
theorem dX7_check_34 : decode cX7_check 34 = .ok (.iconst 0, 1) := by decide +kernel
theorem dX7_check_35 : decode cX7_check 35 = .ok (.istore_n 3, 1) := by decide +kernel
theorem dX7_check_36 : decode cX7_check 36 = .ok (.iload_n 3, 1) := by decide +kernel
theorem dX7_check_37 : decode cX7_check 37 = .ok (.iload_n 2, 1) := by decide +kernel
theorem dX7_check_38 : decode cX7_check 38 = .ok (.if_icmp .ge 41, 3) := by decide +kernel
theorem dX7_check_41 : decode cX7_check 41 = .ok (.aload_n 0, 1) := by decide +kernel
theorem dX7_check_42 : decode cX7_check 42 = .ok (.getfield 19, 3) := by decide +kernel
theorem dX7_check_45 : decode cX7_check 45 = .ok (.invokevirtual 160, 3) := by decide +kernel
theorem dX7_check_48 : decode cX7_check 48 = .ok (.pop, 1) := by decide +kernel
theorem dX7_check_49 : decode cX7_check 49 = .ok (.aload_n 0, 1) := by decide +kernel
theorem dX7_check_50 : decode cX7_check 50 = .ok (.getfield 19, 3) := by decide +kernel
theorem dX7_check_53 : decode cX7_check 53 = .ok (.iload_n 1, 1) := by decide +kernel
theorem dX7_check_54 : decode cX7_check 54 = .ok (.invokevirtual 176, 3) := by decide +kernel
theorem dX7_check_57 : decode cX7_check 57 = .ok (.aload_n 0, 1) := by decide +kernel
theorem dX7_check_58 : decode cX7_check 58 = .ok (.getfield 10, 3) := by decide +kernel
theorem dX7_check_61 : decode cX7_check 61 = .ok (.getfield 259, 3) := by decide +kernel
theorem dX7_check_64 : decode cX7_check 64 = .ok (.iload_n 3, 1) := by decide +kernel
theorem dX7_check_65 : decode cX7_check 65 = .ok (.iaload, 1) := by decide +kernel
theorem dX7_check_66 : decode cX7_check 66 = .ok (.if_icmp .eq 7, 3) := by decide +kernel
theorem dX7_check_69 : decode cX7_check 69 = .ok (.iconst 1, 1) := by decide +kernel
theorem dX7_check_70 : decode cX7_check 70 = .ok (.iload_n 3, 1) := by decide +kernel
theorem dX7_check_71 : decode cX7_check 71 = .ok (.iadd, 1) := by decide +kernel
theorem dX7_check_72 : decode cX7_check 72 = .ok (.ireturn, 1) := by decide +kernel
theorem dX7_check_73 : decode cX7_check 73 = .ok (.iinc 3 1, 3) := by decide +kernel
theorem dX7_check_76 : decode cX7_check 76 = .ok (.goto (-40), 3) := by decide +kernel
theorem dX7_check_79 : decode cX7_check 79 = .ok (.iconst 0, 1) := by decide +kernel
theorem dX7_check_80 : decode cX7_check 80 = .ok (.ireturn, 1) := by decide +kernel
theorem dX7_count_0 : decode cX7_count 0 = .ok (.iload_n 1, 1) := by decide +kernel
theorem dX7_count_1 : decode cX7_count 1 = .ok (.tableswitch 147 0 10 #[59, 67, 75, 83, 91, 99, 107, 115, 123, 131, 139], 59) := by decide +kernel
theorem dX7_count_60 : decode cX7_count 60 = .ok (.aload_n 0, 1) := by decide +kernel
theorem dX7_count_61 : decode cX7_count 61 = .ok (.getfield 10, 3) := by decide +kernel
theorem dX7_count_64 : decode cX7_count 64 = .ok (.getfield 55, 3) := by decide +kernel
theorem dX7_count_67 : decode cX7_count 67 = .ok (.ireturn, 1) := by decide +kernel
theorem dX7_count_68 : decode cX7_count 68 = .ok (.aload_n 0, 1) := by decide +kernel
theorem dX7_count_69 : decode cX7_count 69 = .ok (.getfield 10, 3) := by decide +kernel
theorem dX7_count_72 : decode cX7_count 72 = .ok (.getfield 115, 3) := by decide +kernel
theorem dX7_count_75 : decode cX7_count 75 = .ok (.ireturn, 1) := by decide +kernel
theorem dX7_count_76 : decode cX7_count 76 = .ok (.aload_n 0, 1) := by decide +kernel
theorem dX7_count_77 : decode cX7_count 77 = .ok (.getfield 10, 3) := by decide +kernel
theorem dX7_count_80 : decode cX7_count 80 = .ok (.getfield 262, 3) := by decide +kernel
theorem dX7_count_83 : decode cX7_count 83 = .ok (.ireturn, 1) := by decide +kernel
theorem dX7_count_84 : decode cX7_count 84 = .ok (.aload_n 0, 1) := by decide +kernel
theorem dX7_count_85 : decode cX7_count 85 = .ok (.getfield 10, 3) := by decide +kernel
theorem dX7_count_88 : decode cX7_count 88 = .ok (.getfield 157, 3) := by decide +kernel
theorem dX7_count_91 : decode cX7_count 91 = .ok (.ireturn, 1) := by decide +kernel
theorem dX7_count_92 : decode cX7_count 92 = .ok (.aload_n 0, 1) := by decide +kernel
theorem dX7_count_93 : decode cX7_count 93 = .ok (.getfield 10, 3) := by decide +kernel
theorem dX7_count_96 : decode cX7_count 96 = .ok (.invokevirtual 265, 3) := by decide +kernel
theorem dX7_count_99 : decode cX7_count 99 = .ok (.ireturn, 1) := by decide +kernel
theorem dX7_count_100 : decode cX7_count 100 = .ok (.aload_n 0, 1) := by decide +kernel
theorem dX7_count_101 : decode cX7_count 101 = .ok (.getfield 10, 3) := by decide +kernel
theorem dX7_count_104 : decode cX7_count 104 = .ok (.getfield 121, 3) := by decide +kernel
theorem dX7_count_107 : decode cX7_count 107 = .ok (.ireturn, 1) := by decide +kernel
theorem dX7_count_108 : decode cX7_count 108 = .ok (.aload_n 0, 1) := by decide +kernel
theorem dX7_count_109 : decode cX7_count 109 = .ok (.getfield 10, 3) := by decide +kernel
theorem dX7_count_112 : decode cX7_count 112 = .ok (.getfield 167, 3) := by decide +kernel
theorem dX7_count_115 : decode cX7_count 115 = .ok (.ireturn, 1) := by decide +kernel
theorem dX7_count_116 : decode cX7_count 116 = .ok (.aload_n 0, 1) := by decide +kernel
theorem dX7_count_117 : decode cX7_count 117 = .ok (.getfield 10, 3) := by decide +kernel
theorem dX7_count_120 : decode cX7_count 120 = .ok (.getfield 139, 3) := by decide +kernel
theorem dX7_count_123 : decode cX7_count 123 = .ok (.ireturn, 1) := by decide +kernel
theorem dX7_count_124 : decode cX7_count 124 = .ok (.aload_n 0, 1) := by decide +kernel
theorem dX7_count_125 : decode cX7_count 125 = .ok (.getfield 10, 3) := by decide +kernel
theorem dX7_count_128 : decode cX7_count 128 = .ok (.getfield 256, 3) := by decide +kernel
theorem dX7_count_131 : decode cX7_count 131 = .ok (.ireturn, 1) := by decide +kernel
theorem dX7_count_132 : decode cX7_count 132 = .ok (.aload_n 0, 1) := by decide +kernel
theorem dX7_count_133 : decode cX7_count 133 = .ok (.getfield 32, 3) := by decide +kernel
theorem dX7_count_136 : decode cX7_count 136 = .ok (.getfield 212, 3) := by decide +kernel
theorem dX7_count_139 : decode cX7_count 139 = .ok (.ireturn, 1) := by decide +kernel
theorem dX7_count_140 : decode cX7_count 140 = .ok (.aload_n 0, 1) := by decide +kernel
theorem dX7_count_141 : decode cX7_count 141 = .ok (.getfield 10, 3) := by decide +kernel
theorem dX7_count_144 : decode cX7_count 144 = .ok (.getfield 170, 3) := by decide +kernel
theorem dX7_count_147 : decode cX7_count 147 = .ok (.ireturn, 1) := by decide +kernel
theorem dX7_count_148 : decode cX7_count 148 = .ok (.aload_n 0, 1) := by decide +kernel
theorem dX7_count_149 : decode cX7_count 149 = .ok (.iconst 1, 1) := by decide +kernel
theorem dX7_count_150 : decode cX7_count 150 = .ok (.invokevirtual 51, 3) := by decide +kernel
theorem dX7_count_153 : decode cX7_count 153 = .ok (.ireturn, 1) := by decide +kernel
theorem dX7_told_0 : decode cX7_told 0 = .ok (.iload_n 1, 1) := by decide +kernel
theorem dX7_told_1 : decode cX7_told 1 = .ok (.iconst 1, 1) := by decide +kernel
theorem dX7_told_2 : decode cX7_told 2 = .ok (.bipush 6, 2) := by decide +kernel
theorem dX7_told_4 : decode cX7_told 4 = .ok (.invokestatic 47, 3) := by decide +kernel
theorem dX7_told_7 : decode cX7_told 7 = .ok (.ifCond .eq 12, 3) := by decide +kernel
theorem dX7_told_10 : decode cX7_told 10 = .ok (.aload_n 0, 1) := by decide +kernel
theorem dX7_told_11 : decode cX7_told 11 = .ok (.getfield 42, 3) := by decide +kernel
theorem dX7_told_14 : decode cX7_told 14 = .ok (.iload_n 1, 1) := by decide +kernel
theorem dX7_told_15 : decode cX7_told 15 = .ok (.iaload, 1) := by decide +kernel
theorem dX7_told_16 : decode cX7_told 16 = .ok (.goto 8, 3) := by decide +kernel
theorem dX7_told_19 : decode cX7_told 19 = .ok (.aload_n 0, 1) := by decide +kernel
theorem dX7_told_20 : decode cX7_told 20 = .ok (.iconst 1, 1) := by decide +kernel
theorem dX7_told_21 : decode cX7_told 21 = .ok (.invokevirtual 51, 3) := by decide +kernel
theorem dX7_told_24 : decode cX7_told 24 = .ok (.ireturn, 1) := by decide +kernel
theorem dX7_within_0 : decode cX7_within 0 = .ok (.iload_n 0, 1) := by decide +kernel
theorem dX7_within_1 : decode cX7_within 1 = .ok (.iload_n 1, 1) := by decide +kernel
theorem dX7_within_2 : decode cX7_within 2 = .ok (.if_icmp .lt 12, 3) := by decide +kernel
theorem dX7_within_5 : decode cX7_within 5 = .ok (.iload_n 0, 1) := by decide +kernel
theorem dX7_within_6 : decode cX7_within 6 = .ok (.iload_n 2, 1) := by decide +kernel
theorem dX7_within_7 : decode cX7_within 7 = .ok (.if_icmp .gt 7, 3) := by decide +kernel
theorem dX7_within_10 : decode cX7_within 10 = .ok (.iconst 1, 1) := by decide +kernel
theorem dX7_within_11 : decode cX7_within 11 = .ok (.goto 4, 3) := by decide +kernel
theorem dX7_within_14 : decode cX7_within 14 = .ok (.iconst 0, 1) := by decide +kernel
theorem dX7_within_15 : decode cX7_within 15 = .ok (.ireturn, 1) := by decide +kernel
theorem dX7_isKnack_0 : decode cX7_isKnack 0 = .ok (.iload_n 0, 1) := by decide +kernel
theorem dX7_isKnack_1 : decode cX7_isKnack 1 = .ok (.iconst 0, 1) := by decide +kernel
theorem dX7_isKnack_2 : decode cX7_isKnack 2 = .ok (.iconst 5, 1) := by decide +kernel
theorem dX7_isKnack_3 : decode cX7_isKnack 3 = .ok (.invokestatic 47, 3) := by decide +kernel
theorem dX7_isKnack_6 : decode cX7_isKnack 6 = .ok (.ireturn, 1) := by decide +kernel
theorem dX7_isSheet_0 : decode cX7_isSheet 0 = .ok (.iload_n 0, 1) := by decide +kernel
theorem dX7_isSheet_1 : decode cX7_isSheet 1 = .ok (.iconst 0, 1) := by decide +kernel
theorem dX7_isSheet_2 : decode cX7_isSheet 2 = .ok (.iconst 3, 1) := by decide +kernel
theorem dX7_isSheet_3 : decode cX7_isSheet 3 = .ok (.invokestatic 47, 3) := by decide +kernel
theorem dX7_isSheet_6 : decode cX7_isSheet 6 = .ok (.ireturn, 1) := by decide +kernel
theorem dX7_mayEnlist_0 : decode cX7_mayEnlist 0 = .ok (.iload_n 0, 1) := by decide +kernel
theorem dX7_mayEnlist_1 : decode cX7_mayEnlist 1 = .ok (.iconst 0, 1) := by decide +kernel
theorem dX7_mayEnlist_2 : decode cX7_mayEnlist 2 = .ok (.bipush 69, 2) := by decide +kernel
theorem dX7_mayEnlist_4 : decode cX7_mayEnlist 4 = .ok (.invokestatic 47, 3) := by decide +kernel
theorem dX7_mayEnlist_7 : decode cX7_mayEnlist 7 = .ok (.ifCond .eq 17, 3) := by decide +kernel
theorem dX7_mayEnlist_10 : decode cX7_mayEnlist 10 = .ok (.iload_n 1, 1) := by decide +kernel
theorem dX7_mayEnlist_11 : decode cX7_mayEnlist 11 = .ok (.iconst 0, 1) := by decide +kernel
theorem dX7_mayEnlist_12 : decode cX7_mayEnlist 12 = .ok (.bipush 63, 2) := by decide +kernel
theorem dX7_mayEnlist_14 : decode cX7_mayEnlist 14 = .ok (.invokestatic 47, 3) := by decide +kernel
theorem dX7_mayEnlist_17 : decode cX7_mayEnlist 17 = .ok (.ifCond .eq 7, 3) := by decide +kernel
theorem dX7_mayEnlist_20 : decode cX7_mayEnlist 20 = .ok (.iconst 1, 1) := by decide +kernel
theorem dX7_mayEnlist_21 : decode cX7_mayEnlist 21 = .ok (.goto 4, 3) := by decide +kernel
theorem dX7_mayEnlist_24 : decode cX7_mayEnlist 24 = .ok (.iconst 0, 1) := by decide +kernel
theorem dX7_mayEnlist_25 : decode cX7_mayEnlist 25 = .ok (.ireturn, 1) := by decide +kernel
theorem dX7_maySet_0 : decode cX7_maySet 0 = .ok (.iload_n 0, 1) := by decide +kernel
theorem dX7_maySet_1 : decode cX7_maySet 1 = .ok (.tableswitch 58 0 4 #[35, 43, 58, 58, 51], 35) := by decide +kernel
theorem dX7_maySet_36 : decode cX7_maySet 36 = .ok (.iload_n 1, 1) := by decide +kernel
theorem dX7_maySet_37 : decode cX7_maySet 37 = .ok (.iconst 0, 1) := by decide +kernel
theorem dX7_maySet_38 : decode cX7_maySet 38 = .ok (.bipush 6, 2) := by decide +kernel
theorem dX7_maySet_40 : decode cX7_maySet 40 = .ok (.invokestatic 47, 3) := by decide +kernel
theorem dX7_maySet_43 : decode cX7_maySet 43 = .ok (.ireturn, 1) := by decide +kernel
theorem dX7_maySet_44 : decode cX7_maySet 44 = .ok (.iload_n 1, 1) := by decide +kernel
theorem dX7_maySet_45 : decode cX7_maySet 45 = .ok (.iconst 0, 1) := by decide +kernel
theorem dX7_maySet_46 : decode cX7_maySet 46 = .ok (.bipush 9, 2) := by decide +kernel
theorem dX7_maySet_48 : decode cX7_maySet 48 = .ok (.invokestatic 47, 3) := by decide +kernel
theorem dX7_maySet_51 : decode cX7_maySet 51 = .ok (.ireturn, 1) := by decide +kernel
theorem dX7_maySet_52 : decode cX7_maySet 52 = .ok (.iload_n 1, 1) := by decide +kernel
theorem dX7_maySet_53 : decode cX7_maySet 53 = .ok (.iconst (-1), 1) := by decide +kernel
theorem dX7_maySet_54 : decode cX7_maySet 54 = .ok (.iconst 5, 1) := by decide +kernel
theorem dX7_maySet_55 : decode cX7_maySet 55 = .ok (.invokestatic 47, 3) := by decide +kernel
theorem dX7_maySet_58 : decode cX7_maySet 58 = .ok (.ireturn, 1) := by decide +kernel
theorem dX7_maySet_59 : decode cX7_maySet 59 = .ok (.iconst 0, 1) := by decide +kernel
theorem dX7_maySet_60 : decode cX7_maySet 60 = .ok (.ireturn, 1) := by decide +kernel
theorem dX7_isBunk_0 : decode cX7_isBunk 0 = .ok (.iload_n 1, 1) := by decide +kernel
theorem dX7_isBunk_1 : decode cX7_isBunk 1 = .ok (.iconst 0, 1) := by decide +kernel
theorem dX7_isBunk_2 : decode cX7_isBunk 2 = .ok (.aload_n 0, 1) := by decide +kernel
theorem dX7_isBunk_3 : decode cX7_isBunk 3 = .ok (.getfield 10, 3) := by decide +kernel
theorem dX7_isBunk_6 : decode cX7_isBunk 6 = .ok (.getfield 55, 3) := by decide +kernel
theorem dX7_isBunk_9 : decode cX7_isBunk 9 = .ok (.iconst 1, 1) := by decide +kernel
theorem dX7_isBunk_10 : decode cX7_isBunk 10 = .ok (.isub, 1) := by decide +kernel
theorem dX7_isBunk_11 : decode cX7_isBunk 11 = .ok (.invokestatic 47, 3) := by decide +kernel
theorem dX7_isBunk_14 : decode cX7_isBunk 14 = .ok (.ireturn, 1) := by decide +kernel
theorem dX7_error_0 : decode cX7_error 0 = .ok (.aload_n 0, 1) := by decide +kernel
theorem dX7_error_1 : decode cX7_error 1 = .ok (.getfield 42, 3) := by decide +kernel
theorem dX7_error_4 : decode cX7_error 4 = .ok (.iload_n 1, 1) := by decide +kernel
theorem dX7_error_5 : decode cX7_error 5 = .ok (.dup2, 1) := by decide +kernel
theorem dX7_error_6 : decode cX7_error 6 = .ok (.iaload, 1) := by decide +kernel
theorem dX7_error_7 : decode cX7_error 7 = .ok (.iconst 1, 1) := by decide +kernel
theorem dX7_error_8 : decode cX7_error 8 = .ok (.iadd, 1) := by decide +kernel
theorem dX7_error_9 : decode cX7_error 9 = .ok (.iastore, 1) := by decide +kernel
theorem dX7_error_10 : decode cX7_error 10 = .ok (.ldc_w 268, 3) := by decide +kernel
theorem dX7_error_13 : decode cX7_error 13 = .ok (.iload_n 1, 1) := by decide +kernel
theorem dX7_error_14 : decode cX7_error 14 = .ok (.isub, 1) := by decide +kernel
theorem dX7_error_15 : decode cX7_error 15 = .ok (.ireturn, 1) := by decide +kernel
theorem dX7_goAhead_0 : decode cX7_goAhead 0 = .ok (.aload_n 0, 1) := by decide +kernel
theorem dX7_goAhead_1 : decode cX7_goAhead 1 = .ok (.getfield 19, 3) := by decide +kernel
theorem dX7_goAhead_4 : decode cX7_goAhead 4 = .ok (.aload_n 0, 1) := by decide +kernel
theorem dX7_goAhead_5 : decode cX7_goAhead 5 = .ok (.getfield 10, 3) := by decide +kernel
theorem dX7_goAhead_8 : decode cX7_goAhead 8 = .ok (.invokevirtual 249, 3) := by decide +kernel
theorem dX7_goAhead_11 : decode cX7_goAhead 11 = .ok (.iconst 0, 1) := by decide +kernel
theorem dX7_goAhead_12 : decode cX7_goAhead 12 = .ok (.istore_n 2, 1) := by decide +kernel
theorem dX7_goAhead_13 : decode cX7_goAhead 13 = .ok (.iload_n 2, 1) := by decide +kernel
theorem dX7_goAhead_14 : decode cX7_goAhead 14 = .ok (.iload_n 1, 1) := by decide +kernel
theorem dX7_goAhead_15 : decode cX7_goAhead 15 = .ok (.if_icmp .ge 17, 3) := by decide +kernel
theorem dX7_goAhead_18 : decode cX7_goAhead 18 = .ok (.aload_n 0, 1) := by decide +kernel
theorem dX7_goAhead_19 : decode cX7_goAhead 19 = .ok (.getfield 19, 3) := by decide +kernel
theorem dX7_goAhead_22 : decode cX7_goAhead 22 = .ok (.invokevirtual 160, 3) := by decide +kernel
theorem dX7_goAhead_25 : decode cX7_goAhead 25 = .ok (.pop, 1) := by decide +kernel
theorem dX7_goAhead_26 : decode cX7_goAhead 26 = .ok (.iinc 2 1, 3) := by decide +kernel
theorem dX7_goAhead_29 : decode cX7_goAhead 29 = .ok (.goto (-16), 3) := by decide +kernel
theorem dX7_goAhead_32 : decode cX7_goAhead 32 = .ok (.return_, 1) := by decide +kernel
theorem dX7_staysKnown_0 : decode cX7_staysKnown 0 = .ok (.aload_n 0, 1) := by decide +kernel
theorem dX7_staysKnown_1 : decode cX7_staysKnown 1 = .ok (.getfield 19, 3) := by decide +kernel
theorem dX7_staysKnown_4 : decode cX7_staysKnown 4 = .ok (.aload_n 0, 1) := by decide +kernel
theorem dX7_staysKnown_5 : decode cX7_staysKnown 5 = .ok (.getfield 10, 3) := by decide +kernel
theorem dX7_staysKnown_8 : decode cX7_staysKnown 8 = .ok (.invokevirtual 249, 3) := by decide +kernel
theorem dX7_staysKnown_11 : decode cX7_staysKnown 11 = .ok (.aload_n 0, 1) := by decide +kernel
theorem dX7_staysKnown_12 : decode cX7_staysKnown 12 = .ok (.getfield 19, 3) := by decide +kernel
theorem dX7_staysKnown_15 : decode cX7_staysKnown 15 = .ok (.iload_n 1, 1) := by decide +kernel
theorem dX7_staysKnown_16 : decode cX7_staysKnown 16 = .ok (.iload_n 3, 1) := by decide +kernel
theorem dX7_staysKnown_17 : decode cX7_staysKnown 17 = .ok (.invokevirtual 269, 3) := by decide +kernel
theorem dX7_staysKnown_20 : decode cX7_staysKnown 20 = .ok (.iconst 0, 1) := by decide +kernel
theorem dX7_staysKnown_21 : decode cX7_staysKnown 21 = .ok (.istore 4, 2) := by decide +kernel
theorem dX7_staysKnown_23 : decode cX7_staysKnown 23 = .ok (.iload 4, 2) := by decide +kernel
theorem dX7_staysKnown_25 : decode cX7_staysKnown 25 = .ok (.iload_n 2, 1) := by decide +kernel
theorem dX7_staysKnown_26 : decode cX7_staysKnown 26 = .ok (.if_icmp .ge 30, 3) := by decide +kernel
theorem dX7_staysKnown_29 : decode cX7_staysKnown 29 = .ok (.aload_n 0, 1) := by decide +kernel
theorem dX7_staysKnown_30 : decode cX7_staysKnown 30 = .ok (.getfield 19, 3) := by decide +kernel
theorem dX7_staysKnown_33 : decode cX7_staysKnown 33 = .ok (.invokevirtual 160, 3) := by decide +kernel
theorem dX7_staysKnown_36 : decode cX7_staysKnown 36 = .ok (.pop, 1) := by decide +kernel
theorem dX7_staysKnown_37 : decode cX7_staysKnown 37 = .ok (.aload_n 0, 1) := by decide +kernel
theorem dX7_staysKnown_38 : decode cX7_staysKnown 38 = .ok (.getfield 19, 3) := by decide +kernel
theorem dX7_staysKnown_41 : decode cX7_staysKnown 41 = .ok (.iload_n 1, 1) := by decide +kernel
theorem dX7_staysKnown_42 : decode cX7_staysKnown 42 = .ok (.invokevirtual 176, 3) := by decide +kernel
theorem dX7_staysKnown_45 : decode cX7_staysKnown 45 = .ok (.ifCond .ne 5, 3) := by decide +kernel
theorem dX7_staysKnown_48 : decode cX7_staysKnown 48 = .ok (.iconst 0, 1) := by decide +kernel
theorem dX7_staysKnown_49 : decode cX7_staysKnown 49 = .ok (.ireturn, 1) := by decide +kernel
theorem dX7_staysKnown_50 : decode cX7_staysKnown 50 = .ok (.iinc 4 1, 3) := by decide +kernel
theorem dX7_staysKnown_53 : decode cX7_staysKnown 53 = .ok (.goto (-30), 3) := by decide +kernel
theorem dX7_staysKnown_56 : decode cX7_staysKnown 56 = .ok (.iconst 1, 1) := by decide +kernel
theorem dX7_staysKnown_57 : decode cX7_staysKnown 57 = .ok (.ireturn, 1) := by decide +kernel
theorem dX7_doneWithBook_0 : decode cX7_doneWithBook 0 = .ok (.aload_n 0, 1) := by decide +kernel
theorem dX7_doneWithBook_1 : decode cX7_doneWithBook 1 = .ok (.getfield 19, 3) := by decide +kernel
theorem dX7_doneWithBook_4 : decode cX7_doneWithBook 4 = .ok (.aload_n 0, 1) := by decide +kernel
theorem dX7_doneWithBook_5 : decode cX7_doneWithBook 5 = .ok (.getfield 10, 3) := by decide +kernel
theorem dX7_doneWithBook_8 : decode cX7_doneWithBook 8 = .ok (.invokevirtual 249, 3) := by decide +kernel
theorem dX7_doneWithBook_11 : decode cX7_doneWithBook 11 = .ok (.aload_n 0, 1) := by decide +kernel
theorem dX7_doneWithBook_12 : decode cX7_doneWithBook 12 = .ok (.getfield 19, 3) := by decide +kernel
theorem dX7_doneWithBook_15 : decode cX7_doneWithBook 15 = .ok (.iload_n 1, 1) := by decide +kernel
theorem dX7_doneWithBook_16 : decode cX7_doneWithBook 16 = .ok (.putfield 121, 3) := by decide +kernel
theorem dX7_doneWithBook_19 : decode cX7_doneWithBook 19 = .ok (.iconst 0, 1) := by decide +kernel
theorem dX7_doneWithBook_20 : decode cX7_doneWithBook 20 = .ok (.istore_n 3, 1) := by decide +kernel
theorem dX7_doneWithBook_21 : decode cX7_doneWithBook 21 = .ok (.iload_n 3, 1) := by decide +kernel
theorem dX7_doneWithBook_22 : decode cX7_doneWithBook 22 = .ok (.iload_n 2, 1) := by decide +kernel
theorem dX7_doneWithBook_23 : decode cX7_doneWithBook 23 = .ok (.if_icmp .ge 17, 3) := by decide +kernel
theorem dX7_doneWithBook_26 : decode cX7_doneWithBook 26 = .ok (.aload_n 0, 1) := by decide +kernel
theorem dX7_doneWithBook_27 : decode cX7_doneWithBook 27 = .ok (.getfield 19, 3) := by decide +kernel
theorem dX7_doneWithBook_30 : decode cX7_doneWithBook 30 = .ok (.invokevirtual 160, 3) := by decide +kernel
theorem dX7_doneWithBook_33 : decode cX7_doneWithBook 33 = .ok (.pop, 1) := by decide +kernel
theorem dX7_doneWithBook_34 : decode cX7_doneWithBook 34 = .ok (.iinc 3 1, 3) := by decide +kernel
theorem dX7_doneWithBook_37 : decode cX7_doneWithBook 37 = .ok (.goto (-16), 3) := by decide +kernel
theorem dX7_doneWithBook_40 : decode cX7_doneWithBook 40 = .ok (.aload_n 0, 1) := by decide +kernel
theorem dX7_doneWithBook_41 : decode cX7_doneWithBook 41 = .ok (.getfield 19, 3) := by decide +kernel
theorem dX7_doneWithBook_44 : decode cX7_doneWithBook 44 = .ok (.invokevirtual 272, 3) := by decide +kernel
theorem dX7_doneWithBook_47 : decode cX7_doneWithBook 47 = .ok (.ireturn, 1) := by decide +kernel
theorem dL_law_0 : decode cL_law 0 = .ok (.new 7, 3) := by decide +kernel
theorem dL_law_3 : decode cL_law 3 = .ok (.dup, 1) := by decide +kernel
theorem dL_law_4 : decode cL_law 4 = .ok (.invokespecial 9, 3) := by decide +kernel
theorem dL_law_7 : decode cL_law 7 = .ok (.astore_n 1, 1) := by decide +kernel
theorem dL_law_8 : decode cL_law 8 = .ok (.new 10, 3) := by decide +kernel
theorem dL_law_11 : decode cL_law 11 = .ok (.dup, 1) := by decide +kernel
theorem dL_law_12 : decode cL_law 12 = .ok (.invokespecial 12, 3) := by decide +kernel
theorem dL_law_15 : decode cL_law 15 = .ok (.astore_n 2, 1) := by decide +kernel
theorem dL_law_16 : decode cL_law 16 = .ok (.iconst 0, 1) := by decide +kernel
theorem dL_law_17 : decode cL_law 17 = .ok (.istore_n 3, 1) := by decide +kernel
theorem dL_law_18 : decode cL_law 18 = .ok (.iload_n 3, 1) := by decide +kernel
theorem dL_law_19 : decode cL_law 19 = .ok (.aload_n 0, 1) := by decide +kernel
theorem dL_law_20 : decode cL_law 20 = .ok (.arraylength, 1) := by decide +kernel
theorem dL_law_21 : decode cL_law 21 = .ok (.bipush 6, 2) := by decide +kernel
theorem dL_law_23 : decode cL_law 23 = .ok (.isub, 1) := by decide +kernel
theorem dL_law_24 : decode cL_law 24 = .ok (.if_icmp .gt 1413, 3) := by decide +kernel
theorem dL_law_27 : decode cL_law 27 = .ok (.aload_n 0, 1) := by decide +kernel
theorem dL_law_28 : decode cL_law 28 = .ok (.iload_n 3, 1) := by decide +kernel
theorem dL_law_29 : decode cL_law 29 = .ok (.iaload, 1) := by decide +kernel
theorem dL_law_30 : decode cL_law 30 = .ok (.bipush 63, 2) := by decide +kernel
theorem dL_law_32 : decode cL_law 32 = .ok (.iand, 1) := by decide +kernel
theorem dL_law_33 : decode cL_law 33 = .ok (.tableswitch 1398 0 38 #[171, 194, 227, 260, 303, 346, 379, 402, 445, 478, 541, 564, 587, 610, 633, 656, 679, 722, 765, 798, 841, 864, 897, 930, 963, 996, 1019, 1062, 1085, 1128, 1171, 1234, 1257, 1280, 1293, 1306, 1329, 1352, 1375], 171) := by decide +kernel
theorem dL_law_204 : decode cL_law 204 = .ok (.aload_n 1, 1) := by decide +kernel
theorem dL_law_205 : decode cL_law 205 = .ok (.aload_n 0, 1) := by decide +kernel
theorem dL_law_206 : decode cL_law 206 = .ok (.iload_n 3, 1) := by decide +kernel
theorem dL_law_207 : decode cL_law 207 = .ok (.iconst 1, 1) := by decide +kernel
theorem dL_law_208 : decode cL_law 208 = .ok (.iadd, 1) := by decide +kernel
theorem dL_law_209 : decode cL_law 209 = .ok (.iaload, 1) := by decide +kernel
theorem dL_law_210 : decode cL_law 210 = .ok (.invokevirtual 13, 3) := by decide +kernel
theorem dL_law_213 : decode cL_law 213 = .ok (.aload_n 2, 1) := by decide +kernel
theorem dL_law_214 : decode cL_law 214 = .ok (.aload_n 0, 1) := by decide +kernel
theorem dL_law_215 : decode cL_law 215 = .ok (.iload_n 3, 1) := by decide +kernel
theorem dL_law_216 : decode cL_law 216 = .ok (.iconst 1, 1) := by decide +kernel
theorem dL_law_217 : decode cL_law 217 = .ok (.iadd, 1) := by decide +kernel
theorem dL_law_218 : decode cL_law 218 = .ok (.iaload, 1) := by decide +kernel
theorem dL_law_219 : decode cL_law 219 = .ok (.invokevirtual 17, 3) := by decide +kernel
theorem dL_law_222 : decode cL_law 222 = .ok (.if_icmp .eq 1209, 3) := by decide +kernel
theorem dL_law_225 : decode cL_law 225 = .ok (.iconst 0, 1) := by decide +kernel
theorem dL_law_226 : decode cL_law 226 = .ok (.ireturn, 1) := by decide +kernel
theorem dL_law_227 : decode cL_law 227 = .ok (.aload_n 1, 1) := by decide +kernel
theorem dL_law_228 : decode cL_law 228 = .ok (.aload_n 0, 1) := by decide +kernel
theorem dL_law_229 : decode cL_law 229 = .ok (.iload_n 3, 1) := by decide +kernel
theorem dL_law_230 : decode cL_law 230 = .ok (.iconst 1, 1) := by decide +kernel
theorem dL_law_231 : decode cL_law 231 = .ok (.iadd, 1) := by decide +kernel
theorem dL_law_232 : decode cL_law 232 = .ok (.iaload, 1) := by decide +kernel
theorem dL_law_233 : decode cL_law 233 = .ok (.aload_n 0, 1) := by decide +kernel
theorem dL_law_234 : decode cL_law 234 = .ok (.iload_n 3, 1) := by decide +kernel
theorem dL_law_235 : decode cL_law 235 = .ok (.iconst 2, 1) := by decide +kernel
theorem dL_law_236 : decode cL_law 236 = .ok (.iadd, 1) := by decide +kernel
theorem dL_law_237 : decode cL_law 237 = .ok (.iaload, 1) := by decide +kernel
theorem dL_law_238 : decode cL_law 238 = .ok (.invokevirtual 18, 3) := by decide +kernel
theorem dL_law_241 : decode cL_law 241 = .ok (.aload_n 2, 1) := by decide +kernel
theorem dL_law_242 : decode cL_law 242 = .ok (.aload_n 0, 1) := by decide +kernel
theorem dL_law_243 : decode cL_law 243 = .ok (.iload_n 3, 1) := by decide +kernel
theorem dL_law_244 : decode cL_law 244 = .ok (.iconst 1, 1) := by decide +kernel
theorem dL_law_245 : decode cL_law 245 = .ok (.iadd, 1) := by decide +kernel
theorem dL_law_246 : decode cL_law 246 = .ok (.iaload, 1) := by decide +kernel
theorem dL_law_247 : decode cL_law 247 = .ok (.aload_n 0, 1) := by decide +kernel
theorem dL_law_248 : decode cL_law 248 = .ok (.iload_n 3, 1) := by decide +kernel
theorem dL_law_249 : decode cL_law 249 = .ok (.iconst 2, 1) := by decide +kernel
theorem dL_law_250 : decode cL_law 250 = .ok (.iadd, 1) := by decide +kernel
theorem dL_law_251 : decode cL_law 251 = .ok (.iaload, 1) := by decide +kernel
theorem dL_law_252 : decode cL_law 252 = .ok (.invokevirtual 22, 3) := by decide +kernel
theorem dL_law_255 : decode cL_law 255 = .ok (.if_icmp .eq 1176, 3) := by decide +kernel
theorem dL_law_258 : decode cL_law 258 = .ok (.iconst 0, 1) := by decide +kernel
theorem dL_law_259 : decode cL_law 259 = .ok (.ireturn, 1) := by decide +kernel
theorem dL_law_260 : decode cL_law 260 = .ok (.aload_n 1, 1) := by decide +kernel
theorem dL_law_261 : decode cL_law 261 = .ok (.aload_n 0, 1) := by decide +kernel
theorem dL_law_262 : decode cL_law 262 = .ok (.iload_n 3, 1) := by decide +kernel
theorem dL_law_263 : decode cL_law 263 = .ok (.iconst 1, 1) := by decide +kernel
theorem dL_law_264 : decode cL_law 264 = .ok (.iadd, 1) := by decide +kernel
theorem dL_law_265 : decode cL_law 265 = .ok (.iaload, 1) := by decide +kernel
theorem dL_law_266 : decode cL_law 266 = .ok (.aload_n 0, 1) := by decide +kernel
theorem dL_law_267 : decode cL_law 267 = .ok (.iload_n 3, 1) := by decide +kernel
theorem dL_law_268 : decode cL_law 268 = .ok (.iconst 2, 1) := by decide +kernel
theorem dL_law_269 : decode cL_law 269 = .ok (.iadd, 1) := by decide +kernel
theorem dL_law_270 : decode cL_law 270 = .ok (.iaload, 1) := by decide +kernel
theorem dL_law_271 : decode cL_law 271 = .ok (.invokevirtual 23, 3) := by decide +kernel
theorem dL_law_274 : decode cL_law 274 = .ok (.aload_n 2, 1) := by decide +kernel
theorem dL_law_275 : decode cL_law 275 = .ok (.aload_n 0, 1) := by decide +kernel
theorem dL_law_276 : decode cL_law 276 = .ok (.iload_n 3, 1) := by decide +kernel
theorem dL_law_277 : decode cL_law 277 = .ok (.iconst 1, 1) := by decide +kernel
theorem dL_law_278 : decode cL_law 278 = .ok (.iadd, 1) := by decide +kernel
theorem dL_law_279 : decode cL_law 279 = .ok (.iaload, 1) := by decide +kernel
theorem dL_law_280 : decode cL_law 280 = .ok (.aload_n 0, 1) := by decide +kernel
theorem dL_law_281 : decode cL_law 281 = .ok (.iload_n 3, 1) := by decide +kernel
theorem dL_law_282 : decode cL_law 282 = .ok (.iconst 2, 1) := by decide +kernel
theorem dL_law_283 : decode cL_law 283 = .ok (.iadd, 1) := by decide +kernel
theorem dL_law_284 : decode cL_law 284 = .ok (.iaload, 1) := by decide +kernel
theorem dL_law_285 : decode cL_law 285 = .ok (.invokevirtual 26, 3) := by decide +kernel
theorem dL_law_288 : decode cL_law 288 = .ok (.if_icmp .eq 1143, 3) := by decide +kernel
theorem dL_law_291 : decode cL_law 291 = .ok (.iconst 0, 1) := by decide +kernel
theorem dL_law_292 : decode cL_law 292 = .ok (.ireturn, 1) := by decide +kernel
theorem dL_law_293 : decode cL_law 293 = .ok (.aload_n 1, 1) := by decide +kernel
theorem dL_law_294 : decode cL_law 294 = .ok (.aload_n 0, 1) := by decide +kernel
theorem dL_law_295 : decode cL_law 295 = .ok (.iload_n 3, 1) := by decide +kernel
theorem dL_law_296 : decode cL_law 296 = .ok (.iconst 1, 1) := by decide +kernel
theorem dL_law_297 : decode cL_law 297 = .ok (.iadd, 1) := by decide +kernel
theorem dL_law_298 : decode cL_law 298 = .ok (.iaload, 1) := by decide +kernel
theorem dL_law_299 : decode cL_law 299 = .ok (.aload_n 0, 1) := by decide +kernel
theorem dL_law_300 : decode cL_law 300 = .ok (.iload_n 3, 1) := by decide +kernel
theorem dL_law_301 : decode cL_law 301 = .ok (.iconst 2, 1) := by decide +kernel
theorem dL_law_302 : decode cL_law 302 = .ok (.iadd, 1) := by decide +kernel
theorem dL_law_303 : decode cL_law 303 = .ok (.iaload, 1) := by decide +kernel
theorem dL_law_304 : decode cL_law 304 = .ok (.aload_n 0, 1) := by decide +kernel
theorem dL_law_305 : decode cL_law 305 = .ok (.iload_n 3, 1) := by decide +kernel
theorem dL_law_306 : decode cL_law 306 = .ok (.iconst 3, 1) := by decide +kernel
theorem dL_law_307 : decode cL_law 307 = .ok (.iadd, 1) := by decide +kernel
theorem dL_law_308 : decode cL_law 308 = .ok (.iaload, 1) := by decide +kernel
theorem dL_law_309 : decode cL_law 309 = .ok (.invokevirtual 27, 3) := by decide +kernel
theorem dL_law_312 : decode cL_law 312 = .ok (.aload_n 2, 1) := by decide +kernel
theorem dL_law_313 : decode cL_law 313 = .ok (.aload_n 0, 1) := by decide +kernel
theorem dL_law_314 : decode cL_law 314 = .ok (.iload_n 3, 1) := by decide +kernel
theorem dL_law_315 : decode cL_law 315 = .ok (.iconst 1, 1) := by decide +kernel
theorem dL_law_316 : decode cL_law 316 = .ok (.iadd, 1) := by decide +kernel
theorem dL_law_317 : decode cL_law 317 = .ok (.iaload, 1) := by decide +kernel
theorem dL_law_318 : decode cL_law 318 = .ok (.aload_n 0, 1) := by decide +kernel
theorem dL_law_319 : decode cL_law 319 = .ok (.iload_n 3, 1) := by decide +kernel
theorem dL_law_320 : decode cL_law 320 = .ok (.iconst 2, 1) := by decide +kernel
theorem dL_law_321 : decode cL_law 321 = .ok (.iadd, 1) := by decide +kernel
theorem dL_law_322 : decode cL_law 322 = .ok (.iaload, 1) := by decide +kernel
theorem dL_law_323 : decode cL_law 323 = .ok (.aload_n 0, 1) := by decide +kernel
theorem dL_law_324 : decode cL_law 324 = .ok (.iload_n 3, 1) := by decide +kernel
theorem dL_law_325 : decode cL_law 325 = .ok (.iconst 3, 1) := by decide +kernel
theorem dL_law_326 : decode cL_law 326 = .ok (.iadd, 1) := by decide +kernel
theorem dL_law_327 : decode cL_law 327 = .ok (.iaload, 1) := by decide +kernel
theorem dL_law_328 : decode cL_law 328 = .ok (.invokevirtual 31, 3) := by decide +kernel
theorem dL_law_331 : decode cL_law 331 = .ok (.if_icmp .eq 1100, 3) := by decide +kernel
theorem dL_law_334 : decode cL_law 334 = .ok (.iconst 0, 1) := by decide +kernel
theorem dL_law_335 : decode cL_law 335 = .ok (.ireturn, 1) := by decide +kernel
theorem dL_law_336 : decode cL_law 336 = .ok (.aload_n 1, 1) := by decide +kernel
theorem dL_law_337 : decode cL_law 337 = .ok (.aload_n 0, 1) := by decide +kernel
theorem dL_law_338 : decode cL_law 338 = .ok (.iload_n 3, 1) := by decide +kernel
theorem dL_law_339 : decode cL_law 339 = .ok (.iconst 1, 1) := by decide +kernel
theorem dL_law_340 : decode cL_law 340 = .ok (.iadd, 1) := by decide +kernel
theorem dL_law_341 : decode cL_law 341 = .ok (.iaload, 1) := by decide +kernel
theorem dL_law_342 : decode cL_law 342 = .ok (.aload_n 0, 1) := by decide +kernel
theorem dL_law_343 : decode cL_law 343 = .ok (.iload_n 3, 1) := by decide +kernel
theorem dL_law_344 : decode cL_law 344 = .ok (.iconst 2, 1) := by decide +kernel
theorem dL_law_345 : decode cL_law 345 = .ok (.iadd, 1) := by decide +kernel
theorem dL_law_346 : decode cL_law 346 = .ok (.iaload, 1) := by decide +kernel
theorem dL_law_347 : decode cL_law 347 = .ok (.aload_n 0, 1) := by decide +kernel
theorem dL_law_348 : decode cL_law 348 = .ok (.iload_n 3, 1) := by decide +kernel
theorem dL_law_349 : decode cL_law 349 = .ok (.iconst 3, 1) := by decide +kernel
theorem dL_law_350 : decode cL_law 350 = .ok (.iadd, 1) := by decide +kernel
theorem dL_law_351 : decode cL_law 351 = .ok (.iaload, 1) := by decide +kernel
theorem dL_law_352 : decode cL_law 352 = .ok (.invokevirtual 32, 3) := by decide +kernel
theorem dL_law_355 : decode cL_law 355 = .ok (.aload_n 2, 1) := by decide +kernel
theorem dL_law_356 : decode cL_law 356 = .ok (.aload_n 0, 1) := by decide +kernel
theorem dL_law_357 : decode cL_law 357 = .ok (.iload_n 3, 1) := by decide +kernel
theorem dL_law_358 : decode cL_law 358 = .ok (.iconst 1, 1) := by decide +kernel
theorem dL_law_359 : decode cL_law 359 = .ok (.iadd, 1) := by decide +kernel
theorem dL_law_360 : decode cL_law 360 = .ok (.iaload, 1) := by decide +kernel
theorem dL_law_361 : decode cL_law 361 = .ok (.aload_n 0, 1) := by decide +kernel
theorem dL_law_362 : decode cL_law 362 = .ok (.iload_n 3, 1) := by decide +kernel
theorem dL_law_363 : decode cL_law 363 = .ok (.iconst 2, 1) := by decide +kernel
theorem dL_law_364 : decode cL_law 364 = .ok (.iadd, 1) := by decide +kernel
theorem dL_law_365 : decode cL_law 365 = .ok (.iaload, 1) := by decide +kernel
theorem dL_law_366 : decode cL_law 366 = .ok (.aload_n 0, 1) := by decide +kernel
theorem dL_law_367 : decode cL_law 367 = .ok (.iload_n 3, 1) := by decide +kernel
theorem dL_law_368 : decode cL_law 368 = .ok (.iconst 3, 1) := by decide +kernel
theorem dL_law_369 : decode cL_law 369 = .ok (.iadd, 1) := by decide +kernel
theorem dL_law_370 : decode cL_law 370 = .ok (.iaload, 1) := by decide +kernel
theorem dL_law_371 : decode cL_law 371 = .ok (.invokevirtual 35, 3) := by decide +kernel
theorem dL_law_374 : decode cL_law 374 = .ok (.if_icmp .eq 1057, 3) := by decide +kernel
theorem dL_law_377 : decode cL_law 377 = .ok (.iconst 0, 1) := by decide +kernel
theorem dL_law_378 : decode cL_law 378 = .ok (.ireturn, 1) := by decide +kernel
theorem dL_law_379 : decode cL_law 379 = .ok (.aload_n 1, 1) := by decide +kernel
theorem dL_law_380 : decode cL_law 380 = .ok (.aload_n 0, 1) := by decide +kernel
theorem dL_law_381 : decode cL_law 381 = .ok (.iload_n 3, 1) := by decide +kernel
theorem dL_law_382 : decode cL_law 382 = .ok (.iconst 1, 1) := by decide +kernel
theorem dL_law_383 : decode cL_law 383 = .ok (.iadd, 1) := by decide +kernel
theorem dL_law_384 : decode cL_law 384 = .ok (.iaload, 1) := by decide +kernel
theorem dL_law_385 : decode cL_law 385 = .ok (.aload_n 0, 1) := by decide +kernel
theorem dL_law_386 : decode cL_law 386 = .ok (.iload_n 3, 1) := by decide +kernel
theorem dL_law_387 : decode cL_law 387 = .ok (.iconst 2, 1) := by decide +kernel
theorem dL_law_388 : decode cL_law 388 = .ok (.iadd, 1) := by decide +kernel
theorem dL_law_389 : decode cL_law 389 = .ok (.iaload, 1) := by decide +kernel
theorem dL_law_390 : decode cL_law 390 = .ok (.invokevirtual 36, 3) := by decide +kernel
theorem dL_law_393 : decode cL_law 393 = .ok (.aload_n 2, 1) := by decide +kernel
theorem dL_law_394 : decode cL_law 394 = .ok (.aload_n 0, 1) := by decide +kernel
theorem dL_law_395 : decode cL_law 395 = .ok (.iload_n 3, 1) := by decide +kernel
theorem dL_law_396 : decode cL_law 396 = .ok (.iconst 1, 1) := by decide +kernel
theorem dL_law_397 : decode cL_law 397 = .ok (.iadd, 1) := by decide +kernel
theorem dL_law_398 : decode cL_law 398 = .ok (.iaload, 1) := by decide +kernel
theorem dL_law_399 : decode cL_law 399 = .ok (.aload_n 0, 1) := by decide +kernel
theorem dL_law_400 : decode cL_law 400 = .ok (.iload_n 3, 1) := by decide +kernel
theorem dL_law_401 : decode cL_law 401 = .ok (.iconst 2, 1) := by decide +kernel
theorem dL_law_402 : decode cL_law 402 = .ok (.iadd, 1) := by decide +kernel
theorem dL_law_403 : decode cL_law 403 = .ok (.iaload, 1) := by decide +kernel
theorem dL_law_404 : decode cL_law 404 = .ok (.invokevirtual 39, 3) := by decide +kernel
theorem dL_law_407 : decode cL_law 407 = .ok (.if_icmp .eq 1024, 3) := by decide +kernel
theorem dL_law_410 : decode cL_law 410 = .ok (.iconst 0, 1) := by decide +kernel
theorem dL_law_411 : decode cL_law 411 = .ok (.ireturn, 1) := by decide +kernel
theorem dL_law_412 : decode cL_law 412 = .ok (.aload_n 1, 1) := by decide +kernel
theorem dL_law_413 : decode cL_law 413 = .ok (.aload_n 0, 1) := by decide +kernel
theorem dL_law_414 : decode cL_law 414 = .ok (.iload_n 3, 1) := by decide +kernel
theorem dL_law_415 : decode cL_law 415 = .ok (.iconst 1, 1) := by decide +kernel
theorem dL_law_416 : decode cL_law 416 = .ok (.iadd, 1) := by decide +kernel
theorem dL_law_417 : decode cL_law 417 = .ok (.iaload, 1) := by decide +kernel
theorem dL_law_418 : decode cL_law 418 = .ok (.invokevirtual 40, 3) := by decide +kernel
theorem dL_law_421 : decode cL_law 421 = .ok (.aload_n 2, 1) := by decide +kernel
theorem dL_law_422 : decode cL_law 422 = .ok (.aload_n 0, 1) := by decide +kernel
theorem dL_law_423 : decode cL_law 423 = .ok (.iload_n 3, 1) := by decide +kernel
theorem dL_law_424 : decode cL_law 424 = .ok (.iconst 1, 1) := by decide +kernel
theorem dL_law_425 : decode cL_law 425 = .ok (.iadd, 1) := by decide +kernel
theorem dL_law_426 : decode cL_law 426 = .ok (.iaload, 1) := by decide +kernel
theorem dL_law_427 : decode cL_law 427 = .ok (.invokevirtual 43, 3) := by decide +kernel
theorem dL_law_430 : decode cL_law 430 = .ok (.if_icmp .eq 1001, 3) := by decide +kernel
theorem dL_law_433 : decode cL_law 433 = .ok (.iconst 0, 1) := by decide +kernel
theorem dL_law_434 : decode cL_law 434 = .ok (.ireturn, 1) := by decide +kernel
theorem dL_law_435 : decode cL_law 435 = .ok (.aload_n 1, 1) := by decide +kernel
theorem dL_law_436 : decode cL_law 436 = .ok (.aload_n 0, 1) := by decide +kernel
theorem dL_law_437 : decode cL_law 437 = .ok (.iload_n 3, 1) := by decide +kernel
theorem dL_law_438 : decode cL_law 438 = .ok (.iconst 1, 1) := by decide +kernel
theorem dL_law_439 : decode cL_law 439 = .ok (.iadd, 1) := by decide +kernel
theorem dL_law_440 : decode cL_law 440 = .ok (.iaload, 1) := by decide +kernel
theorem dL_law_441 : decode cL_law 441 = .ok (.aload_n 0, 1) := by decide +kernel
theorem dL_law_442 : decode cL_law 442 = .ok (.iload_n 3, 1) := by decide +kernel
theorem dL_law_443 : decode cL_law 443 = .ok (.iconst 2, 1) := by decide +kernel
theorem dL_law_444 : decode cL_law 444 = .ok (.iadd, 1) := by decide +kernel
theorem dL_law_445 : decode cL_law 445 = .ok (.iaload, 1) := by decide +kernel
theorem dL_law_446 : decode cL_law 446 = .ok (.aload_n 0, 1) := by decide +kernel
theorem dL_law_447 : decode cL_law 447 = .ok (.iload_n 3, 1) := by decide +kernel
theorem dL_law_448 : decode cL_law 448 = .ok (.iconst 3, 1) := by decide +kernel
theorem dL_law_449 : decode cL_law 449 = .ok (.iadd, 1) := by decide +kernel
theorem dL_law_450 : decode cL_law 450 = .ok (.iaload, 1) := by decide +kernel
theorem dL_law_451 : decode cL_law 451 = .ok (.invokevirtual 44, 3) := by decide +kernel
theorem dL_law_454 : decode cL_law 454 = .ok (.aload_n 2, 1) := by decide +kernel
theorem dL_law_455 : decode cL_law 455 = .ok (.aload_n 0, 1) := by decide +kernel
theorem dL_law_456 : decode cL_law 456 = .ok (.iload_n 3, 1) := by decide +kernel
theorem dL_law_457 : decode cL_law 457 = .ok (.iconst 1, 1) := by decide +kernel
theorem dL_law_458 : decode cL_law 458 = .ok (.iadd, 1) := by decide +kernel
theorem dL_law_459 : decode cL_law 459 = .ok (.iaload, 1) := by decide +kernel
theorem dL_law_460 : decode cL_law 460 = .ok (.aload_n 0, 1) := by decide +kernel
theorem dL_law_461 : decode cL_law 461 = .ok (.iload_n 3, 1) := by decide +kernel
theorem dL_law_462 : decode cL_law 462 = .ok (.iconst 2, 1) := by decide +kernel
theorem dL_law_463 : decode cL_law 463 = .ok (.iadd, 1) := by decide +kernel
theorem dL_law_464 : decode cL_law 464 = .ok (.iaload, 1) := by decide +kernel
theorem dL_law_465 : decode cL_law 465 = .ok (.aload_n 0, 1) := by decide +kernel
theorem dL_law_466 : decode cL_law 466 = .ok (.iload_n 3, 1) := by decide +kernel
theorem dL_law_467 : decode cL_law 467 = .ok (.iconst 3, 1) := by decide +kernel
theorem dL_law_468 : decode cL_law 468 = .ok (.iadd, 1) := by decide +kernel
theorem dL_law_469 : decode cL_law 469 = .ok (.iaload, 1) := by decide +kernel
theorem dL_law_470 : decode cL_law 470 = .ok (.invokevirtual 47, 3) := by decide +kernel
theorem dL_law_473 : decode cL_law 473 = .ok (.if_icmp .eq 958, 3) := by decide +kernel
theorem dL_law_476 : decode cL_law 476 = .ok (.iconst 0, 1) := by decide +kernel
theorem dL_law_477 : decode cL_law 477 = .ok (.ireturn, 1) := by decide +kernel
theorem dL_law_478 : decode cL_law 478 = .ok (.aload_n 1, 1) := by decide +kernel
theorem dL_law_479 : decode cL_law 479 = .ok (.aload_n 0, 1) := by decide +kernel
theorem dL_law_480 : decode cL_law 480 = .ok (.iload_n 3, 1) := by decide +kernel
theorem dL_law_481 : decode cL_law 481 = .ok (.iconst 1, 1) := by decide +kernel
theorem dL_law_482 : decode cL_law 482 = .ok (.iadd, 1) := by decide +kernel
theorem dL_law_483 : decode cL_law 483 = .ok (.iaload, 1) := by decide +kernel
theorem dL_law_484 : decode cL_law 484 = .ok (.aload_n 0, 1) := by decide +kernel
theorem dL_law_485 : decode cL_law 485 = .ok (.iload_n 3, 1) := by decide +kernel
theorem dL_law_486 : decode cL_law 486 = .ok (.iconst 2, 1) := by decide +kernel
theorem dL_law_487 : decode cL_law 487 = .ok (.iadd, 1) := by decide +kernel
theorem dL_law_488 : decode cL_law 488 = .ok (.iaload, 1) := by decide +kernel
theorem dL_law_489 : decode cL_law 489 = .ok (.invokevirtual 48, 3) := by decide +kernel
theorem dL_law_492 : decode cL_law 492 = .ok (.aload_n 2, 1) := by decide +kernel
theorem dL_law_493 : decode cL_law 493 = .ok (.aload_n 0, 1) := by decide +kernel
theorem dL_law_494 : decode cL_law 494 = .ok (.iload_n 3, 1) := by decide +kernel
theorem dL_law_495 : decode cL_law 495 = .ok (.iconst 1, 1) := by decide +kernel
theorem dL_law_496 : decode cL_law 496 = .ok (.iadd, 1) := by decide +kernel
theorem dL_law_497 : decode cL_law 497 = .ok (.iaload, 1) := by decide +kernel
theorem dL_law_498 : decode cL_law 498 = .ok (.aload_n 0, 1) := by decide +kernel
theorem dL_law_499 : decode cL_law 499 = .ok (.iload_n 3, 1) := by decide +kernel
theorem dL_law_500 : decode cL_law 500 = .ok (.iconst 2, 1) := by decide +kernel
theorem dL_law_501 : decode cL_law 501 = .ok (.iadd, 1) := by decide +kernel
theorem dL_law_502 : decode cL_law 502 = .ok (.iaload, 1) := by decide +kernel
theorem dL_law_503 : decode cL_law 503 = .ok (.invokevirtual 51, 3) := by decide +kernel
theorem dL_law_506 : decode cL_law 506 = .ok (.if_icmp .eq 925, 3) := by decide +kernel
theorem dL_law_509 : decode cL_law 509 = .ok (.iconst 0, 1) := by decide +kernel
theorem dL_law_510 : decode cL_law 510 = .ok (.ireturn, 1) := by decide +kernel
theorem dL_law_511 : decode cL_law 511 = .ok (.aload_n 1, 1) := by decide +kernel
theorem dL_law_512 : decode cL_law 512 = .ok (.aload_n 0, 1) := by decide +kernel
theorem dL_law_513 : decode cL_law 513 = .ok (.iload_n 3, 1) := by decide +kernel
theorem dL_law_514 : decode cL_law 514 = .ok (.iconst 1, 1) := by decide +kernel
theorem dL_law_515 : decode cL_law 515 = .ok (.iadd, 1) := by decide +kernel
theorem dL_law_516 : decode cL_law 516 = .ok (.iaload, 1) := by decide +kernel
theorem dL_law_517 : decode cL_law 517 = .ok (.i2l, 1) := by decide +kernel
theorem dL_law_518 : decode cL_law 518 = .ok (.bipush 32, 2) := by decide +kernel
theorem dL_law_520 : decode cL_law 520 = .ok (.lshl, 1) := by decide +kernel
theorem dL_law_521 : decode cL_law 521 = .ok (.aload_n 0, 1) := by decide +kernel
theorem dL_law_522 : decode cL_law 522 = .ok (.iload_n 3, 1) := by decide +kernel
theorem dL_law_523 : decode cL_law 523 = .ok (.iconst 2, 1) := by decide +kernel
theorem dL_law_524 : decode cL_law 524 = .ok (.iadd, 1) := by decide +kernel
theorem dL_law_525 : decode cL_law 525 = .ok (.iaload, 1) := by decide +kernel
theorem dL_law_526 : decode cL_law 526 = .ok (.i2l, 1) := by decide +kernel
theorem dL_law_527 : decode cL_law 527 = .ok (.ldc2_w 52, 3) := by decide +kernel
theorem dL_law_530 : decode cL_law 530 = .ok (.land, 1) := by decide +kernel
theorem dL_law_531 : decode cL_law 531 = .ok (.lor, 1) := by decide +kernel
theorem dL_law_532 : decode cL_law 532 = .ok (.aload_n 0, 1) := by decide +kernel
theorem dL_law_533 : decode cL_law 533 = .ok (.iload_n 3, 1) := by decide +kernel
theorem dL_law_534 : decode cL_law 534 = .ok (.iconst 3, 1) := by decide +kernel
theorem dL_law_535 : decode cL_law 535 = .ok (.iadd, 1) := by decide +kernel
theorem dL_law_536 : decode cL_law 536 = .ok (.iaload, 1) := by decide +kernel
theorem dL_law_537 : decode cL_law 537 = .ok (.invokevirtual 54, 3) := by decide +kernel
theorem dL_law_540 : decode cL_law 540 = .ok (.aload_n 2, 1) := by decide +kernel
theorem dL_law_541 : decode cL_law 541 = .ok (.aload_n 0, 1) := by decide +kernel
theorem dL_law_542 : decode cL_law 542 = .ok (.iload_n 3, 1) := by decide +kernel
theorem dL_law_543 : decode cL_law 543 = .ok (.iconst 1, 1) := by decide +kernel
theorem dL_law_544 : decode cL_law 544 = .ok (.iadd, 1) := by decide +kernel
theorem dL_law_545 : decode cL_law 545 = .ok (.iaload, 1) := by decide +kernel
theorem dL_law_546 : decode cL_law 546 = .ok (.i2l, 1) := by decide +kernel
theorem dL_law_547 : decode cL_law 547 = .ok (.bipush 32, 2) := by decide +kernel
theorem dL_law_549 : decode cL_law 549 = .ok (.lshl, 1) := by decide +kernel
theorem dL_law_550 : decode cL_law 550 = .ok (.aload_n 0, 1) := by decide +kernel
theorem dL_law_551 : decode cL_law 551 = .ok (.iload_n 3, 1) := by decide +kernel
theorem dL_law_552 : decode cL_law 552 = .ok (.iconst 2, 1) := by decide +kernel
theorem dL_law_553 : decode cL_law 553 = .ok (.iadd, 1) := by decide +kernel
theorem dL_law_554 : decode cL_law 554 = .ok (.iaload, 1) := by decide +kernel
theorem dL_law_555 : decode cL_law 555 = .ok (.i2l, 1) := by decide +kernel
theorem dL_law_556 : decode cL_law 556 = .ok (.ldc2_w 52, 3) := by decide +kernel
theorem dL_law_559 : decode cL_law 559 = .ok (.land, 1) := by decide +kernel
theorem dL_law_560 : decode cL_law 560 = .ok (.lor, 1) := by decide +kernel
theorem dL_law_561 : decode cL_law 561 = .ok (.aload_n 0, 1) := by decide +kernel
theorem dL_law_562 : decode cL_law 562 = .ok (.iload_n 3, 1) := by decide +kernel
theorem dL_law_563 : decode cL_law 563 = .ok (.iconst 3, 1) := by decide +kernel
theorem dL_law_564 : decode cL_law 564 = .ok (.iadd, 1) := by decide +kernel
theorem dL_law_565 : decode cL_law 565 = .ok (.iaload, 1) := by decide +kernel
theorem dL_law_566 : decode cL_law 566 = .ok (.invokevirtual 58, 3) := by decide +kernel
theorem dL_law_569 : decode cL_law 569 = .ok (.if_icmp .eq 862, 3) := by decide +kernel
theorem dL_law_572 : decode cL_law 572 = .ok (.iconst 0, 1) := by decide +kernel
theorem dL_law_573 : decode cL_law 573 = .ok (.ireturn, 1) := by decide +kernel
theorem dL_law_574 : decode cL_law 574 = .ok (.aload_n 1, 1) := by decide +kernel
theorem dL_law_575 : decode cL_law 575 = .ok (.aload_n 0, 1) := by decide +kernel
theorem dL_law_576 : decode cL_law 576 = .ok (.iload_n 3, 1) := by decide +kernel
theorem dL_law_577 : decode cL_law 577 = .ok (.iconst 1, 1) := by decide +kernel
theorem dL_law_578 : decode cL_law 578 = .ok (.iadd, 1) := by decide +kernel
theorem dL_law_579 : decode cL_law 579 = .ok (.iaload, 1) := by decide +kernel
theorem dL_law_580 : decode cL_law 580 = .ok (.invokevirtual 59, 3) := by decide +kernel
theorem dL_law_583 : decode cL_law 583 = .ok (.aload_n 2, 1) := by decide +kernel
theorem dL_law_584 : decode cL_law 584 = .ok (.aload_n 0, 1) := by decide +kernel
theorem dL_law_585 : decode cL_law 585 = .ok (.iload_n 3, 1) := by decide +kernel
theorem dL_law_586 : decode cL_law 586 = .ok (.iconst 1, 1) := by decide +kernel
theorem dL_law_587 : decode cL_law 587 = .ok (.iadd, 1) := by decide +kernel
theorem dL_law_588 : decode cL_law 588 = .ok (.iaload, 1) := by decide +kernel
theorem dL_law_589 : decode cL_law 589 = .ok (.invokevirtual 62, 3) := by decide +kernel
theorem dL_law_592 : decode cL_law 592 = .ok (.if_icmp .eq 839, 3) := by decide +kernel
theorem dL_law_595 : decode cL_law 595 = .ok (.iconst 0, 1) := by decide +kernel
theorem dL_law_596 : decode cL_law 596 = .ok (.ireturn, 1) := by decide +kernel
theorem dL_law_597 : decode cL_law 597 = .ok (.aload_n 1, 1) := by decide +kernel
theorem dL_law_598 : decode cL_law 598 = .ok (.aload_n 0, 1) := by decide +kernel
theorem dL_law_599 : decode cL_law 599 = .ok (.iload_n 3, 1) := by decide +kernel
theorem dL_law_600 : decode cL_law 600 = .ok (.iconst 1, 1) := by decide +kernel
theorem dL_law_601 : decode cL_law 601 = .ok (.iadd, 1) := by decide +kernel
theorem dL_law_602 : decode cL_law 602 = .ok (.iaload, 1) := by decide +kernel
theorem dL_law_603 : decode cL_law 603 = .ok (.invokevirtual 63, 3) := by decide +kernel
theorem dL_law_606 : decode cL_law 606 = .ok (.aload_n 2, 1) := by decide +kernel
theorem dL_law_607 : decode cL_law 607 = .ok (.aload_n 0, 1) := by decide +kernel
theorem dL_law_608 : decode cL_law 608 = .ok (.iload_n 3, 1) := by decide +kernel
theorem dL_law_609 : decode cL_law 609 = .ok (.iconst 1, 1) := by decide +kernel
theorem dL_law_610 : decode cL_law 610 = .ok (.iadd, 1) := by decide +kernel
theorem dL_law_611 : decode cL_law 611 = .ok (.iaload, 1) := by decide +kernel
theorem dL_law_612 : decode cL_law 612 = .ok (.invokevirtual 66, 3) := by decide +kernel
theorem dL_law_615 : decode cL_law 615 = .ok (.if_icmp .eq 816, 3) := by decide +kernel
theorem dL_law_618 : decode cL_law 618 = .ok (.iconst 0, 1) := by decide +kernel
theorem dL_law_619 : decode cL_law 619 = .ok (.ireturn, 1) := by decide +kernel
theorem dL_law_620 : decode cL_law 620 = .ok (.aload_n 1, 1) := by decide +kernel
theorem dL_law_621 : decode cL_law 621 = .ok (.aload_n 0, 1) := by decide +kernel
theorem dL_law_622 : decode cL_law 622 = .ok (.iload_n 3, 1) := by decide +kernel
theorem dL_law_623 : decode cL_law 623 = .ok (.iconst 1, 1) := by decide +kernel
theorem dL_law_624 : decode cL_law 624 = .ok (.iadd, 1) := by decide +kernel
theorem dL_law_625 : decode cL_law 625 = .ok (.iaload, 1) := by decide +kernel
theorem dL_law_626 : decode cL_law 626 = .ok (.invokevirtual 67, 3) := by decide +kernel
theorem dL_law_629 : decode cL_law 629 = .ok (.aload_n 2, 1) := by decide +kernel
theorem dL_law_630 : decode cL_law 630 = .ok (.aload_n 0, 1) := by decide +kernel
theorem dL_law_631 : decode cL_law 631 = .ok (.iload_n 3, 1) := by decide +kernel
theorem dL_law_632 : decode cL_law 632 = .ok (.iconst 1, 1) := by decide +kernel
theorem dL_law_633 : decode cL_law 633 = .ok (.iadd, 1) := by decide +kernel
theorem dL_law_634 : decode cL_law 634 = .ok (.iaload, 1) := by decide +kernel
theorem dL_law_635 : decode cL_law 635 = .ok (.invokevirtual 70, 3) := by decide +kernel
theorem dL_law_638 : decode cL_law 638 = .ok (.if_icmp .eq 793, 3) := by decide +kernel
theorem dL_law_641 : decode cL_law 641 = .ok (.iconst 0, 1) := by decide +kernel
theorem dL_law_642 : decode cL_law 642 = .ok (.ireturn, 1) := by decide +kernel
theorem dL_law_643 : decode cL_law 643 = .ok (.aload_n 1, 1) := by decide +kernel
theorem dL_law_644 : decode cL_law 644 = .ok (.aload_n 0, 1) := by decide +kernel
theorem dL_law_645 : decode cL_law 645 = .ok (.iload_n 3, 1) := by decide +kernel
theorem dL_law_646 : decode cL_law 646 = .ok (.iconst 1, 1) := by decide +kernel
theorem dL_law_647 : decode cL_law 647 = .ok (.iadd, 1) := by decide +kernel
theorem dL_law_648 : decode cL_law 648 = .ok (.iaload, 1) := by decide +kernel
theorem dL_law_649 : decode cL_law 649 = .ok (.invokevirtual 71, 3) := by decide +kernel
theorem dL_law_652 : decode cL_law 652 = .ok (.aload_n 2, 1) := by decide +kernel
theorem dL_law_653 : decode cL_law 653 = .ok (.aload_n 0, 1) := by decide +kernel
theorem dL_law_654 : decode cL_law 654 = .ok (.iload_n 3, 1) := by decide +kernel
theorem dL_law_655 : decode cL_law 655 = .ok (.iconst 1, 1) := by decide +kernel
theorem dL_law_656 : decode cL_law 656 = .ok (.iadd, 1) := by decide +kernel
theorem dL_law_657 : decode cL_law 657 = .ok (.iaload, 1) := by decide +kernel
theorem dL_law_658 : decode cL_law 658 = .ok (.invokevirtual 74, 3) := by decide +kernel
theorem dL_law_661 : decode cL_law 661 = .ok (.if_icmp .eq 770, 3) := by decide +kernel
theorem dL_law_664 : decode cL_law 664 = .ok (.iconst 0, 1) := by decide +kernel
theorem dL_law_665 : decode cL_law 665 = .ok (.ireturn, 1) := by decide +kernel
theorem dL_law_666 : decode cL_law 666 = .ok (.aload_n 1, 1) := by decide +kernel
theorem dL_law_667 : decode cL_law 667 = .ok (.aload_n 0, 1) := by decide +kernel
theorem dL_law_668 : decode cL_law 668 = .ok (.iload_n 3, 1) := by decide +kernel
theorem dL_law_669 : decode cL_law 669 = .ok (.iconst 1, 1) := by decide +kernel
theorem dL_law_670 : decode cL_law 670 = .ok (.iadd, 1) := by decide +kernel
theorem dL_law_671 : decode cL_law 671 = .ok (.iaload, 1) := by decide +kernel
theorem dL_law_672 : decode cL_law 672 = .ok (.invokevirtual 75, 3) := by decide +kernel
theorem dL_law_675 : decode cL_law 675 = .ok (.aload_n 2, 1) := by decide +kernel
theorem dL_law_676 : decode cL_law 676 = .ok (.aload_n 0, 1) := by decide +kernel
theorem dL_law_677 : decode cL_law 677 = .ok (.iload_n 3, 1) := by decide +kernel
theorem dL_law_678 : decode cL_law 678 = .ok (.iconst 1, 1) := by decide +kernel
theorem dL_law_679 : decode cL_law 679 = .ok (.iadd, 1) := by decide +kernel
theorem dL_law_680 : decode cL_law 680 = .ok (.iaload, 1) := by decide +kernel
theorem dL_law_681 : decode cL_law 681 = .ok (.invokevirtual 78, 3) := by decide +kernel
theorem dL_law_684 : decode cL_law 684 = .ok (.if_icmp .eq 747, 3) := by decide +kernel
theorem dL_law_687 : decode cL_law 687 = .ok (.iconst 0, 1) := by decide +kernel
theorem dL_law_688 : decode cL_law 688 = .ok (.ireturn, 1) := by decide +kernel
theorem dL_law_689 : decode cL_law 689 = .ok (.aload_n 1, 1) := by decide +kernel
theorem dL_law_690 : decode cL_law 690 = .ok (.aload_n 0, 1) := by decide +kernel
theorem dL_law_691 : decode cL_law 691 = .ok (.iload_n 3, 1) := by decide +kernel
theorem dL_law_692 : decode cL_law 692 = .ok (.iconst 1, 1) := by decide +kernel
theorem dL_law_693 : decode cL_law 693 = .ok (.iadd, 1) := by decide +kernel
theorem dL_law_694 : decode cL_law 694 = .ok (.iaload, 1) := by decide +kernel
theorem dL_law_695 : decode cL_law 695 = .ok (.invokevirtual 79, 3) := by decide +kernel
theorem dL_law_698 : decode cL_law 698 = .ok (.aload_n 2, 1) := by decide +kernel
theorem dL_law_699 : decode cL_law 699 = .ok (.aload_n 0, 1) := by decide +kernel
theorem dL_law_700 : decode cL_law 700 = .ok (.iload_n 3, 1) := by decide +kernel
theorem dL_law_701 : decode cL_law 701 = .ok (.iconst 1, 1) := by decide +kernel
theorem dL_law_702 : decode cL_law 702 = .ok (.iadd, 1) := by decide +kernel
theorem dL_law_703 : decode cL_law 703 = .ok (.iaload, 1) := by decide +kernel
theorem dL_law_704 : decode cL_law 704 = .ok (.invokevirtual 82, 3) := by decide +kernel
theorem dL_law_707 : decode cL_law 707 = .ok (.if_icmp .eq 724, 3) := by decide +kernel
theorem dL_law_710 : decode cL_law 710 = .ok (.iconst 0, 1) := by decide +kernel
theorem dL_law_711 : decode cL_law 711 = .ok (.ireturn, 1) := by decide +kernel
theorem dL_law_712 : decode cL_law 712 = .ok (.aload_n 1, 1) := by decide +kernel
theorem dL_law_713 : decode cL_law 713 = .ok (.aload_n 0, 1) := by decide +kernel
theorem dL_law_714 : decode cL_law 714 = .ok (.iload_n 3, 1) := by decide +kernel
theorem dL_law_715 : decode cL_law 715 = .ok (.iconst 1, 1) := by decide +kernel
theorem dL_law_716 : decode cL_law 716 = .ok (.iadd, 1) := by decide +kernel
theorem dL_law_717 : decode cL_law 717 = .ok (.iaload, 1) := by decide +kernel
theorem dL_law_718 : decode cL_law 718 = .ok (.aload_n 0, 1) := by decide +kernel
theorem dL_law_719 : decode cL_law 719 = .ok (.iload_n 3, 1) := by decide +kernel
theorem dL_law_720 : decode cL_law 720 = .ok (.iconst 2, 1) := by decide +kernel
theorem dL_law_721 : decode cL_law 721 = .ok (.iadd, 1) := by decide +kernel
theorem dL_law_722 : decode cL_law 722 = .ok (.iaload, 1) := by decide +kernel
theorem dL_law_723 : decode cL_law 723 = .ok (.aload_n 0, 1) := by decide +kernel
theorem dL_law_724 : decode cL_law 724 = .ok (.iload_n 3, 1) := by decide +kernel
theorem dL_law_725 : decode cL_law 725 = .ok (.iconst 3, 1) := by decide +kernel
theorem dL_law_726 : decode cL_law 726 = .ok (.iadd, 1) := by decide +kernel
theorem dL_law_727 : decode cL_law 727 = .ok (.iaload, 1) := by decide +kernel
theorem dL_law_728 : decode cL_law 728 = .ok (.invokevirtual 83, 3) := by decide +kernel
theorem dL_law_731 : decode cL_law 731 = .ok (.aload_n 2, 1) := by decide +kernel
theorem dL_law_732 : decode cL_law 732 = .ok (.aload_n 0, 1) := by decide +kernel
theorem dL_law_733 : decode cL_law 733 = .ok (.iload_n 3, 1) := by decide +kernel
theorem dL_law_734 : decode cL_law 734 = .ok (.iconst 1, 1) := by decide +kernel
theorem dL_law_735 : decode cL_law 735 = .ok (.iadd, 1) := by decide +kernel
theorem dL_law_736 : decode cL_law 736 = .ok (.iaload, 1) := by decide +kernel
theorem dL_law_737 : decode cL_law 737 = .ok (.aload_n 0, 1) := by decide +kernel
theorem dL_law_738 : decode cL_law 738 = .ok (.iload_n 3, 1) := by decide +kernel
theorem dL_law_739 : decode cL_law 739 = .ok (.iconst 2, 1) := by decide +kernel
theorem dL_law_740 : decode cL_law 740 = .ok (.iadd, 1) := by decide +kernel
theorem dL_law_741 : decode cL_law 741 = .ok (.iaload, 1) := by decide +kernel
theorem dL_law_742 : decode cL_law 742 = .ok (.aload_n 0, 1) := by decide +kernel
theorem dL_law_743 : decode cL_law 743 = .ok (.iload_n 3, 1) := by decide +kernel
theorem dL_law_744 : decode cL_law 744 = .ok (.iconst 3, 1) := by decide +kernel
theorem dL_law_745 : decode cL_law 745 = .ok (.iadd, 1) := by decide +kernel
theorem dL_law_746 : decode cL_law 746 = .ok (.iaload, 1) := by decide +kernel
theorem dL_law_747 : decode cL_law 747 = .ok (.invokevirtual 86, 3) := by decide +kernel
theorem dL_law_750 : decode cL_law 750 = .ok (.if_icmp .eq 681, 3) := by decide +kernel
theorem dL_law_753 : decode cL_law 753 = .ok (.iconst 0, 1) := by decide +kernel
theorem dL_law_754 : decode cL_law 754 = .ok (.ireturn, 1) := by decide +kernel
theorem dL_law_755 : decode cL_law 755 = .ok (.aload_n 1, 1) := by decide +kernel
theorem dL_law_756 : decode cL_law 756 = .ok (.aload_n 0, 1) := by decide +kernel
theorem dL_law_757 : decode cL_law 757 = .ok (.iload_n 3, 1) := by decide +kernel
theorem dL_law_758 : decode cL_law 758 = .ok (.iconst 1, 1) := by decide +kernel
theorem dL_law_759 : decode cL_law 759 = .ok (.iadd, 1) := by decide +kernel
theorem dL_law_760 : decode cL_law 760 = .ok (.iaload, 1) := by decide +kernel
theorem dL_law_761 : decode cL_law 761 = .ok (.aload_n 0, 1) := by decide +kernel
theorem dL_law_762 : decode cL_law 762 = .ok (.iload_n 3, 1) := by decide +kernel
theorem dL_law_763 : decode cL_law 763 = .ok (.iconst 2, 1) := by decide +kernel
theorem dL_law_764 : decode cL_law 764 = .ok (.iadd, 1) := by decide +kernel
theorem dL_law_765 : decode cL_law 765 = .ok (.iaload, 1) := by decide +kernel
theorem dL_law_766 : decode cL_law 766 = .ok (.aload_n 0, 1) := by decide +kernel
theorem dL_law_767 : decode cL_law 767 = .ok (.iload_n 3, 1) := by decide +kernel
theorem dL_law_768 : decode cL_law 768 = .ok (.iconst 3, 1) := by decide +kernel
theorem dL_law_769 : decode cL_law 769 = .ok (.iadd, 1) := by decide +kernel
theorem dL_law_770 : decode cL_law 770 = .ok (.iaload, 1) := by decide +kernel
theorem dL_law_771 : decode cL_law 771 = .ok (.invokevirtual 87, 3) := by decide +kernel
theorem dL_law_774 : decode cL_law 774 = .ok (.aload_n 2, 1) := by decide +kernel
theorem dL_law_775 : decode cL_law 775 = .ok (.aload_n 0, 1) := by decide +kernel
theorem dL_law_776 : decode cL_law 776 = .ok (.iload_n 3, 1) := by decide +kernel
theorem dL_law_777 : decode cL_law 777 = .ok (.iconst 1, 1) := by decide +kernel
theorem dL_law_778 : decode cL_law 778 = .ok (.iadd, 1) := by decide +kernel
theorem dL_law_779 : decode cL_law 779 = .ok (.iaload, 1) := by decide +kernel
theorem dL_law_780 : decode cL_law 780 = .ok (.aload_n 0, 1) := by decide +kernel
theorem dL_law_781 : decode cL_law 781 = .ok (.iload_n 3, 1) := by decide +kernel
theorem dL_law_782 : decode cL_law 782 = .ok (.iconst 2, 1) := by decide +kernel
theorem dL_law_783 : decode cL_law 783 = .ok (.iadd, 1) := by decide +kernel
theorem dL_law_784 : decode cL_law 784 = .ok (.iaload, 1) := by decide +kernel
theorem dL_law_785 : decode cL_law 785 = .ok (.aload_n 0, 1) := by decide +kernel
theorem dL_law_786 : decode cL_law 786 = .ok (.iload_n 3, 1) := by decide +kernel
theorem dL_law_787 : decode cL_law 787 = .ok (.iconst 3, 1) := by decide +kernel
theorem dL_law_788 : decode cL_law 788 = .ok (.iadd, 1) := by decide +kernel
theorem dL_law_789 : decode cL_law 789 = .ok (.iaload, 1) := by decide +kernel
theorem dL_law_790 : decode cL_law 790 = .ok (.invokevirtual 90, 3) := by decide +kernel
theorem dL_law_793 : decode cL_law 793 = .ok (.if_icmp .eq 638, 3) := by decide +kernel
theorem dL_law_796 : decode cL_law 796 = .ok (.iconst 0, 1) := by decide +kernel
theorem dL_law_797 : decode cL_law 797 = .ok (.ireturn, 1) := by decide +kernel
theorem dL_law_798 : decode cL_law 798 = .ok (.aload_n 1, 1) := by decide +kernel
theorem dL_law_799 : decode cL_law 799 = .ok (.aload_n 0, 1) := by decide +kernel
theorem dL_law_800 : decode cL_law 800 = .ok (.iload_n 3, 1) := by decide +kernel
theorem dL_law_801 : decode cL_law 801 = .ok (.iconst 1, 1) := by decide +kernel
theorem dL_law_802 : decode cL_law 802 = .ok (.iadd, 1) := by decide +kernel
theorem dL_law_803 : decode cL_law 803 = .ok (.iaload, 1) := by decide +kernel
theorem dL_law_804 : decode cL_law 804 = .ok (.aload_n 0, 1) := by decide +kernel
theorem dL_law_805 : decode cL_law 805 = .ok (.iload_n 3, 1) := by decide +kernel
theorem dL_law_806 : decode cL_law 806 = .ok (.iconst 2, 1) := by decide +kernel
theorem dL_law_807 : decode cL_law 807 = .ok (.iadd, 1) := by decide +kernel
theorem dL_law_808 : decode cL_law 808 = .ok (.iaload, 1) := by decide +kernel
theorem dL_law_809 : decode cL_law 809 = .ok (.invokevirtual 91, 3) := by decide +kernel
theorem dL_law_812 : decode cL_law 812 = .ok (.aload_n 2, 1) := by decide +kernel
theorem dL_law_813 : decode cL_law 813 = .ok (.aload_n 0, 1) := by decide +kernel
theorem dL_law_814 : decode cL_law 814 = .ok (.iload_n 3, 1) := by decide +kernel
theorem dL_law_815 : decode cL_law 815 = .ok (.iconst 1, 1) := by decide +kernel
theorem dL_law_816 : decode cL_law 816 = .ok (.iadd, 1) := by decide +kernel
theorem dL_law_817 : decode cL_law 817 = .ok (.iaload, 1) := by decide +kernel
theorem dL_law_818 : decode cL_law 818 = .ok (.aload_n 0, 1) := by decide +kernel
theorem dL_law_819 : decode cL_law 819 = .ok (.iload_n 3, 1) := by decide +kernel
theorem dL_law_820 : decode cL_law 820 = .ok (.iconst 2, 1) := by decide +kernel
theorem dL_law_821 : decode cL_law 821 = .ok (.iadd, 1) := by decide +kernel
theorem dL_law_822 : decode cL_law 822 = .ok (.iaload, 1) := by decide +kernel
theorem dL_law_823 : decode cL_law 823 = .ok (.invokevirtual 94, 3) := by decide +kernel
theorem dL_law_826 : decode cL_law 826 = .ok (.if_icmp .eq 605, 3) := by decide +kernel
theorem dL_law_829 : decode cL_law 829 = .ok (.iconst 0, 1) := by decide +kernel
theorem dL_law_830 : decode cL_law 830 = .ok (.ireturn, 1) := by decide +kernel
theorem dL_law_831 : decode cL_law 831 = .ok (.aload_n 1, 1) := by decide +kernel
theorem dL_law_832 : decode cL_law 832 = .ok (.aload_n 0, 1) := by decide +kernel
theorem dL_law_833 : decode cL_law 833 = .ok (.iload_n 3, 1) := by decide +kernel
theorem dL_law_834 : decode cL_law 834 = .ok (.iconst 1, 1) := by decide +kernel
theorem dL_law_835 : decode cL_law 835 = .ok (.iadd, 1) := by decide +kernel
theorem dL_law_836 : decode cL_law 836 = .ok (.iaload, 1) := by decide +kernel
theorem dL_law_837 : decode cL_law 837 = .ok (.aload_n 0, 1) := by decide +kernel
theorem dL_law_838 : decode cL_law 838 = .ok (.iload_n 3, 1) := by decide +kernel
theorem dL_law_839 : decode cL_law 839 = .ok (.iconst 2, 1) := by decide +kernel
theorem dL_law_840 : decode cL_law 840 = .ok (.iadd, 1) := by decide +kernel
theorem dL_law_841 : decode cL_law 841 = .ok (.iaload, 1) := by decide +kernel
theorem dL_law_842 : decode cL_law 842 = .ok (.aload_n 0, 1) := by decide +kernel
theorem dL_law_843 : decode cL_law 843 = .ok (.iload_n 3, 1) := by decide +kernel
theorem dL_law_844 : decode cL_law 844 = .ok (.iconst 3, 1) := by decide +kernel
theorem dL_law_845 : decode cL_law 845 = .ok (.iadd, 1) := by decide +kernel
theorem dL_law_846 : decode cL_law 846 = .ok (.iaload, 1) := by decide +kernel
theorem dL_law_847 : decode cL_law 847 = .ok (.invokevirtual 95, 3) := by decide +kernel
theorem dL_law_850 : decode cL_law 850 = .ok (.aload_n 2, 1) := by decide +kernel
theorem dL_law_851 : decode cL_law 851 = .ok (.aload_n 0, 1) := by decide +kernel
theorem dL_law_852 : decode cL_law 852 = .ok (.iload_n 3, 1) := by decide +kernel
theorem dL_law_853 : decode cL_law 853 = .ok (.iconst 1, 1) := by decide +kernel
theorem dL_law_854 : decode cL_law 854 = .ok (.iadd, 1) := by decide +kernel
theorem dL_law_855 : decode cL_law 855 = .ok (.iaload, 1) := by decide +kernel
theorem dL_law_856 : decode cL_law 856 = .ok (.aload_n 0, 1) := by decide +kernel
theorem dL_law_857 : decode cL_law 857 = .ok (.iload_n 3, 1) := by decide +kernel
theorem dL_law_858 : decode cL_law 858 = .ok (.iconst 2, 1) := by decide +kernel
theorem dL_law_859 : decode cL_law 859 = .ok (.iadd, 1) := by decide +kernel
theorem dL_law_860 : decode cL_law 860 = .ok (.iaload, 1) := by decide +kernel
theorem dL_law_861 : decode cL_law 861 = .ok (.aload_n 0, 1) := by decide +kernel
theorem dL_law_862 : decode cL_law 862 = .ok (.iload_n 3, 1) := by decide +kernel
theorem dL_law_863 : decode cL_law 863 = .ok (.iconst 3, 1) := by decide +kernel
theorem dL_law_864 : decode cL_law 864 = .ok (.iadd, 1) := by decide +kernel
theorem dL_law_865 : decode cL_law 865 = .ok (.iaload, 1) := by decide +kernel
theorem dL_law_866 : decode cL_law 866 = .ok (.invokevirtual 98, 3) := by decide +kernel
theorem dL_law_869 : decode cL_law 869 = .ok (.if_icmp .eq 562, 3) := by decide +kernel
theorem dL_law_872 : decode cL_law 872 = .ok (.iconst 0, 1) := by decide +kernel
theorem dL_law_873 : decode cL_law 873 = .ok (.ireturn, 1) := by decide +kernel
theorem dL_law_874 : decode cL_law 874 = .ok (.aload_n 1, 1) := by decide +kernel
theorem dL_law_875 : decode cL_law 875 = .ok (.aload_n 0, 1) := by decide +kernel
theorem dL_law_876 : decode cL_law 876 = .ok (.iload_n 3, 1) := by decide +kernel
theorem dL_law_877 : decode cL_law 877 = .ok (.iconst 1, 1) := by decide +kernel
theorem dL_law_878 : decode cL_law 878 = .ok (.iadd, 1) := by decide +kernel
theorem dL_law_879 : decode cL_law 879 = .ok (.iaload, 1) := by decide +kernel
theorem dL_law_880 : decode cL_law 880 = .ok (.invokevirtual 99, 3) := by decide +kernel
theorem dL_law_883 : decode cL_law 883 = .ok (.aload_n 2, 1) := by decide +kernel
theorem dL_law_884 : decode cL_law 884 = .ok (.aload_n 0, 1) := by decide +kernel
theorem dL_law_885 : decode cL_law 885 = .ok (.iload_n 3, 1) := by decide +kernel
theorem dL_law_886 : decode cL_law 886 = .ok (.iconst 1, 1) := by decide +kernel
theorem dL_law_887 : decode cL_law 887 = .ok (.iadd, 1) := by decide +kernel
theorem dL_law_888 : decode cL_law 888 = .ok (.iaload, 1) := by decide +kernel
theorem dL_law_889 : decode cL_law 889 = .ok (.invokevirtual 102, 3) := by decide +kernel
theorem dL_law_892 : decode cL_law 892 = .ok (.if_icmp .eq 539, 3) := by decide +kernel
theorem dL_law_895 : decode cL_law 895 = .ok (.iconst 0, 1) := by decide +kernel
theorem dL_law_896 : decode cL_law 896 = .ok (.ireturn, 1) := by decide +kernel
theorem dL_law_897 : decode cL_law 897 = .ok (.aload_n 1, 1) := by decide +kernel
theorem dL_law_898 : decode cL_law 898 = .ok (.aload_n 0, 1) := by decide +kernel
theorem dL_law_899 : decode cL_law 899 = .ok (.iload_n 3, 1) := by decide +kernel
theorem dL_law_900 : decode cL_law 900 = .ok (.iconst 1, 1) := by decide +kernel
theorem dL_law_901 : decode cL_law 901 = .ok (.iadd, 1) := by decide +kernel
theorem dL_law_902 : decode cL_law 902 = .ok (.iaload, 1) := by decide +kernel
theorem dL_law_903 : decode cL_law 903 = .ok (.aload_n 0, 1) := by decide +kernel
theorem dL_law_904 : decode cL_law 904 = .ok (.iload_n 3, 1) := by decide +kernel
theorem dL_law_905 : decode cL_law 905 = .ok (.iconst 2, 1) := by decide +kernel
theorem dL_law_906 : decode cL_law 906 = .ok (.iadd, 1) := by decide +kernel
theorem dL_law_907 : decode cL_law 907 = .ok (.iaload, 1) := by decide +kernel
theorem dL_law_908 : decode cL_law 908 = .ok (.invokevirtual 103, 3) := by decide +kernel
theorem dL_law_911 : decode cL_law 911 = .ok (.aload_n 2, 1) := by decide +kernel
theorem dL_law_912 : decode cL_law 912 = .ok (.aload_n 0, 1) := by decide +kernel
theorem dL_law_913 : decode cL_law 913 = .ok (.iload_n 3, 1) := by decide +kernel
theorem dL_law_914 : decode cL_law 914 = .ok (.iconst 1, 1) := by decide +kernel
theorem dL_law_915 : decode cL_law 915 = .ok (.iadd, 1) := by decide +kernel
theorem dL_law_916 : decode cL_law 916 = .ok (.iaload, 1) := by decide +kernel
theorem dL_law_917 : decode cL_law 917 = .ok (.aload_n 0, 1) := by decide +kernel
theorem dL_law_918 : decode cL_law 918 = .ok (.iload_n 3, 1) := by decide +kernel
theorem dL_law_919 : decode cL_law 919 = .ok (.iconst 2, 1) := by decide +kernel
theorem dL_law_920 : decode cL_law 920 = .ok (.iadd, 1) := by decide +kernel
theorem dL_law_921 : decode cL_law 921 = .ok (.iaload, 1) := by decide +kernel
theorem dL_law_922 : decode cL_law 922 = .ok (.invokevirtual 106, 3) := by decide +kernel
theorem dL_law_925 : decode cL_law 925 = .ok (.if_icmp .eq 506, 3) := by decide +kernel
theorem dL_law_928 : decode cL_law 928 = .ok (.iconst 0, 1) := by decide +kernel
theorem dL_law_929 : decode cL_law 929 = .ok (.ireturn, 1) := by decide +kernel
theorem dL_law_930 : decode cL_law 930 = .ok (.aload_n 1, 1) := by decide +kernel
theorem dL_law_931 : decode cL_law 931 = .ok (.aload_n 0, 1) := by decide +kernel
theorem dL_law_932 : decode cL_law 932 = .ok (.iload_n 3, 1) := by decide +kernel
theorem dL_law_933 : decode cL_law 933 = .ok (.iconst 1, 1) := by decide +kernel
theorem dL_law_934 : decode cL_law 934 = .ok (.iadd, 1) := by decide +kernel
theorem dL_law_935 : decode cL_law 935 = .ok (.iaload, 1) := by decide +kernel
theorem dL_law_936 : decode cL_law 936 = .ok (.aload_n 0, 1) := by decide +kernel
theorem dL_law_937 : decode cL_law 937 = .ok (.iload_n 3, 1) := by decide +kernel
theorem dL_law_938 : decode cL_law 938 = .ok (.iconst 2, 1) := by decide +kernel
theorem dL_law_939 : decode cL_law 939 = .ok (.iadd, 1) := by decide +kernel
theorem dL_law_940 : decode cL_law 940 = .ok (.iaload, 1) := by decide +kernel
theorem dL_law_941 : decode cL_law 941 = .ok (.invokevirtual 107, 3) := by decide +kernel
theorem dL_law_944 : decode cL_law 944 = .ok (.aload_n 2, 1) := by decide +kernel
theorem dL_law_945 : decode cL_law 945 = .ok (.aload_n 0, 1) := by decide +kernel
theorem dL_law_946 : decode cL_law 946 = .ok (.iload_n 3, 1) := by decide +kernel
theorem dL_law_947 : decode cL_law 947 = .ok (.iconst 1, 1) := by decide +kernel
theorem dL_law_948 : decode cL_law 948 = .ok (.iadd, 1) := by decide +kernel
theorem dL_law_949 : decode cL_law 949 = .ok (.iaload, 1) := by decide +kernel
theorem dL_law_950 : decode cL_law 950 = .ok (.aload_n 0, 1) := by decide +kernel
theorem dL_law_951 : decode cL_law 951 = .ok (.iload_n 3, 1) := by decide +kernel
theorem dL_law_952 : decode cL_law 952 = .ok (.iconst 2, 1) := by decide +kernel
theorem dL_law_953 : decode cL_law 953 = .ok (.iadd, 1) := by decide +kernel
theorem dL_law_954 : decode cL_law 954 = .ok (.iaload, 1) := by decide +kernel
theorem dL_law_955 : decode cL_law 955 = .ok (.invokevirtual 110, 3) := by decide +kernel
theorem dL_law_958 : decode cL_law 958 = .ok (.if_icmp .eq 473, 3) := by decide +kernel
theorem dL_law_961 : decode cL_law 961 = .ok (.iconst 0, 1) := by decide +kernel
theorem dL_law_962 : decode cL_law 962 = .ok (.ireturn, 1) := by decide +kernel
theorem dL_law_963 : decode cL_law 963 = .ok (.aload_n 1, 1) := by decide +kernel
theorem dL_law_964 : decode cL_law 964 = .ok (.aload_n 0, 1) := by decide +kernel
theorem dL_law_965 : decode cL_law 965 = .ok (.iload_n 3, 1) := by decide +kernel
theorem dL_law_966 : decode cL_law 966 = .ok (.iconst 1, 1) := by decide +kernel
theorem dL_law_967 : decode cL_law 967 = .ok (.iadd, 1) := by decide +kernel
theorem dL_law_968 : decode cL_law 968 = .ok (.iaload, 1) := by decide +kernel
theorem dL_law_969 : decode cL_law 969 = .ok (.aload_n 0, 1) := by decide +kernel
theorem dL_law_970 : decode cL_law 970 = .ok (.iload_n 3, 1) := by decide +kernel
theorem dL_law_971 : decode cL_law 971 = .ok (.iconst 2, 1) := by decide +kernel
theorem dL_law_972 : decode cL_law 972 = .ok (.iadd, 1) := by decide +kernel
theorem dL_law_973 : decode cL_law 973 = .ok (.iaload, 1) := by decide +kernel
theorem dL_law_974 : decode cL_law 974 = .ok (.invokevirtual 111, 3) := by decide +kernel
theorem dL_law_977 : decode cL_law 977 = .ok (.aload_n 2, 1) := by decide +kernel
theorem dL_law_978 : decode cL_law 978 = .ok (.aload_n 0, 1) := by decide +kernel
theorem dL_law_979 : decode cL_law 979 = .ok (.iload_n 3, 1) := by decide +kernel
theorem dL_law_980 : decode cL_law 980 = .ok (.iconst 1, 1) := by decide +kernel
theorem dL_law_981 : decode cL_law 981 = .ok (.iadd, 1) := by decide +kernel
theorem dL_law_982 : decode cL_law 982 = .ok (.iaload, 1) := by decide +kernel
theorem dL_law_983 : decode cL_law 983 = .ok (.aload_n 0, 1) := by decide +kernel
theorem dL_law_984 : decode cL_law 984 = .ok (.iload_n 3, 1) := by decide +kernel
theorem dL_law_985 : decode cL_law 985 = .ok (.iconst 2, 1) := by decide +kernel
theorem dL_law_986 : decode cL_law 986 = .ok (.iadd, 1) := by decide +kernel
theorem dL_law_987 : decode cL_law 987 = .ok (.iaload, 1) := by decide +kernel
theorem dL_law_988 : decode cL_law 988 = .ok (.invokevirtual 114, 3) := by decide +kernel
theorem dL_law_991 : decode cL_law 991 = .ok (.if_icmp .eq 440, 3) := by decide +kernel
theorem dL_law_994 : decode cL_law 994 = .ok (.iconst 0, 1) := by decide +kernel
theorem dL_law_995 : decode cL_law 995 = .ok (.ireturn, 1) := by decide +kernel
theorem dL_law_996 : decode cL_law 996 = .ok (.aload_n 1, 1) := by decide +kernel
theorem dL_law_997 : decode cL_law 997 = .ok (.aload_n 0, 1) := by decide +kernel
theorem dL_law_998 : decode cL_law 998 = .ok (.iload_n 3, 1) := by decide +kernel
theorem dL_law_999 : decode cL_law 999 = .ok (.iconst 1, 1) := by decide +kernel
theorem dL_law_1000 : decode cL_law 1000 = .ok (.iadd, 1) := by decide +kernel
theorem dL_law_1001 : decode cL_law 1001 = .ok (.iaload, 1) := by decide +kernel
theorem dL_law_1002 : decode cL_law 1002 = .ok (.aload_n 0, 1) := by decide +kernel
theorem dL_law_1003 : decode cL_law 1003 = .ok (.iload_n 3, 1) := by decide +kernel
theorem dL_law_1004 : decode cL_law 1004 = .ok (.iconst 2, 1) := by decide +kernel
theorem dL_law_1005 : decode cL_law 1005 = .ok (.iadd, 1) := by decide +kernel
theorem dL_law_1006 : decode cL_law 1006 = .ok (.iaload, 1) := by decide +kernel
theorem dL_law_1007 : decode cL_law 1007 = .ok (.invokevirtual 115, 3) := by decide +kernel
theorem dL_law_1010 : decode cL_law 1010 = .ok (.aload_n 2, 1) := by decide +kernel
theorem dL_law_1011 : decode cL_law 1011 = .ok (.aload_n 0, 1) := by decide +kernel
theorem dL_law_1012 : decode cL_law 1012 = .ok (.iload_n 3, 1) := by decide +kernel
theorem dL_law_1013 : decode cL_law 1013 = .ok (.iconst 1, 1) := by decide +kernel
theorem dL_law_1014 : decode cL_law 1014 = .ok (.iadd, 1) := by decide +kernel
theorem dL_law_1015 : decode cL_law 1015 = .ok (.iaload, 1) := by decide +kernel
theorem dL_law_1016 : decode cL_law 1016 = .ok (.aload_n 0, 1) := by decide +kernel
theorem dL_law_1017 : decode cL_law 1017 = .ok (.iload_n 3, 1) := by decide +kernel
theorem dL_law_1018 : decode cL_law 1018 = .ok (.iconst 2, 1) := by decide +kernel
theorem dL_law_1019 : decode cL_law 1019 = .ok (.iadd, 1) := by decide +kernel
theorem dL_law_1020 : decode cL_law 1020 = .ok (.iaload, 1) := by decide +kernel
theorem dL_law_1021 : decode cL_law 1021 = .ok (.invokevirtual 118, 3) := by decide +kernel
theorem dL_law_1024 : decode cL_law 1024 = .ok (.if_icmp .eq 407, 3) := by decide +kernel
theorem dL_law_1027 : decode cL_law 1027 = .ok (.iconst 0, 1) := by decide +kernel
theorem dL_law_1028 : decode cL_law 1028 = .ok (.ireturn, 1) := by decide +kernel
theorem dL_law_1029 : decode cL_law 1029 = .ok (.aload_n 1, 1) := by decide +kernel
theorem dL_law_1030 : decode cL_law 1030 = .ok (.aload_n 0, 1) := by decide +kernel
theorem dL_law_1031 : decode cL_law 1031 = .ok (.iload_n 3, 1) := by decide +kernel
theorem dL_law_1032 : decode cL_law 1032 = .ok (.iconst 1, 1) := by decide +kernel
theorem dL_law_1033 : decode cL_law 1033 = .ok (.iadd, 1) := by decide +kernel
theorem dL_law_1034 : decode cL_law 1034 = .ok (.iaload, 1) := by decide +kernel
theorem dL_law_1035 : decode cL_law 1035 = .ok (.invokevirtual 119, 3) := by decide +kernel
theorem dL_law_1038 : decode cL_law 1038 = .ok (.aload_n 2, 1) := by decide +kernel
theorem dL_law_1039 : decode cL_law 1039 = .ok (.aload_n 0, 1) := by decide +kernel
theorem dL_law_1040 : decode cL_law 1040 = .ok (.iload_n 3, 1) := by decide +kernel
theorem dL_law_1041 : decode cL_law 1041 = .ok (.iconst 1, 1) := by decide +kernel
theorem dL_law_1042 : decode cL_law 1042 = .ok (.iadd, 1) := by decide +kernel
theorem dL_law_1043 : decode cL_law 1043 = .ok (.iaload, 1) := by decide +kernel
theorem dL_law_1044 : decode cL_law 1044 = .ok (.invokevirtual 122, 3) := by decide +kernel
theorem dL_law_1047 : decode cL_law 1047 = .ok (.if_icmp .eq 384, 3) := by decide +kernel
theorem dL_law_1050 : decode cL_law 1050 = .ok (.iconst 0, 1) := by decide +kernel
theorem dL_law_1051 : decode cL_law 1051 = .ok (.ireturn, 1) := by decide +kernel
theorem dL_law_1052 : decode cL_law 1052 = .ok (.aload_n 1, 1) := by decide +kernel
theorem dL_law_1053 : decode cL_law 1053 = .ok (.aload_n 0, 1) := by decide +kernel
theorem dL_law_1054 : decode cL_law 1054 = .ok (.iload_n 3, 1) := by decide +kernel
theorem dL_law_1055 : decode cL_law 1055 = .ok (.iconst 1, 1) := by decide +kernel
theorem dL_law_1056 : decode cL_law 1056 = .ok (.iadd, 1) := by decide +kernel
theorem dL_law_1057 : decode cL_law 1057 = .ok (.iaload, 1) := by decide +kernel
theorem dL_law_1058 : decode cL_law 1058 = .ok (.aload_n 0, 1) := by decide +kernel
theorem dL_law_1059 : decode cL_law 1059 = .ok (.iload_n 3, 1) := by decide +kernel
theorem dL_law_1060 : decode cL_law 1060 = .ok (.iconst 2, 1) := by decide +kernel
theorem dL_law_1061 : decode cL_law 1061 = .ok (.iadd, 1) := by decide +kernel
theorem dL_law_1062 : decode cL_law 1062 = .ok (.iaload, 1) := by decide +kernel
theorem dL_law_1063 : decode cL_law 1063 = .ok (.aload_n 0, 1) := by decide +kernel
theorem dL_law_1064 : decode cL_law 1064 = .ok (.iload_n 3, 1) := by decide +kernel
theorem dL_law_1065 : decode cL_law 1065 = .ok (.iconst 3, 1) := by decide +kernel
theorem dL_law_1066 : decode cL_law 1066 = .ok (.iadd, 1) := by decide +kernel
theorem dL_law_1067 : decode cL_law 1067 = .ok (.iaload, 1) := by decide +kernel
theorem dL_law_1068 : decode cL_law 1068 = .ok (.invokevirtual 123, 3) := by decide +kernel
theorem dL_law_1071 : decode cL_law 1071 = .ok (.aload_n 2, 1) := by decide +kernel
theorem dL_law_1072 : decode cL_law 1072 = .ok (.aload_n 0, 1) := by decide +kernel
theorem dL_law_1073 : decode cL_law 1073 = .ok (.iload_n 3, 1) := by decide +kernel
theorem dL_law_1074 : decode cL_law 1074 = .ok (.iconst 1, 1) := by decide +kernel
theorem dL_law_1075 : decode cL_law 1075 = .ok (.iadd, 1) := by decide +kernel
theorem dL_law_1076 : decode cL_law 1076 = .ok (.iaload, 1) := by decide +kernel
theorem dL_law_1077 : decode cL_law 1077 = .ok (.aload_n 0, 1) := by decide +kernel
theorem dL_law_1078 : decode cL_law 1078 = .ok (.iload_n 3, 1) := by decide +kernel
theorem dL_law_1079 : decode cL_law 1079 = .ok (.iconst 2, 1) := by decide +kernel
theorem dL_law_1080 : decode cL_law 1080 = .ok (.iadd, 1) := by decide +kernel
theorem dL_law_1081 : decode cL_law 1081 = .ok (.iaload, 1) := by decide +kernel
theorem dL_law_1082 : decode cL_law 1082 = .ok (.aload_n 0, 1) := by decide +kernel
theorem dL_law_1083 : decode cL_law 1083 = .ok (.iload_n 3, 1) := by decide +kernel
theorem dL_law_1084 : decode cL_law 1084 = .ok (.iconst 3, 1) := by decide +kernel
theorem dL_law_1085 : decode cL_law 1085 = .ok (.iadd, 1) := by decide +kernel
theorem dL_law_1086 : decode cL_law 1086 = .ok (.iaload, 1) := by decide +kernel
theorem dL_law_1087 : decode cL_law 1087 = .ok (.invokevirtual 126, 3) := by decide +kernel
theorem dL_law_1090 : decode cL_law 1090 = .ok (.if_icmp .eq 341, 3) := by decide +kernel
theorem dL_law_1093 : decode cL_law 1093 = .ok (.iconst 0, 1) := by decide +kernel
theorem dL_law_1094 : decode cL_law 1094 = .ok (.ireturn, 1) := by decide +kernel
theorem dL_law_1095 : decode cL_law 1095 = .ok (.aload_n 1, 1) := by decide +kernel
theorem dL_law_1096 : decode cL_law 1096 = .ok (.aload_n 0, 1) := by decide +kernel
theorem dL_law_1097 : decode cL_law 1097 = .ok (.iload_n 3, 1) := by decide +kernel
theorem dL_law_1098 : decode cL_law 1098 = .ok (.iconst 1, 1) := by decide +kernel
theorem dL_law_1099 : decode cL_law 1099 = .ok (.iadd, 1) := by decide +kernel
theorem dL_law_1100 : decode cL_law 1100 = .ok (.iaload, 1) := by decide +kernel
theorem dL_law_1101 : decode cL_law 1101 = .ok (.invokevirtual 127, 3) := by decide +kernel
theorem dL_law_1104 : decode cL_law 1104 = .ok (.aload_n 2, 1) := by decide +kernel
theorem dL_law_1105 : decode cL_law 1105 = .ok (.aload_n 0, 1) := by decide +kernel
theorem dL_law_1106 : decode cL_law 1106 = .ok (.iload_n 3, 1) := by decide +kernel
theorem dL_law_1107 : decode cL_law 1107 = .ok (.iconst 1, 1) := by decide +kernel
theorem dL_law_1108 : decode cL_law 1108 = .ok (.iadd, 1) := by decide +kernel
theorem dL_law_1109 : decode cL_law 1109 = .ok (.iaload, 1) := by decide +kernel
theorem dL_law_1110 : decode cL_law 1110 = .ok (.invokevirtual 130, 3) := by decide +kernel
theorem dL_law_1113 : decode cL_law 1113 = .ok (.if_icmp .eq 318, 3) := by decide +kernel
theorem dL_law_1116 : decode cL_law 1116 = .ok (.iconst 0, 1) := by decide +kernel
theorem dL_law_1117 : decode cL_law 1117 = .ok (.ireturn, 1) := by decide +kernel
theorem dL_law_1118 : decode cL_law 1118 = .ok (.aload_n 1, 1) := by decide +kernel
theorem dL_law_1119 : decode cL_law 1119 = .ok (.aload_n 0, 1) := by decide +kernel
theorem dL_law_1120 : decode cL_law 1120 = .ok (.iload_n 3, 1) := by decide +kernel
theorem dL_law_1121 : decode cL_law 1121 = .ok (.iconst 1, 1) := by decide +kernel
theorem dL_law_1122 : decode cL_law 1122 = .ok (.iadd, 1) := by decide +kernel
theorem dL_law_1123 : decode cL_law 1123 = .ok (.iaload, 1) := by decide +kernel
theorem dL_law_1124 : decode cL_law 1124 = .ok (.aload_n 0, 1) := by decide +kernel
theorem dL_law_1125 : decode cL_law 1125 = .ok (.iload_n 3, 1) := by decide +kernel
theorem dL_law_1126 : decode cL_law 1126 = .ok (.iconst 2, 1) := by decide +kernel
theorem dL_law_1127 : decode cL_law 1127 = .ok (.iadd, 1) := by decide +kernel
theorem dL_law_1128 : decode cL_law 1128 = .ok (.iaload, 1) := by decide +kernel
theorem dL_law_1129 : decode cL_law 1129 = .ok (.aload_n 0, 1) := by decide +kernel
theorem dL_law_1130 : decode cL_law 1130 = .ok (.iload_n 3, 1) := by decide +kernel
theorem dL_law_1131 : decode cL_law 1131 = .ok (.iconst 3, 1) := by decide +kernel
theorem dL_law_1132 : decode cL_law 1132 = .ok (.iadd, 1) := by decide +kernel
theorem dL_law_1133 : decode cL_law 1133 = .ok (.iaload, 1) := by decide +kernel
theorem dL_law_1134 : decode cL_law 1134 = .ok (.invokevirtual 131, 3) := by decide +kernel
theorem dL_law_1137 : decode cL_law 1137 = .ok (.aload_n 2, 1) := by decide +kernel
theorem dL_law_1138 : decode cL_law 1138 = .ok (.aload_n 0, 1) := by decide +kernel
theorem dL_law_1139 : decode cL_law 1139 = .ok (.iload_n 3, 1) := by decide +kernel
theorem dL_law_1140 : decode cL_law 1140 = .ok (.iconst 1, 1) := by decide +kernel
theorem dL_law_1141 : decode cL_law 1141 = .ok (.iadd, 1) := by decide +kernel
theorem dL_law_1142 : decode cL_law 1142 = .ok (.iaload, 1) := by decide +kernel
theorem dL_law_1143 : decode cL_law 1143 = .ok (.aload_n 0, 1) := by decide +kernel
theorem dL_law_1144 : decode cL_law 1144 = .ok (.iload_n 3, 1) := by decide +kernel
theorem dL_law_1145 : decode cL_law 1145 = .ok (.iconst 2, 1) := by decide +kernel
theorem dL_law_1146 : decode cL_law 1146 = .ok (.iadd, 1) := by decide +kernel
theorem dL_law_1147 : decode cL_law 1147 = .ok (.iaload, 1) := by decide +kernel
theorem dL_law_1148 : decode cL_law 1148 = .ok (.aload_n 0, 1) := by decide +kernel
theorem dL_law_1149 : decode cL_law 1149 = .ok (.iload_n 3, 1) := by decide +kernel
theorem dL_law_1150 : decode cL_law 1150 = .ok (.iconst 3, 1) := by decide +kernel
theorem dL_law_1151 : decode cL_law 1151 = .ok (.iadd, 1) := by decide +kernel
theorem dL_law_1152 : decode cL_law 1152 = .ok (.iaload, 1) := by decide +kernel
theorem dL_law_1153 : decode cL_law 1153 = .ok (.invokevirtual 134, 3) := by decide +kernel
theorem dL_law_1156 : decode cL_law 1156 = .ok (.if_icmp .eq 275, 3) := by decide +kernel
theorem dL_law_1159 : decode cL_law 1159 = .ok (.iconst 0, 1) := by decide +kernel
theorem dL_law_1160 : decode cL_law 1160 = .ok (.ireturn, 1) := by decide +kernel
theorem dL_law_1161 : decode cL_law 1161 = .ok (.aload_n 1, 1) := by decide +kernel
theorem dL_law_1162 : decode cL_law 1162 = .ok (.aload_n 0, 1) := by decide +kernel
theorem dL_law_1163 : decode cL_law 1163 = .ok (.iload_n 3, 1) := by decide +kernel
theorem dL_law_1164 : decode cL_law 1164 = .ok (.iconst 1, 1) := by decide +kernel
theorem dL_law_1165 : decode cL_law 1165 = .ok (.iadd, 1) := by decide +kernel
theorem dL_law_1166 : decode cL_law 1166 = .ok (.iaload, 1) := by decide +kernel
theorem dL_law_1167 : decode cL_law 1167 = .ok (.aload_n 0, 1) := by decide +kernel
theorem dL_law_1168 : decode cL_law 1168 = .ok (.iload_n 3, 1) := by decide +kernel
theorem dL_law_1169 : decode cL_law 1169 = .ok (.iconst 2, 1) := by decide +kernel
theorem dL_law_1170 : decode cL_law 1170 = .ok (.iadd, 1) := by decide +kernel
theorem dL_law_1171 : decode cL_law 1171 = .ok (.iaload, 1) := by decide +kernel
theorem dL_law_1172 : decode cL_law 1172 = .ok (.aload_n 0, 1) := by decide +kernel
theorem dL_law_1173 : decode cL_law 1173 = .ok (.iload_n 3, 1) := by decide +kernel
theorem dL_law_1174 : decode cL_law 1174 = .ok (.iconst 3, 1) := by decide +kernel
theorem dL_law_1175 : decode cL_law 1175 = .ok (.iadd, 1) := by decide +kernel
theorem dL_law_1176 : decode cL_law 1176 = .ok (.iaload, 1) := by decide +kernel
theorem dL_law_1177 : decode cL_law 1177 = .ok (.invokevirtual 135, 3) := by decide +kernel
theorem dL_law_1180 : decode cL_law 1180 = .ok (.aload_n 2, 1) := by decide +kernel
theorem dL_law_1181 : decode cL_law 1181 = .ok (.aload_n 0, 1) := by decide +kernel
theorem dL_law_1182 : decode cL_law 1182 = .ok (.iload_n 3, 1) := by decide +kernel
theorem dL_law_1183 : decode cL_law 1183 = .ok (.iconst 1, 1) := by decide +kernel
theorem dL_law_1184 : decode cL_law 1184 = .ok (.iadd, 1) := by decide +kernel
theorem dL_law_1185 : decode cL_law 1185 = .ok (.iaload, 1) := by decide +kernel
theorem dL_law_1186 : decode cL_law 1186 = .ok (.aload_n 0, 1) := by decide +kernel
theorem dL_law_1187 : decode cL_law 1187 = .ok (.iload_n 3, 1) := by decide +kernel
theorem dL_law_1188 : decode cL_law 1188 = .ok (.iconst 2, 1) := by decide +kernel
theorem dL_law_1189 : decode cL_law 1189 = .ok (.iadd, 1) := by decide +kernel
theorem dL_law_1190 : decode cL_law 1190 = .ok (.iaload, 1) := by decide +kernel
theorem dL_law_1191 : decode cL_law 1191 = .ok (.aload_n 0, 1) := by decide +kernel
theorem dL_law_1192 : decode cL_law 1192 = .ok (.iload_n 3, 1) := by decide +kernel
theorem dL_law_1193 : decode cL_law 1193 = .ok (.iconst 3, 1) := by decide +kernel
theorem dL_law_1194 : decode cL_law 1194 = .ok (.iadd, 1) := by decide +kernel
theorem dL_law_1195 : decode cL_law 1195 = .ok (.iaload, 1) := by decide +kernel
theorem dL_law_1196 : decode cL_law 1196 = .ok (.invokevirtual 138, 3) := by decide +kernel
theorem dL_law_1199 : decode cL_law 1199 = .ok (.if_icmp .eq 232, 3) := by decide +kernel
theorem dL_law_1202 : decode cL_law 1202 = .ok (.iconst 0, 1) := by decide +kernel
theorem dL_law_1203 : decode cL_law 1203 = .ok (.ireturn, 1) := by decide +kernel
theorem dL_law_1204 : decode cL_law 1204 = .ok (.aload_n 1, 1) := by decide +kernel
theorem dL_law_1205 : decode cL_law 1205 = .ok (.aload_n 0, 1) := by decide +kernel
theorem dL_law_1206 : decode cL_law 1206 = .ok (.iload_n 3, 1) := by decide +kernel
theorem dL_law_1207 : decode cL_law 1207 = .ok (.iconst 1, 1) := by decide +kernel
theorem dL_law_1208 : decode cL_law 1208 = .ok (.iadd, 1) := by decide +kernel
theorem dL_law_1209 : decode cL_law 1209 = .ok (.iaload, 1) := by decide +kernel
theorem dL_law_1210 : decode cL_law 1210 = .ok (.aload_n 0, 1) := by decide +kernel
theorem dL_law_1211 : decode cL_law 1211 = .ok (.iload_n 3, 1) := by decide +kernel
theorem dL_law_1212 : decode cL_law 1212 = .ok (.iconst 2, 1) := by decide +kernel
theorem dL_law_1213 : decode cL_law 1213 = .ok (.iadd, 1) := by decide +kernel
theorem dL_law_1214 : decode cL_law 1214 = .ok (.iaload, 1) := by decide +kernel
theorem dL_law_1215 : decode cL_law 1215 = .ok (.aload_n 0, 1) := by decide +kernel
theorem dL_law_1216 : decode cL_law 1216 = .ok (.iload_n 3, 1) := by decide +kernel
theorem dL_law_1217 : decode cL_law 1217 = .ok (.iconst 3, 1) := by decide +kernel
theorem dL_law_1218 : decode cL_law 1218 = .ok (.iadd, 1) := by decide +kernel
theorem dL_law_1219 : decode cL_law 1219 = .ok (.iaload, 1) := by decide +kernel
theorem dL_law_1220 : decode cL_law 1220 = .ok (.aload_n 0, 1) := by decide +kernel
theorem dL_law_1221 : decode cL_law 1221 = .ok (.iload_n 3, 1) := by decide +kernel
theorem dL_law_1222 : decode cL_law 1222 = .ok (.iconst 4, 1) := by decide +kernel
theorem dL_law_1223 : decode cL_law 1223 = .ok (.iadd, 1) := by decide +kernel
theorem dL_law_1224 : decode cL_law 1224 = .ok (.iaload, 1) := by decide +kernel
theorem dL_law_1225 : decode cL_law 1225 = .ok (.aload_n 0, 1) := by decide +kernel
theorem dL_law_1226 : decode cL_law 1226 = .ok (.iload_n 3, 1) := by decide +kernel
theorem dL_law_1227 : decode cL_law 1227 = .ok (.iconst 5, 1) := by decide +kernel
theorem dL_law_1228 : decode cL_law 1228 = .ok (.iadd, 1) := by decide +kernel
theorem dL_law_1229 : decode cL_law 1229 = .ok (.iaload, 1) := by decide +kernel
theorem dL_law_1230 : decode cL_law 1230 = .ok (.invokevirtual 139, 3) := by decide +kernel
theorem dL_law_1233 : decode cL_law 1233 = .ok (.aload_n 2, 1) := by decide +kernel
theorem dL_law_1234 : decode cL_law 1234 = .ok (.aload_n 0, 1) := by decide +kernel
theorem dL_law_1235 : decode cL_law 1235 = .ok (.iload_n 3, 1) := by decide +kernel
theorem dL_law_1236 : decode cL_law 1236 = .ok (.iconst 1, 1) := by decide +kernel
theorem dL_law_1237 : decode cL_law 1237 = .ok (.iadd, 1) := by decide +kernel
theorem dL_law_1238 : decode cL_law 1238 = .ok (.iaload, 1) := by decide +kernel
theorem dL_law_1239 : decode cL_law 1239 = .ok (.aload_n 0, 1) := by decide +kernel
theorem dL_law_1240 : decode cL_law 1240 = .ok (.iload_n 3, 1) := by decide +kernel
theorem dL_law_1241 : decode cL_law 1241 = .ok (.iconst 2, 1) := by decide +kernel
theorem dL_law_1242 : decode cL_law 1242 = .ok (.iadd, 1) := by decide +kernel
theorem dL_law_1243 : decode cL_law 1243 = .ok (.iaload, 1) := by decide +kernel
theorem dL_law_1244 : decode cL_law 1244 = .ok (.aload_n 0, 1) := by decide +kernel
theorem dL_law_1245 : decode cL_law 1245 = .ok (.iload_n 3, 1) := by decide +kernel
theorem dL_law_1246 : decode cL_law 1246 = .ok (.iconst 3, 1) := by decide +kernel
theorem dL_law_1247 : decode cL_law 1247 = .ok (.iadd, 1) := by decide +kernel
theorem dL_law_1248 : decode cL_law 1248 = .ok (.iaload, 1) := by decide +kernel
theorem dL_law_1249 : decode cL_law 1249 = .ok (.aload_n 0, 1) := by decide +kernel
theorem dL_law_1250 : decode cL_law 1250 = .ok (.iload_n 3, 1) := by decide +kernel
theorem dL_law_1251 : decode cL_law 1251 = .ok (.iconst 4, 1) := by decide +kernel
theorem dL_law_1252 : decode cL_law 1252 = .ok (.iadd, 1) := by decide +kernel
theorem dL_law_1253 : decode cL_law 1253 = .ok (.iaload, 1) := by decide +kernel
theorem dL_law_1254 : decode cL_law 1254 = .ok (.aload_n 0, 1) := by decide +kernel
theorem dL_law_1255 : decode cL_law 1255 = .ok (.iload_n 3, 1) := by decide +kernel
theorem dL_law_1256 : decode cL_law 1256 = .ok (.iconst 5, 1) := by decide +kernel
theorem dL_law_1257 : decode cL_law 1257 = .ok (.iadd, 1) := by decide +kernel
theorem dL_law_1258 : decode cL_law 1258 = .ok (.iaload, 1) := by decide +kernel
theorem dL_law_1259 : decode cL_law 1259 = .ok (.invokevirtual 143, 3) := by decide +kernel
theorem dL_law_1262 : decode cL_law 1262 = .ok (.if_icmp .eq 169, 3) := by decide +kernel
theorem dL_law_1265 : decode cL_law 1265 = .ok (.iconst 0, 1) := by decide +kernel
theorem dL_law_1266 : decode cL_law 1266 = .ok (.ireturn, 1) := by decide +kernel
theorem dL_law_1267 : decode cL_law 1267 = .ok (.aload_n 1, 1) := by decide +kernel
theorem dL_law_1268 : decode cL_law 1268 = .ok (.aload_n 0, 1) := by decide +kernel
theorem dL_law_1269 : decode cL_law 1269 = .ok (.iload_n 3, 1) := by decide +kernel
theorem dL_law_1270 : decode cL_law 1270 = .ok (.iconst 1, 1) := by decide +kernel
theorem dL_law_1271 : decode cL_law 1271 = .ok (.iadd, 1) := by decide +kernel
theorem dL_law_1272 : decode cL_law 1272 = .ok (.iaload, 1) := by decide +kernel
theorem dL_law_1273 : decode cL_law 1273 = .ok (.invokevirtual 144, 3) := by decide +kernel
theorem dL_law_1276 : decode cL_law 1276 = .ok (.aload_n 2, 1) := by decide +kernel
theorem dL_law_1277 : decode cL_law 1277 = .ok (.aload_n 0, 1) := by decide +kernel
theorem dL_law_1278 : decode cL_law 1278 = .ok (.iload_n 3, 1) := by decide +kernel
theorem dL_law_1279 : decode cL_law 1279 = .ok (.iconst 1, 1) := by decide +kernel
theorem dL_law_1280 : decode cL_law 1280 = .ok (.iadd, 1) := by decide +kernel
theorem dL_law_1281 : decode cL_law 1281 = .ok (.iaload, 1) := by decide +kernel
theorem dL_law_1282 : decode cL_law 1282 = .ok (.invokevirtual 147, 3) := by decide +kernel
theorem dL_law_1285 : decode cL_law 1285 = .ok (.if_icmp .eq 146, 3) := by decide +kernel
theorem dL_law_1288 : decode cL_law 1288 = .ok (.iconst 0, 1) := by decide +kernel
theorem dL_law_1289 : decode cL_law 1289 = .ok (.ireturn, 1) := by decide +kernel
theorem dL_law_1290 : decode cL_law 1290 = .ok (.aload_n 1, 1) := by decide +kernel
theorem dL_law_1291 : decode cL_law 1291 = .ok (.aload_n 0, 1) := by decide +kernel
theorem dL_law_1292 : decode cL_law 1292 = .ok (.iload_n 3, 1) := by decide +kernel
theorem dL_law_1293 : decode cL_law 1293 = .ok (.iconst 1, 1) := by decide +kernel
theorem dL_law_1294 : decode cL_law 1294 = .ok (.iadd, 1) := by decide +kernel
theorem dL_law_1295 : decode cL_law 1295 = .ok (.iaload, 1) := by decide +kernel
theorem dL_law_1296 : decode cL_law 1296 = .ok (.invokevirtual 148, 3) := by decide +kernel
theorem dL_law_1299 : decode cL_law 1299 = .ok (.aload_n 2, 1) := by decide +kernel
theorem dL_law_1300 : decode cL_law 1300 = .ok (.aload_n 0, 1) := by decide +kernel
theorem dL_law_1301 : decode cL_law 1301 = .ok (.iload_n 3, 1) := by decide +kernel
theorem dL_law_1302 : decode cL_law 1302 = .ok (.iconst 1, 1) := by decide +kernel
theorem dL_law_1303 : decode cL_law 1303 = .ok (.iadd, 1) := by decide +kernel
theorem dL_law_1304 : decode cL_law 1304 = .ok (.iaload, 1) := by decide +kernel
theorem dL_law_1305 : decode cL_law 1305 = .ok (.invokevirtual 151, 3) := by decide +kernel
theorem dL_law_1308 : decode cL_law 1308 = .ok (.if_icmp .eq 123, 3) := by decide +kernel
theorem dL_law_1311 : decode cL_law 1311 = .ok (.iconst 0, 1) := by decide +kernel
theorem dL_law_1312 : decode cL_law 1312 = .ok (.ireturn, 1) := by decide +kernel
theorem dL_law_1313 : decode cL_law 1313 = .ok (.aload_n 1, 1) := by decide +kernel
theorem dL_law_1314 : decode cL_law 1314 = .ok (.invokevirtual 152, 3) := by decide +kernel
theorem dL_law_1317 : decode cL_law 1317 = .ok (.aload_n 2, 1) := by decide +kernel
theorem dL_law_1318 : decode cL_law 1318 = .ok (.invokevirtual 156, 3) := by decide +kernel
theorem dL_law_1321 : decode cL_law 1321 = .ok (.if_icmp .eq 110, 3) := by decide +kernel
theorem dL_law_1324 : decode cL_law 1324 = .ok (.iconst 0, 1) := by decide +kernel
theorem dL_law_1325 : decode cL_law 1325 = .ok (.ireturn, 1) := by decide +kernel
theorem dL_law_1326 : decode cL_law 1326 = .ok (.aload_n 1, 1) := by decide +kernel
theorem dL_law_1327 : decode cL_law 1327 = .ok (.invokevirtual 157, 3) := by decide +kernel
theorem dL_law_1330 : decode cL_law 1330 = .ok (.aload_n 2, 1) := by decide +kernel
theorem dL_law_1331 : decode cL_law 1331 = .ok (.invokevirtual 160, 3) := by decide +kernel
theorem dL_law_1334 : decode cL_law 1334 = .ok (.if_icmp .eq 97, 3) := by decide +kernel
theorem dL_law_1337 : decode cL_law 1337 = .ok (.iconst 0, 1) := by decide +kernel
theorem dL_law_1338 : decode cL_law 1338 = .ok (.ireturn, 1) := by decide +kernel
theorem dL_law_1339 : decode cL_law 1339 = .ok (.aload_n 1, 1) := by decide +kernel
theorem dL_law_1340 : decode cL_law 1340 = .ok (.aload_n 0, 1) := by decide +kernel
theorem dL_law_1341 : decode cL_law 1341 = .ok (.iload_n 3, 1) := by decide +kernel
theorem dL_law_1342 : decode cL_law 1342 = .ok (.iconst 1, 1) := by decide +kernel
theorem dL_law_1343 : decode cL_law 1343 = .ok (.iadd, 1) := by decide +kernel
theorem dL_law_1344 : decode cL_law 1344 = .ok (.iaload, 1) := by decide +kernel
theorem dL_law_1345 : decode cL_law 1345 = .ok (.invokevirtual 161, 3) := by decide +kernel
theorem dL_law_1348 : decode cL_law 1348 = .ok (.aload_n 2, 1) := by decide +kernel
theorem dL_law_1349 : decode cL_law 1349 = .ok (.aload_n 0, 1) := by decide +kernel
theorem dL_law_1350 : decode cL_law 1350 = .ok (.iload_n 3, 1) := by decide +kernel
theorem dL_law_1351 : decode cL_law 1351 = .ok (.iconst 1, 1) := by decide +kernel
theorem dL_law_1352 : decode cL_law 1352 = .ok (.iadd, 1) := by decide +kernel
theorem dL_law_1353 : decode cL_law 1353 = .ok (.iaload, 1) := by decide +kernel
theorem dL_law_1354 : decode cL_law 1354 = .ok (.invokevirtual 164, 3) := by decide +kernel
theorem dL_law_1357 : decode cL_law 1357 = .ok (.if_icmp .eq 74, 3) := by decide +kernel
theorem dL_law_1360 : decode cL_law 1360 = .ok (.iconst 0, 1) := by decide +kernel
theorem dL_law_1361 : decode cL_law 1361 = .ok (.ireturn, 1) := by decide +kernel
theorem dL_law_1362 : decode cL_law 1362 = .ok (.aload_n 1, 1) := by decide +kernel
theorem dL_law_1363 : decode cL_law 1363 = .ok (.aload_n 0, 1) := by decide +kernel
theorem dL_law_1364 : decode cL_law 1364 = .ok (.iload_n 3, 1) := by decide +kernel
theorem dL_law_1365 : decode cL_law 1365 = .ok (.iconst 1, 1) := by decide +kernel
theorem dL_law_1366 : decode cL_law 1366 = .ok (.iadd, 1) := by decide +kernel
theorem dL_law_1367 : decode cL_law 1367 = .ok (.iaload, 1) := by decide +kernel
theorem dL_law_1368 : decode cL_law 1368 = .ok (.invokevirtual 165, 3) := by decide +kernel
theorem dL_law_1371 : decode cL_law 1371 = .ok (.aload_n 2, 1) := by decide +kernel
theorem dL_law_1372 : decode cL_law 1372 = .ok (.aload_n 0, 1) := by decide +kernel
theorem dL_law_1373 : decode cL_law 1373 = .ok (.iload_n 3, 1) := by decide +kernel
theorem dL_law_1374 : decode cL_law 1374 = .ok (.iconst 1, 1) := by decide +kernel
theorem dL_law_1375 : decode cL_law 1375 = .ok (.iadd, 1) := by decide +kernel
theorem dL_law_1376 : decode cL_law 1376 = .ok (.iaload, 1) := by decide +kernel
theorem dL_law_1377 : decode cL_law 1377 = .ok (.invokevirtual 168, 3) := by decide +kernel
theorem dL_law_1380 : decode cL_law 1380 = .ok (.if_icmp .eq 51, 3) := by decide +kernel
theorem dL_law_1383 : decode cL_law 1383 = .ok (.iconst 0, 1) := by decide +kernel
theorem dL_law_1384 : decode cL_law 1384 = .ok (.ireturn, 1) := by decide +kernel
theorem dL_law_1385 : decode cL_law 1385 = .ok (.aload_n 1, 1) := by decide +kernel
theorem dL_law_1386 : decode cL_law 1386 = .ok (.aload_n 0, 1) := by decide +kernel
theorem dL_law_1387 : decode cL_law 1387 = .ok (.iload_n 3, 1) := by decide +kernel
theorem dL_law_1388 : decode cL_law 1388 = .ok (.iconst 1, 1) := by decide +kernel
theorem dL_law_1389 : decode cL_law 1389 = .ok (.iadd, 1) := by decide +kernel
theorem dL_law_1390 : decode cL_law 1390 = .ok (.iaload, 1) := by decide +kernel
theorem dL_law_1391 : decode cL_law 1391 = .ok (.invokevirtual 169, 3) := by decide +kernel
theorem dL_law_1394 : decode cL_law 1394 = .ok (.aload_n 2, 1) := by decide +kernel
theorem dL_law_1395 : decode cL_law 1395 = .ok (.aload_n 0, 1) := by decide +kernel
theorem dL_law_1396 : decode cL_law 1396 = .ok (.iload_n 3, 1) := by decide +kernel
theorem dL_law_1397 : decode cL_law 1397 = .ok (.iconst 1, 1) := by decide +kernel
theorem dL_law_1398 : decode cL_law 1398 = .ok (.iadd, 1) := by decide +kernel
theorem dL_law_1399 : decode cL_law 1399 = .ok (.iaload, 1) := by decide +kernel
theorem dL_law_1400 : decode cL_law 1400 = .ok (.invokevirtual 172, 3) := by decide +kernel
theorem dL_law_1403 : decode cL_law 1403 = .ok (.if_icmp .eq 28, 3) := by decide +kernel
theorem dL_law_1406 : decode cL_law 1406 = .ok (.iconst 0, 1) := by decide +kernel
theorem dL_law_1407 : decode cL_law 1407 = .ok (.ireturn, 1) := by decide +kernel
theorem dL_law_1408 : decode cL_law 1408 = .ok (.aload_n 1, 1) := by decide +kernel
theorem dL_law_1409 : decode cL_law 1409 = .ok (.aload_n 0, 1) := by decide +kernel
theorem dL_law_1410 : decode cL_law 1410 = .ok (.iload_n 3, 1) := by decide +kernel
theorem dL_law_1411 : decode cL_law 1411 = .ok (.iconst 1, 1) := by decide +kernel
theorem dL_law_1412 : decode cL_law 1412 = .ok (.iadd, 1) := by decide +kernel
theorem dL_law_1413 : decode cL_law 1413 = .ok (.iaload, 1) := by decide +kernel
theorem dL_law_1414 : decode cL_law 1414 = .ok (.invokevirtual 173, 3) := by decide +kernel
theorem dL_law_1417 : decode cL_law 1417 = .ok (.aload_n 2, 1) := by decide +kernel
theorem dL_law_1418 : decode cL_law 1418 = .ok (.aload_n 0, 1) := by decide +kernel
theorem dL_law_1419 : decode cL_law 1419 = .ok (.iload_n 3, 1) := by decide +kernel
theorem dL_law_1420 : decode cL_law 1420 = .ok (.iconst 1, 1) := by decide +kernel
theorem dL_law_1421 : decode cL_law 1421 = .ok (.iadd, 1) := by decide +kernel
theorem dL_law_1422 : decode cL_law 1422 = .ok (.iaload, 1) := by decide +kernel
theorem dL_law_1423 : decode cL_law 1423 = .ok (.invokevirtual 176, 3) := by decide +kernel
theorem dL_law_1426 : decode cL_law 1426 = .ok (.if_icmp .eq 5, 3) := by decide +kernel
theorem dL_law_1429 : decode cL_law 1429 = .ok (.iconst 0, 1) := by decide +kernel
theorem dL_law_1430 : decode cL_law 1430 = .ok (.ireturn, 1) := by decide +kernel
theorem dL_law_1431 : decode cL_law 1431 = .ok (.iinc 3 6, 3) := by decide +kernel
theorem dL_law_1434 : decode cL_law 1434 = .ok (.goto (-1416), 3) := by decide +kernel
theorem dL_law_1437 : decode cL_law 1437 = .ok (.iconst 1, 1) := by decide +kernel
theorem dL_law_1438 : decode cL_law 1438 = .ok (.ireturn, 1) := by decide +kernel
end
section
/-! decode rows -/
theorem dX8_init_0 : decode cX8_init 0 = .ok (.aload_n 0, 1) := by decide +kernel
theorem dX8_init_1 : decode cX8_init 1 = .ok (.invokespecial 1, 3) := by decide +kernel
theorem dX8_init_4 : decode cX8_init 4 = .ok (.aload_n 0, 1) := by decide +kernel
theorem dX8_init_5 : decode cX8_init 5 = .ok (.sipush 357, 3) := by decide +kernel
theorem dX8_init_8 : decode cX8_init 8 = .ok (.newarray .int, 2) := by decide +kernel
theorem dX8_init_10 : decode cX8_init 10 = .ok (.putfield 7, 3) := by decide +kernel
theorem dX8_init_13 : decode cX8_init 13 = .ok (.aload_n 0, 1) := by decide +kernel
theorem dX8_init_14 : decode cX8_init 14 = .ok (.sipush 357, 3) := by decide +kernel
theorem dX8_init_17 : decode cX8_init 17 = .ok (.newarray .int, 2) := by decide +kernel
theorem dX8_init_19 : decode cX8_init 19 = .ok (.putfield 13, 3) := by decide +kernel
theorem dX8_init_22 : decode cX8_init 22 = .ok (.aload_n 0, 1) := by decide +kernel
theorem dX8_init_23 : decode cX8_init 23 = .ok (.sipush 357, 3) := by decide +kernel
theorem dX8_init_26 : decode cX8_init 26 = .ok (.newarray .int, 2) := by decide +kernel
theorem dX8_init_28 : decode cX8_init 28 = .ok (.putfield 16, 3) := by decide +kernel
theorem dX8_init_31 : decode cX8_init 31 = .ok (.aload_n 0, 1) := by decide +kernel
theorem dX8_init_32 : decode cX8_init 32 = .ok (.bipush 6, 2) := by decide +kernel
theorem dX8_init_34 : decode cX8_init 34 = .ok (.newarray .int, 2) := by decide +kernel
theorem dX8_init_36 : decode cX8_init 36 = .ok (.putfield 19, 3) := by decide +kernel
theorem dX8_init_39 : decode cX8_init 39 = .ok (.aload_n 0, 1) := by decide +kernel
theorem dX8_init_40 : decode cX8_init 40 = .ok (.bipush 64, 2) := by decide +kernel
theorem dX8_init_42 : decode cX8_init 42 = .ok (.newarray .int, 2) := by decide +kernel
theorem dX8_init_44 : decode cX8_init 44 = .ok (.putfield 22, 3) := by decide +kernel
theorem dX8_init_47 : decode cX8_init 47 = .ok (.aload_n 0, 1) := by decide +kernel
theorem dX8_init_48 : decode cX8_init 48 = .ok (.bipush 60, 2) := by decide +kernel
theorem dX8_init_50 : decode cX8_init 50 = .ok (.newarray .int, 2) := by decide +kernel
theorem dX8_init_52 : decode cX8_init 52 = .ok (.putfield 25, 3) := by decide +kernel
theorem dX8_init_55 : decode cX8_init 55 = .ok (.aload_n 0, 1) := by decide +kernel
theorem dX8_init_56 : decode cX8_init 56 = .ok (.bipush 30, 2) := by decide +kernel
theorem dX8_init_58 : decode cX8_init 58 = .ok (.newarray .int, 2) := by decide +kernel
theorem dX8_init_60 : decode cX8_init 60 = .ok (.putfield 28, 3) := by decide +kernel
theorem dX8_init_63 : decode cX8_init 63 = .ok (.aload_n 0, 1) := by decide +kernel
theorem dX8_init_64 : decode cX8_init 64 = .ok (.iconst 4, 1) := by decide +kernel
theorem dX8_init_65 : decode cX8_init 65 = .ok (.newarray .int, 2) := by decide +kernel
theorem dX8_init_67 : decode cX8_init 67 = .ok (.putfield 31, 3) := by decide +kernel
theorem dX8_init_70 : decode cX8_init 70 = .ok (.aload_n 0, 1) := by decide +kernel
theorem dX8_init_71 : decode cX8_init 71 = .ok (.iconst 4, 1) := by decide +kernel
theorem dX8_init_72 : decode cX8_init 72 = .ok (.newarray .int, 2) := by decide +kernel
theorem dX8_init_74 : decode cX8_init 74 = .ok (.putfield 34, 3) := by decide +kernel
theorem dX8_init_77 : decode cX8_init 77 = .ok (.aload_n 0, 1) := by decide +kernel
theorem dX8_init_78 : decode cX8_init 78 = .ok (.bipush 96, 2) := by decide +kernel
theorem dX8_init_80 : decode cX8_init 80 = .ok (.newarray .int, 2) := by decide +kernel
theorem dX8_init_82 : decode cX8_init 82 = .ok (.putfield 37, 3) := by decide +kernel
theorem dX8_init_85 : decode cX8_init 85 = .ok (.aload_n 0, 1) := by decide +kernel
theorem dX8_init_86 : decode cX8_init 86 = .ok (.bipush 24, 2) := by decide +kernel
theorem dX8_init_88 : decode cX8_init 88 = .ok (.newarray .int, 2) := by decide +kernel
theorem dX8_init_90 : decode cX8_init 90 = .ok (.putfield 40, 3) := by decide +kernel
theorem dX8_init_93 : decode cX8_init 93 = .ok (.aload_n 0, 1) := by decide +kernel
theorem dX8_init_94 : decode cX8_init 94 = .ok (.getfield 7, 3) := by decide +kernel
theorem dX8_init_97 : decode cX8_init 97 = .ok (.iconst 5, 1) := by decide +kernel
theorem dX8_init_98 : decode cX8_init 98 = .ok (.iconst 4, 1) := by decide +kernel
theorem dX8_init_99 : decode cX8_init 99 = .ok (.iastore, 1) := by decide +kernel
theorem dX8_init_100 : decode cX8_init 100 = .ok (.aload_n 0, 1) := by decide +kernel
theorem dX8_init_101 : decode cX8_init 101 = .ok (.getfield 7, 3) := by decide +kernel
theorem dX8_init_104 : decode cX8_init 104 = .ok (.bipush 6, 2) := by decide +kernel
theorem dX8_init_106 : decode cX8_init 106 = .ok (.iconst 1, 1) := by decide +kernel
theorem dX8_init_107 : decode cX8_init 107 = .ok (.iastore, 1) := by decide +kernel
theorem dX8_init_108 : decode cX8_init 108 = .ok (.return_, 1) := by decide +kernel
theorem dX8_in_0 : decode cX8_in 0 = .ok (.lload_n 0, 1) := by decide +kernel
theorem dX8_in_1 : decode cX8_in 1 = .ok (.lload_n 2, 1) := by decide +kernel
theorem dX8_in_2 : decode cX8_in 2 = .ok (.lcmp, 1) := by decide +kernel
theorem dX8_in_3 : decode cX8_in 3 = .ok (.ifCond .lt 14, 3) := by decide +kernel
theorem dX8_in_6 : decode cX8_in 6 = .ok (.lload_n 0, 1) := by decide +kernel
theorem dX8_in_7 : decode cX8_in 7 = .ok (.lload 4, 2) := by decide +kernel
theorem dX8_in_9 : decode cX8_in 9 = .ok (.lcmp, 1) := by decide +kernel
theorem dX8_in_10 : decode cX8_in 10 = .ok (.ifCond .gt 7, 3) := by decide +kernel
theorem dX8_in_13 : decode cX8_in 13 = .ok (.iconst 1, 1) := by decide +kernel
theorem dX8_in_14 : decode cX8_in 14 = .ok (.goto 4, 3) := by decide +kernel
theorem dX8_in_17 : decode cX8_in 17 = .ok (.iconst 0, 1) := by decide +kernel
theorem dX8_in_18 : decode cX8_in 18 = .ok (.ireturn, 1) := by decide +kernel
theorem dX8_errs_0 : decode cX8_errs 0 = .ok (.aload_n 0, 1) := by decide +kernel
theorem dX8_errs_1 : decode cX8_errs 1 = .ok (.getfield 19, 3) := by decide +kernel
theorem dX8_errs_4 : decode cX8_errs 4 = .ok (.ldc 43, 2) := by decide +kernel
theorem dX8_errs_6 : decode cX8_errs 6 = .ok (.iload_n 1, 1) := by decide +kernel
theorem dX8_errs_7 : decode cX8_errs 7 = .ok (.isub, 1) := by decide +kernel
theorem dX8_errs_8 : decode cX8_errs 8 = .ok (.dup2, 1) := by decide +kernel
theorem dX8_errs_9 : decode cX8_errs 9 = .ok (.iaload, 1) := by decide +kernel
theorem dX8_errs_10 : decode cX8_errs 10 = .ok (.iconst 1, 1) := by decide +kernel
theorem dX8_errs_11 : decode cX8_errs 11 = .ok (.iadd, 1) := by decide +kernel
theorem dX8_errs_12 : decode cX8_errs 12 = .ok (.iastore, 1) := by decide +kernel
theorem dX8_errs_13 : decode cX8_errs 13 = .ok (.iload_n 1, 1) := by decide +kernel
theorem dX8_errs_14 : decode cX8_errs 14 = .ok (.ireturn, 1) := by decide +kernel
theorem dX8_isBunk_0 : decode cX8_isBunk 0 = .ok (.iload_n 1, 1) := by decide +kernel
theorem dX8_isBunk_1 : decode cX8_isBunk 1 = .ok (.i2l, 1) := by decide +kernel
theorem dX8_isBunk_2 : decode cX8_isBunk 2 = .ok (.lconst 0, 1) := by decide +kernel
theorem dX8_isBunk_3 : decode cX8_isBunk 3 = .ok (.aload_n 0, 1) := by decide +kernel
theorem dX8_isBunk_4 : decode cX8_isBunk 4 = .ok (.getfield 7, 3) := by decide +kernel
theorem dX8_isBunk_7 : decode cX8_isBunk 7 = .ok (.iconst 0, 1) := by decide +kernel
theorem dX8_isBunk_8 : decode cX8_isBunk 8 = .ok (.iaload, 1) := by decide +kernel
theorem dX8_isBunk_9 : decode cX8_isBunk 9 = .ok (.iconst 1, 1) := by decide +kernel
theorem dX8_isBunk_10 : decode cX8_isBunk 10 = .ok (.isub, 1) := by decide +kernel
theorem dX8_isBunk_11 : decode cX8_isBunk 11 = .ok (.i2l, 1) := by decide +kernel
theorem dX8_isBunk_12 : decode cX8_isBunk 12 = .ok (.invokestatic 44, 3) := by decide +kernel
theorem dX8_isBunk_15 : decode cX8_isBunk 15 = .ok (.ireturn, 1) := by decide +kernel
theorem dX8_isKnack_0 : decode cX8_isKnack 0 = .ok (.iload_n 0, 1) := by decide +kernel
theorem dX8_isKnack_1 : decode cX8_isKnack 1 = .ok (.i2l, 1) := by decide +kernel
theorem dX8_isKnack_2 : decode cX8_isKnack 2 = .ok (.lconst 0, 1) := by decide +kernel
theorem dX8_isKnack_3 : decode cX8_isKnack 3 = .ok (.ldc2_w 48, 3) := by decide +kernel
theorem dX8_isKnack_6 : decode cX8_isKnack 6 = .ok (.invokestatic 44, 3) := by decide +kernel
theorem dX8_isKnack_9 : decode cX8_isKnack 9 = .ok (.ireturn, 1) := by decide +kernel
theorem dX8_isBits_0 : decode cX8_isBits 0 = .ok (.iload_n 0, 1) := by decide +kernel
theorem dX8_isBits_1 : decode cX8_isBits 1 = .ok (.i2l, 1) := by decide +kernel
theorem dX8_isBits_2 : decode cX8_isBits 2 = .ok (.lconst 0, 1) := by decide +kernel
theorem dX8_isBits_3 : decode cX8_isBits 3 = .ok (.ldc2_w 50, 3) := by decide +kernel
theorem dX8_isBits_6 : decode cX8_isBits 6 = .ok (.invokestatic 44, 3) := by decide +kernel
theorem dX8_isBits_9 : decode cX8_isBits 9 = .ok (.ireturn, 1) := by decide +kernel
theorem dX8_has_0 : decode cX8_has 0 = .ok (.iload_n 0, 1) := by decide +kernel
theorem dX8_has_1 : decode cX8_has 1 = .ok (.iload_n 1, 1) := by decide +kernel
theorem dX8_has_2 : decode cX8_has 2 = .ok (.ishr, 1) := by decide +kernel
theorem dX8_has_3 : decode cX8_has 3 = .ok (.iconst 1, 1) := by decide +kernel
theorem dX8_has_4 : decode cX8_has 4 = .ok (.iand, 1) := by decide +kernel
theorem dX8_has_5 : decode cX8_has 5 = .ok (.iconst 1, 1) := by decide +kernel
theorem dX8_has_6 : decode cX8_has 6 = .ok (.if_icmp .ne 7, 3) := by decide +kernel
theorem dX8_has_9 : decode cX8_has 9 = .ok (.iconst 1, 1) := by decide +kernel
theorem dX8_has_10 : decode cX8_has 10 = .ok (.goto 4, 3) := by decide +kernel
theorem dX8_has_13 : decode cX8_has 13 = .ok (.iconst 0, 1) := by decide +kernel
theorem dX8_has_14 : decode cX8_has 14 = .ok (.ireturn, 1) := by decide +kernel
theorem dX8_ones_0 : decode cX8_ones 0 = .ok (.iconst 0, 1) := by decide +kernel
theorem dX8_ones_1 : decode cX8_ones 1 = .ok (.istore_n 1, 1) := by decide +kernel
theorem dX8_ones_2 : decode cX8_ones 2 = .ok (.iload_n 0, 1) := by decide +kernel
theorem dX8_ones_3 : decode cX8_ones 3 = .ok (.istore_n 2, 1) := by decide +kernel
theorem dX8_ones_4 : decode cX8_ones 4 = .ok (.iload_n 2, 1) := by decide +kernel
theorem dX8_ones_5 : decode cX8_ones 5 = .ok (.ifCond .eq 15, 3) := by decide +kernel
theorem dX8_ones_8 : decode cX8_ones 8 = .ok (.iinc 1 1, 3) := by decide +kernel
theorem dX8_ones_11 : decode cX8_ones 11 = .ok (.iload_n 2, 1) := by decide +kernel
theorem dX8_ones_12 : decode cX8_ones 12 = .ok (.iload_n 2, 1) := by decide +kernel
theorem dX8_ones_13 : decode cX8_ones 13 = .ok (.iconst 1, 1) := by decide +kernel
theorem dX8_ones_14 : decode cX8_ones 14 = .ok (.isub, 1) := by decide +kernel
theorem dX8_ones_15 : decode cX8_ones 15 = .ok (.iand, 1) := by decide +kernel
theorem dX8_ones_16 : decode cX8_ones 16 = .ok (.istore_n 2, 1) := by decide +kernel
theorem dX8_ones_17 : decode cX8_ones 17 = .ok (.goto (-13), 3) := by decide +kernel
theorem dX8_ones_20 : decode cX8_ones 20 = .ok (.iload_n 1, 1) := by decide +kernel
theorem dX8_ones_21 : decode cX8_ones 21 = .ok (.ireturn, 1) := by decide +kernel
theorem dX8_held_0 : decode cX8_held 0 = .ok (.iload_n 0, 1) := by decide +kernel
theorem dX8_held_1 : decode cX8_held 1 = .ok (.iload_n 1, 1) := by decide +kernel
theorem dX8_held_2 : decode cX8_held 2 = .ok (.if_icmp .ge 7, 3) := by decide +kernel
theorem dX8_held_5 : decode cX8_held 5 = .ok (.iload_n 1, 1) := by decide +kernel
theorem dX8_held_6 : decode cX8_held 6 = .ok (.goto 13, 3) := by decide +kernel
theorem dX8_held_9 : decode cX8_held 9 = .ok (.iload_n 0, 1) := by decide +kernel
theorem dX8_held_10 : decode cX8_held 10 = .ok (.iload_n 2, 1) := by decide +kernel
theorem dX8_held_11 : decode cX8_held 11 = .ok (.if_icmp .le 7, 3) := by decide +kernel
theorem dX8_held_14 : decode cX8_held 14 = .ok (.iload_n 2, 1) := by decide +kernel
theorem dX8_held_15 : decode cX8_held 15 = .ok (.goto 4, 3) := by decide +kernel
theorem dX8_held_18 : decode cX8_held 18 = .ok (.iload_n 0, 1) := by decide +kernel
theorem dX8_held_19 : decode cX8_held 19 = .ok (.ireturn, 1) := by decide +kernel
theorem dX8_keepsAside_0 : decode cX8_keepsAside 0 = .ok (.iconst 0, 1) := by decide +kernel
theorem dX8_keepsAside_1 : decode cX8_keepsAside 1 = .ok (.istore_n 1, 1) := by decide +kernel
theorem dX8_keepsAside_2 : decode cX8_keepsAside 2 = .ok (.iload_n 1, 1) := by decide +kernel
theorem dX8_keepsAside_3 : decode cX8_keepsAside 3 = .ok (.sipush 357, 3) := by decide +kernel
theorem dX8_keepsAside_6 : decode cX8_keepsAside 6 = .ok (.if_icmp .ge 21, 3) := by decide +kernel
theorem dX8_keepsAside_9 : decode cX8_keepsAside 9 = .ok (.aload_n 0, 1) := by decide +kernel
theorem dX8_keepsAside_10 : decode cX8_keepsAside 10 = .ok (.getfield 16, 3) := by decide +kernel
theorem dX8_keepsAside_13 : decode cX8_keepsAside 13 = .ok (.iload_n 1, 1) := by decide +kernel
theorem dX8_keepsAside_14 : decode cX8_keepsAside 14 = .ok (.aload_n 0, 1) := by decide +kernel
theorem dX8_keepsAside_15 : decode cX8_keepsAside 15 = .ok (.getfield 7, 3) := by decide +kernel
theorem dX8_keepsAside_18 : decode cX8_keepsAside 18 = .ok (.iload_n 1, 1) := by decide +kernel
theorem dX8_keepsAside_19 : decode cX8_keepsAside 19 = .ok (.iaload, 1) := by decide +kernel
theorem dX8_keepsAside_20 : decode cX8_keepsAside 20 = .ok (.iastore, 1) := by decide +kernel
theorem dX8_keepsAside_21 : decode cX8_keepsAside 21 = .ok (.iinc 1 1, 3) := by decide +kernel
theorem dX8_keepsAside_24 : decode cX8_keepsAside 24 = .ok (.goto (-22), 3) := by decide +kernel
theorem dX8_keepsAside_27 : decode cX8_keepsAside 27 = .ok (.return_, 1) := by decide +kernel
theorem dX8_putsBack_0 : decode cX8_putsBack 0 = .ok (.iconst 0, 1) := by decide +kernel
theorem dX8_putsBack_1 : decode cX8_putsBack 1 = .ok (.istore_n 1, 1) := by decide +kernel
theorem dX8_putsBack_2 : decode cX8_putsBack 2 = .ok (.iload_n 1, 1) := by decide +kernel
theorem dX8_putsBack_3 : decode cX8_putsBack 3 = .ok (.sipush 357, 3) := by decide +kernel
theorem dX8_putsBack_6 : decode cX8_putsBack 6 = .ok (.if_icmp .ge 21, 3) := by decide +kernel
theorem dX8_putsBack_9 : decode cX8_putsBack 9 = .ok (.aload_n 0, 1) := by decide +kernel
theorem dX8_putsBack_10 : decode cX8_putsBack 10 = .ok (.getfield 7, 3) := by decide +kernel
theorem dX8_putsBack_13 : decode cX8_putsBack 13 = .ok (.iload_n 1, 1) := by decide +kernel
theorem dX8_putsBack_14 : decode cX8_putsBack 14 = .ok (.aload_n 0, 1) := by decide +kernel
theorem dX8_putsBack_15 : decode cX8_putsBack 15 = .ok (.getfield 16, 3) := by decide +kernel
theorem dX8_putsBack_18 : decode cX8_putsBack 18 = .ok (.iload_n 1, 1) := by decide +kernel
theorem dX8_putsBack_19 : decode cX8_putsBack 19 = .ok (.iaload, 1) := by decide +kernel
theorem dX8_putsBack_20 : decode cX8_putsBack 20 = .ok (.iastore, 1) := by decide +kernel
theorem dX8_putsBack_21 : decode cX8_putsBack 21 = .ok (.iinc 1 1, 3) := by decide +kernel
theorem dX8_putsBack_24 : decode cX8_putsBack 24 = .ok (.goto (-22), 3) := by decide +kernel
theorem dX8_putsBack_27 : decode cX8_putsBack 27 = .ok (.return_, 1) := by decide +kernel
theorem dX8_by_0 : decode cX8_by 0 = .ok (.iload_n 0, 1) := by decide +kernel
theorem dX8_by_1 : decode cX8_by 1 = .ok (.tableswitch 147 (-19) (-11) #[124, 120, 116, 112, 101, 90, 79, 65, 51], 51) := by decide +kernel
theorem dX8_by_52 : decode cX8_by 52 = .ok (.iload_n 1, 1) := by decide +kernel
theorem dX8_by_53 : decode cX8_by 53 = .ok (.ifCond .ne 7, 3) := by decide +kernel
theorem dX8_by_56 : decode cX8_by 56 = .ok (.iload_n 2, 1) := by decide +kernel
theorem dX8_by_57 : decode cX8_by 57 = .ok (.ifCond .eq 7, 3) := by decide +kernel
theorem dX8_by_60 : decode cX8_by 60 = .ok (.iconst 1, 1) := by decide +kernel
theorem dX8_by_61 : decode cX8_by 61 = .ok (.goto 4, 3) := by decide +kernel
theorem dX8_by_64 : decode cX8_by 64 = .ok (.iconst 0, 1) := by decide +kernel
theorem dX8_by_65 : decode cX8_by 65 = .ok (.ireturn, 1) := by decide +kernel
theorem dX8_by_66 : decode cX8_by 66 = .ok (.iload_n 1, 1) := by decide +kernel
theorem dX8_by_67 : decode cX8_by 67 = .ok (.ifCond .eq 11, 3) := by decide +kernel
theorem dX8_by_70 : decode cX8_by 70 = .ok (.iload_n 2, 1) := by decide +kernel
theorem dX8_by_71 : decode cX8_by 71 = .ok (.ifCond .eq 7, 3) := by decide +kernel
theorem dX8_by_74 : decode cX8_by 74 = .ok (.iconst 1, 1) := by decide +kernel
theorem dX8_by_75 : decode cX8_by 75 = .ok (.goto 4, 3) := by decide +kernel
theorem dX8_by_78 : decode cX8_by 78 = .ok (.iconst 0, 1) := by decide +kernel
theorem dX8_by_79 : decode cX8_by 79 = .ok (.ireturn, 1) := by decide +kernel
theorem dX8_by_80 : decode cX8_by 80 = .ok (.iload_n 1, 1) := by decide +kernel
theorem dX8_by_81 : decode cX8_by 81 = .ok (.iload_n 2, 1) := by decide +kernel
theorem dX8_by_82 : decode cX8_by 82 = .ok (.if_icmp .ge 7, 3) := by decide +kernel
theorem dX8_by_85 : decode cX8_by 85 = .ok (.iconst 1, 1) := by decide +kernel
theorem dX8_by_86 : decode cX8_by 86 = .ok (.goto 4, 3) := by decide +kernel
theorem dX8_by_89 : decode cX8_by 89 = .ok (.iconst 0, 1) := by decide +kernel
theorem dX8_by_90 : decode cX8_by 90 = .ok (.ireturn, 1) := by decide +kernel
theorem dX8_by_91 : decode cX8_by 91 = .ok (.iload_n 1, 1) := by decide +kernel
theorem dX8_by_92 : decode cX8_by 92 = .ok (.iload_n 2, 1) := by decide +kernel
theorem dX8_by_93 : decode cX8_by 93 = .ok (.if_icmp .ne 7, 3) := by decide +kernel
theorem dX8_by_96 : decode cX8_by 96 = .ok (.iconst 1, 1) := by decide +kernel
theorem dX8_by_97 : decode cX8_by 97 = .ok (.goto 4, 3) := by decide +kernel
theorem dX8_by_100 : decode cX8_by 100 = .ok (.iconst 0, 1) := by decide +kernel
theorem dX8_by_101 : decode cX8_by 101 = .ok (.ireturn, 1) := by decide +kernel
theorem dX8_by_102 : decode cX8_by 102 = .ok (.iload_n 1, 1) := by decide +kernel
theorem dX8_by_103 : decode cX8_by 103 = .ok (.iload_n 2, 1) := by decide +kernel
theorem dX8_by_104 : decode cX8_by 104 = .ok (.if_icmp .le 7, 3) := by decide +kernel
theorem dX8_by_107 : decode cX8_by 107 = .ok (.iconst 1, 1) := by decide +kernel
theorem dX8_by_108 : decode cX8_by 108 = .ok (.goto 4, 3) := by decide +kernel
theorem dX8_by_111 : decode cX8_by 111 = .ok (.iconst 0, 1) := by decide +kernel
theorem dX8_by_112 : decode cX8_by 112 = .ok (.ireturn, 1) := by decide +kernel
theorem dX8_by_113 : decode cX8_by 113 = .ok (.iload_n 1, 1) := by decide +kernel
theorem dX8_by_114 : decode cX8_by 114 = .ok (.iload_n 2, 1) := by decide +kernel
theorem dX8_by_115 : decode cX8_by 115 = .ok (.iadd, 1) := by decide +kernel
theorem dX8_by_116 : decode cX8_by 116 = .ok (.ireturn, 1) := by decide +kernel
theorem dX8_by_117 : decode cX8_by 117 = .ok (.iload_n 1, 1) := by decide +kernel
theorem dX8_by_118 : decode cX8_by 118 = .ok (.iload_n 2, 1) := by decide +kernel
theorem dX8_by_119 : decode cX8_by 119 = .ok (.isub, 1) := by decide +kernel
theorem dX8_by_120 : decode cX8_by 120 = .ok (.ireturn, 1) := by decide +kernel
theorem dX8_by_121 : decode cX8_by 121 = .ok (.iload_n 1, 1) := by decide +kernel
theorem dX8_by_122 : decode cX8_by 122 = .ok (.iload_n 2, 1) := by decide +kernel
theorem dX8_by_123 : decode cX8_by 123 = .ok (.imul, 1) := by decide +kernel
theorem dX8_by_124 : decode cX8_by 124 = .ok (.ireturn, 1) := by decide +kernel
theorem dX8_by_125 : decode cX8_by 125 = .ok (.iload_n 2, 1) := by decide +kernel
theorem dX8_by_126 : decode cX8_by 126 = .ok (.ifCond .ne 7, 3) := by decide +kernel
theorem dX8_by_129 : decode cX8_by 129 = .ok (.iconst 0, 1) := by decide +kernel
theorem dX8_by_130 : decode cX8_by 130 = .ok (.goto 17, 3) := by decide +kernel
theorem dX8_by_133 : decode cX8_by 133 = .ok (.iload_n 2, 1) := by decide +kernel
theorem dX8_by_134 : decode cX8_by 134 = .ok (.iconst (-1), 1) := by decide +kernel
theorem dX8_by_135 : decode cX8_by 135 = .ok (.if_icmp .ne 9, 3) := by decide +kernel
theorem dX8_by_138 : decode cX8_by 138 = .ok (.iconst 0, 1) := by decide +kernel
theorem dX8_by_139 : decode cX8_by 139 = .ok (.iload_n 1, 1) := by decide +kernel
theorem dX8_by_140 : decode cX8_by 140 = .ok (.isub, 1) := by decide +kernel
theorem dX8_by_141 : decode cX8_by 141 = .ok (.goto 6, 3) := by decide +kernel
theorem dX8_by_144 : decode cX8_by 144 = .ok (.iload_n 1, 1) := by decide +kernel
theorem dX8_by_145 : decode cX8_by 145 = .ok (.iload_n 2, 1) := by decide +kernel
theorem dX8_by_146 : decode cX8_by 146 = .ok (.idiv, 1) := by decide +kernel
theorem dX8_by_147 : decode cX8_by 147 = .ok (.ireturn, 1) := by decide +kernel
theorem dX8_by_148 : decode cX8_by 148 = .ok (.iload_n 2, 1) := by decide +kernel
theorem dX8_by_149 : decode cX8_by 149 = .ok (.ifCond .eq 8, 3) := by decide +kernel
theorem dX8_by_152 : decode cX8_by 152 = .ok (.iload_n 2, 1) := by decide +kernel
theorem dX8_by_153 : decode cX8_by 153 = .ok (.iconst (-1), 1) := by decide +kernel
theorem dX8_by_154 : decode cX8_by 154 = .ok (.if_icmp .ne 7, 3) := by decide +kernel
theorem dX8_by_157 : decode cX8_by 157 = .ok (.iconst 0, 1) := by decide +kernel
theorem dX8_by_158 : decode cX8_by 158 = .ok (.goto 6, 3) := by decide +kernel
theorem dX8_by_161 : decode cX8_by 161 = .ok (.iload_n 1, 1) := by decide +kernel
theorem dX8_by_162 : decode cX8_by 162 = .ok (.iload_n 2, 1) := by decide +kernel
theorem dX8_by_163 : decode cX8_by 163 = .ok (.irem, 1) := by decide +kernel
theorem dX8_by_164 : decode cX8_by 164 = .ok (.ireturn, 1) := by decide +kernel
theorem dX8_worked_0 : decode cX8_worked 0 = .ok (.iconst 0, 1) := by decide +kernel
theorem dX8_worked_1 : decode cX8_worked 1 = .ok (.istore 6, 2) := by decide +kernel
theorem dX8_worked_3 : decode cX8_worked 3 = .ok (.iconst 0, 1) := by decide +kernel
theorem dX8_worked_4 : decode cX8_worked 4 = .ok (.istore 7, 2) := by decide +kernel
theorem dX8_worked_6 : decode cX8_worked 6 = .ok (.iload 7, 2) := by decide +kernel
theorem dX8_worked_8 : decode cX8_worked 8 = .ok (.aload_n 0, 1) := by decide +kernel
theorem dX8_worked_9 : decode cX8_worked 9 = .ok (.getfield 7, 3) := by decide +kernel
theorem dX8_worked_12 : decode cX8_worked 12 = .ok (.bipush 9, 2) := by decide +kernel
theorem dX8_worked_14 : decode cX8_worked 14 = .ok (.iload_n 1, 1) := by decide +kernel
theorem dX8_worked_15 : decode cX8_worked 15 = .ok (.iadd, 1) := by decide +kernel
theorem dX8_worked_16 : decode cX8_worked 16 = .ok (.iaload, 1) := by decide +kernel
theorem dX8_worked_17 : decode cX8_worked 17 = .ok (.if_icmp .ge 161, 3) := by decide +kernel
theorem dX8_worked_20 : decode cX8_worked 20 = .ok (.aload_n 0, 1) := by decide +kernel
theorem dX8_worked_21 : decode cX8_worked 21 = .ok (.getfield 7, 3) := by decide +kernel
theorem dX8_worked_24 : decode cX8_worked 24 = .ok (.sipush 237, 3) := by decide +kernel
theorem dX8_worked_27 : decode cX8_worked 27 = .ok (.bipush 60, 2) := by decide +kernel
theorem dX8_worked_29 : decode cX8_worked 29 = .ok (.iload_n 1, 1) := by decide +kernel
theorem dX8_worked_30 : decode cX8_worked 30 = .ok (.imul, 1) := by decide +kernel
theorem dX8_worked_31 : decode cX8_worked 31 = .ok (.iadd, 1) := by decide +kernel
theorem dX8_worked_32 : decode cX8_worked 32 = .ok (.iload 7, 2) := by decide +kernel
theorem dX8_worked_34 : decode cX8_worked 34 = .ok (.iadd, 1) := by decide +kernel
theorem dX8_worked_35 : decode cX8_worked 35 = .ok (.iaload, 1) := by decide +kernel
theorem dX8_worked_36 : decode cX8_worked 36 = .ok (.istore 8, 2) := by decide +kernel
theorem dX8_worked_38 : decode cX8_worked 38 = .ok (.iload 8, 2) := by decide +kernel
theorem dX8_worked_40 : decode cX8_worked 40 = .ok (.bipush (-10), 2) := by decide +kernel
theorem dX8_worked_42 : decode cX8_worked 42 = .ok (.if_icmp .le 61, 3) := by decide +kernel
theorem dX8_worked_45 : decode cX8_worked 45 = .ok (.aload_n 0, 1) := by decide +kernel
theorem dX8_worked_46 : decode cX8_worked 46 = .ok (.getfield 22, 3) := by decide +kernel
theorem dX8_worked_49 : decode cX8_worked 49 = .ok (.iload 6, 2) := by decide +kernel
theorem dX8_worked_51 : decode cX8_worked 51 = .ok (.iload 8, 2) := by decide +kernel
theorem dX8_worked_53 : decode cX8_worked 53 = .ok (.ifCond .lt 8, 3) := by decide +kernel
theorem dX8_worked_56 : decode cX8_worked 56 = .ok (.iload 8, 2) := by decide +kernel
theorem dX8_worked_58 : decode cX8_worked 58 = .ok (.goto 38, 3) := by decide +kernel
theorem dX8_worked_61 : decode cX8_worked 61 = .ok (.iload 8, 2) := by decide +kernel
theorem dX8_worked_63 : decode cX8_worked 63 = .ok (.iconst (-1), 1) := by decide +kernel
theorem dX8_worked_64 : decode cX8_worked 64 = .ok (.if_icmp .ne 7, 3) := by decide +kernel
theorem dX8_worked_67 : decode cX8_worked 67 = .ok (.iload_n 2, 1) := by decide +kernel
theorem dX8_worked_68 : decode cX8_worked 68 = .ok (.goto 28, 3) := by decide +kernel
theorem dX8_worked_71 : decode cX8_worked 71 = .ok (.iload 8, 2) := by decide +kernel
theorem dX8_worked_73 : decode cX8_worked 73 = .ok (.bipush (-2), 2) := by decide +kernel
theorem dX8_worked_75 : decode cX8_worked 75 = .ok (.if_icmp .ne 7, 3) := by decide +kernel
theorem dX8_worked_78 : decode cX8_worked 78 = .ok (.iload_n 3, 1) := by decide +kernel
theorem dX8_worked_79 : decode cX8_worked 79 = .ok (.goto 17, 3) := by decide +kernel
theorem dX8_worked_82 : decode cX8_worked 82 = .ok (.iload 8, 2) := by decide +kernel
theorem dX8_worked_84 : decode cX8_worked 84 = .ok (.bipush (-3), 2) := by decide +kernel
theorem dX8_worked_86 : decode cX8_worked 86 = .ok (.if_icmp .ne 8, 3) := by decide +kernel
theorem dX8_worked_89 : decode cX8_worked 89 = .ok (.iload 4, 2) := by decide +kernel
theorem dX8_worked_91 : decode cX8_worked 91 = .ok (.goto 5, 3) := by decide +kernel
theorem dX8_worked_94 : decode cX8_worked 94 = .ok (.iload 5, 2) := by decide +kernel
theorem dX8_worked_96 : decode cX8_worked 96 = .ok (.iastore, 1) := by decide +kernel
theorem dX8_worked_97 : decode cX8_worked 97 = .ok (.iinc 6 1, 3) := by decide +kernel
theorem dX8_worked_100 : decode cX8_worked 100 = .ok (.goto 72, 3) := by decide +kernel
theorem dX8_worked_103 : decode cX8_worked 103 = .ok (.iload 8, 2) := by decide +kernel
theorem dX8_worked_105 : decode cX8_worked 105 = .ok (.bipush (-21), 2) := by decide +kernel
theorem dX8_worked_107 : decode cX8_worked 107 = .ok (.if_icmp .ne 32, 3) := by decide +kernel
theorem dX8_worked_110 : decode cX8_worked 110 = .ok (.aload_n 0, 1) := by decide +kernel
theorem dX8_worked_111 : decode cX8_worked 111 = .ok (.getfield 22, 3) := by decide +kernel
theorem dX8_worked_114 : decode cX8_worked 114 = .ok (.iload 6, 2) := by decide +kernel
theorem dX8_worked_116 : decode cX8_worked 116 = .ok (.iconst 1, 1) := by decide +kernel
theorem dX8_worked_117 : decode cX8_worked 117 = .ok (.isub, 1) := by decide +kernel
theorem dX8_worked_118 : decode cX8_worked 118 = .ok (.aload_n 0, 1) := by decide +kernel
theorem dX8_worked_119 : decode cX8_worked 119 = .ok (.getfield 22, 3) := by decide +kernel
theorem dX8_worked_122 : decode cX8_worked 122 = .ok (.iload 6, 2) := by decide +kernel
theorem dX8_worked_124 : decode cX8_worked 124 = .ok (.iconst 1, 1) := by decide +kernel
theorem dX8_worked_125 : decode cX8_worked 125 = .ok (.isub, 1) := by decide +kernel
theorem dX8_worked_126 : decode cX8_worked 126 = .ok (.iaload, 1) := by decide +kernel
theorem dX8_worked_127 : decode cX8_worked 127 = .ok (.ifCond .ne 7, 3) := by decide +kernel
theorem dX8_worked_130 : decode cX8_worked 130 = .ok (.iconst 1, 1) := by decide +kernel
theorem dX8_worked_131 : decode cX8_worked 131 = .ok (.goto 4, 3) := by decide +kernel
theorem dX8_worked_134 : decode cX8_worked 134 = .ok (.iconst 0, 1) := by decide +kernel
theorem dX8_worked_135 : decode cX8_worked 135 = .ok (.iastore, 1) := by decide +kernel
theorem dX8_worked_136 : decode cX8_worked 136 = .ok (.goto 36, 3) := by decide +kernel
theorem dX8_worked_139 : decode cX8_worked 139 = .ok (.iinc 6 (-1), 3) := by decide +kernel
theorem dX8_worked_142 : decode cX8_worked 142 = .ok (.aload_n 0, 1) := by decide +kernel
theorem dX8_worked_143 : decode cX8_worked 143 = .ok (.getfield 22, 3) := by decide +kernel
theorem dX8_worked_146 : decode cX8_worked 146 = .ok (.iload 6, 2) := by decide +kernel
theorem dX8_worked_148 : decode cX8_worked 148 = .ok (.iconst 1, 1) := by decide +kernel
theorem dX8_worked_149 : decode cX8_worked 149 = .ok (.isub, 1) := by decide +kernel
theorem dX8_worked_150 : decode cX8_worked 150 = .ok (.iload 8, 2) := by decide +kernel
theorem dX8_worked_152 : decode cX8_worked 152 = .ok (.aload_n 0, 1) := by decide +kernel
theorem dX8_worked_153 : decode cX8_worked 153 = .ok (.getfield 22, 3) := by decide +kernel
theorem dX8_worked_156 : decode cX8_worked 156 = .ok (.iload 6, 2) := by decide +kernel
theorem dX8_worked_158 : decode cX8_worked 158 = .ok (.iconst 1, 1) := by decide +kernel
theorem dX8_worked_159 : decode cX8_worked 159 = .ok (.isub, 1) := by decide +kernel
theorem dX8_worked_160 : decode cX8_worked 160 = .ok (.iaload, 1) := by decide +kernel
theorem dX8_worked_161 : decode cX8_worked 161 = .ok (.aload_n 0, 1) := by decide +kernel
theorem dX8_worked_162 : decode cX8_worked 162 = .ok (.getfield 22, 3) := by decide +kernel
theorem dX8_worked_165 : decode cX8_worked 165 = .ok (.iload 6, 2) := by decide +kernel
theorem dX8_worked_167 : decode cX8_worked 167 = .ok (.iaload, 1) := by decide +kernel
theorem dX8_worked_168 : decode cX8_worked 168 = .ok (.invokestatic 52, 3) := by decide +kernel
theorem dX8_worked_171 : decode cX8_worked 171 = .ok (.iastore, 1) := by decide +kernel
theorem dX8_worked_172 : decode cX8_worked 172 = .ok (.iinc 7 1, 3) := by decide +kernel
theorem dX8_worked_175 : decode cX8_worked 175 = .ok (.goto (-169), 3) := by decide +kernel
theorem dX8_worked_178 : decode cX8_worked 178 = .ok (.aload_n 0, 1) := by decide +kernel
theorem dX8_worked_179 : decode cX8_worked 179 = .ok (.getfield 22, 3) := by decide +kernel
theorem dX8_worked_182 : decode cX8_worked 182 = .ok (.iconst 0, 1) := by decide +kernel
theorem dX8_worked_183 : decode cX8_worked 183 = .ok (.iaload, 1) := by decide +kernel
theorem dX8_worked_184 : decode cX8_worked 184 = .ok (.ireturn, 1) := by decide +kernel
theorem dX8_at_0 : decode cX8_at 0 = .ok (.bipush 11, 2) := by decide +kernel
theorem dX8_at_2 : decode cX8_at 2 = .ok (.bipush 17, 2) := by decide +kernel
theorem dX8_at_4 : decode cX8_at 4 = .ok (.iload_n 0, 1) := by decide +kernel
theorem dX8_at_5 : decode cX8_at 5 = .ok (.imul, 1) := by decide +kernel
theorem dX8_at_6 : decode cX8_at 6 = .ok (.iadd, 1) := by decide +kernel
theorem dX8_at_7 : decode cX8_at 7 = .ok (.iload_n 1, 1) := by decide +kernel
theorem dX8_at_8 : decode cX8_at 8 = .ok (.iadd, 1) := by decide +kernel
theorem dX8_at_9 : decode cX8_at 9 = .ok (.ireturn, 1) := by decide +kernel
theorem dX8_its_0 : decode cX8_its 0 = .ok (.aload_n 0, 1) := by decide +kernel
theorem dX8_its_1 : decode cX8_its 1 = .ok (.getfield 7, 3) := by decide +kernel
theorem dX8_its_4 : decode cX8_its 4 = .ok (.iload_n 1, 1) := by decide +kernel
theorem dX8_its_5 : decode cX8_its 5 = .ok (.iload_n 2, 1) := by decide +kernel
theorem dX8_its_6 : decode cX8_its 6 = .ok (.invokestatic 56, 3) := by decide +kernel
theorem dX8_its_9 : decode cX8_its 9 = .ok (.iaload, 1) := by decide +kernel
theorem dX8_its_10 : decode cX8_its 10 = .ok (.ireturn, 1) := by decide +kernel
theorem dX8_isKnowing_0 : decode cX8_isKnowing 0 = .ok (.aload_n 0, 1) := by decide +kernel
theorem dX8_isKnowing_1 : decode cX8_isKnowing 1 = .ok (.iload_n 1, 1) := by decide +kernel
theorem dX8_isKnowing_2 : decode cX8_isKnowing 2 = .ok (.iconst 3, 1) := by decide +kernel
theorem dX8_isKnowing_3 : decode cX8_isKnowing 3 = .ok (.invokevirtual 60, 3) := by decide +kernel
theorem dX8_isKnowing_6 : decode cX8_isKnowing 6 = .ok (.iload_n 2, 1) := by decide +kernel
theorem dX8_isKnowing_7 : decode cX8_isKnowing 7 = .ok (.invokestatic 63, 3) := by decide +kernel
theorem dX8_isKnowing_10 : decode cX8_isKnowing 10 = .ok (.ireturn, 1) := by decide +kernel
theorem dX8_needs_0 : decode cX8_needs 0 = .ok (.aload_n 0, 1) := by decide +kernel
theorem dX8_needs_1 : decode cX8_needs 1 = .ok (.iload_n 1, 1) := by decide +kernel
theorem dX8_needs_2 : decode cX8_needs 2 = .ok (.iconst 1, 1) := by decide +kernel
theorem dX8_needs_3 : decode cX8_needs 3 = .ok (.invokevirtual 60, 3) := by decide +kernel
theorem dX8_needs_6 : decode cX8_needs 6 = .ok (.istore_n 3, 1) := by decide +kernel
theorem dX8_needs_7 : decode cX8_needs 7 = .ok (.iconst 2, 1) := by decide +kernel
theorem dX8_needs_8 : decode cX8_needs 8 = .ok (.istore 4, 2) := by decide +kernel
theorem dX8_needs_10 : decode cX8_needs 10 = .ok (.aload_n 0, 1) := by decide +kernel
theorem dX8_needs_11 : decode cX8_needs 11 = .ok (.iload_n 1, 1) := by decide +kernel
theorem dX8_needs_12 : decode cX8_needs 12 = .ok (.iconst 0, 1) := by decide +kernel
theorem dX8_needs_13 : decode cX8_needs 13 = .ok (.invokevirtual 60, 3) := by decide +kernel
theorem dX8_needs_16 : decode cX8_needs 16 = .ok (.tableswitch 90 1 6 #[40, 46, 90, 40, 90, 54], 40) := by decide +kernel
theorem dX8_needs_56 : decode cX8_needs 56 = .ok (.iconst 1, 1) := by decide +kernel
theorem dX8_needs_57 : decode cX8_needs 57 = .ok (.istore 4, 2) := by decide +kernel
theorem dX8_needs_59 : decode cX8_needs 59 = .ok (.goto 47, 3) := by decide +kernel
theorem dX8_needs_62 : decode cX8_needs 62 = .ok (.iconst 2, 1) := by decide +kernel
theorem dX8_needs_63 : decode cX8_needs 63 = .ok (.iload_n 3, 1) := by decide +kernel
theorem dX8_needs_64 : decode cX8_needs 64 = .ok (.iadd, 1) := by decide +kernel
theorem dX8_needs_65 : decode cX8_needs 65 = .ok (.istore 4, 2) := by decide +kernel
theorem dX8_needs_67 : decode cX8_needs 67 = .ok (.goto 39, 3) := by decide +kernel
theorem dX8_needs_70 : decode cX8_needs 70 = .ok (.aload_n 0, 1) := by decide +kernel
theorem dX8_needs_71 : decode cX8_needs 71 = .ok (.getfield 7, 3) := by decide +kernel
theorem dX8_needs_74 : decode cX8_needs 74 = .ok (.bipush 9, 2) := by decide +kernel
theorem dX8_needs_76 : decode cX8_needs 76 = .ok (.iaload, 1) := by decide +kernel
theorem dX8_needs_77 : decode cX8_needs 77 = .ok (.ifCond .ne 7, 3) := by decide +kernel
theorem dX8_needs_80 : decode cX8_needs 80 = .ok (.iload_n 3, 1) := by decide +kernel
theorem dX8_needs_81 : decode cX8_needs 81 = .ok (.goto 20, 3) := by decide +kernel
theorem dX8_needs_84 : decode cX8_needs 84 = .ok (.aload_n 0, 1) := by decide +kernel
theorem dX8_needs_85 : decode cX8_needs 85 = .ok (.iconst 0, 1) := by decide +kernel
theorem dX8_needs_86 : decode cX8_needs 86 = .ok (.iload_n 2, 1) := by decide +kernel
theorem dX8_needs_87 : decode cX8_needs 87 = .ok (.aload_n 0, 1) := by decide +kernel
theorem dX8_needs_88 : decode cX8_needs 88 = .ok (.iload_n 1, 1) := by decide +kernel
theorem dX8_needs_89 : decode cX8_needs 89 = .ok (.iconst 3, 1) := by decide +kernel
theorem dX8_needs_90 : decode cX8_needs 90 = .ok (.invokevirtual 60, 3) := by decide +kernel
theorem dX8_needs_93 : decode cX8_needs 93 = .ok (.invokestatic 67, 3) := by decide +kernel
theorem dX8_needs_96 : decode cX8_needs 96 = .ok (.iload_n 3, 1) := by decide +kernel
theorem dX8_needs_97 : decode cX8_needs 97 = .ok (.iconst 0, 1) := by decide +kernel
theorem dX8_needs_98 : decode cX8_needs 98 = .ok (.invokevirtual 71, 3) := by decide +kernel
theorem dX8_needs_101 : decode cX8_needs 101 = .ok (.istore 4, 2) := by decide +kernel
theorem dX8_needs_103 : decode cX8_needs 103 = .ok (.goto 3, 3) := by decide +kernel
theorem dX8_needs_106 : decode cX8_needs 106 = .ok (.iload 4, 2) := by decide +kernel
theorem dX8_needs_108 : decode cX8_needs 108 = .ok (.iconst 1, 1) := by decide +kernel
theorem dX8_needs_109 : decode cX8_needs 109 = .ok (.bipush 99, 2) := by decide +kernel
theorem dX8_needs_111 : decode cX8_needs 111 = .ok (.invokestatic 75, 3) := by decide +kernel
theorem dX8_needs_114 : decode cX8_needs 114 = .ok (.ireturn, 1) := by decide +kernel
theorem dX8_tells_0 : decode cX8_tells 0 = .ok (.aload_n 0, 1) := by decide +kernel
theorem dX8_tells_1 : decode cX8_tells 1 = .ok (.iload_n 1, 1) := by decide +kernel
theorem dX8_tells_2 : decode cX8_tells 2 = .ok (.iconst 0, 1) := by decide +kernel
theorem dX8_tells_3 : decode cX8_tells 3 = .ok (.invokevirtual 60, 3) := by decide +kernel
theorem dX8_tells_6 : decode cX8_tells 6 = .ok (.istore_n 3, 1) := by decide +kernel
theorem dX8_tells_7 : decode cX8_tells 7 = .ok (.aload_n 0, 1) := by decide +kernel
theorem dX8_tells_8 : decode cX8_tells 8 = .ok (.iload_n 1, 1) := by decide +kernel
theorem dX8_tells_9 : decode cX8_tells 9 = .ok (.iconst 5, 1) := by decide +kernel
theorem dX8_tells_10 : decode cX8_tells 10 = .ok (.iload_n 2, 1) := by decide +kernel
theorem dX8_tells_11 : decode cX8_tells 11 = .ok (.iadd, 1) := by decide +kernel
theorem dX8_tells_12 : decode cX8_tells 12 = .ok (.invokevirtual 60, 3) := by decide +kernel
theorem dX8_tells_15 : decode cX8_tells 15 = .ok (.istore 4, 2) := by decide +kernel
theorem dX8_tells_17 : decode cX8_tells 17 = .ok (.iload_n 3, 1) := by decide +kernel
theorem dX8_tells_18 : decode cX8_tells 18 = .ok (.iconst 3, 1) := by decide +kernel
theorem dX8_tells_19 : decode cX8_tells 19 = .ok (.if_icmp .ne 15, 3) := by decide +kernel
theorem dX8_tells_22 : decode cX8_tells 22 = .ok (.iload 4, 2) := by decide +kernel
theorem dX8_tells_24 : decode cX8_tells 24 = .ok (.aload_n 0, 1) := by decide +kernel
theorem dX8_tells_25 : decode cX8_tells 25 = .ok (.iload_n 1, 1) := by decide +kernel
theorem dX8_tells_26 : decode cX8_tells 26 = .ok (.iconst 1, 1) := by decide +kernel
theorem dX8_tells_27 : decode cX8_tells 27 = .ok (.invokevirtual 60, 3) := by decide +kernel
theorem dX8_tells_30 : decode cX8_tells 30 = .ok (.iadd, 1) := by decide +kernel
theorem dX8_tells_31 : decode cX8_tells 31 = .ok (.goto 19, 3) := by decide +kernel
theorem dX8_tells_34 : decode cX8_tells 34 = .ok (.iload_n 3, 1) := by decide +kernel
theorem dX8_tells_35 : decode cX8_tells 35 = .ok (.iconst 4, 1) := by decide +kernel
theorem dX8_tells_36 : decode cX8_tells 36 = .ok (.if_icmp .ne 12, 3) := by decide +kernel
theorem dX8_tells_39 : decode cX8_tells 39 = .ok (.iload 4, 2) := by decide +kernel
theorem dX8_tells_41 : decode cX8_tells 41 = .ok (.iload_n 2, 1) := by decide +kernel
theorem dX8_tells_42 : decode cX8_tells 42 = .ok (.iconst 2, 1) := by decide +kernel
theorem dX8_tells_43 : decode cX8_tells 43 = .ok (.irem, 1) := by decide +kernel
theorem dX8_tells_44 : decode cX8_tells 44 = .ok (.iadd, 1) := by decide +kernel
theorem dX8_tells_45 : decode cX8_tells 45 = .ok (.goto 5, 3) := by decide +kernel
theorem dX8_tells_48 : decode cX8_tells 48 = .ok (.iload 4, 2) := by decide +kernel
theorem dX8_tells_50 : decode cX8_tells 50 = .ok (.iconst 0, 1) := by decide +kernel
theorem dX8_tells_51 : decode cX8_tells 51 = .ok (.sipush 999, 3) := by decide +kernel
theorem dX8_tells_54 : decode cX8_tells 54 = .ok (.invokestatic 75, 3) := by decide +kernel
theorem dX8_tells_57 : decode cX8_tells 57 = .ok (.ireturn, 1) := by decide +kernel
theorem dX8_isMute_0 : decode cX8_isMute 0 = .ok (.aload_n 0, 1) := by decide +kernel
theorem dX8_isMute_1 : decode cX8_isMute 1 = .ok (.iload_n 1, 1) := by decide +kernel
theorem dX8_isMute_2 : decode cX8_isMute 2 = .ok (.iconst 0, 1) := by decide +kernel
theorem dX8_isMute_3 : decode cX8_isMute 3 = .ok (.invokevirtual 60, 3) := by decide +kernel
theorem dX8_isMute_6 : decode cX8_isMute 6 = .ok (.iconst 2, 1) := by decide +kernel
theorem dX8_isMute_7 : decode cX8_isMute 7 = .ok (.if_icmp .eq 13, 3) := by decide +kernel
theorem dX8_isMute_10 : decode cX8_isMute 10 = .ok (.aload_n 0, 1) := by decide +kernel
theorem dX8_isMute_11 : decode cX8_isMute 11 = .ok (.iload_n 1, 1) := by decide +kernel
theorem dX8_isMute_12 : decode cX8_isMute 12 = .ok (.iconst 0, 1) := by decide +kernel
theorem dX8_isMute_13 : decode cX8_isMute 13 = .ok (.invokevirtual 60, 3) := by decide +kernel
theorem dX8_isMute_16 : decode cX8_isMute 16 = .ok (.iconst 5, 1) := by decide +kernel
theorem dX8_isMute_17 : decode cX8_isMute 17 = .ok (.if_icmp .ne 7, 3) := by decide +kernel
theorem dX8_isMute_20 : decode cX8_isMute 20 = .ok (.iconst 1, 1) := by decide +kernel
theorem dX8_isMute_21 : decode cX8_isMute 21 = .ok (.goto 4, 3) := by decide +kernel
theorem dX8_isMute_24 : decode cX8_isMute 24 = .ok (.iconst 0, 1) := by decide +kernel
theorem dX8_isMute_25 : decode cX8_isMute 25 = .ok (.ireturn, 1) := by decide +kernel
theorem dX8_isStaying_0 : decode cX8_isStaying 0 = .ok (.aload_n 0, 1) := by decide +kernel
theorem dX8_isStaying_1 : decode cX8_isStaying 1 = .ok (.iload_n 1, 1) := by decide +kernel
theorem dX8_isStaying_2 : decode cX8_isStaying 2 = .ok (.iconst 0, 1) := by decide +kernel
theorem dX8_isStaying_3 : decode cX8_isStaying 3 = .ok (.invokevirtual 60, 3) := by decide +kernel
theorem dX8_isStaying_6 : decode cX8_isStaying 6 = .ok (.iconst 5, 1) := by decide +kernel
theorem dX8_isStaying_7 : decode cX8_isStaying 7 = .ok (.if_icmp .ne 25, 3) := by decide +kernel
theorem dX8_isStaying_10 : decode cX8_isStaying 10 = .ok (.aload_n 0, 1) := by decide +kernel
theorem dX8_isStaying_11 : decode cX8_isStaying 11 = .ok (.getfield 7, 3) := by decide +kernel
theorem dX8_isStaying_14 : decode cX8_isStaying 14 = .ok (.iconst 3, 1) := by decide +kernel
theorem dX8_isStaying_15 : decode cX8_isStaying 15 = .ok (.iaload, 1) := by decide +kernel
theorem dX8_isStaying_16 : decode cX8_isStaying 16 = .ok (.aload_n 0, 1) := by decide +kernel
theorem dX8_isStaying_17 : decode cX8_isStaying 17 = .ok (.iload_n 1, 1) := by decide +kernel
theorem dX8_isStaying_18 : decode cX8_isStaying 18 = .ok (.iconst 1, 1) := by decide +kernel
theorem dX8_isStaying_19 : decode cX8_isStaying 19 = .ok (.invokevirtual 60, 3) := by decide +kernel
theorem dX8_isStaying_22 : decode cX8_isStaying 22 = .ok (.iconst 2, 1) := by decide +kernel
theorem dX8_isStaying_23 : decode cX8_isStaying 23 = .ok (.iadd, 1) := by decide +kernel
theorem dX8_isStaying_24 : decode cX8_isStaying 24 = .ok (.irem, 1) := by decide +kernel
theorem dX8_isStaying_25 : decode cX8_isStaying 25 = .ok (.ifCond .ne 7, 3) := by decide +kernel
theorem dX8_isStaying_28 : decode cX8_isStaying 28 = .ok (.iconst 1, 1) := by decide +kernel
theorem dX8_isStaying_29 : decode cX8_isStaying 29 = .ok (.goto 4, 3) := by decide +kernel
theorem dX8_isStaying_32 : decode cX8_isStaying 32 = .ok (.iconst 0, 1) := by decide +kernel
theorem dX8_isStaying_33 : decode cX8_isStaying 33 = .ok (.ireturn, 1) := by decide +kernel
theorem dX8_wagesOf_0 : decode cX8_wagesOf 0 = .ok (.aload_n 0, 1) := by decide +kernel
theorem dX8_wagesOf_1 : decode cX8_wagesOf 1 = .ok (.iload_n 1, 1) := by decide +kernel
theorem dX8_wagesOf_2 : decode cX8_wagesOf 2 = .ok (.iconst 3, 1) := by decide +kernel
theorem dX8_wagesOf_3 : decode cX8_wagesOf 3 = .ok (.invokevirtual 60, 3) := by decide +kernel
theorem dX8_wagesOf_6 : decode cX8_wagesOf 6 = .ok (.invokestatic 67, 3) := by decide +kernel
theorem dX8_wagesOf_9 : decode cX8_wagesOf 9 = .ok (.istore_n 2, 1) := by decide +kernel
theorem dX8_wagesOf_10 : decode cX8_wagesOf 10 = .ok (.aload_n 0, 1) := by decide +kernel
theorem dX8_wagesOf_11 : decode cX8_wagesOf 11 = .ok (.iload_n 1, 1) := by decide +kernel
theorem dX8_wagesOf_12 : decode cX8_wagesOf 12 = .ok (.iconst 2, 1) := by decide +kernel
theorem dX8_wagesOf_13 : decode cX8_wagesOf 13 = .ok (.invokevirtual 60, 3) := by decide +kernel
theorem dX8_wagesOf_16 : decode cX8_wagesOf 16 = .ok (.ifCond .ge 7, 3) := by decide +kernel
theorem dX8_wagesOf_19 : decode cX8_wagesOf 19 = .ok (.iconst 0, 1) := by decide +kernel
theorem dX8_wagesOf_20 : decode cX8_wagesOf 20 = .ok (.goto 16, 3) := by decide +kernel
theorem dX8_wagesOf_23 : decode cX8_wagesOf 23 = .ok (.aload_n 0, 1) := by decide +kernel
theorem dX8_wagesOf_24 : decode cX8_wagesOf 24 = .ok (.getfield 7, 3) := by decide +kernel
theorem dX8_wagesOf_27 : decode cX8_wagesOf 27 = .ok (.iconst 3, 1) := by decide +kernel
theorem dX8_wagesOf_28 : decode cX8_wagesOf 28 = .ok (.iaload, 1) := by decide +kernel
theorem dX8_wagesOf_29 : decode cX8_wagesOf 29 = .ok (.aload_n 0, 1) := by decide +kernel
theorem dX8_wagesOf_30 : decode cX8_wagesOf 30 = .ok (.iload_n 1, 1) := by decide +kernel
theorem dX8_wagesOf_31 : decode cX8_wagesOf 31 = .ok (.iconst 2, 1) := by decide +kernel
theorem dX8_wagesOf_32 : decode cX8_wagesOf 32 = .ok (.invokevirtual 60, 3) := by decide +kernel
theorem dX8_wagesOf_35 : decode cX8_wagesOf 35 = .ok (.isub, 1) := by decide +kernel
theorem dX8_wagesOf_36 : decode cX8_wagesOf 36 = .ok (.istore_n 3, 1) := by decide +kernel
theorem dX8_wagesOf_37 : decode cX8_wagesOf 37 = .ok (.aload_n 0, 1) := by decide +kernel
theorem dX8_wagesOf_38 : decode cX8_wagesOf 38 = .ok (.getfield 7, 3) := by decide +kernel
theorem dX8_wagesOf_41 : decode cX8_wagesOf 41 = .ok (.bipush 10, 2) := by decide +kernel
theorem dX8_wagesOf_43 : decode cX8_wagesOf 43 = .ok (.iaload, 1) := by decide +kernel
theorem dX8_wagesOf_44 : decode cX8_wagesOf 44 = .ok (.ifCond .ne 9, 3) := by decide +kernel
theorem dX8_wagesOf_47 : decode cX8_wagesOf 47 = .ok (.iconst 1, 1) := by decide +kernel
theorem dX8_wagesOf_48 : decode cX8_wagesOf 48 = .ok (.iload_n 2, 1) := by decide +kernel
theorem dX8_wagesOf_49 : decode cX8_wagesOf 49 = .ok (.iadd, 1) := by decide +kernel
theorem dX8_wagesOf_50 : decode cX8_wagesOf 50 = .ok (.goto 24, 3) := by decide +kernel
theorem dX8_wagesOf_53 : decode cX8_wagesOf 53 = .ok (.aload_n 0, 1) := by decide +kernel
theorem dX8_wagesOf_54 : decode cX8_wagesOf 54 = .ok (.iconst 1, 1) := by decide +kernel
theorem dX8_wagesOf_55 : decode cX8_wagesOf 55 = .ok (.aload_n 0, 1) := by decide +kernel
theorem dX8_wagesOf_56 : decode cX8_wagesOf 56 = .ok (.iload_n 1, 1) := by decide +kernel
theorem dX8_wagesOf_57 : decode cX8_wagesOf 57 = .ok (.iconst 0, 1) := by decide +kernel
theorem dX8_wagesOf_58 : decode cX8_wagesOf 58 = .ok (.invokevirtual 60, 3) := by decide +kernel
theorem dX8_wagesOf_61 : decode cX8_wagesOf 61 = .ok (.iload_n 2, 1) := by decide +kernel
theorem dX8_wagesOf_62 : decode cX8_wagesOf 62 = .ok (.iconst 0, 1) := by decide +kernel
theorem dX8_wagesOf_63 : decode cX8_wagesOf 63 = .ok (.iload_n 3, 1) := by decide +kernel
theorem dX8_wagesOf_64 : decode cX8_wagesOf 64 = .ok (.invokevirtual 71, 3) := by decide +kernel
theorem dX8_wagesOf_67 : decode cX8_wagesOf 67 = .ok (.iconst 0, 1) := by decide +kernel
theorem dX8_wagesOf_68 : decode cX8_wagesOf 68 = .ok (.sipush 999, 3) := by decide +kernel
theorem dX8_wagesOf_71 : decode cX8_wagesOf 71 = .ok (.invokestatic 75, 3) := by decide +kernel
theorem dX8_wagesOf_74 : decode cX8_wagesOf 74 = .ok (.ireturn, 1) := by decide +kernel
theorem dX8_comes_0 : decode cX8_comes 0 = .ok (.aload_n 0, 1) := by decide +kernel
theorem dX8_comes_1 : decode cX8_comes 1 = .ok (.getfield 7, 3) := by decide +kernel
theorem dX8_comes_4 : decode cX8_comes 4 = .ok (.iload_n 1, 1) := by decide +kernel
theorem dX8_comes_5 : decode cX8_comes 5 = .ok (.iconst 0, 1) := by decide +kernel
theorem dX8_comes_6 : decode cX8_comes 6 = .ok (.invokestatic 56, 3) := by decide +kernel
theorem dX8_comes_9 : decode cX8_comes 9 = .ok (.iload_n 2, 1) := by decide +kernel
theorem dX8_comes_10 : decode cX8_comes 10 = .ok (.bipush 10, 2) := by decide +kernel
theorem dX8_comes_12 : decode cX8_comes 12 = .ok (.idiv, 1) := by decide +kernel
theorem dX8_comes_13 : decode cX8_comes 13 = .ok (.iastore, 1) := by decide +kernel
theorem dX8_comes_14 : decode cX8_comes 14 = .ok (.aload_n 0, 1) := by decide +kernel
theorem dX8_comes_15 : decode cX8_comes 15 = .ok (.getfield 7, 3) := by decide +kernel
theorem dX8_comes_18 : decode cX8_comes 18 = .ok (.iload_n 1, 1) := by decide +kernel
theorem dX8_comes_19 : decode cX8_comes 19 = .ok (.iconst 1, 1) := by decide +kernel
theorem dX8_comes_20 : decode cX8_comes 20 = .ok (.invokestatic 56, 3) := by decide +kernel
theorem dX8_comes_23 : decode cX8_comes 23 = .ok (.iload_n 2, 1) := by decide +kernel
theorem dX8_comes_24 : decode cX8_comes 24 = .ok (.bipush 10, 2) := by decide +kernel
theorem dX8_comes_26 : decode cX8_comes 26 = .ok (.irem, 1) := by decide +kernel
theorem dX8_comes_27 : decode cX8_comes 27 = .ok (.iastore, 1) := by decide +kernel
theorem dX8_comes_28 : decode cX8_comes 28 = .ok (.aload_n 0, 1) := by decide +kernel
theorem dX8_comes_29 : decode cX8_comes 29 = .ok (.getfield 7, 3) := by decide +kernel
theorem dX8_comes_32 : decode cX8_comes 32 = .ok (.iload_n 1, 1) := by decide +kernel
theorem dX8_comes_33 : decode cX8_comes 33 = .ok (.iconst 2, 1) := by decide +kernel
theorem dX8_comes_34 : decode cX8_comes 34 = .ok (.invokestatic 56, 3) := by decide +kernel
theorem dX8_comes_37 : decode cX8_comes 37 = .ok (.iload 5, 2) := by decide +kernel
theorem dX8_comes_39 : decode cX8_comes 39 = .ok (.iastore, 1) := by decide +kernel
theorem dX8_comes_40 : decode cX8_comes 40 = .ok (.aload_n 0, 1) := by decide +kernel
theorem dX8_comes_41 : decode cX8_comes 41 = .ok (.getfield 7, 3) := by decide +kernel
theorem dX8_comes_44 : decode cX8_comes 44 = .ok (.iload_n 1, 1) := by decide +kernel
theorem dX8_comes_45 : decode cX8_comes 45 = .ok (.iconst 3, 1) := by decide +kernel
theorem dX8_comes_46 : decode cX8_comes 46 = .ok (.invokestatic 56, 3) := by decide +kernel
theorem dX8_comes_49 : decode cX8_comes 49 = .ok (.iload_n 3, 1) := by decide +kernel
theorem dX8_comes_50 : decode cX8_comes 50 = .ok (.iload 4, 2) := by decide +kernel
theorem dX8_comes_52 : decode cX8_comes 52 = .ok (.ior, 1) := by decide +kernel
theorem dX8_comes_53 : decode cX8_comes 53 = .ok (.iastore, 1) := by decide +kernel
theorem dX8_comes_54 : decode cX8_comes 54 = .ok (.iconst 0, 1) := by decide +kernel
theorem dX8_comes_55 : decode cX8_comes 55 = .ok (.istore 6, 2) := by decide +kernel
theorem dX8_comes_57 : decode cX8_comes 57 = .ok (.iload 6, 2) := by decide +kernel
theorem dX8_comes_59 : decode cX8_comes 59 = .ok (.bipush 6, 2) := by decide +kernel
theorem dX8_comes_61 : decode cX8_comes 61 = .ok (.if_icmp .ge 51, 3) := by decide +kernel
theorem dX8_comes_64 : decode cX8_comes 64 = .ok (.aload_n 0, 1) := by decide +kernel
theorem dX8_comes_65 : decode cX8_comes 65 = .ok (.getfield 7, 3) := by decide +kernel
theorem dX8_comes_68 : decode cX8_comes 68 = .ok (.iload_n 1, 1) := by decide +kernel
theorem dX8_comes_69 : decode cX8_comes 69 = .ok (.iconst 5, 1) := by decide +kernel
theorem dX8_comes_70 : decode cX8_comes 70 = .ok (.iload 6, 2) := by decide +kernel
theorem dX8_comes_72 : decode cX8_comes 72 = .ok (.iadd, 1) := by decide +kernel
theorem dX8_comes_73 : decode cX8_comes 73 = .ok (.invokestatic 56, 3) := by decide +kernel
theorem dX8_comes_76 : decode cX8_comes 76 = .ok (.iload_n 3, 1) := by decide +kernel
theorem dX8_comes_77 : decode cX8_comes 77 = .ok (.iload 6, 2) := by decide +kernel
theorem dX8_comes_79 : decode cX8_comes 79 = .ok (.invokestatic 63, 3) := by decide +kernel
theorem dX8_comes_82 : decode cX8_comes 82 = .ok (.ifCond .eq 7, 3) := by decide +kernel
theorem dX8_comes_85 : decode cX8_comes 85 = .ok (.iconst 1, 1) := by decide +kernel
theorem dX8_comes_86 : decode cX8_comes 86 = .ok (.goto 4, 3) := by decide +kernel
theorem dX8_comes_89 : decode cX8_comes 89 = .ok (.iconst 0, 1) := by decide +kernel
theorem dX8_comes_90 : decode cX8_comes 90 = .ok (.iastore, 1) := by decide +kernel
theorem dX8_comes_91 : decode cX8_comes 91 = .ok (.aload_n 0, 1) := by decide +kernel
theorem dX8_comes_92 : decode cX8_comes 92 = .ok (.getfield 7, 3) := by decide +kernel
theorem dX8_comes_95 : decode cX8_comes 95 = .ok (.iload_n 1, 1) := by decide +kernel
theorem dX8_comes_96 : decode cX8_comes 96 = .ok (.bipush 11, 2) := by decide +kernel
theorem dX8_comes_98 : decode cX8_comes 98 = .ok (.iload 6, 2) := by decide +kernel
theorem dX8_comes_100 : decode cX8_comes 100 = .ok (.iadd, 1) := by decide +kernel
theorem dX8_comes_101 : decode cX8_comes 101 = .ok (.invokestatic 56, 3) := by decide +kernel
theorem dX8_comes_104 : decode cX8_comes 104 = .ok (.iconst 0, 1) := by decide +kernel
theorem dX8_comes_105 : decode cX8_comes 105 = .ok (.iastore, 1) := by decide +kernel
theorem dX8_comes_106 : decode cX8_comes 106 = .ok (.iinc 6 1, 3) := by decide +kernel
theorem dX8_comes_109 : decode cX8_comes 109 = .ok (.goto (-52), 3) := by decide +kernel
theorem dX8_comes_112 : decode cX8_comes 112 = .ok (.return_, 1) := by decide +kernel
theorem dX8_isMan_0 : decode cX8_isMan 0 = .ok (.iload_n 0, 1) := by decide +kernel
theorem dX8_isMan_1 : decode cX8_isMan 1 = .ok (.i2l, 1) := by decide +kernel
theorem dX8_isMan_2 : decode cX8_isMan 2 = .ok (.lconst 0, 1) := by decide +kernel
theorem dX8_isMan_3 : decode cX8_isMan 3 = .ok (.ldc2_w 78, 3) := by decide +kernel
theorem dX8_isMan_6 : decode cX8_isMan 6 = .ok (.invokestatic 44, 3) := by decide +kernel
theorem dX8_isMan_9 : decode cX8_isMan 9 = .ok (.ireturn, 1) := by decide +kernel
theorem dX8_bunk_0 : decode cX8_bunk 0 = .ok (.iload_n 1, 1) := by decide +kernel
theorem dX8_bunk_1 : decode cX8_bunk 1 = .ok (.invokestatic 80, 3) := by decide +kernel
theorem dX8_bunk_4 : decode cX8_bunk 4 = .ok (.ifCond .ne 10, 3) := by decide +kernel
theorem dX8_bunk_7 : decode cX8_bunk 7 = .ok (.aload_n 0, 1) := by decide +kernel
theorem dX8_bunk_8 : decode cX8_bunk 8 = .ok (.ldc 43, 2) := by decide +kernel
theorem dX8_bunk_10 : decode cX8_bunk 10 = .ok (.invokevirtual 84, 3) := by decide +kernel
theorem dX8_bunk_13 : decode cX8_bunk 13 = .ok (.ireturn, 1) := by decide +kernel
theorem dX8_bunk_14 : decode cX8_bunk 14 = .ok (.aload_n 0, 1) := by decide +kernel
theorem dX8_bunk_15 : decode cX8_bunk 15 = .ok (.getfield 7, 3) := by decide +kernel
theorem dX8_bunk_18 : decode cX8_bunk 18 = .ok (.iconst 0, 1) := by decide +kernel
theorem dX8_bunk_19 : decode cX8_bunk 19 = .ok (.iaload, 1) := by decide +kernel
theorem dX8_bunk_20 : decode cX8_bunk 20 = .ok (.bipush 6, 2) := by decide +kernel
theorem dX8_bunk_22 : decode cX8_bunk 22 = .ok (.if_icmp .ne 10, 3) := by decide +kernel
theorem dX8_bunk_25 : decode cX8_bunk 25 = .ok (.aload_n 0, 1) := by decide +kernel
theorem dX8_bunk_26 : decode cX8_bunk 26 = .ok (.ldc 87, 2) := by decide +kernel
theorem dX8_bunk_28 : decode cX8_bunk 28 = .ok (.invokevirtual 84, 3) := by decide +kernel
theorem dX8_bunk_31 : decode cX8_bunk 31 = .ok (.ireturn, 1) := by decide +kernel
theorem dX8_bunk_32 : decode cX8_bunk 32 = .ok (.aload_n 0, 1) := by decide +kernel
theorem dX8_bunk_33 : decode cX8_bunk 33 = .ok (.getfield 7, 3) := by decide +kernel
theorem dX8_bunk_36 : decode cX8_bunk 36 = .ok (.iconst 0, 1) := by decide +kernel
theorem dX8_bunk_37 : decode cX8_bunk 37 = .ok (.iaload, 1) := by decide +kernel
theorem dX8_bunk_38 : decode cX8_bunk 38 = .ok (.istore_n 2, 1) := by decide +kernel
theorem dX8_bunk_39 : decode cX8_bunk 39 = .ok (.aload_n 0, 1) := by decide +kernel
theorem dX8_bunk_40 : decode cX8_bunk 40 = .ok (.iload_n 2, 1) := by decide +kernel
theorem dX8_bunk_41 : decode cX8_bunk 41 = .ok (.iload_n 1, 1) := by decide +kernel
theorem dX8_bunk_42 : decode cX8_bunk 42 = .ok (.iconst 0, 1) := by decide +kernel
theorem dX8_bunk_43 : decode cX8_bunk 43 = .ok (.iconst 0, 1) := by decide +kernel
theorem dX8_bunk_44 : decode cX8_bunk 44 = .ok (.iconst (-1), 1) := by decide +kernel
theorem dX8_bunk_45 : decode cX8_bunk 45 = .ok (.invokevirtual 88, 3) := by decide +kernel
theorem dX8_bunk_48 : decode cX8_bunk 48 = .ok (.aload_n 0, 1) := by decide +kernel
theorem dX8_bunk_49 : decode cX8_bunk 49 = .ok (.getfield 7, 3) := by decide +kernel
theorem dX8_bunk_52 : decode cX8_bunk 52 = .ok (.iload_n 2, 1) := by decide +kernel
theorem dX8_bunk_53 : decode cX8_bunk 53 = .ok (.iconst 4, 1) := by decide +kernel
theorem dX8_bunk_54 : decode cX8_bunk 54 = .ok (.invokestatic 56, 3) := by decide +kernel
theorem dX8_bunk_57 : decode cX8_bunk 57 = .ok (.iconst (-1), 1) := by decide +kernel
theorem dX8_bunk_58 : decode cX8_bunk 58 = .ok (.iastore, 1) := by decide +kernel
theorem dX8_bunk_59 : decode cX8_bunk 59 = .ok (.aload_n 0, 1) := by decide +kernel
theorem dX8_bunk_60 : decode cX8_bunk 60 = .ok (.getfield 7, 3) := by decide +kernel
theorem dX8_bunk_63 : decode cX8_bunk 63 = .ok (.iconst 0, 1) := by decide +kernel
theorem dX8_bunk_64 : decode cX8_bunk 64 = .ok (.dup2, 1) := by decide +kernel
theorem dX8_bunk_65 : decode cX8_bunk 65 = .ok (.iaload, 1) := by decide +kernel
theorem dX8_bunk_66 : decode cX8_bunk 66 = .ok (.iconst 1, 1) := by decide +kernel
theorem dX8_bunk_67 : decode cX8_bunk 67 = .ok (.iadd, 1) := by decide +kernel
theorem dX8_bunk_68 : decode cX8_bunk 68 = .ok (.iastore, 1) := by decide +kernel
theorem dX8_bunk_69 : decode cX8_bunk 69 = .ok (.iload_n 2, 1) := by decide +kernel
theorem dX8_bunk_70 : decode cX8_bunk 70 = .ok (.ireturn, 1) := by decide +kernel
theorem dX8_ofMan_0 : decode cX8_ofMan 0 = .ok (.iload_n 2, 1) := by decide +kernel
theorem dX8_ofMan_1 : decode cX8_ofMan 1 = .ok (.iconst 5, 1) := by decide +kernel
theorem dX8_ofMan_2 : decode cX8_ofMan 2 = .ok (.if_icmp .ge 12, 3) := by decide +kernel
theorem dX8_ofMan_5 : decode cX8_ofMan 5 = .ok (.aload_n 0, 1) := by decide +kernel
theorem dX8_ofMan_6 : decode cX8_ofMan 6 = .ok (.iload_n 1, 1) := by decide +kernel
theorem dX8_ofMan_7 : decode cX8_ofMan 7 = .ok (.iload_n 2, 1) := by decide +kernel
theorem dX8_ofMan_8 : decode cX8_ofMan 8 = .ok (.invokevirtual 60, 3) := by decide +kernel
theorem dX8_ofMan_11 : decode cX8_ofMan 11 = .ok (.goto 42, 3) := by decide +kernel
theorem dX8_ofMan_14 : decode cX8_ofMan 14 = .ok (.iload_n 2, 1) := by decide +kernel
theorem dX8_ofMan_15 : decode cX8_ofMan 15 = .ok (.iconst 5, 1) := by decide +kernel
theorem dX8_ofMan_16 : decode cX8_ofMan 16 = .ok (.if_icmp .ne 11, 3) := by decide +kernel
theorem dX8_ofMan_19 : decode cX8_ofMan 19 = .ok (.aload_n 0, 1) := by decide +kernel
theorem dX8_ofMan_20 : decode cX8_ofMan 20 = .ok (.iload_n 1, 1) := by decide +kernel
theorem dX8_ofMan_21 : decode cX8_ofMan 21 = .ok (.invokevirtual 92, 3) := by decide +kernel
theorem dX8_ofMan_24 : decode cX8_ofMan 24 = .ok (.goto 29, 3) := by decide +kernel
theorem dX8_ofMan_27 : decode cX8_ofMan 27 = .ok (.iload_n 2, 1) := by decide +kernel
theorem dX8_ofMan_28 : decode cX8_ofMan 28 = .ok (.bipush 18, 2) := by decide +kernel
theorem dX8_ofMan_30 : decode cX8_ofMan 30 = .ok (.if_icmp .ge 14, 3) := by decide +kernel
theorem dX8_ofMan_33 : decode cX8_ofMan 33 = .ok (.aload_n 0, 1) := by decide +kernel
theorem dX8_ofMan_34 : decode cX8_ofMan 34 = .ok (.iload_n 1, 1) := by decide +kernel
theorem dX8_ofMan_35 : decode cX8_ofMan 35 = .ok (.iload_n 2, 1) := by decide +kernel
theorem dX8_ofMan_36 : decode cX8_ofMan 36 = .ok (.iconst 1, 1) := by decide +kernel
theorem dX8_ofMan_37 : decode cX8_ofMan 37 = .ok (.isub, 1) := by decide +kernel
theorem dX8_ofMan_38 : decode cX8_ofMan 38 = .ok (.invokevirtual 60, 3) := by decide +kernel
theorem dX8_ofMan_41 : decode cX8_ofMan 41 = .ok (.goto 12, 3) := by decide +kernel
theorem dX8_ofMan_44 : decode cX8_ofMan 44 = .ok (.aload_n 0, 1) := by decide +kernel
theorem dX8_ofMan_45 : decode cX8_ofMan 45 = .ok (.iload_n 1, 1) := by decide +kernel
theorem dX8_ofMan_46 : decode cX8_ofMan 46 = .ok (.iload_n 2, 1) := by decide +kernel
theorem dX8_ofMan_47 : decode cX8_ofMan 47 = .ok (.bipush 18, 2) := by decide +kernel
theorem dX8_ofMan_49 : decode cX8_ofMan 49 = .ok (.isub, 1) := by decide +kernel
theorem dX8_ofMan_50 : decode cX8_ofMan 50 = .ok (.invokevirtual 95, 3) := by decide +kernel
theorem dX8_ofMan_53 : decode cX8_ofMan 53 = .ok (.ireturn, 1) := by decide +kernel
theorem dX8_bunkIs_0 : decode cX8_bunkIs 0 = .ok (.aload_n 0, 1) := by decide +kernel
theorem dX8_bunkIs_1 : decode cX8_bunkIs 1 = .ok (.iload_n 1, 1) := by decide +kernel
theorem dX8_bunkIs_2 : decode cX8_bunkIs 2 = .ok (.invokevirtual 98, 3) := by decide +kernel
theorem dX8_bunkIs_5 : decode cX8_bunkIs 5 = .ok (.ifCond .eq 24, 3) := by decide +kernel
theorem dX8_bunkIs_8 : decode cX8_bunkIs 8 = .ok (.iload_n 2, 1) := by decide +kernel
theorem dX8_bunkIs_9 : decode cX8_bunkIs 9 = .ok (.i2l, 1) := by decide +kernel
theorem dX8_bunkIs_10 : decode cX8_bunkIs 10 = .ok (.lconst 0, 1) := by decide +kernel
theorem dX8_bunkIs_11 : decode cX8_bunkIs 11 = .ok (.ldc2_w 101, 3) := by decide +kernel
theorem dX8_bunkIs_14 : decode cX8_bunkIs 14 = .ok (.invokestatic 44, 3) := by decide +kernel
theorem dX8_bunkIs_17 : decode cX8_bunkIs 17 = .ok (.ifCond .eq 12, 3) := by decide +kernel
theorem dX8_bunkIs_20 : decode cX8_bunkIs 20 = .ok (.aload_n 0, 1) := by decide +kernel
theorem dX8_bunkIs_21 : decode cX8_bunkIs 21 = .ok (.iload_n 1, 1) := by decide +kernel
theorem dX8_bunkIs_22 : decode cX8_bunkIs 22 = .ok (.iload_n 2, 1) := by decide +kernel
theorem dX8_bunkIs_23 : decode cX8_bunkIs 23 = .ok (.invokevirtual 103, 3) := by decide +kernel
theorem dX8_bunkIs_26 : decode cX8_bunkIs 26 = .ok (.goto 9, 3) := by decide +kernel
theorem dX8_bunkIs_29 : decode cX8_bunkIs 29 = .ok (.aload_n 0, 1) := by decide +kernel
theorem dX8_bunkIs_30 : decode cX8_bunkIs 30 = .ok (.ldc 43, 2) := by decide +kernel
theorem dX8_bunkIs_32 : decode cX8_bunkIs 32 = .ok (.invokevirtual 84, 3) := by decide +kernel
theorem dX8_bunkIs_35 : decode cX8_bunkIs 35 = .ok (.ireturn, 1) := by decide +kernel
theorem dX8_as_0 : decode cX8_as 0 = .ok (.aload_n 0, 1) := by decide +kernel
theorem dX8_as_1 : decode cX8_as 1 = .ok (.iload_n 1, 1) := by decide +kernel
theorem dX8_as_2 : decode cX8_as 2 = .ok (.invokevirtual 98, 3) := by decide +kernel
theorem dX8_as_5 : decode cX8_as 5 = .ok (.ifCond .eq 15, 3) := by decide +kernel
theorem dX8_as_8 : decode cX8_as 8 = .ok (.iload_n 2, 1) := by decide +kernel
theorem dX8_as_9 : decode cX8_as 9 = .ok (.i2l, 1) := by decide +kernel
theorem dX8_as_10 : decode cX8_as 10 = .ok (.lconst 0, 1) := by decide +kernel
theorem dX8_as_11 : decode cX8_as 11 = .ok (.ldc2_w 106, 3) := by decide +kernel
theorem dX8_as_14 : decode cX8_as 14 = .ok (.invokestatic 44, 3) := by decide +kernel
theorem dX8_as_17 : decode cX8_as 17 = .ok (.ifCond .ne 10, 3) := by decide +kernel
theorem dX8_as_20 : decode cX8_as 20 = .ok (.aload_n 0, 1) := by decide +kernel
theorem dX8_as_21 : decode cX8_as 21 = .ok (.ldc 43, 2) := by decide +kernel
theorem dX8_as_23 : decode cX8_as 23 = .ok (.invokevirtual 84, 3) := by decide +kernel
theorem dX8_as_26 : decode cX8_as 26 = .ok (.ireturn, 1) := by decide +kernel
theorem dX8_as_27 : decode cX8_as 27 = .ok (.aload_n 0, 1) := by decide +kernel
theorem dX8_as_28 : decode cX8_as 28 = .ok (.iload_n 1, 1) := by decide +kernel
theorem dX8_as_29 : decode cX8_as 29 = .ok (.iconst 0, 1) := by decide +kernel
theorem dX8_as_30 : decode cX8_as 30 = .ok (.invokevirtual 60, 3) := by decide +kernel
theorem dX8_as_33 : decode cX8_as 33 = .ok (.istore_n 3, 1) := by decide +kernel
theorem dX8_as_34 : decode cX8_as 34 = .ok (.iload_n 2, 1) := by decide +kernel
theorem dX8_as_35 : decode cX8_as 35 = .ok (.ifCond .eq 28, 3) := by decide +kernel
theorem dX8_as_38 : decode cX8_as 38 = .ok (.iload_n 3, 1) := by decide +kernel
theorem dX8_as_39 : decode cX8_as 39 = .ok (.iload_n 2, 1) := by decide +kernel
theorem dX8_as_40 : decode cX8_as 40 = .ok (.if_icmp .eq 23, 3) := by decide +kernel
theorem dX8_as_43 : decode cX8_as 43 = .ok (.iload_n 2, 1) := by decide +kernel
theorem dX8_as_44 : decode cX8_as 44 = .ok (.iconst 1, 1) := by decide +kernel
theorem dX8_as_45 : decode cX8_as 45 = .ok (.if_icmp .ne 8, 3) := by decide +kernel
theorem dX8_as_48 : decode cX8_as 48 = .ok (.iload_n 3, 1) := by decide +kernel
theorem dX8_as_49 : decode cX8_as 49 = .ok (.iconst 4, 1) := by decide +kernel
theorem dX8_as_50 : decode cX8_as 50 = .ok (.if_icmp .eq 13, 3) := by decide +kernel
theorem dX8_as_53 : decode cX8_as 53 = .ok (.iload_n 2, 1) := by decide +kernel
theorem dX8_as_54 : decode cX8_as 54 = .ok (.iconst 2, 1) := by decide +kernel
theorem dX8_as_55 : decode cX8_as 55 = .ok (.if_icmp .ne 12, 3) := by decide +kernel
theorem dX8_as_58 : decode cX8_as 58 = .ok (.iload_n 3, 1) := by decide +kernel
theorem dX8_as_59 : decode cX8_as 59 = .ok (.iconst 5, 1) := by decide +kernel
theorem dX8_as_60 : decode cX8_as 60 = .ok (.if_icmp .ne 7, 3) := by decide +kernel
theorem dX8_as_63 : decode cX8_as 63 = .ok (.iconst 1, 1) := by decide +kernel
theorem dX8_as_64 : decode cX8_as 64 = .ok (.goto 4, 3) := by decide +kernel
theorem dX8_as_67 : decode cX8_as 67 = .ok (.iconst 0, 1) := by decide +kernel
theorem dX8_as_68 : decode cX8_as 68 = .ok (.istore 4, 2) := by decide +kernel
theorem dX8_as_70 : decode cX8_as 70 = .ok (.iload 4, 2) := by decide +kernel
theorem dX8_as_72 : decode cX8_as 72 = .ok (.ifCond .eq 12, 3) := by decide +kernel
theorem dX8_as_75 : decode cX8_as 75 = .ok (.aload_n 0, 1) := by decide +kernel
theorem dX8_as_76 : decode cX8_as 76 = .ok (.iload_n 1, 1) := by decide +kernel
theorem dX8_as_77 : decode cX8_as 77 = .ok (.iconst 3, 1) := by decide +kernel
theorem dX8_as_78 : decode cX8_as 78 = .ok (.invokevirtual 60, 3) := by decide +kernel
theorem dX8_as_81 : decode cX8_as 81 = .ok (.goto 9, 3) := by decide +kernel
theorem dX8_as_84 : decode cX8_as 84 = .ok (.aload_n 0, 1) := by decide +kernel
theorem dX8_as_85 : decode cX8_as 85 = .ok (.ldc 108, 2) := by decide +kernel
theorem dX8_as_87 : decode cX8_as 87 = .ok (.invokevirtual 84, 3) := by decide +kernel
theorem dX8_as_90 : decode cX8_as 90 = .ok (.ireturn, 1) := by decide +kernel
theorem dX8_set_0 : decode cX8_set 0 = .ok (.iload_n 2, 1) := by decide +kernel
theorem dX8_set_1 : decode cX8_set 1 = .ok (.ifCond .ne 15, 3) := by decide +kernel
theorem dX8_set_4 : decode cX8_set 4 = .ok (.iload_n 3, 1) := by decide +kernel
theorem dX8_set_5 : decode cX8_set 5 = .ok (.i2l, 1) := by decide +kernel
theorem dX8_set_6 : decode cX8_set 6 = .ok (.lconst 0, 1) := by decide +kernel
theorem dX8_set_7 : decode cX8_set 7 = .ok (.ldc2_w 106, 3) := by decide +kernel
theorem dX8_set_10 : decode cX8_set 10 = .ok (.invokestatic 44, 3) := by decide +kernel
theorem dX8_set_13 : decode cX8_set 13 = .ok (.goto 44, 3) := by decide +kernel
theorem dX8_set_16 : decode cX8_set 16 = .ok (.iload_n 2, 1) := by decide +kernel
theorem dX8_set_17 : decode cX8_set 17 = .ok (.iconst 1, 1) := by decide +kernel
theorem dX8_set_18 : decode cX8_set 18 = .ok (.if_icmp .ne 15, 3) := by decide +kernel
theorem dX8_set_21 : decode cX8_set 21 = .ok (.iload_n 3, 1) := by decide +kernel
theorem dX8_set_22 : decode cX8_set 22 = .ok (.i2l, 1) := by decide +kernel
theorem dX8_set_23 : decode cX8_set 23 = .ok (.lconst 0, 1) := by decide +kernel
theorem dX8_set_24 : decode cX8_set 24 = .ok (.ldc2_w 109, 3) := by decide +kernel
theorem dX8_set_27 : decode cX8_set 27 = .ok (.invokestatic 44, 3) := by decide +kernel
theorem dX8_set_30 : decode cX8_set 30 = .ok (.goto 27, 3) := by decide +kernel
theorem dX8_set_33 : decode cX8_set 33 = .ok (.iload_n 2, 1) := by decide +kernel
theorem dX8_set_34 : decode cX8_set 34 = .ok (.iconst 4, 1) := by decide +kernel
theorem dX8_set_35 : decode cX8_set 35 = .ok (.if_icmp .ne 21, 3) := by decide +kernel
theorem dX8_set_38 : decode cX8_set 38 = .ok (.iload_n 3, 1) := by decide +kernel
theorem dX8_set_39 : decode cX8_set 39 = .ok (.i2l, 1) := by decide +kernel
theorem dX8_set_40 : decode cX8_set 40 = .ok (.ldc2_w 111, 3) := by decide +kernel
theorem dX8_set_43 : decode cX8_set 43 = .ok (.ldc2_w 48, 3) := by decide +kernel
theorem dX8_set_46 : decode cX8_set 46 = .ok (.invokestatic 44, 3) := by decide +kernel
theorem dX8_set_49 : decode cX8_set 49 = .ok (.ifCond .eq 7, 3) := by decide +kernel
theorem dX8_set_52 : decode cX8_set 52 = .ok (.iconst 1, 1) := by decide +kernel
theorem dX8_set_53 : decode cX8_set 53 = .ok (.goto 4, 3) := by decide +kernel
theorem dX8_set_56 : decode cX8_set 56 = .ok (.iconst 0, 1) := by decide +kernel
theorem dX8_set_57 : decode cX8_set 57 = .ok (.istore 4, 2) := by decide +kernel
theorem dX8_set_59 : decode cX8_set 59 = .ok (.aload_n 0, 1) := by decide +kernel
theorem dX8_set_60 : decode cX8_set 60 = .ok (.iload_n 1, 1) := by decide +kernel
theorem dX8_set_61 : decode cX8_set 61 = .ok (.invokevirtual 98, 3) := by decide +kernel
theorem dX8_set_64 : decode cX8_set 64 = .ok (.ifCond .eq 8, 3) := by decide +kernel
theorem dX8_set_67 : decode cX8_set 67 = .ok (.iload 4, 2) := by decide +kernel
theorem dX8_set_69 : decode cX8_set 69 = .ok (.ifCond .ne 10, 3) := by decide +kernel
theorem dX8_set_72 : decode cX8_set 72 = .ok (.aload_n 0, 1) := by decide +kernel
theorem dX8_set_73 : decode cX8_set 73 = .ok (.ldc 43, 2) := by decide +kernel
theorem dX8_set_75 : decode cX8_set 75 = .ok (.invokevirtual 84, 3) := by decide +kernel
theorem dX8_set_78 : decode cX8_set 78 = .ok (.ireturn, 1) := by decide +kernel
theorem dX8_set_79 : decode cX8_set 79 = .ok (.aload_n 0, 1) := by decide +kernel
theorem dX8_set_80 : decode cX8_set 80 = .ok (.iload_n 1, 1) := by decide +kernel
theorem dX8_set_81 : decode cX8_set 81 = .ok (.iload_n 2, 1) := by decide +kernel
theorem dX8_set_82 : decode cX8_set 82 = .ok (.invokevirtual 60, 3) := by decide +kernel
theorem dX8_set_85 : decode cX8_set 85 = .ok (.istore 5, 2) := by decide +kernel
theorem dX8_set_87 : decode cX8_set 87 = .ok (.aload_n 0, 1) := by decide +kernel
theorem dX8_set_88 : decode cX8_set 88 = .ok (.getfield 7, 3) := by decide +kernel
theorem dX8_set_91 : decode cX8_set 91 = .ok (.iload_n 1, 1) := by decide +kernel
theorem dX8_set_92 : decode cX8_set 92 = .ok (.iload_n 2, 1) := by decide +kernel
theorem dX8_set_93 : decode cX8_set 93 = .ok (.invokestatic 56, 3) := by decide +kernel
theorem dX8_set_96 : decode cX8_set 96 = .ok (.iload_n 3, 1) := by decide +kernel
theorem dX8_set_97 : decode cX8_set 97 = .ok (.iastore, 1) := by decide +kernel
theorem dX8_set_98 : decode cX8_set 98 = .ok (.iload 5, 2) := by decide +kernel
theorem dX8_set_100 : decode cX8_set 100 = .ok (.ireturn, 1) := by decide +kernel
theorem dX8_know_0 : decode cX8_know 0 = .ok (.aload_n 0, 1) := by decide +kernel
theorem dX8_know_1 : decode cX8_know 1 = .ok (.iload_n 1, 1) := by decide +kernel
theorem dX8_know_2 : decode cX8_know 2 = .ok (.invokevirtual 98, 3) := by decide +kernel
theorem dX8_know_5 : decode cX8_know 5 = .ok (.ifCond .eq 24, 3) := by decide +kernel
theorem dX8_know_8 : decode cX8_know 8 = .ok (.iload_n 2, 1) := by decide +kernel
theorem dX8_know_9 : decode cX8_know 9 = .ok (.invokestatic 113, 3) := by decide +kernel
theorem dX8_know_12 : decode cX8_know 12 = .ok (.ifCond .eq 17, 3) := by decide +kernel
theorem dX8_know_15 : decode cX8_know 15 = .ok (.iload_n 3, 1) := by decide +kernel
theorem dX8_know_16 : decode cX8_know 16 = .ok (.i2l, 1) := by decide +kernel
theorem dX8_know_17 : decode cX8_know 17 = .ok (.ldc2_w 111, 3) := by decide +kernel
theorem dX8_know_20 : decode cX8_know 20 = .ok (.ldc2_w 116, 3) := by decide +kernel
theorem dX8_know_23 : decode cX8_know 23 = .ok (.invokestatic 44, 3) := by decide +kernel
theorem dX8_know_26 : decode cX8_know 26 = .ok (.ifCond .ne 10, 3) := by decide +kernel
theorem dX8_know_29 : decode cX8_know 29 = .ok (.aload_n 0, 1) := by decide +kernel
theorem dX8_know_30 : decode cX8_know 30 = .ok (.ldc 43, 2) := by decide +kernel
theorem dX8_know_32 : decode cX8_know 32 = .ok (.invokevirtual 84, 3) := by decide +kernel
theorem dX8_know_35 : decode cX8_know 35 = .ok (.ireturn, 1) := by decide +kernel
theorem dX8_know_36 : decode cX8_know 36 = .ok (.aload_n 0, 1) := by decide +kernel
theorem dX8_know_37 : decode cX8_know 37 = .ok (.iload_n 1, 1) := by decide +kernel
theorem dX8_know_38 : decode cX8_know 38 = .ok (.iload_n 2, 1) := by decide +kernel
theorem dX8_know_39 : decode cX8_know 39 = .ok (.invokevirtual 118, 3) := by decide +kernel
theorem dX8_know_42 : decode cX8_know 42 = .ok (.ifCond .eq 14, 3) := by decide +kernel
theorem dX8_know_45 : decode cX8_know 45 = .ok (.aload_n 0, 1) := by decide +kernel
theorem dX8_know_46 : decode cX8_know 46 = .ok (.iload_n 1, 1) := by decide +kernel
theorem dX8_know_47 : decode cX8_know 47 = .ok (.iconst 5, 1) := by decide +kernel
theorem dX8_know_48 : decode cX8_know 48 = .ok (.iload_n 2, 1) := by decide +kernel
theorem dX8_know_49 : decode cX8_know 49 = .ok (.iadd, 1) := by decide +kernel
theorem dX8_know_50 : decode cX8_know 50 = .ok (.invokevirtual 60, 3) := by decide +kernel
theorem dX8_know_53 : decode cX8_know 53 = .ok (.goto 4, 3) := by decide +kernel
theorem dX8_know_56 : decode cX8_know 56 = .ok (.iconst (-1), 1) := by decide +kernel
theorem dX8_know_57 : decode cX8_know 57 = .ok (.istore 4, 2) := by decide +kernel
theorem dX8_know_59 : decode cX8_know 59 = .ok (.iload_n 3, 1) := by decide +kernel
theorem dX8_know_60 : decode cX8_know 60 = .ok (.ifCond .ge 51, 3) := by decide +kernel
theorem dX8_know_63 : decode cX8_know 63 = .ok (.aload_n 0, 1) := by decide +kernel
theorem dX8_know_64 : decode cX8_know 64 = .ok (.getfield 7, 3) := by decide +kernel
theorem dX8_know_67 : decode cX8_know 67 = .ok (.iload_n 1, 1) := by decide +kernel
theorem dX8_know_68 : decode cX8_know 68 = .ok (.iconst 3, 1) := by decide +kernel
theorem dX8_know_69 : decode cX8_know 69 = .ok (.invokestatic 56, 3) := by decide +kernel
theorem dX8_know_72 : decode cX8_know 72 = .ok (.dup2, 1) := by decide +kernel
theorem dX8_know_73 : decode cX8_know 73 = .ok (.iaload, 1) := by decide +kernel
theorem dX8_know_74 : decode cX8_know 74 = .ok (.iconst 1, 1) := by decide +kernel
theorem dX8_know_75 : decode cX8_know 75 = .ok (.iload_n 2, 1) := by decide +kernel
theorem dX8_know_76 : decode cX8_know 76 = .ok (.ishl, 1) := by decide +kernel
theorem dX8_know_77 : decode cX8_know 77 = .ok (.iconst (-1), 1) := by decide +kernel
theorem dX8_know_78 : decode cX8_know 78 = .ok (.ixor, 1) := by decide +kernel
theorem dX8_know_79 : decode cX8_know 79 = .ok (.iand, 1) := by decide +kernel
theorem dX8_know_80 : decode cX8_know 80 = .ok (.iastore, 1) := by decide +kernel
theorem dX8_know_81 : decode cX8_know 81 = .ok (.aload_n 0, 1) := by decide +kernel
theorem dX8_know_82 : decode cX8_know 82 = .ok (.getfield 7, 3) := by decide +kernel
theorem dX8_know_85 : decode cX8_know 85 = .ok (.iload_n 1, 1) := by decide +kernel
theorem dX8_know_86 : decode cX8_know 86 = .ok (.iconst 5, 1) := by decide +kernel
theorem dX8_know_87 : decode cX8_know 87 = .ok (.iload_n 2, 1) := by decide +kernel
theorem dX8_know_88 : decode cX8_know 88 = .ok (.iadd, 1) := by decide +kernel
theorem dX8_know_89 : decode cX8_know 89 = .ok (.invokestatic 56, 3) := by decide +kernel
theorem dX8_know_92 : decode cX8_know 92 = .ok (.iconst 0, 1) := by decide +kernel
theorem dX8_know_93 : decode cX8_know 93 = .ok (.iastore, 1) := by decide +kernel
theorem dX8_know_94 : decode cX8_know 94 = .ok (.aload_n 0, 1) := by decide +kernel
theorem dX8_know_95 : decode cX8_know 95 = .ok (.getfield 7, 3) := by decide +kernel
theorem dX8_know_98 : decode cX8_know 98 = .ok (.iload_n 1, 1) := by decide +kernel
theorem dX8_know_99 : decode cX8_know 99 = .ok (.bipush 11, 2) := by decide +kernel
theorem dX8_know_101 : decode cX8_know 101 = .ok (.iload_n 2, 1) := by decide +kernel
theorem dX8_know_102 : decode cX8_know 102 = .ok (.iadd, 1) := by decide +kernel
theorem dX8_know_103 : decode cX8_know 103 = .ok (.invokestatic 56, 3) := by decide +kernel
theorem dX8_know_106 : decode cX8_know 106 = .ok (.iconst 0, 1) := by decide +kernel
theorem dX8_know_107 : decode cX8_know 107 = .ok (.iastore, 1) := by decide +kernel
theorem dX8_know_108 : decode cX8_know 108 = .ok (.goto 32, 3) := by decide +kernel
theorem dX8_know_111 : decode cX8_know 111 = .ok (.aload_n 0, 1) := by decide +kernel
theorem dX8_know_112 : decode cX8_know 112 = .ok (.getfield 7, 3) := by decide +kernel
theorem dX8_know_115 : decode cX8_know 115 = .ok (.iload_n 1, 1) := by decide +kernel
theorem dX8_know_116 : decode cX8_know 116 = .ok (.iconst 3, 1) := by decide +kernel
theorem dX8_know_117 : decode cX8_know 117 = .ok (.invokestatic 56, 3) := by decide +kernel
theorem dX8_know_120 : decode cX8_know 120 = .ok (.dup2, 1) := by decide +kernel
theorem dX8_know_121 : decode cX8_know 121 = .ok (.iaload, 1) := by decide +kernel
theorem dX8_know_122 : decode cX8_know 122 = .ok (.iconst 1, 1) := by decide +kernel
theorem dX8_know_123 : decode cX8_know 123 = .ok (.iload_n 2, 1) := by decide +kernel
theorem dX8_know_124 : decode cX8_know 124 = .ok (.ishl, 1) := by decide +kernel
theorem dX8_know_125 : decode cX8_know 125 = .ok (.ior, 1) := by decide +kernel
theorem dX8_know_126 : decode cX8_know 126 = .ok (.iastore, 1) := by decide +kernel
theorem dX8_know_127 : decode cX8_know 127 = .ok (.aload_n 0, 1) := by decide +kernel
theorem dX8_know_128 : decode cX8_know 128 = .ok (.getfield 7, 3) := by decide +kernel
theorem dX8_know_131 : decode cX8_know 131 = .ok (.iload_n 1, 1) := by decide +kernel
theorem dX8_know_132 : decode cX8_know 132 = .ok (.iconst 5, 1) := by decide +kernel
theorem dX8_know_133 : decode cX8_know 133 = .ok (.iload_n 2, 1) := by decide +kernel
theorem dX8_know_134 : decode cX8_know 134 = .ok (.iadd, 1) := by decide +kernel
theorem dX8_know_135 : decode cX8_know 135 = .ok (.invokestatic 56, 3) := by decide +kernel
theorem dX8_know_138 : decode cX8_know 138 = .ok (.iload_n 3, 1) := by decide +kernel
theorem dX8_know_139 : decode cX8_know 139 = .ok (.iastore, 1) := by decide +kernel
theorem dX8_know_140 : decode cX8_know 140 = .ok (.iload 4, 2) := by decide +kernel
theorem dX8_know_142 : decode cX8_know 142 = .ok (.ireturn, 1) := by decide +kernel
theorem dX8_rosterWrong_0 : decode cX8_rosterWrong 0 = .ok (.iload_n 1, 1) := by decide +kernel
theorem dX8_rosterWrong_1 : decode cX8_rosterWrong 1 = .ok (.invokestatic 80, 3) := by decide +kernel
theorem dX8_rosterWrong_4 : decode cX8_rosterWrong 4 = .ok (.ifCond .eq 10, 3) := by decide +kernel
theorem dX8_rosterWrong_7 : decode cX8_rosterWrong 7 = .ok (.iload_n 2, 1) := by decide +kernel
theorem dX8_rosterWrong_8 : decode cX8_rosterWrong 8 = .ok (.invokestatic 121, 3) := by decide +kernel
theorem dX8_rosterWrong_11 : decode cX8_rosterWrong 11 = .ok (.ifCond .ne 8, 3) := by decide +kernel
theorem dX8_rosterWrong_14 : decode cX8_rosterWrong 14 = .ok (.ldc 43, 2) := by decide +kernel
theorem dX8_rosterWrong_16 : decode cX8_rosterWrong 16 = .ok (.goto 20, 3) := by decide +kernel
theorem dX8_rosterWrong_19 : decode cX8_rosterWrong 19 = .ok (.aload_n 0, 1) := by decide +kernel
theorem dX8_rosterWrong_20 : decode cX8_rosterWrong 20 = .ok (.getfield 7, 3) := by decide +kernel
theorem dX8_rosterWrong_23 : decode cX8_rosterWrong 23 = .ok (.iconst 1, 1) := by decide +kernel
theorem dX8_rosterWrong_24 : decode cX8_rosterWrong 24 = .ok (.iaload, 1) := by decide +kernel
theorem dX8_rosterWrong_25 : decode cX8_rosterWrong 25 = .ok (.bipush 12, 2) := by decide +kernel
theorem dX8_rosterWrong_27 : decode cX8_rosterWrong 27 = .ok (.if_icmp .ne 8, 3) := by decide +kernel
theorem dX8_rosterWrong_30 : decode cX8_rosterWrong 30 = .ok (.ldc 87, 2) := by decide +kernel
theorem dX8_rosterWrong_32 : decode cX8_rosterWrong 32 = .ok (.goto 4, 3) := by decide +kernel
theorem dX8_rosterWrong_35 : decode cX8_rosterWrong 35 = .ok (.iconst 0, 1) := by decide +kernel
theorem dX8_rosterWrong_36 : decode cX8_rosterWrong 36 = .ok (.ireturn, 1) := by decide +kernel
theorem dX8_rostered_0 : decode cX8_rostered 0 = .ok (.aload_n 0, 1) := by decide +kernel
theorem dX8_rostered_1 : decode cX8_rostered 1 = .ok (.getfield 7, 3) := by decide +kernel
theorem dX8_rostered_4 : decode cX8_rostered 4 = .ok (.bipush 113, 2) := by decide +kernel
theorem dX8_rostered_6 : decode cX8_rostered 6 = .ok (.iconst 2, 1) := by decide +kernel
theorem dX8_rostered_7 : decode cX8_rostered 7 = .ok (.aload_n 0, 1) := by decide +kernel
theorem dX8_rostered_8 : decode cX8_rostered 8 = .ok (.getfield 7, 3) := by decide +kernel
theorem dX8_rostered_11 : decode cX8_rostered 11 = .ok (.iconst 1, 1) := by decide +kernel
theorem dX8_rostered_12 : decode cX8_rostered 12 = .ok (.iaload, 1) := by decide +kernel
theorem dX8_rostered_13 : decode cX8_rostered 13 = .ok (.imul, 1) := by decide +kernel
theorem dX8_rostered_14 : decode cX8_rostered 14 = .ok (.iadd, 1) := by decide +kernel
theorem dX8_rostered_15 : decode cX8_rostered 15 = .ok (.iload_n 1, 1) := by decide +kernel
theorem dX8_rostered_16 : decode cX8_rostered 16 = .ok (.iastore, 1) := by decide +kernel
theorem dX8_rostered_17 : decode cX8_rostered 17 = .ok (.aload_n 0, 1) := by decide +kernel
theorem dX8_rostered_18 : decode cX8_rostered 18 = .ok (.getfield 7, 3) := by decide +kernel
theorem dX8_rostered_21 : decode cX8_rostered 21 = .ok (.bipush 113, 2) := by decide +kernel
theorem dX8_rostered_23 : decode cX8_rostered 23 = .ok (.iconst 2, 1) := by decide +kernel
theorem dX8_rostered_24 : decode cX8_rostered 24 = .ok (.aload_n 0, 1) := by decide +kernel
theorem dX8_rostered_25 : decode cX8_rostered 25 = .ok (.getfield 7, 3) := by decide +kernel
theorem dX8_rostered_28 : decode cX8_rostered 28 = .ok (.iconst 1, 1) := by decide +kernel
theorem dX8_rostered_29 : decode cX8_rostered 29 = .ok (.iaload, 1) := by decide +kernel
theorem dX8_rostered_30 : decode cX8_rostered 30 = .ok (.imul, 1) := by decide +kernel
theorem dX8_rostered_31 : decode cX8_rostered 31 = .ok (.iadd, 1) := by decide +kernel
theorem dX8_rostered_32 : decode cX8_rostered 32 = .ok (.iconst 1, 1) := by decide +kernel
theorem dX8_rostered_33 : decode cX8_rostered 33 = .ok (.iadd, 1) := by decide +kernel
theorem dX8_rostered_34 : decode cX8_rostered 34 = .ok (.iload_n 2, 1) := by decide +kernel
theorem dX8_rostered_35 : decode cX8_rostered 35 = .ok (.iastore, 1) := by decide +kernel
theorem dX8_rostered_36 : decode cX8_rostered 36 = .ok (.aload_n 0, 1) := by decide +kernel
theorem dX8_rostered_37 : decode cX8_rostered 37 = .ok (.getfield 7, 3) := by decide +kernel
theorem dX8_rostered_40 : decode cX8_rostered 40 = .ok (.iconst 1, 1) := by decide +kernel
theorem dX8_rostered_41 : decode cX8_rostered 41 = .ok (.dup2, 1) := by decide +kernel
theorem dX8_rostered_42 : decode cX8_rostered 42 = .ok (.iaload, 1) := by decide +kernel
theorem dX8_rostered_43 : decode cX8_rostered 43 = .ok (.iconst 1, 1) := by decide +kernel
theorem dX8_rostered_44 : decode cX8_rostered 44 = .ok (.iadd, 1) := by decide +kernel
theorem dX8_rostered_45 : decode cX8_rostered 45 = .ok (.iastore, 1) := by decide +kernel
theorem dX8_rostered_46 : decode cX8_rostered 46 = .ok (.return_, 1) := by decide +kernel
theorem dX8_roster_0 : decode cX8_roster 0 = .ok (.aload_n 0, 1) := by decide +kernel
theorem dX8_roster_1 : decode cX8_roster 1 = .ok (.iload_n 1, 1) := by decide +kernel
theorem dX8_roster_2 : decode cX8_roster 2 = .ok (.iload_n 2, 1) := by decide +kernel
theorem dX8_roster_3 : decode cX8_roster 3 = .ok (.invokevirtual 124, 3) := by decide +kernel
theorem dX8_roster_6 : decode cX8_roster 6 = .ok (.istore_n 3, 1) := by decide +kernel
theorem dX8_roster_7 : decode cX8_roster 7 = .ok (.iload_n 3, 1) := by decide +kernel
theorem dX8_roster_8 : decode cX8_roster 8 = .ok (.ifCond .eq 9, 3) := by decide +kernel
theorem dX8_roster_11 : decode cX8_roster 11 = .ok (.aload_n 0, 1) := by decide +kernel
theorem dX8_roster_12 : decode cX8_roster 12 = .ok (.iload_n 3, 1) := by decide +kernel
theorem dX8_roster_13 : decode cX8_roster 13 = .ok (.invokevirtual 84, 3) := by decide +kernel
theorem dX8_roster_16 : decode cX8_roster 16 = .ok (.ireturn, 1) := by decide +kernel
theorem dX8_roster_17 : decode cX8_roster 17 = .ok (.aload_n 0, 1) := by decide +kernel
theorem dX8_roster_18 : decode cX8_roster 18 = .ok (.iload_n 1, 1) := by decide +kernel
theorem dX8_roster_19 : decode cX8_roster 19 = .ok (.iload_n 2, 1) := by decide +kernel
theorem dX8_roster_20 : decode cX8_roster 20 = .ok (.invokevirtual 127, 3) := by decide +kernel
theorem dX8_roster_23 : decode cX8_roster 23 = .ok (.aload_n 0, 1) := by decide +kernel
theorem dX8_roster_24 : decode cX8_roster 24 = .ok (.getfield 7, 3) := by decide +kernel
theorem dX8_roster_27 : decode cX8_roster 27 = .ok (.iconst 1, 1) := by decide +kernel
theorem dX8_roster_28 : decode cX8_roster 28 = .ok (.iaload, 1) := by decide +kernel
theorem dX8_roster_29 : decode cX8_roster 29 = .ok (.ireturn, 1) := by decide +kernel
theorem dX8_book_0 : decode cX8_book 0 = .ok (.iload_n 1, 1) := by decide +kernel
theorem dX8_book_1 : decode cX8_book 1 = .ok (.invokestatic 121, 3) := by decide +kernel
theorem dX8_book_4 : decode cX8_book 4 = .ok (.ifCond .ne 10, 3) := by decide +kernel
theorem dX8_book_7 : decode cX8_book 7 = .ok (.aload_n 0, 1) := by decide +kernel
theorem dX8_book_8 : decode cX8_book 8 = .ok (.ldc 43, 2) := by decide +kernel
theorem dX8_book_10 : decode cX8_book 10 = .ok (.invokevirtual 84, 3) := by decide +kernel
theorem dX8_book_13 : decode cX8_book 13 = .ok (.ireturn, 1) := by decide +kernel
theorem dX8_book_14 : decode cX8_book 14 = .ok (.aload_n 0, 1) := by decide +kernel
theorem dX8_book_15 : decode cX8_book 15 = .ok (.getfield 7, 3) := by decide +kernel
theorem dX8_book_18 : decode cX8_book 18 = .ok (.iconst 4, 1) := by decide +kernel
theorem dX8_book_19 : decode cX8_book 19 = .ok (.iaload, 1) := by decide +kernel
theorem dX8_book_20 : decode cX8_book 20 = .ok (.istore_n 2, 1) := by decide +kernel
theorem dX8_book_21 : decode cX8_book 21 = .ok (.aload_n 0, 1) := by decide +kernel
theorem dX8_book_22 : decode cX8_book 22 = .ok (.getfield 7, 3) := by decide +kernel
theorem dX8_book_25 : decode cX8_book 25 = .ok (.iconst 4, 1) := by decide +kernel
theorem dX8_book_26 : decode cX8_book 26 = .ok (.iload_n 1, 1) := by decide +kernel
theorem dX8_book_27 : decode cX8_book 27 = .ok (.iastore, 1) := by decide +kernel
theorem dX8_book_28 : decode cX8_book 28 = .ok (.iload_n 2, 1) := by decide +kernel
theorem dX8_book_29 : decode cX8_book 29 = .ok (.ireturn, 1) := by decide +kernel
theorem dX8_where_0 : decode cX8_where 0 = .ok (.sipush 137, 3) := by decide +kernel
theorem dX8_where_3 : decode cX8_where 3 = .ok (.iconst 4, 1) := by decide +kernel
theorem dX8_where_4 : decode cX8_where 4 = .ok (.iload_n 0, 1) := by decide +kernel
theorem dX8_where_5 : decode cX8_where 5 = .ok (.imul, 1) := by decide +kernel
theorem dX8_where_6 : decode cX8_where 6 = .ok (.iadd, 1) := by decide +kernel
theorem dX8_where_7 : decode cX8_where 7 = .ok (.iload_n 1, 1) := by decide +kernel
theorem dX8_where_8 : decode cX8_where 8 = .ok (.iadd, 1) := by decide +kernel
theorem dX8_where_9 : decode cX8_where 9 = .ok (.ireturn, 1) := by decide +kernel
theorem dX8_ofTask_0 : decode cX8_ofTask 0 = .ok (.aload_n 0, 1) := by decide +kernel
theorem dX8_ofTask_1 : decode cX8_ofTask 1 = .ok (.getfield 7, 3) := by decide +kernel
theorem dX8_ofTask_4 : decode cX8_ofTask 4 = .ok (.iload_n 1, 1) := by decide +kernel
theorem dX8_ofTask_5 : decode cX8_ofTask 5 = .ok (.iload_n 2, 1) := by decide +kernel
theorem dX8_ofTask_6 : decode cX8_ofTask 6 = .ok (.invokestatic 131, 3) := by decide +kernel
theorem dX8_ofTask_9 : decode cX8_ofTask 9 = .ok (.iaload, 1) := by decide +kernel
theorem dX8_ofTask_10 : decode cX8_ofTask 10 = .ok (.ireturn, 1) := by decide +kernel
theorem dX8_knowers_0 : decode cX8_knowers 0 = .ok (.iconst 0, 1) := by decide +kernel
theorem dX8_knowers_1 : decode cX8_knowers 1 = .ok (.istore_n 2, 1) := by decide +kernel
theorem dX8_knowers_2 : decode cX8_knowers 2 = .ok (.iconst 0, 1) := by decide +kernel
theorem dX8_knowers_3 : decode cX8_knowers 3 = .ok (.istore_n 3, 1) := by decide +kernel
theorem dX8_knowers_4 : decode cX8_knowers 4 = .ok (.iload_n 3, 1) := by decide +kernel
theorem dX8_knowers_5 : decode cX8_knowers 5 = .ok (.aload_n 0, 1) := by decide +kernel
theorem dX8_knowers_6 : decode cX8_knowers 6 = .ok (.getfield 7, 3) := by decide +kernel
theorem dX8_knowers_9 : decode cX8_knowers 9 = .ok (.iconst 0, 1) := by decide +kernel
theorem dX8_knowers_10 : decode cX8_knowers 10 = .ok (.iaload, 1) := by decide +kernel
theorem dX8_knowers_11 : decode cX8_knowers 11 = .ok (.if_icmp .ge 26, 3) := by decide +kernel
theorem dX8_knowers_14 : decode cX8_knowers 14 = .ok (.iload_n 2, 1) := by decide +kernel
theorem dX8_knowers_15 : decode cX8_knowers 15 = .ok (.aload_n 0, 1) := by decide +kernel
theorem dX8_knowers_16 : decode cX8_knowers 16 = .ok (.iload_n 3, 1) := by decide +kernel
theorem dX8_knowers_17 : decode cX8_knowers 17 = .ok (.iload_n 1, 1) := by decide +kernel
theorem dX8_knowers_18 : decode cX8_knowers 18 = .ok (.invokevirtual 118, 3) := by decide +kernel
theorem dX8_knowers_21 : decode cX8_knowers 21 = .ok (.ifCond .eq 7, 3) := by decide +kernel
theorem dX8_knowers_24 : decode cX8_knowers 24 = .ok (.iconst 1, 1) := by decide +kernel
theorem dX8_knowers_25 : decode cX8_knowers 25 = .ok (.goto 4, 3) := by decide +kernel
theorem dX8_knowers_28 : decode cX8_knowers 28 = .ok (.iconst 0, 1) := by decide +kernel
theorem dX8_knowers_29 : decode cX8_knowers 29 = .ok (.iadd, 1) := by decide +kernel
theorem dX8_knowers_30 : decode cX8_knowers 30 = .ok (.istore_n 2, 1) := by decide +kernel
theorem dX8_knowers_31 : decode cX8_knowers 31 = .ok (.iinc 3 1, 3) := by decide +kernel
theorem dX8_knowers_34 : decode cX8_knowers 34 = .ok (.goto (-30), 3) := by decide +kernel
theorem dX8_knowers_37 : decode cX8_knowers 37 = .ok (.iload_n 2, 1) := by decide +kernel
theorem dX8_knowers_38 : decode cX8_knowers 38 = .ok (.ireturn, 1) := by decide +kernel
theorem dX8_task_0 : decode cX8_task 0 = .ok (.iload_n 1, 1) := by decide +kernel
theorem dX8_task_1 : decode cX8_task 1 = .ok (.i2l, 1) := by decide +kernel
theorem dX8_task_2 : decode cX8_task 2 = .ok (.lconst 0, 1) := by decide +kernel
theorem dX8_task_3 : decode cX8_task 3 = .ok (.ldc2_w 134, 3) := by decide +kernel
theorem dX8_task_6 : decode cX8_task 6 = .ok (.invokestatic 44, 3) := by decide +kernel
theorem dX8_task_9 : decode cX8_task 9 = .ok (.ifCond .eq 22, 3) := by decide +kernel
theorem dX8_task_12 : decode cX8_task 12 = .ok (.iload_n 2, 1) := by decide +kernel
theorem dX8_task_13 : decode cX8_task 13 = .ok (.invokestatic 113, 3) := by decide +kernel
theorem dX8_task_16 : decode cX8_task 16 = .ok (.ifCond .eq 15, 3) := by decide +kernel
theorem dX8_task_19 : decode cX8_task 19 = .ok (.iload_n 3, 1) := by decide +kernel
theorem dX8_task_20 : decode cX8_task 20 = .ok (.i2l, 1) := by decide +kernel
theorem dX8_task_21 : decode cX8_task 21 = .ok (.lconst 0, 1) := by decide +kernel
theorem dX8_task_22 : decode cX8_task 22 = .ok (.ldc2_w 106, 3) := by decide +kernel
theorem dX8_task_25 : decode cX8_task 25 = .ok (.invokestatic 44, 3) := by decide +kernel
theorem dX8_task_28 : decode cX8_task 28 = .ok (.ifCond .ne 10, 3) := by decide +kernel
theorem dX8_task_31 : decode cX8_task 31 = .ok (.aload_n 0, 1) := by decide +kernel
theorem dX8_task_32 : decode cX8_task 32 = .ok (.ldc 43, 2) := by decide +kernel
theorem dX8_task_34 : decode cX8_task 34 = .ok (.invokevirtual 84, 3) := by decide +kernel
theorem dX8_task_37 : decode cX8_task 37 = .ok (.ireturn, 1) := by decide +kernel
theorem dX8_task_38 : decode cX8_task 38 = .ok (.bipush 10, 2) := by decide +kernel
theorem dX8_task_40 : decode cX8_task 40 = .ok (.aload_n 0, 1) := by decide +kernel
theorem dX8_task_41 : decode cX8_task 41 = .ok (.iload_n 1, 1) := by decide +kernel
theorem dX8_task_42 : decode cX8_task 42 = .ok (.iconst 0, 1) := by decide +kernel
theorem dX8_task_43 : decode cX8_task 43 = .ok (.invokevirtual 136, 3) := by decide +kernel
theorem dX8_task_46 : decode cX8_task 46 = .ok (.imul, 1) := by decide +kernel
theorem dX8_task_47 : decode cX8_task 47 = .ok (.aload_n 0, 1) := by decide +kernel
theorem dX8_task_48 : decode cX8_task 48 = .ok (.iload_n 1, 1) := by decide +kernel
theorem dX8_task_49 : decode cX8_task 49 = .ok (.iconst 1, 1) := by decide +kernel
theorem dX8_task_50 : decode cX8_task 50 = .ok (.invokevirtual 136, 3) := by decide +kernel
theorem dX8_task_53 : decode cX8_task 53 = .ok (.iadd, 1) := by decide +kernel
theorem dX8_task_54 : decode cX8_task 54 = .ok (.istore 4, 2) := by decide +kernel
theorem dX8_task_56 : decode cX8_task 56 = .ok (.aload_n 0, 1) := by decide +kernel
theorem dX8_task_57 : decode cX8_task 57 = .ok (.getfield 7, 3) := by decide +kernel
theorem dX8_task_60 : decode cX8_task 60 = .ok (.iload_n 1, 1) := by decide +kernel
theorem dX8_task_61 : decode cX8_task 61 = .ok (.iconst 0, 1) := by decide +kernel
theorem dX8_task_62 : decode cX8_task 62 = .ok (.invokestatic 131, 3) := by decide +kernel
theorem dX8_task_65 : decode cX8_task 65 = .ok (.iload_n 2, 1) := by decide +kernel
theorem dX8_task_66 : decode cX8_task 66 = .ok (.iastore, 1) := by decide +kernel
theorem dX8_task_67 : decode cX8_task 67 = .ok (.aload_n 0, 1) := by decide +kernel
theorem dX8_task_68 : decode cX8_task 68 = .ok (.getfield 7, 3) := by decide +kernel
theorem dX8_task_71 : decode cX8_task 71 = .ok (.iload_n 1, 1) := by decide +kernel
theorem dX8_task_72 : decode cX8_task 72 = .ok (.iconst 1, 1) := by decide +kernel
theorem dX8_task_73 : decode cX8_task 73 = .ok (.invokestatic 131, 3) := by decide +kernel
theorem dX8_task_76 : decode cX8_task 76 = .ok (.iload_n 3, 1) := by decide +kernel
theorem dX8_task_77 : decode cX8_task 77 = .ok (.iastore, 1) := by decide +kernel
theorem dX8_task_78 : decode cX8_task 78 = .ok (.iload 4, 2) := by decide +kernel
theorem dX8_task_80 : decode cX8_task 80 = .ok (.ireturn, 1) := by decide +kernel
theorem dX8_toldTask_0 : decode cX8_toldTask 0 = .ok (.iload_n 2, 1) := by decide +kernel
theorem dX8_toldTask_1 : decode cX8_toldTask 1 = .ok (.iconst 2, 1) := by decide +kernel
theorem dX8_toldTask_2 : decode cX8_toldTask 2 = .ok (.if_icmp .ge 12, 3) := by decide +kernel
theorem dX8_toldTask_5 : decode cX8_toldTask 5 = .ok (.aload_n 0, 1) := by decide +kernel
theorem dX8_toldTask_6 : decode cX8_toldTask 6 = .ok (.iload_n 1, 1) := by decide +kernel
theorem dX8_toldTask_7 : decode cX8_toldTask 7 = .ok (.iload_n 2, 1) := by decide +kernel
theorem dX8_toldTask_8 : decode cX8_toldTask 8 = .ok (.invokevirtual 136, 3) := by decide +kernel
theorem dX8_toldTask_11 : decode cX8_toldTask 11 = .ok (.goto 29, 3) := by decide +kernel
theorem dX8_toldTask_14 : decode cX8_toldTask 14 = .ok (.iload_n 2, 1) := by decide +kernel
theorem dX8_toldTask_15 : decode cX8_toldTask 15 = .ok (.iconst 2, 1) := by decide +kernel
theorem dX8_toldTask_16 : decode cX8_toldTask 16 = .ok (.if_icmp .ne 16, 3) := by decide +kernel
theorem dX8_toldTask_19 : decode cX8_toldTask 19 = .ok (.aload_n 0, 1) := by decide +kernel
theorem dX8_toldTask_20 : decode cX8_toldTask 20 = .ok (.aload_n 0, 1) := by decide +kernel
theorem dX8_toldTask_21 : decode cX8_toldTask 21 = .ok (.iload_n 1, 1) := by decide +kernel
theorem dX8_toldTask_22 : decode cX8_toldTask 22 = .ok (.iconst 0, 1) := by decide +kernel
theorem dX8_toldTask_23 : decode cX8_toldTask 23 = .ok (.invokevirtual 136, 3) := by decide +kernel
theorem dX8_toldTask_26 : decode cX8_toldTask 26 = .ok (.invokevirtual 139, 3) := by decide +kernel
theorem dX8_toldTask_29 : decode cX8_toldTask 29 = .ok (.goto 11, 3) := by decide +kernel
theorem dX8_toldTask_32 : decode cX8_toldTask 32 = .ok (.aload_n 0, 1) := by decide +kernel
theorem dX8_toldTask_33 : decode cX8_toldTask 33 = .ok (.iload_n 1, 1) := by decide +kernel
theorem dX8_toldTask_34 : decode cX8_toldTask 34 = .ok (.iload_n 2, 1) := by decide +kernel
theorem dX8_toldTask_35 : decode cX8_toldTask 35 = .ok (.iconst 1, 1) := by decide +kernel
theorem dX8_toldTask_36 : decode cX8_toldTask 36 = .ok (.isub, 1) := by decide +kernel
theorem dX8_toldTask_37 : decode cX8_toldTask 37 = .ok (.invokevirtual 136, 3) := by decide +kernel
theorem dX8_toldTask_40 : decode cX8_toldTask 40 = .ok (.ireturn, 1) := by decide +kernel
theorem dX8_taskIs_0 : decode cX8_taskIs 0 = .ok (.iload_n 1, 1) := by decide +kernel
theorem dX8_taskIs_1 : decode cX8_taskIs 1 = .ok (.i2l, 1) := by decide +kernel
theorem dX8_taskIs_2 : decode cX8_taskIs 2 = .ok (.lconst 0, 1) := by decide +kernel
theorem dX8_taskIs_3 : decode cX8_taskIs 3 = .ok (.ldc2_w 134, 3) := by decide +kernel
theorem dX8_taskIs_6 : decode cX8_taskIs 6 = .ok (.invokestatic 44, 3) := by decide +kernel
theorem dX8_taskIs_9 : decode cX8_taskIs 9 = .ok (.ifCond .eq 24, 3) := by decide +kernel
theorem dX8_taskIs_12 : decode cX8_taskIs 12 = .ok (.iload_n 2, 1) := by decide +kernel
theorem dX8_taskIs_13 : decode cX8_taskIs 13 = .ok (.i2l, 1) := by decide +kernel
theorem dX8_taskIs_14 : decode cX8_taskIs 14 = .ok (.lconst 0, 1) := by decide +kernel
theorem dX8_taskIs_15 : decode cX8_taskIs 15 = .ok (.ldc2_w 142, 3) := by decide +kernel
theorem dX8_taskIs_18 : decode cX8_taskIs 18 = .ok (.invokestatic 44, 3) := by decide +kernel
theorem dX8_taskIs_21 : decode cX8_taskIs 21 = .ok (.ifCond .eq 12, 3) := by decide +kernel
theorem dX8_taskIs_24 : decode cX8_taskIs 24 = .ok (.aload_n 0, 1) := by decide +kernel
theorem dX8_taskIs_25 : decode cX8_taskIs 25 = .ok (.iload_n 1, 1) := by decide +kernel
theorem dX8_taskIs_26 : decode cX8_taskIs 26 = .ok (.iload_n 2, 1) := by decide +kernel
theorem dX8_taskIs_27 : decode cX8_taskIs 27 = .ok (.invokevirtual 144, 3) := by decide +kernel
theorem dX8_taskIs_30 : decode cX8_taskIs 30 = .ok (.goto 9, 3) := by decide +kernel
theorem dX8_taskIs_33 : decode cX8_taskIs 33 = .ok (.aload_n 0, 1) := by decide +kernel
theorem dX8_taskIs_34 : decode cX8_taskIs 34 = .ok (.ldc 43, 2) := by decide +kernel
theorem dX8_taskIs_36 : decode cX8_taskIs 36 = .ok (.invokevirtual 84, 3) := by decide +kernel
theorem dX8_taskIs_39 : decode cX8_taskIs 39 = .ok (.ireturn, 1) := by decide +kernel
theorem dX8_feed_0 : decode cX8_feed 0 = .ok (.iload_n 3, 1) := by decide +kernel
theorem dX8_feed_1 : decode cX8_feed 1 = .ok (.i2l, 1) := by decide +kernel
theorem dX8_feed_2 : decode cX8_feed 2 = .ok (.lconst 1, 1) := by decide +kernel
theorem dX8_feed_3 : decode cX8_feed 3 = .ok (.ldc2_w 147, 3) := by decide +kernel
theorem dX8_feed_6 : decode cX8_feed 6 = .ok (.invokestatic 44, 3) := by decide +kernel
theorem dX8_feed_9 : decode cX8_feed 9 = .ok (.ifCond .ne 10, 3) := by decide +kernel
theorem dX8_feed_12 : decode cX8_feed 12 = .ok (.aload_n 0, 1) := by decide +kernel
theorem dX8_feed_13 : decode cX8_feed 13 = .ok (.ldc 43, 2) := by decide +kernel
theorem dX8_feed_15 : decode cX8_feed 15 = .ok (.invokevirtual 84, 3) := by decide +kernel
theorem dX8_feed_18 : decode cX8_feed 18 = .ok (.ireturn, 1) := by decide +kernel
theorem dX8_feed_19 : decode cX8_feed 19 = .ok (.aload_n 0, 1) := by decide +kernel
theorem dX8_feed_20 : decode cX8_feed 20 = .ok (.getfield 7, 3) := by decide +kernel
theorem dX8_feed_23 : decode cX8_feed 23 = .ok (.bipush 7, 2) := by decide +kernel
theorem dX8_feed_25 : decode cX8_feed 25 = .ok (.iaload, 1) := by decide +kernel
theorem dX8_feed_26 : decode cX8_feed 26 = .ok (.iload_n 3, 1) := by decide +kernel
theorem dX8_feed_27 : decode cX8_feed 27 = .ok (.iadd, 1) := by decide +kernel
theorem dX8_feed_28 : decode cX8_feed 28 = .ok (.bipush 60, 2) := by decide +kernel
theorem dX8_feed_30 : decode cX8_feed 30 = .ok (.if_icmp .le 10, 3) := by decide +kernel
theorem dX8_feed_33 : decode cX8_feed 33 = .ok (.aload_n 0, 1) := by decide +kernel
theorem dX8_feed_34 : decode cX8_feed 34 = .ok (.ldc 87, 2) := by decide +kernel
theorem dX8_feed_36 : decode cX8_feed 36 = .ok (.invokevirtual 84, 3) := by decide +kernel
theorem dX8_feed_39 : decode cX8_feed 39 = .ok (.ireturn, 1) := by decide +kernel
theorem dX8_feed_40 : decode cX8_feed 40 = .ok (.iconst 0, 1) := by decide +kernel
theorem dX8_feed_41 : decode cX8_feed 41 = .ok (.istore 4, 2) := by decide +kernel
theorem dX8_feed_43 : decode cX8_feed 43 = .ok (.iload 4, 2) := by decide +kernel
theorem dX8_feed_45 : decode cX8_feed 45 = .ok (.iload_n 3, 1) := by decide +kernel
theorem dX8_feed_46 : decode cX8_feed 46 = .ok (.if_icmp .ge 48, 3) := by decide +kernel
theorem dX8_feed_49 : decode cX8_feed 49 = .ok (.aload_n 0, 1) := by decide +kernel
theorem dX8_feed_50 : decode cX8_feed 50 = .ok (.getfield 7, 3) := by decide +kernel
theorem dX8_feed_53 : decode cX8_feed 53 = .ok (.sipush 153, 3) := by decide +kernel
theorem dX8_feed_56 : decode cX8_feed 56 = .ok (.aload_n 0, 1) := by decide +kernel
theorem dX8_feed_57 : decode cX8_feed 57 = .ok (.getfield 7, 3) := by decide +kernel
theorem dX8_feed_60 : decode cX8_feed 60 = .ok (.bipush 7, 2) := by decide +kernel
theorem dX8_feed_62 : decode cX8_feed 62 = .ok (.iaload, 1) := by decide +kernel
theorem dX8_feed_63 : decode cX8_feed 63 = .ok (.iadd, 1) := by decide +kernel
theorem dX8_feed_64 : decode cX8_feed 64 = .ok (.lload_n 1, 1) := by decide +kernel
theorem dX8_feed_65 : decode cX8_feed 65 = .ok (.bipush 8, 2) := by decide +kernel
theorem dX8_feed_67 : decode cX8_feed 67 = .ok (.iload 4, 2) := by decide +kernel
theorem dX8_feed_69 : decode cX8_feed 69 = .ok (.imul, 1) := by decide +kernel
theorem dX8_feed_70 : decode cX8_feed 70 = .ok (.lshr, 1) := by decide +kernel
theorem dX8_feed_71 : decode cX8_feed 71 = .ok (.ldc2_w 149, 3) := by decide +kernel
theorem dX8_feed_74 : decode cX8_feed 74 = .ok (.land, 1) := by decide +kernel
theorem dX8_feed_75 : decode cX8_feed 75 = .ok (.l2i, 1) := by decide +kernel
theorem dX8_feed_76 : decode cX8_feed 76 = .ok (.iastore, 1) := by decide +kernel
theorem dX8_feed_77 : decode cX8_feed 77 = .ok (.aload_n 0, 1) := by decide +kernel
theorem dX8_feed_78 : decode cX8_feed 78 = .ok (.getfield 7, 3) := by decide +kernel
theorem dX8_feed_81 : decode cX8_feed 81 = .ok (.bipush 7, 2) := by decide +kernel
theorem dX8_feed_83 : decode cX8_feed 83 = .ok (.dup2, 1) := by decide +kernel
theorem dX8_feed_84 : decode cX8_feed 84 = .ok (.iaload, 1) := by decide +kernel
theorem dX8_feed_85 : decode cX8_feed 85 = .ok (.iconst 1, 1) := by decide +kernel
theorem dX8_feed_86 : decode cX8_feed 86 = .ok (.iadd, 1) := by decide +kernel
theorem dX8_feed_87 : decode cX8_feed 87 = .ok (.iastore, 1) := by decide +kernel
theorem dX8_feed_88 : decode cX8_feed 88 = .ok (.iinc 4 1, 3) := by decide +kernel
theorem dX8_feed_91 : decode cX8_feed 91 = .ok (.goto (-48), 3) := by decide +kernel
theorem dX8_feed_94 : decode cX8_feed 94 = .ok (.aload_n 0, 1) := by decide +kernel
theorem dX8_feed_95 : decode cX8_feed 95 = .ok (.getfield 7, 3) := by decide +kernel
theorem dX8_feed_98 : decode cX8_feed 98 = .ok (.bipush 7, 2) := by decide +kernel
theorem dX8_feed_100 : decode cX8_feed 100 = .ok (.iaload, 1) := by decide +kernel
theorem dX8_feed_101 : decode cX8_feed 101 = .ok (.ireturn, 1) := by decide +kernel
theorem dX8_byteHere_0 : decode cX8_byteHere 0 = .ok (.aload_n 0, 1) := by decide +kernel
theorem dX8_byteHere_1 : decode cX8_byteHere 1 = .ok (.getfield 151, 3) := by decide +kernel
theorem dX8_byteHere_4 : decode cX8_byteHere 4 = .ok (.aload_n 0, 1) := by decide +kernel
theorem dX8_byteHere_5 : decode cX8_byteHere 5 = .ok (.getfield 7, 3) := by decide +kernel
theorem dX8_byteHere_8 : decode cX8_byteHere 8 = .ok (.bipush 7, 2) := by decide +kernel
theorem dX8_byteHere_10 : decode cX8_byteHere 10 = .ok (.iaload, 1) := by decide +kernel
theorem dX8_byteHere_11 : decode cX8_byteHere 11 = .ok (.if_icmp .ge 19, 3) := by decide +kernel
theorem dX8_byteHere_14 : decode cX8_byteHere 14 = .ok (.aload_n 0, 1) := by decide +kernel
theorem dX8_byteHere_15 : decode cX8_byteHere 15 = .ok (.getfield 7, 3) := by decide +kernel
theorem dX8_byteHere_18 : decode cX8_byteHere 18 = .ok (.sipush 153, 3) := by decide +kernel
theorem dX8_byteHere_21 : decode cX8_byteHere 21 = .ok (.aload_n 0, 1) := by decide +kernel
theorem dX8_byteHere_22 : decode cX8_byteHere 22 = .ok (.getfield 151, 3) := by decide +kernel
theorem dX8_byteHere_25 : decode cX8_byteHere 25 = .ok (.iadd, 1) := by decide +kernel
theorem dX8_byteHere_26 : decode cX8_byteHere 26 = .ok (.iaload, 1) := by decide +kernel
theorem dX8_byteHere_27 : decode cX8_byteHere 27 = .ok (.goto 4, 3) := by decide +kernel
theorem dX8_byteHere_30 : decode cX8_byteHere 30 = .ok (.iconst (-1), 1) := by decide +kernel
theorem dX8_byteHere_31 : decode cX8_byteHere 31 = .ok (.ireturn, 1) := by decide +kernel
theorem dX8_isHere_0 : decode cX8_isHere 0 = .ok (.aload_n 0, 1) := by decide +kernel
theorem dX8_isHere_1 : decode cX8_isHere 1 = .ok (.getfield 155, 3) := by decide +kernel
theorem dX8_isHere_4 : decode cX8_isHere 4 = .ok (.ifCond .ne 15, 3) := by decide +kernel
theorem dX8_isHere_7 : decode cX8_isHere 7 = .ok (.aload_n 0, 1) := by decide +kernel
theorem dX8_isHere_8 : decode cX8_isHere 8 = .ok (.invokevirtual 159, 3) := by decide +kernel
theorem dX8_isHere_11 : decode cX8_isHere 11 = .ok (.iload_n 1, 1) := by decide +kernel
theorem dX8_isHere_12 : decode cX8_isHere 12 = .ok (.if_icmp .ne 7, 3) := by decide +kernel
theorem dX8_isHere_15 : decode cX8_isHere 15 = .ok (.iconst 1, 1) := by decide +kernel
theorem dX8_isHere_16 : decode cX8_isHere 16 = .ok (.goto 4, 3) := by decide +kernel
theorem dX8_isHere_19 : decode cX8_isHere 19 = .ok (.iconst 0, 1) := by decide +kernel
theorem dX8_isHere_20 : decode cX8_isHere 20 = .ok (.ireturn, 1) := by decide +kernel
theorem dX8_isDigitHere_0 : decode cX8_isDigitHere 0 = .ok (.aload_n 0, 1) := by decide +kernel
theorem dX8_isDigitHere_1 : decode cX8_isDigitHere 1 = .ok (.getfield 155, 3) := by decide +kernel
theorem dX8_isDigitHere_4 : decode cX8_isDigitHere 4 = .ok (.ifCond .ne 24, 3) := by decide +kernel
theorem dX8_isDigitHere_7 : decode cX8_isDigitHere 7 = .ok (.aload_n 0, 1) := by decide +kernel
theorem dX8_isDigitHere_8 : decode cX8_isDigitHere 8 = .ok (.invokevirtual 159, 3) := by decide +kernel
theorem dX8_isDigitHere_11 : decode cX8_isDigitHere 11 = .ok (.i2l, 1) := by decide +kernel
theorem dX8_isDigitHere_12 : decode cX8_isDigitHere 12 = .ok (.ldc2_w 163, 3) := by decide +kernel
theorem dX8_isDigitHere_15 : decode cX8_isDigitHere 15 = .ok (.ldc2_w 165, 3) := by decide +kernel
theorem dX8_isDigitHere_18 : decode cX8_isDigitHere 18 = .ok (.invokestatic 44, 3) := by decide +kernel
theorem dX8_isDigitHere_21 : decode cX8_isDigitHere 21 = .ok (.ifCond .eq 7, 3) := by decide +kernel
theorem dX8_isDigitHere_24 : decode cX8_isDigitHere 24 = .ok (.iconst 1, 1) := by decide +kernel
theorem dX8_isDigitHere_25 : decode cX8_isDigitHere 25 = .ok (.goto 4, 3) := by decide +kernel
theorem dX8_isDigitHere_28 : decode cX8_isDigitHere 28 = .ok (.iconst 0, 1) := by decide +kernel
theorem dX8_isDigitHere_29 : decode cX8_isDigitHere 29 = .ok (.ireturn, 1) := by decide +kernel
theorem dX8_writes_0 : decode cX8_writes 0 = .ok (.aload_n 0, 1) := by decide +kernel
theorem dX8_writes_1 : decode cX8_writes 1 = .ok (.getfield 155, 3) := by decide +kernel
theorem dX8_writes_4 : decode cX8_writes 4 = .ok (.ifCond .ne 23, 3) := by decide +kernel
theorem dX8_writes_7 : decode cX8_writes 7 = .ok (.aload_n 0, 1) := by decide +kernel
theorem dX8_writes_8 : decode cX8_writes 8 = .ok (.getfield 25, 3) := by decide +kernel
theorem dX8_writes_11 : decode cX8_writes 11 = .ok (.aload_n 0, 1) := by decide +kernel
theorem dX8_writes_12 : decode cX8_writes 12 = .ok (.getfield 167, 3) := by decide +kernel
theorem dX8_writes_15 : decode cX8_writes 15 = .ok (.iload_n 1, 1) := by decide +kernel
theorem dX8_writes_16 : decode cX8_writes 16 = .ok (.iastore, 1) := by decide +kernel
theorem dX8_writes_17 : decode cX8_writes 17 = .ok (.aload_n 0, 1) := by decide +kernel
theorem dX8_writes_18 : decode cX8_writes 18 = .ok (.dup, 1) := by decide +kernel
theorem dX8_writes_19 : decode cX8_writes 19 = .ok (.getfield 167, 3) := by decide +kernel
theorem dX8_writes_22 : decode cX8_writes 22 = .ok (.iconst 1, 1) := by decide +kernel
theorem dX8_writes_23 : decode cX8_writes 23 = .ok (.iadd, 1) := by decide +kernel
theorem dX8_writes_24 : decode cX8_writes 24 = .ok (.putfield 167, 3) := by decide +kernel
theorem dX8_writes_27 : decode cX8_writes 27 = .ok (.return_, 1) := by decide +kernel
theorem dX8_nameHere_0 : decode cX8_nameHere 0 = .ok (.aload_n 0, 1) := by decide +kernel
theorem dX8_nameHere_1 : decode cX8_nameHere 1 = .ok (.invokevirtual 159, 3) := by decide +kernel
theorem dX8_nameHere_4 : decode cX8_nameHere 4 = .ok (.istore_n 1, 1) := by decide +kernel
theorem dX8_nameHere_5 : decode cX8_nameHere 5 = .ok (.aload_n 0, 1) := by decide +kernel
theorem dX8_nameHere_6 : decode cX8_nameHere 6 = .ok (.getfield 170, 3) := by decide +kernel
theorem dX8_nameHere_9 : decode cX8_nameHere 9 = .ok (.ifCond .ne 37, 3) := by decide +kernel
theorem dX8_nameHere_12 : decode cX8_nameHere 12 = .ok (.iload_n 1, 1) := by decide +kernel
theorem dX8_nameHere_13 : decode cX8_nameHere 13 = .ok (.bipush 107, 2) := by decide +kernel
theorem dX8_nameHere_15 : decode cX8_nameHere 15 = .ok (.if_icmp .ne 7, 3) := by decide +kernel
theorem dX8_nameHere_18 : decode cX8_nameHere 18 = .ok (.iconst (-1), 1) := by decide +kernel
theorem dX8_nameHere_19 : decode cX8_nameHere 19 = .ok (.goto 26, 3) := by decide +kernel
theorem dX8_nameHere_22 : decode cX8_nameHere 22 = .ok (.iload_n 1, 1) := by decide +kernel
theorem dX8_nameHere_23 : decode cX8_nameHere 23 = .ok (.bipush 104, 2) := by decide +kernel
theorem dX8_nameHere_25 : decode cX8_nameHere 25 = .ok (.if_icmp .ne 8, 3) := by decide +kernel
theorem dX8_nameHere_28 : decode cX8_nameHere 28 = .ok (.bipush (-2), 2) := by decide +kernel
theorem dX8_nameHere_30 : decode cX8_nameHere 30 = .ok (.goto 15, 3) := by decide +kernel
theorem dX8_nameHere_33 : decode cX8_nameHere 33 = .ok (.iload_n 1, 1) := by decide +kernel
theorem dX8_nameHere_34 : decode cX8_nameHere 34 = .ok (.bipush 109, 2) := by decide +kernel
theorem dX8_nameHere_36 : decode cX8_nameHere 36 = .ok (.if_icmp .ne 8, 3) := by decide +kernel
theorem dX8_nameHere_39 : decode cX8_nameHere 39 = .ok (.bipush (-3), 2) := by decide +kernel
theorem dX8_nameHere_41 : decode cX8_nameHere 41 = .ok (.goto 4, 3) := by decide +kernel
theorem dX8_nameHere_44 : decode cX8_nameHere 44 = .ok (.iconst 0, 1) := by decide +kernel
theorem dX8_nameHere_45 : decode cX8_nameHere 45 = .ok (.ireturn, 1) := by decide +kernel
theorem dX8_nameHere_46 : decode cX8_nameHere 46 = .ok (.iload_n 1, 1) := by decide +kernel
theorem dX8_nameHere_47 : decode cX8_nameHere 47 = .ok (.bipush 107, 2) := by decide +kernel
theorem dX8_nameHere_49 : decode cX8_nameHere 49 = .ok (.if_icmp .ne 7, 3) := by decide +kernel
theorem dX8_nameHere_52 : decode cX8_nameHere 52 = .ok (.iconst (-1), 1) := by decide +kernel
theorem dX8_nameHere_53 : decode cX8_nameHere 53 = .ok (.goto 26, 3) := by decide +kernel
theorem dX8_nameHere_56 : decode cX8_nameHere 56 = .ok (.iload_n 1, 1) := by decide +kernel
theorem dX8_nameHere_57 : decode cX8_nameHere 57 = .ok (.bipush 104, 2) := by decide +kernel
theorem dX8_nameHere_59 : decode cX8_nameHere 59 = .ok (.if_icmp .ne 8, 3) := by decide +kernel
theorem dX8_nameHere_62 : decode cX8_nameHere 62 = .ok (.bipush (-2), 2) := by decide +kernel
theorem dX8_nameHere_64 : decode cX8_nameHere 64 = .ok (.goto 15, 3) := by decide +kernel
theorem dX8_nameHere_67 : decode cX8_nameHere 67 = .ok (.iload_n 1, 1) := by decide +kernel
theorem dX8_nameHere_68 : decode cX8_nameHere 68 = .ok (.bipush 100, 2) := by decide +kernel
theorem dX8_nameHere_70 : decode cX8_nameHere 70 = .ok (.if_icmp .ne 8, 3) := by decide +kernel
theorem dX8_nameHere_73 : decode cX8_nameHere 73 = .ok (.bipush (-4), 2) := by decide +kernel
theorem dX8_nameHere_75 : decode cX8_nameHere 75 = .ok (.goto 4, 3) := by decide +kernel
theorem dX8_nameHere_78 : decode cX8_nameHere 78 = .ok (.iconst 0, 1) := by decide +kernel
theorem dX8_nameHere_79 : decode cX8_nameHere 79 = .ok (.ireturn, 1) := by decide +kernel
theorem dX8_readsNumber_0 : decode cX8_readsNumber 0 = .ok (.iconst 0, 1) := by decide +kernel
theorem dX8_readsNumber_1 : decode cX8_readsNumber 1 = .ok (.istore_n 1, 1) := by decide +kernel
theorem dX8_readsNumber_2 : decode cX8_readsNumber 2 = .ok (.iconst 0, 1) := by decide +kernel
theorem dX8_readsNumber_3 : decode cX8_readsNumber 3 = .ok (.istore_n 2, 1) := by decide +kernel
theorem dX8_readsNumber_4 : decode cX8_readsNumber 4 = .ok (.aload_n 0, 1) := by decide +kernel
theorem dX8_readsNumber_5 : decode cX8_readsNumber 5 = .ok (.invokevirtual 173, 3) := by decide +kernel
theorem dX8_readsNumber_8 : decode cX8_readsNumber 8 = .ok (.ifCond .eq 37, 3) := by decide +kernel
theorem dX8_readsNumber_11 : decode cX8_readsNumber 11 = .ok (.iload_n 2, 1) := by decide +kernel
theorem dX8_readsNumber_12 : decode cX8_readsNumber 12 = .ok (.iconst 4, 1) := by decide +kernel
theorem dX8_readsNumber_13 : decode cX8_readsNumber 13 = .ok (.if_icmp .ge 32, 3) := by decide +kernel
theorem dX8_readsNumber_16 : decode cX8_readsNumber 16 = .ok (.bipush 10, 2) := by decide +kernel
theorem dX8_readsNumber_18 : decode cX8_readsNumber 18 = .ok (.iload_n 1, 1) := by decide +kernel
theorem dX8_readsNumber_19 : decode cX8_readsNumber 19 = .ok (.imul, 1) := by decide +kernel
theorem dX8_readsNumber_20 : decode cX8_readsNumber 20 = .ok (.aload_n 0, 1) := by decide +kernel
theorem dX8_readsNumber_21 : decode cX8_readsNumber 21 = .ok (.invokevirtual 159, 3) := by decide +kernel
theorem dX8_readsNumber_24 : decode cX8_readsNumber 24 = .ok (.iadd, 1) := by decide +kernel
theorem dX8_readsNumber_25 : decode cX8_readsNumber 25 = .ok (.bipush 48, 2) := by decide +kernel
theorem dX8_readsNumber_27 : decode cX8_readsNumber 27 = .ok (.isub, 1) := by decide +kernel
theorem dX8_readsNumber_28 : decode cX8_readsNumber 28 = .ok (.istore_n 1, 1) := by decide +kernel
theorem dX8_readsNumber_29 : decode cX8_readsNumber 29 = .ok (.iinc 2 1, 3) := by decide +kernel
theorem dX8_readsNumber_32 : decode cX8_readsNumber 32 = .ok (.aload_n 0, 1) := by decide +kernel
theorem dX8_readsNumber_33 : decode cX8_readsNumber 33 = .ok (.dup, 1) := by decide +kernel
theorem dX8_readsNumber_34 : decode cX8_readsNumber 34 = .ok (.getfield 151, 3) := by decide +kernel
theorem dX8_readsNumber_37 : decode cX8_readsNumber 37 = .ok (.iconst 1, 1) := by decide +kernel
theorem dX8_readsNumber_38 : decode cX8_readsNumber 38 = .ok (.iadd, 1) := by decide +kernel
theorem dX8_readsNumber_39 : decode cX8_readsNumber 39 = .ok (.putfield 151, 3) := by decide +kernel
theorem dX8_readsNumber_42 : decode cX8_readsNumber 42 = .ok (.goto (-38), 3) := by decide +kernel
theorem dX8_readsNumber_45 : decode cX8_readsNumber 45 = .ok (.aload_n 0, 1) := by decide +kernel
theorem dX8_readsNumber_46 : decode cX8_readsNumber 46 = .ok (.aload_n 0, 1) := by decide +kernel
theorem dX8_readsNumber_47 : decode cX8_readsNumber 47 = .ok (.invokevirtual 173, 3) := by decide +kernel
theorem dX8_readsNumber_50 : decode cX8_readsNumber 50 = .ok (.putfield 155, 3) := by decide +kernel
theorem dX8_readsNumber_53 : decode cX8_readsNumber 53 = .ok (.aload_n 0, 1) := by decide +kernel
theorem dX8_readsNumber_54 : decode cX8_readsNumber 54 = .ok (.iload_n 1, 1) := by decide +kernel
theorem dX8_readsNumber_55 : decode cX8_readsNumber 55 = .ok (.invokevirtual 177, 3) := by decide +kernel
theorem dX8_readsNumber_58 : decode cX8_readsNumber 58 = .ok (.return_, 1) := by decide +kernel
theorem dX8_readsOne_0 : decode cX8_readsOne 0 = .ok (.aload_n 0, 1) := by decide +kernel
theorem dX8_readsOne_1 : decode cX8_readsOne 1 = .ok (.getfield 155, 3) := by decide +kernel
theorem dX8_readsOne_4 : decode cX8_readsOne 4 = .ok (.ifCond .eq 7, 3) := by decide +kernel
theorem dX8_readsOne_7 : decode cX8_readsOne 7 = .ok (.iconst 0, 1) := by decide +kernel
theorem dX8_readsOne_8 : decode cX8_readsOne 8 = .ok (.goto 7, 3) := by decide +kernel
theorem dX8_readsOne_11 : decode cX8_readsOne 11 = .ok (.aload_n 0, 1) := by decide +kernel
theorem dX8_readsOne_12 : decode cX8_readsOne 12 = .ok (.invokevirtual 181, 3) := by decide +kernel
theorem dX8_readsOne_15 : decode cX8_readsOne 15 = .ok (.istore_n 1, 1) := by decide +kernel
theorem dX8_readsOne_16 : decode cX8_readsOne 16 = .ok (.aload_n 0, 1) := by decide +kernel
theorem dX8_readsOne_17 : decode cX8_readsOne 17 = .ok (.invokevirtual 173, 3) := by decide +kernel
theorem dX8_readsOne_20 : decode cX8_readsOne 20 = .ok (.ifCond .eq 10, 3) := by decide +kernel
theorem dX8_readsOne_23 : decode cX8_readsOne 23 = .ok (.aload_n 0, 1) := by decide +kernel
theorem dX8_readsOne_24 : decode cX8_readsOne 24 = .ok (.invokevirtual 184, 3) := by decide +kernel
theorem dX8_readsOne_27 : decode cX8_readsOne 27 = .ok (.goto 163, 3) := by decide +kernel
theorem dX8_readsOne_30 : decode cX8_readsOne 30 = .ok (.iload_n 1, 1) := by decide +kernel
theorem dX8_readsOne_31 : decode cX8_readsOne 31 = .ok (.ifCond .ge 21, 3) := by decide +kernel
theorem dX8_readsOne_34 : decode cX8_readsOne 34 = .ok (.aload_n 0, 1) := by decide +kernel
theorem dX8_readsOne_35 : decode cX8_readsOne 35 = .ok (.dup, 1) := by decide +kernel
theorem dX8_readsOne_36 : decode cX8_readsOne 36 = .ok (.getfield 151, 3) := by decide +kernel
theorem dX8_readsOne_39 : decode cX8_readsOne 39 = .ok (.iconst 1, 1) := by decide +kernel
theorem dX8_readsOne_40 : decode cX8_readsOne 40 = .ok (.iadd, 1) := by decide +kernel
theorem dX8_readsOne_41 : decode cX8_readsOne 41 = .ok (.putfield 151, 3) := by decide +kernel
theorem dX8_readsOne_44 : decode cX8_readsOne 44 = .ok (.aload_n 0, 1) := by decide +kernel
theorem dX8_readsOne_45 : decode cX8_readsOne 45 = .ok (.iload_n 1, 1) := by decide +kernel
theorem dX8_readsOne_46 : decode cX8_readsOne 46 = .ok (.invokevirtual 177, 3) := by decide +kernel
theorem dX8_readsOne_49 : decode cX8_readsOne 49 = .ok (.goto 141, 3) := by decide +kernel
theorem dX8_readsOne_52 : decode cX8_readsOne 52 = .ok (.aload_n 0, 1) := by decide +kernel
theorem dX8_readsOne_53 : decode cX8_readsOne 53 = .ok (.bipush 33, 2) := by decide +kernel
theorem dX8_readsOne_55 : decode cX8_readsOne 55 = .ok (.invokevirtual 187, 3) := by decide +kernel
theorem dX8_readsOne_58 : decode cX8_readsOne 58 = .ok (.ifCond .ne 12, 3) := by decide +kernel
theorem dX8_readsOne_61 : decode cX8_readsOne 61 = .ok (.aload_n 0, 1) := by decide +kernel
theorem dX8_readsOne_62 : decode cX8_readsOne 62 = .ok (.bipush 40, 2) := by decide +kernel
theorem dX8_readsOne_64 : decode cX8_readsOne 64 = .ok (.invokevirtual 187, 3) := by decide +kernel
theorem dX8_readsOne_67 : decode cX8_readsOne 67 = .ok (.ifCond .eq 118, 3) := by decide +kernel
theorem dX8_readsOne_70 : decode cX8_readsOne 70 = .ok (.aload_n 0, 1) := by decide +kernel
theorem dX8_readsOne_71 : decode cX8_readsOne 71 = .ok (.getfield 190, 3) := by decide +kernel
theorem dX8_readsOne_74 : decode cX8_readsOne 74 = .ok (.iconst 5, 1) := by decide +kernel
theorem dX8_readsOne_75 : decode cX8_readsOne 75 = .ok (.if_icmp .ge 110, 3) := by decide +kernel
theorem dX8_readsOne_78 : decode cX8_readsOne 78 = .ok (.aload_n 0, 1) := by decide +kernel
theorem dX8_readsOne_79 : decode cX8_readsOne 79 = .ok (.bipush 33, 2) := by decide +kernel
theorem dX8_readsOne_81 : decode cX8_readsOne 81 = .ok (.invokevirtual 187, 3) := by decide +kernel
theorem dX8_readsOne_84 : decode cX8_readsOne 84 = .ok (.istore_n 2, 1) := by decide +kernel
theorem dX8_readsOne_85 : decode cX8_readsOne 85 = .ok (.aload_n 0, 1) := by decide +kernel
theorem dX8_readsOne_86 : decode cX8_readsOne 86 = .ok (.dup, 1) := by decide +kernel
theorem dX8_readsOne_87 : decode cX8_readsOne 87 = .ok (.getfield 151, 3) := by decide +kernel
theorem dX8_readsOne_90 : decode cX8_readsOne 90 = .ok (.iconst 1, 1) := by decide +kernel
theorem dX8_readsOne_91 : decode cX8_readsOne 91 = .ok (.iadd, 1) := by decide +kernel
theorem dX8_readsOne_92 : decode cX8_readsOne 92 = .ok (.putfield 151, 3) := by decide +kernel
theorem dX8_readsOne_95 : decode cX8_readsOne 95 = .ok (.aload_n 0, 1) := by decide +kernel
theorem dX8_readsOne_96 : decode cX8_readsOne 96 = .ok (.dup, 1) := by decide +kernel
theorem dX8_readsOne_97 : decode cX8_readsOne 97 = .ok (.getfield 190, 3) := by decide +kernel
theorem dX8_readsOne_100 : decode cX8_readsOne 100 = .ok (.iconst 1, 1) := by decide +kernel
theorem dX8_readsOne_101 : decode cX8_readsOne 101 = .ok (.iadd, 1) := by decide +kernel
theorem dX8_readsOne_102 : decode cX8_readsOne 102 = .ok (.putfield 190, 3) := by decide +kernel
theorem dX8_readsOne_105 : decode cX8_readsOne 105 = .ok (.iload_n 2, 1) := by decide +kernel
theorem dX8_readsOne_106 : decode cX8_readsOne 106 = .ok (.ifCond .eq 16, 3) := by decide +kernel
theorem dX8_readsOne_109 : decode cX8_readsOne 109 = .ok (.aload_n 0, 1) := by decide +kernel
theorem dX8_readsOne_110 : decode cX8_readsOne 110 = .ok (.invokevirtual 193, 3) := by decide +kernel
theorem dX8_readsOne_113 : decode cX8_readsOne 113 = .ok (.aload_n 0, 1) := by decide +kernel
theorem dX8_readsOne_114 : decode cX8_readsOne 114 = .ok (.bipush (-21), 2) := by decide +kernel
theorem dX8_readsOne_116 : decode cX8_readsOne 116 = .ok (.invokevirtual 177, 3) := by decide +kernel
theorem dX8_readsOne_119 : decode cX8_readsOne 119 = .ok (.goto 53, 3) := by decide +kernel
theorem dX8_readsOne_122 : decode cX8_readsOne 122 = .ok (.aload_n 0, 1) := by decide +kernel
theorem dX8_readsOne_123 : decode cX8_readsOne 123 = .ok (.invokevirtual 196, 3) := by decide +kernel
theorem dX8_readsOne_126 : decode cX8_readsOne 126 = .ok (.aload_n 0, 1) := by decide +kernel
theorem dX8_readsOne_127 : decode cX8_readsOne 127 = .ok (.aload_n 0, 1) := by decide +kernel
theorem dX8_readsOne_128 : decode cX8_readsOne 128 = .ok (.getfield 155, 3) := by decide +kernel
theorem dX8_readsOne_131 : decode cX8_readsOne 131 = .ok (.ifCond .ne 12, 3) := by decide +kernel
theorem dX8_readsOne_134 : decode cX8_readsOne 134 = .ok (.aload_n 0, 1) := by decide +kernel
theorem dX8_readsOne_135 : decode cX8_readsOne 135 = .ok (.bipush 41, 2) := by decide +kernel
theorem dX8_readsOne_137 : decode cX8_readsOne 137 = .ok (.invokevirtual 187, 3) := by decide +kernel
theorem dX8_readsOne_140 : decode cX8_readsOne 140 = .ok (.ifCond .ne 7, 3) := by decide +kernel
theorem dX8_readsOne_143 : decode cX8_readsOne 143 = .ok (.iconst 1, 1) := by decide +kernel
theorem dX8_readsOne_144 : decode cX8_readsOne 144 = .ok (.goto 4, 3) := by decide +kernel
theorem dX8_readsOne_147 : decode cX8_readsOne 147 = .ok (.iconst 0, 1) := by decide +kernel
theorem dX8_readsOne_148 : decode cX8_readsOne 148 = .ok (.putfield 155, 3) := by decide +kernel
theorem dX8_readsOne_151 : decode cX8_readsOne 151 = .ok (.aload_n 0, 1) := by decide +kernel
theorem dX8_readsOne_152 : decode cX8_readsOne 152 = .ok (.dup, 1) := by decide +kernel
theorem dX8_readsOne_153 : decode cX8_readsOne 153 = .ok (.getfield 151, 3) := by decide +kernel
theorem dX8_readsOne_156 : decode cX8_readsOne 156 = .ok (.aload_n 0, 1) := by decide +kernel
theorem dX8_readsOne_157 : decode cX8_readsOne 157 = .ok (.getfield 155, 3) := by decide +kernel
theorem dX8_readsOne_160 : decode cX8_readsOne 160 = .ok (.ifCond .eq 7, 3) := by decide +kernel
theorem dX8_readsOne_163 : decode cX8_readsOne 163 = .ok (.iconst 0, 1) := by decide +kernel
theorem dX8_readsOne_164 : decode cX8_readsOne 164 = .ok (.goto 4, 3) := by decide +kernel
theorem dX8_readsOne_167 : decode cX8_readsOne 167 = .ok (.iconst 1, 1) := by decide +kernel
theorem dX8_readsOne_168 : decode cX8_readsOne 168 = .ok (.iadd, 1) := by decide +kernel
theorem dX8_readsOne_169 : decode cX8_readsOne 169 = .ok (.putfield 151, 3) := by decide +kernel
theorem dX8_readsOne_172 : decode cX8_readsOne 172 = .ok (.aload_n 0, 1) := by decide +kernel
theorem dX8_readsOne_173 : decode cX8_readsOne 173 = .ok (.dup, 1) := by decide +kernel
theorem dX8_readsOne_174 : decode cX8_readsOne 174 = .ok (.getfield 190, 3) := by decide +kernel
theorem dX8_readsOne_177 : decode cX8_readsOne 177 = .ok (.iconst 1, 1) := by decide +kernel
theorem dX8_readsOne_178 : decode cX8_readsOne 178 = .ok (.isub, 1) := by decide +kernel
theorem dX8_readsOne_179 : decode cX8_readsOne 179 = .ok (.putfield 190, 3) := by decide +kernel
theorem dX8_readsOne_182 : decode cX8_readsOne 182 = .ok (.goto 8, 3) := by decide +kernel
theorem dX8_readsOne_185 : decode cX8_readsOne 185 = .ok (.aload_n 0, 1) := by decide +kernel
theorem dX8_readsOne_186 : decode cX8_readsOne 186 = .ok (.iconst 1, 1) := by decide +kernel
theorem dX8_readsOne_187 : decode cX8_readsOne 187 = .ok (.putfield 155, 3) := by decide +kernel
theorem dX8_readsOne_190 : decode cX8_readsOne 190 = .ok (.return_, 1) := by decide +kernel
theorem dX8_readsProduct_0 : decode cX8_readsProduct 0 = .ok (.aload_n 0, 1) := by decide +kernel
theorem dX8_readsProduct_1 : decode cX8_readsProduct 1 = .ok (.invokevirtual 193, 3) := by decide +kernel
theorem dX8_readsProduct_4 : decode cX8_readsProduct 4 = .ok (.aload_n 0, 1) := by decide +kernel
theorem dX8_readsProduct_5 : decode cX8_readsProduct 5 = .ok (.bipush 42, 2) := by decide +kernel
theorem dX8_readsProduct_7 : decode cX8_readsProduct 7 = .ok (.invokevirtual 187, 3) := by decide +kernel
theorem dX8_readsProduct_10 : decode cX8_readsProduct 10 = .ok (.ifCond .ne 21, 3) := by decide +kernel
theorem dX8_readsProduct_13 : decode cX8_readsProduct 13 = .ok (.aload_n 0, 1) := by decide +kernel
theorem dX8_readsProduct_14 : decode cX8_readsProduct 14 = .ok (.bipush 47, 2) := by decide +kernel
theorem dX8_readsProduct_16 : decode cX8_readsProduct 16 = .ok (.invokevirtual 187, 3) := by decide +kernel
theorem dX8_readsProduct_19 : decode cX8_readsProduct 19 = .ok (.ifCond .ne 12, 3) := by decide +kernel
theorem dX8_readsProduct_22 : decode cX8_readsProduct 22 = .ok (.aload_n 0, 1) := by decide +kernel
theorem dX8_readsProduct_23 : decode cX8_readsProduct 23 = .ok (.bipush 37, 2) := by decide +kernel
theorem dX8_readsProduct_25 : decode cX8_readsProduct 25 = .ok (.invokevirtual 187, 3) := by decide +kernel
theorem dX8_readsProduct_28 : decode cX8_readsProduct 28 = .ok (.ifCond .eq 56, 3) := by decide +kernel
theorem dX8_readsProduct_31 : decode cX8_readsProduct 31 = .ok (.aload_n 0, 1) := by decide +kernel
theorem dX8_readsProduct_32 : decode cX8_readsProduct 32 = .ok (.bipush 42, 2) := by decide +kernel
theorem dX8_readsProduct_34 : decode cX8_readsProduct 34 = .ok (.invokevirtual 187, 3) := by decide +kernel
theorem dX8_readsProduct_37 : decode cX8_readsProduct 37 = .ok (.ifCond .eq 8, 3) := by decide +kernel
theorem dX8_readsProduct_40 : decode cX8_readsProduct 40 = .ok (.bipush (-18), 2) := by decide +kernel
theorem dX8_readsProduct_42 : decode cX8_readsProduct 42 = .ok (.goto 19, 3) := by decide +kernel
theorem dX8_readsProduct_45 : decode cX8_readsProduct 45 = .ok (.aload_n 0, 1) := by decide +kernel
theorem dX8_readsProduct_46 : decode cX8_readsProduct 46 = .ok (.bipush 47, 2) := by decide +kernel
theorem dX8_readsProduct_48 : decode cX8_readsProduct 48 = .ok (.invokevirtual 187, 3) := by decide +kernel
theorem dX8_readsProduct_51 : decode cX8_readsProduct 51 = .ok (.ifCond .eq 8, 3) := by decide +kernel
theorem dX8_readsProduct_54 : decode cX8_readsProduct 54 = .ok (.bipush (-19), 2) := by decide +kernel
theorem dX8_readsProduct_56 : decode cX8_readsProduct 56 = .ok (.goto 5, 3) := by decide +kernel
theorem dX8_readsProduct_59 : decode cX8_readsProduct 59 = .ok (.bipush (-20), 2) := by decide +kernel
theorem dX8_readsProduct_61 : decode cX8_readsProduct 61 = .ok (.istore_n 1, 1) := by decide +kernel
theorem dX8_readsProduct_62 : decode cX8_readsProduct 62 = .ok (.aload_n 0, 1) := by decide +kernel
theorem dX8_readsProduct_63 : decode cX8_readsProduct 63 = .ok (.dup, 1) := by decide +kernel
theorem dX8_readsProduct_64 : decode cX8_readsProduct 64 = .ok (.getfield 151, 3) := by decide +kernel
theorem dX8_readsProduct_67 : decode cX8_readsProduct 67 = .ok (.iconst 1, 1) := by decide +kernel
theorem dX8_readsProduct_68 : decode cX8_readsProduct 68 = .ok (.iadd, 1) := by decide +kernel
theorem dX8_readsProduct_69 : decode cX8_readsProduct 69 = .ok (.putfield 151, 3) := by decide +kernel
theorem dX8_readsProduct_72 : decode cX8_readsProduct 72 = .ok (.aload_n 0, 1) := by decide +kernel
theorem dX8_readsProduct_73 : decode cX8_readsProduct 73 = .ok (.invokevirtual 193, 3) := by decide +kernel
theorem dX8_readsProduct_76 : decode cX8_readsProduct 76 = .ok (.aload_n 0, 1) := by decide +kernel
theorem dX8_readsProduct_77 : decode cX8_readsProduct 77 = .ok (.iload_n 1, 1) := by decide +kernel
theorem dX8_readsProduct_78 : decode cX8_readsProduct 78 = .ok (.invokevirtual 177, 3) := by decide +kernel
theorem dX8_readsProduct_81 : decode cX8_readsProduct 81 = .ok (.goto (-77), 3) := by decide +kernel
theorem dX8_readsProduct_84 : decode cX8_readsProduct 84 = .ok (.return_, 1) := by decide +kernel
theorem dX8_readsSum_0 : decode cX8_readsSum 0 = .ok (.aload_n 0, 1) := by decide +kernel
theorem dX8_readsSum_1 : decode cX8_readsSum 1 = .ok (.invokevirtual 199, 3) := by decide +kernel
theorem dX8_readsSum_4 : decode cX8_readsSum 4 = .ok (.aload_n 0, 1) := by decide +kernel
theorem dX8_readsSum_5 : decode cX8_readsSum 5 = .ok (.bipush 43, 2) := by decide +kernel
theorem dX8_readsSum_7 : decode cX8_readsSum 7 = .ok (.invokevirtual 187, 3) := by decide +kernel
theorem dX8_readsSum_10 : decode cX8_readsSum 10 = .ok (.ifCond .ne 12, 3) := by decide +kernel
theorem dX8_readsSum_13 : decode cX8_readsSum 13 = .ok (.aload_n 0, 1) := by decide +kernel
theorem dX8_readsSum_14 : decode cX8_readsSum 14 = .ok (.bipush 45, 2) := by decide +kernel
theorem dX8_readsSum_16 : decode cX8_readsSum 16 = .ok (.invokevirtual 187, 3) := by decide +kernel
theorem dX8_readsSum_19 : decode cX8_readsSum 19 = .ok (.ifCond .eq 42, 3) := by decide +kernel
theorem dX8_readsSum_22 : decode cX8_readsSum 22 = .ok (.aload_n 0, 1) := by decide +kernel
theorem dX8_readsSum_23 : decode cX8_readsSum 23 = .ok (.bipush 43, 2) := by decide +kernel
theorem dX8_readsSum_25 : decode cX8_readsSum 25 = .ok (.invokevirtual 187, 3) := by decide +kernel
theorem dX8_readsSum_28 : decode cX8_readsSum 28 = .ok (.ifCond .eq 8, 3) := by decide +kernel
theorem dX8_readsSum_31 : decode cX8_readsSum 31 = .ok (.bipush (-16), 2) := by decide +kernel
theorem dX8_readsSum_33 : decode cX8_readsSum 33 = .ok (.goto 5, 3) := by decide +kernel
theorem dX8_readsSum_36 : decode cX8_readsSum 36 = .ok (.bipush (-17), 2) := by decide +kernel
theorem dX8_readsSum_38 : decode cX8_readsSum 38 = .ok (.istore_n 1, 1) := by decide +kernel
theorem dX8_readsSum_39 : decode cX8_readsSum 39 = .ok (.aload_n 0, 1) := by decide +kernel
theorem dX8_readsSum_40 : decode cX8_readsSum 40 = .ok (.dup, 1) := by decide +kernel
theorem dX8_readsSum_41 : decode cX8_readsSum 41 = .ok (.getfield 151, 3) := by decide +kernel
theorem dX8_readsSum_44 : decode cX8_readsSum 44 = .ok (.iconst 1, 1) := by decide +kernel
theorem dX8_readsSum_45 : decode cX8_readsSum 45 = .ok (.iadd, 1) := by decide +kernel
theorem dX8_readsSum_46 : decode cX8_readsSum 46 = .ok (.putfield 151, 3) := by decide +kernel
theorem dX8_readsSum_49 : decode cX8_readsSum 49 = .ok (.aload_n 0, 1) := by decide +kernel
theorem dX8_readsSum_50 : decode cX8_readsSum 50 = .ok (.invokevirtual 199, 3) := by decide +kernel
theorem dX8_readsSum_53 : decode cX8_readsSum 53 = .ok (.aload_n 0, 1) := by decide +kernel
theorem dX8_readsSum_54 : decode cX8_readsSum 54 = .ok (.iload_n 1, 1) := by decide +kernel
theorem dX8_readsSum_55 : decode cX8_readsSum 55 = .ok (.invokevirtual 177, 3) := by decide +kernel
theorem dX8_readsSum_58 : decode cX8_readsSum 58 = .ok (.goto (-54), 3) := by decide +kernel
theorem dX8_readsSum_61 : decode cX8_readsSum 61 = .ok (.return_, 1) := by decide +kernel
theorem dX8_readsComparison_0 : decode cX8_readsComparison 0 = .ok (.aload_n 0, 1) := by decide +kernel
theorem dX8_readsComparison_1 : decode cX8_readsComparison 1 = .ok (.invokevirtual 202, 3) := by decide +kernel
theorem dX8_readsComparison_4 : decode cX8_readsComparison 4 = .ok (.aload_n 0, 1) := by decide +kernel
theorem dX8_readsComparison_5 : decode cX8_readsComparison 5 = .ok (.bipush 60, 2) := by decide +kernel
theorem dX8_readsComparison_7 : decode cX8_readsComparison 7 = .ok (.invokevirtual 187, 3) := by decide +kernel
theorem dX8_readsComparison_10 : decode cX8_readsComparison 10 = .ok (.ifCond .ne 21, 3) := by decide +kernel
theorem dX8_readsComparison_13 : decode cX8_readsComparison 13 = .ok (.aload_n 0, 1) := by decide +kernel
theorem dX8_readsComparison_14 : decode cX8_readsComparison 14 = .ok (.bipush 61, 2) := by decide +kernel
theorem dX8_readsComparison_16 : decode cX8_readsComparison 16 = .ok (.invokevirtual 187, 3) := by decide +kernel
theorem dX8_readsComparison_19 : decode cX8_readsComparison 19 = .ok (.ifCond .ne 12, 3) := by decide +kernel
theorem dX8_readsComparison_22 : decode cX8_readsComparison 22 = .ok (.aload_n 0, 1) := by decide +kernel
theorem dX8_readsComparison_23 : decode cX8_readsComparison 23 = .ok (.bipush 62, 2) := by decide +kernel
theorem dX8_readsComparison_25 : decode cX8_readsComparison 25 = .ok (.invokevirtual 187, 3) := by decide +kernel
theorem dX8_readsComparison_28 : decode cX8_readsComparison 28 = .ok (.ifCond .eq 53, 3) := by decide +kernel
theorem dX8_readsComparison_31 : decode cX8_readsComparison 31 = .ok (.aload_n 0, 1) := by decide +kernel
theorem dX8_readsComparison_32 : decode cX8_readsComparison 32 = .ok (.bipush 60, 2) := by decide +kernel
theorem dX8_readsComparison_34 : decode cX8_readsComparison 34 = .ok (.invokevirtual 187, 3) := by decide +kernel
theorem dX8_readsComparison_37 : decode cX8_readsComparison 37 = .ok (.ifCond .eq 8, 3) := by decide +kernel
theorem dX8_readsComparison_40 : decode cX8_readsComparison 40 = .ok (.bipush (-13), 2) := by decide +kernel
theorem dX8_readsComparison_42 : decode cX8_readsComparison 42 = .ok (.goto 19, 3) := by decide +kernel
theorem dX8_readsComparison_45 : decode cX8_readsComparison 45 = .ok (.aload_n 0, 1) := by decide +kernel
theorem dX8_readsComparison_46 : decode cX8_readsComparison 46 = .ok (.bipush 61, 2) := by decide +kernel
theorem dX8_readsComparison_48 : decode cX8_readsComparison 48 = .ok (.invokevirtual 187, 3) := by decide +kernel
theorem dX8_readsComparison_51 : decode cX8_readsComparison 51 = .ok (.ifCond .eq 8, 3) := by decide +kernel
theorem dX8_readsComparison_54 : decode cX8_readsComparison 54 = .ok (.bipush (-14), 2) := by decide +kernel
theorem dX8_readsComparison_56 : decode cX8_readsComparison 56 = .ok (.goto 5, 3) := by decide +kernel
theorem dX8_readsComparison_59 : decode cX8_readsComparison 59 = .ok (.bipush (-15), 2) := by decide +kernel
theorem dX8_readsComparison_61 : decode cX8_readsComparison 61 = .ok (.istore_n 1, 1) := by decide +kernel
theorem dX8_readsComparison_62 : decode cX8_readsComparison 62 = .ok (.aload_n 0, 1) := by decide +kernel
theorem dX8_readsComparison_63 : decode cX8_readsComparison 63 = .ok (.dup, 1) := by decide +kernel
theorem dX8_readsComparison_64 : decode cX8_readsComparison 64 = .ok (.getfield 151, 3) := by decide +kernel
theorem dX8_readsComparison_67 : decode cX8_readsComparison 67 = .ok (.iconst 1, 1) := by decide +kernel
theorem dX8_readsComparison_68 : decode cX8_readsComparison 68 = .ok (.iadd, 1) := by decide +kernel
theorem dX8_readsComparison_69 : decode cX8_readsComparison 69 = .ok (.putfield 151, 3) := by decide +kernel
theorem dX8_readsComparison_72 : decode cX8_readsComparison 72 = .ok (.aload_n 0, 1) := by decide +kernel
theorem dX8_readsComparison_73 : decode cX8_readsComparison 73 = .ok (.invokevirtual 202, 3) := by decide +kernel
theorem dX8_readsComparison_76 : decode cX8_readsComparison 76 = .ok (.aload_n 0, 1) := by decide +kernel
theorem dX8_readsComparison_77 : decode cX8_readsComparison 77 = .ok (.iload_n 1, 1) := by decide +kernel
theorem dX8_readsComparison_78 : decode cX8_readsComparison 78 = .ok (.invokevirtual 177, 3) := by decide +kernel
theorem dX8_readsComparison_81 : decode cX8_readsComparison 81 = .ok (.return_, 1) := by decide +kernel
theorem dX8_readsAll_0 : decode cX8_readsAll 0 = .ok (.aload_n 0, 1) := by decide +kernel
theorem dX8_readsAll_1 : decode cX8_readsAll 1 = .ok (.invokevirtual 205, 3) := by decide +kernel
theorem dX8_readsAll_4 : decode cX8_readsAll 4 = .ok (.aload_n 0, 1) := by decide +kernel
theorem dX8_readsAll_5 : decode cX8_readsAll 5 = .ok (.bipush 38, 2) := by decide +kernel
theorem dX8_readsAll_7 : decode cX8_readsAll 7 = .ok (.invokevirtual 187, 3) := by decide +kernel
theorem dX8_readsAll_10 : decode cX8_readsAll 10 = .ok (.ifCond .eq 26, 3) := by decide +kernel
theorem dX8_readsAll_13 : decode cX8_readsAll 13 = .ok (.aload_n 0, 1) := by decide +kernel
theorem dX8_readsAll_14 : decode cX8_readsAll 14 = .ok (.dup, 1) := by decide +kernel
theorem dX8_readsAll_15 : decode cX8_readsAll 15 = .ok (.getfield 151, 3) := by decide +kernel
theorem dX8_readsAll_18 : decode cX8_readsAll 18 = .ok (.iconst 1, 1) := by decide +kernel
theorem dX8_readsAll_19 : decode cX8_readsAll 19 = .ok (.iadd, 1) := by decide +kernel
theorem dX8_readsAll_20 : decode cX8_readsAll 20 = .ok (.putfield 151, 3) := by decide +kernel
theorem dX8_readsAll_23 : decode cX8_readsAll 23 = .ok (.aload_n 0, 1) := by decide +kernel
theorem dX8_readsAll_24 : decode cX8_readsAll 24 = .ok (.invokevirtual 205, 3) := by decide +kernel
theorem dX8_readsAll_27 : decode cX8_readsAll 27 = .ok (.aload_n 0, 1) := by decide +kernel
theorem dX8_readsAll_28 : decode cX8_readsAll 28 = .ok (.bipush (-12), 2) := by decide +kernel
theorem dX8_readsAll_30 : decode cX8_readsAll 30 = .ok (.invokevirtual 177, 3) := by decide +kernel
theorem dX8_readsAll_33 : decode cX8_readsAll 33 = .ok (.goto (-29), 3) := by decide +kernel
theorem dX8_readsAll_36 : decode cX8_readsAll 36 = .ok (.return_, 1) := by decide +kernel
theorem dX8_readsText_0 : decode cX8_readsText 0 = .ok (.aload_n 0, 1) := by decide +kernel
theorem dX8_readsText_1 : decode cX8_readsText 1 = .ok (.invokevirtual 208, 3) := by decide +kernel
theorem dX8_readsText_4 : decode cX8_readsText 4 = .ok (.aload_n 0, 1) := by decide +kernel
theorem dX8_readsText_5 : decode cX8_readsText 5 = .ok (.bipush 124, 2) := by decide +kernel
theorem dX8_readsText_7 : decode cX8_readsText 7 = .ok (.invokevirtual 187, 3) := by decide +kernel
theorem dX8_readsText_10 : decode cX8_readsText 10 = .ok (.ifCond .eq 26, 3) := by decide +kernel
theorem dX8_readsText_13 : decode cX8_readsText 13 = .ok (.aload_n 0, 1) := by decide +kernel
theorem dX8_readsText_14 : decode cX8_readsText 14 = .ok (.dup, 1) := by decide +kernel
theorem dX8_readsText_15 : decode cX8_readsText 15 = .ok (.getfield 151, 3) := by decide +kernel
theorem dX8_readsText_18 : decode cX8_readsText 18 = .ok (.iconst 1, 1) := by decide +kernel
theorem dX8_readsText_19 : decode cX8_readsText 19 = .ok (.iadd, 1) := by decide +kernel
theorem dX8_readsText_20 : decode cX8_readsText 20 = .ok (.putfield 151, 3) := by decide +kernel
theorem dX8_readsText_23 : decode cX8_readsText 23 = .ok (.aload_n 0, 1) := by decide +kernel
theorem dX8_readsText_24 : decode cX8_readsText 24 = .ok (.invokevirtual 208, 3) := by decide +kernel
theorem dX8_readsText_27 : decode cX8_readsText 27 = .ok (.aload_n 0, 1) := by decide +kernel
theorem dX8_readsText_28 : decode cX8_readsText 28 = .ok (.bipush (-11), 2) := by decide +kernel
theorem dX8_readsText_30 : decode cX8_readsText 30 = .ok (.invokevirtual 177, 3) := by decide +kernel
theorem dX8_readsText_33 : decode cX8_readsText 33 = .ok (.goto (-29), 3) := by decide +kernel
theorem dX8_readsText_36 : decode cX8_readsText 36 = .ok (.return_, 1) := by decide +kernel
theorem dX8_text_0 : decode cX8_text 0 = .ok (.iload_n 1, 1) := by decide +kernel
theorem dX8_text_1 : decode cX8_text 1 = .ok (.i2l, 1) := by decide +kernel
theorem dX8_text_2 : decode cX8_text 2 = .ok (.lconst 0, 1) := by decide +kernel
theorem dX8_text_3 : decode cX8_text 3 = .ok (.lconst 1, 1) := by decide +kernel
theorem dX8_text_4 : decode cX8_text 4 = .ok (.invokestatic 44, 3) := by decide +kernel
theorem dX8_text_7 : decode cX8_text 7 = .ok (.ifCond .ne 10, 3) := by decide +kernel
theorem dX8_text_10 : decode cX8_text 10 = .ok (.aload_n 0, 1) := by decide +kernel
theorem dX8_text_11 : decode cX8_text 11 = .ok (.ldc 43, 2) := by decide +kernel
theorem dX8_text_13 : decode cX8_text 13 = .ok (.invokevirtual 84, 3) := by decide +kernel
theorem dX8_text_16 : decode cX8_text 16 = .ok (.ireturn, 1) := by decide +kernel
theorem dX8_text_17 : decode cX8_text 17 = .ok (.aload_n 0, 1) := by decide +kernel
theorem dX8_text_18 : decode cX8_text 18 = .ok (.iconst 0, 1) := by decide +kernel
theorem dX8_text_19 : decode cX8_text 19 = .ok (.putfield 151, 3) := by decide +kernel
theorem dX8_text_22 : decode cX8_text 22 = .ok (.aload_n 0, 1) := by decide +kernel
theorem dX8_text_23 : decode cX8_text 23 = .ok (.iconst 0, 1) := by decide +kernel
theorem dX8_text_24 : decode cX8_text 24 = .ok (.putfield 190, 3) := by decide +kernel
theorem dX8_text_27 : decode cX8_text 27 = .ok (.aload_n 0, 1) := by decide +kernel
theorem dX8_text_28 : decode cX8_text 28 = .ok (.iconst 0, 1) := by decide +kernel
theorem dX8_text_29 : decode cX8_text 29 = .ok (.putfield 167, 3) := by decide +kernel
theorem dX8_text_32 : decode cX8_text 32 = .ok (.aload_n 0, 1) := by decide +kernel
theorem dX8_text_33 : decode cX8_text 33 = .ok (.iload_n 1, 1) := by decide +kernel
theorem dX8_text_34 : decode cX8_text 34 = .ok (.putfield 170, 3) := by decide +kernel
theorem dX8_text_37 : decode cX8_text 37 = .ok (.aload_n 0, 1) := by decide +kernel
theorem dX8_text_38 : decode cX8_text 38 = .ok (.iconst 0, 1) := by decide +kernel
theorem dX8_text_39 : decode cX8_text 39 = .ok (.putfield 155, 3) := by decide +kernel
theorem dX8_text_42 : decode cX8_text 42 = .ok (.aload_n 0, 1) := by decide +kernel
theorem dX8_text_43 : decode cX8_text 43 = .ok (.invokevirtual 196, 3) := by decide +kernel
theorem dX8_text_46 : decode cX8_text 46 = .ok (.aload_n 0, 1) := by decide +kernel
theorem dX8_text_47 : decode cX8_text 47 = .ok (.getfield 155, 3) := by decide +kernel
theorem dX8_text_50 : decode cX8_text 50 = .ok (.ifCond .ne 21, 3) := by decide +kernel
theorem dX8_text_53 : decode cX8_text 53 = .ok (.aload_n 0, 1) := by decide +kernel
theorem dX8_text_54 : decode cX8_text 54 = .ok (.getfield 151, 3) := by decide +kernel
theorem dX8_text_57 : decode cX8_text 57 = .ok (.aload_n 0, 1) := by decide +kernel
theorem dX8_text_58 : decode cX8_text 58 = .ok (.getfield 7, 3) := by decide +kernel
theorem dX8_text_61 : decode cX8_text 61 = .ok (.bipush 7, 2) := by decide +kernel
theorem dX8_text_63 : decode cX8_text 63 = .ok (.iaload, 1) := by decide +kernel
theorem dX8_text_64 : decode cX8_text 64 = .ok (.if_icmp .ne 7, 3) := by decide +kernel
theorem dX8_text_67 : decode cX8_text 67 = .ok (.iconst 1, 1) := by decide +kernel
theorem dX8_text_68 : decode cX8_text 68 = .ok (.goto 4, 3) := by decide +kernel
theorem dX8_text_71 : decode cX8_text 71 = .ok (.iconst 0, 1) := by decide +kernel
theorem dX8_text_72 : decode cX8_text 72 = .ok (.istore_n 2, 1) := by decide +kernel
theorem dX8_text_73 : decode cX8_text 73 = .ok (.aload_n 0, 1) := by decide +kernel
theorem dX8_text_74 : decode cX8_text 74 = .ok (.getfield 7, 3) := by decide +kernel
theorem dX8_text_77 : decode cX8_text 77 = .ok (.bipush 7, 2) := by decide +kernel
theorem dX8_text_79 : decode cX8_text 79 = .ok (.iconst 0, 1) := by decide +kernel
theorem dX8_text_80 : decode cX8_text 80 = .ok (.iastore, 1) := by decide +kernel
theorem dX8_text_81 : decode cX8_text 81 = .ok (.iload_n 2, 1) := by decide +kernel
theorem dX8_text_82 : decode cX8_text 82 = .ok (.ifCond .ne 11, 3) := by decide +kernel
theorem dX8_text_85 : decode cX8_text 85 = .ok (.bipush (-10), 2) := by decide +kernel
theorem dX8_text_87 : decode cX8_text 87 = .ok (.aload_n 0, 1) := by decide +kernel
theorem dX8_text_88 : decode cX8_text 88 = .ok (.getfield 151, 3) := by decide +kernel
theorem dX8_text_91 : decode cX8_text 91 = .ok (.isub, 1) := by decide +kernel
theorem dX8_text_92 : decode cX8_text 92 = .ok (.ireturn, 1) := by decide +kernel
theorem dX8_text_93 : decode cX8_text 93 = .ok (.iconst 0, 1) := by decide +kernel
theorem dX8_text_94 : decode cX8_text 94 = .ok (.istore_n 3, 1) := by decide +kernel
theorem dX8_text_95 : decode cX8_text 95 = .ok (.iload_n 3, 1) := by decide +kernel
theorem dX8_text_96 : decode cX8_text 96 = .ok (.aload_n 0, 1) := by decide +kernel
theorem dX8_text_97 : decode cX8_text 97 = .ok (.getfield 167, 3) := by decide +kernel
theorem dX8_text_100 : decode cX8_text 100 = .ok (.if_icmp .ge 30, 3) := by decide +kernel
theorem dX8_text_103 : decode cX8_text 103 = .ok (.aload_n 0, 1) := by decide +kernel
theorem dX8_text_104 : decode cX8_text 104 = .ok (.getfield 7, 3) := by decide +kernel
theorem dX8_text_107 : decode cX8_text 107 = .ok (.sipush 237, 3) := by decide +kernel
theorem dX8_text_110 : decode cX8_text 110 = .ok (.bipush 60, 2) := by decide +kernel
theorem dX8_text_112 : decode cX8_text 112 = .ok (.iload_n 1, 1) := by decide +kernel
theorem dX8_text_113 : decode cX8_text 113 = .ok (.imul, 1) := by decide +kernel
theorem dX8_text_114 : decode cX8_text 114 = .ok (.iadd, 1) := by decide +kernel
theorem dX8_text_115 : decode cX8_text 115 = .ok (.iload_n 3, 1) := by decide +kernel
theorem dX8_text_116 : decode cX8_text 116 = .ok (.iadd, 1) := by decide +kernel
theorem dX8_text_117 : decode cX8_text 117 = .ok (.aload_n 0, 1) := by decide +kernel
theorem dX8_text_118 : decode cX8_text 118 = .ok (.getfield 25, 3) := by decide +kernel
theorem dX8_text_121 : decode cX8_text 121 = .ok (.iload_n 3, 1) := by decide +kernel
theorem dX8_text_122 : decode cX8_text 122 = .ok (.iaload, 1) := by decide +kernel
theorem dX8_text_123 : decode cX8_text 123 = .ok (.iastore, 1) := by decide +kernel
theorem dX8_text_124 : decode cX8_text 124 = .ok (.iinc 3 1, 3) := by decide +kernel
theorem dX8_text_127 : decode cX8_text 127 = .ok (.goto (-32), 3) := by decide +kernel
theorem dX8_text_130 : decode cX8_text 130 = .ok (.aload_n 0, 1) := by decide +kernel
theorem dX8_text_131 : decode cX8_text 131 = .ok (.getfield 7, 3) := by decide +kernel
theorem dX8_text_134 : decode cX8_text 134 = .ok (.bipush 9, 2) := by decide +kernel
theorem dX8_text_136 : decode cX8_text 136 = .ok (.iload_n 1, 1) := by decide +kernel
theorem dX8_text_137 : decode cX8_text 137 = .ok (.iadd, 1) := by decide +kernel
theorem dX8_text_138 : decode cX8_text 138 = .ok (.aload_n 0, 1) := by decide +kernel
theorem dX8_text_139 : decode cX8_text 139 = .ok (.getfield 167, 3) := by decide +kernel
theorem dX8_text_142 : decode cX8_text 142 = .ok (.iastore, 1) := by decide +kernel
theorem dX8_text_143 : decode cX8_text 143 = .ok (.iconst 1, 1) := by decide +kernel
theorem dX8_text_144 : decode cX8_text 144 = .ok (.ireturn, 1) := by decide +kernel
theorem dX8_untell_0 : decode cX8_untell 0 = .ok (.iload_n 1, 1) := by decide +kernel
theorem dX8_untell_1 : decode cX8_untell 1 = .ok (.i2l, 1) := by decide +kernel
theorem dX8_untell_2 : decode cX8_untell 2 = .ok (.lconst 0, 1) := by decide +kernel
theorem dX8_untell_3 : decode cX8_untell 3 = .ok (.lconst 1, 1) := by decide +kernel
theorem dX8_untell_4 : decode cX8_untell 4 = .ok (.invokestatic 44, 3) := by decide +kernel
theorem dX8_untell_7 : decode cX8_untell 7 = .ok (.ifCond .ne 10, 3) := by decide +kernel
theorem dX8_untell_10 : decode cX8_untell 10 = .ok (.aload_n 0, 1) := by decide +kernel
theorem dX8_untell_11 : decode cX8_untell 11 = .ok (.ldc 43, 2) := by decide +kernel
theorem dX8_untell_13 : decode cX8_untell 13 = .ok (.invokevirtual 84, 3) := by decide +kernel
theorem dX8_untell_16 : decode cX8_untell 16 = .ok (.ireturn, 1) := by decide +kernel
theorem dX8_untell_17 : decode cX8_untell 17 = .ok (.aload_n 0, 1) := by decide +kernel
theorem dX8_untell_18 : decode cX8_untell 18 = .ok (.getfield 7, 3) := by decide +kernel
theorem dX8_untell_21 : decode cX8_untell 21 = .ok (.bipush 9, 2) := by decide +kernel
theorem dX8_untell_23 : decode cX8_untell 23 = .ok (.iload_n 1, 1) := by decide +kernel
theorem dX8_untell_24 : decode cX8_untell 24 = .ok (.iadd, 1) := by decide +kernel
theorem dX8_untell_25 : decode cX8_untell 25 = .ok (.iaload, 1) := by decide +kernel
theorem dX8_untell_26 : decode cX8_untell 26 = .ok (.ifCond .le 7, 3) := by decide +kernel
theorem dX8_untell_29 : decode cX8_untell 29 = .ok (.iconst 1, 1) := by decide +kernel
theorem dX8_untell_30 : decode cX8_untell 30 = .ok (.goto 4, 3) := by decide +kernel
theorem dX8_untell_33 : decode cX8_untell 33 = .ok (.iconst 0, 1) := by decide +kernel
theorem dX8_untell_34 : decode cX8_untell 34 = .ok (.istore_n 2, 1) := by decide +kernel
theorem dX8_untell_35 : decode cX8_untell 35 = .ok (.aload_n 0, 1) := by decide +kernel
theorem dX8_untell_36 : decode cX8_untell 36 = .ok (.getfield 7, 3) := by decide +kernel
theorem dX8_untell_39 : decode cX8_untell 39 = .ok (.bipush 9, 2) := by decide +kernel
theorem dX8_untell_41 : decode cX8_untell 41 = .ok (.iload_n 1, 1) := by decide +kernel
theorem dX8_untell_42 : decode cX8_untell 42 = .ok (.iadd, 1) := by decide +kernel
theorem dX8_untell_43 : decode cX8_untell 43 = .ok (.iconst 0, 1) := by decide +kernel
theorem dX8_untell_44 : decode cX8_untell 44 = .ok (.iastore, 1) := by decide +kernel
theorem dX8_untell_45 : decode cX8_untell 45 = .ok (.iload_n 2, 1) := by decide +kernel
theorem dX8_untell_46 : decode cX8_untell 46 = .ok (.ireturn, 1) := by decide +kernel
theorem dX8_draw_0 : decode cX8_draw 0 = .ok (.aload_n 0, 1) := by decide +kernel
theorem dX8_draw_1 : decode cX8_draw 1 = .ok (.getfield 7, 3) := by decide +kernel
theorem dX8_draw_4 : decode cX8_draw 4 = .ok (.bipush 6, 2) := by decide +kernel
theorem dX8_draw_6 : decode cX8_draw 6 = .ok (.aload_n 0, 1) := by decide +kernel
theorem dX8_draw_7 : decode cX8_draw 7 = .ok (.getfield 7, 3) := by decide +kernel
theorem dX8_draw_10 : decode cX8_draw 10 = .ok (.bipush 6, 2) := by decide +kernel
theorem dX8_draw_12 : decode cX8_draw 12 = .ok (.iaload, 1) := by decide +kernel
theorem dX8_draw_13 : decode cX8_draw 13 = .ok (.ldc 211, 2) := by decide +kernel
theorem dX8_draw_15 : decode cX8_draw 15 = .ok (.imul, 1) := by decide +kernel
theorem dX8_draw_16 : decode cX8_draw 16 = .ok (.sipush 12345, 3) := by decide +kernel
theorem dX8_draw_19 : decode cX8_draw 19 = .ok (.iadd, 1) := by decide +kernel
theorem dX8_draw_20 : decode cX8_draw 20 = .ok (.iastore, 1) := by decide +kernel
theorem dX8_draw_21 : decode cX8_draw 21 = .ok (.aload_n 0, 1) := by decide +kernel
theorem dX8_draw_22 : decode cX8_draw 22 = .ok (.getfield 7, 3) := by decide +kernel
theorem dX8_draw_25 : decode cX8_draw 25 = .ok (.bipush 6, 2) := by decide +kernel
theorem dX8_draw_27 : decode cX8_draw 27 = .ok (.iaload, 1) := by decide +kernel
theorem dX8_draw_28 : decode cX8_draw 28 = .ok (.bipush 8, 2) := by decide +kernel
theorem dX8_draw_30 : decode cX8_draw 30 = .ok (.iushr, 1) := by decide +kernel
theorem dX8_draw_31 : decode cX8_draw 31 = .ok (.ireturn, 1) := by decide +kernel
theorem dX8_relieves_0 : decode cX8_relieves 0 = .ok (.aload_n 0, 1) := by decide +kernel
theorem dX8_relieves_1 : decode cX8_relieves 1 = .ok (.getfield 7, 3) := by decide +kernel
theorem dX8_relieves_4 : decode cX8_relieves 4 = .ok (.iconst 0, 1) := by decide +kernel
theorem dX8_relieves_5 : decode cX8_relieves 5 = .ok (.iaload, 1) := by decide +kernel
theorem dX8_relieves_6 : decode cX8_relieves 6 = .ok (.ifCond .le 116, 3) := by decide +kernel
theorem dX8_relieves_9 : decode cX8_relieves 9 = .ok (.aload_n 0, 1) := by decide +kernel
theorem dX8_relieves_10 : decode cX8_relieves 10 = .ok (.getfield 7, 3) := by decide +kernel
theorem dX8_relieves_13 : decode cX8_relieves 13 = .ok (.iconst 1, 1) := by decide +kernel
theorem dX8_relieves_14 : decode cX8_relieves 14 = .ok (.iaload, 1) := by decide +kernel
theorem dX8_relieves_15 : decode cX8_relieves 15 = .ok (.ifCond .le 107, 3) := by decide +kernel
theorem dX8_relieves_18 : decode cX8_relieves 18 = .ok (.aload_n 0, 1) := by decide +kernel
theorem dX8_relieves_19 : decode cX8_relieves 19 = .ok (.getfield 7, 3) := by decide +kernel
theorem dX8_relieves_22 : decode cX8_relieves 22 = .ok (.iconst 3, 1) := by decide +kernel
theorem dX8_relieves_23 : decode cX8_relieves 23 = .ok (.iaload, 1) := by decide +kernel
theorem dX8_relieves_24 : decode cX8_relieves 24 = .ok (.aload_n 0, 1) := by decide +kernel
theorem dX8_relieves_25 : decode cX8_relieves 25 = .ok (.getfield 7, 3) := by decide +kernel
theorem dX8_relieves_28 : decode cX8_relieves 28 = .ok (.iconst 0, 1) := by decide +kernel
theorem dX8_relieves_29 : decode cX8_relieves 29 = .ok (.iaload, 1) := by decide +kernel
theorem dX8_relieves_30 : decode cX8_relieves 30 = .ok (.irem, 1) := by decide +kernel
theorem dX8_relieves_31 : decode cX8_relieves 31 = .ok (.istore_n 1, 1) := by decide +kernel
theorem dX8_relieves_32 : decode cX8_relieves 32 = .ok (.aload_n 0, 1) := by decide +kernel
theorem dX8_relieves_33 : decode cX8_relieves 33 = .ok (.iload_n 1, 1) := by decide +kernel
theorem dX8_relieves_34 : decode cX8_relieves 34 = .ok (.invokevirtual 212, 3) := by decide +kernel
theorem dX8_relieves_37 : decode cX8_relieves 37 = .ok (.ifCond .ne 85, 3) := by decide +kernel
theorem dX8_relieves_40 : decode cX8_relieves 40 = .ok (.aload_n 0, 1) := by decide +kernel
theorem dX8_relieves_41 : decode cX8_relieves 41 = .ok (.iload_n 1, 1) := by decide +kernel
theorem dX8_relieves_42 : decode cX8_relieves 42 = .ok (.aload_n 0, 1) := by decide +kernel
theorem dX8_relieves_43 : decode cX8_relieves 43 = .ok (.getfield 7, 3) := by decide +kernel
theorem dX8_relieves_46 : decode cX8_relieves 46 = .ok (.bipush 113, 2) := by decide +kernel
theorem dX8_relieves_48 : decode cX8_relieves 48 = .ok (.iconst 2, 1) := by decide +kernel
theorem dX8_relieves_49 : decode cX8_relieves 49 = .ok (.aload_n 0, 1) := by decide +kernel
theorem dX8_relieves_50 : decode cX8_relieves 50 = .ok (.getfield 7, 3) := by decide +kernel
theorem dX8_relieves_53 : decode cX8_relieves 53 = .ok (.iconst 2, 1) := by decide +kernel
theorem dX8_relieves_54 : decode cX8_relieves 54 = .ok (.iaload, 1) := by decide +kernel
theorem dX8_relieves_55 : decode cX8_relieves 55 = .ok (.imul, 1) := by decide +kernel
theorem dX8_relieves_56 : decode cX8_relieves 56 = .ok (.iadd, 1) := by decide +kernel
theorem dX8_relieves_57 : decode cX8_relieves 57 = .ok (.iaload, 1) := by decide +kernel
theorem dX8_relieves_58 : decode cX8_relieves 58 = .ok (.aload_n 0, 1) := by decide +kernel
theorem dX8_relieves_59 : decode cX8_relieves 59 = .ok (.getfield 7, 3) := by decide +kernel
theorem dX8_relieves_62 : decode cX8_relieves 62 = .ok (.bipush 113, 2) := by decide +kernel
theorem dX8_relieves_64 : decode cX8_relieves 64 = .ok (.iconst 2, 1) := by decide +kernel
theorem dX8_relieves_65 : decode cX8_relieves 65 = .ok (.aload_n 0, 1) := by decide +kernel
theorem dX8_relieves_66 : decode cX8_relieves 66 = .ok (.getfield 7, 3) := by decide +kernel
theorem dX8_relieves_69 : decode cX8_relieves 69 = .ok (.iconst 2, 1) := by decide +kernel
theorem dX8_relieves_70 : decode cX8_relieves 70 = .ok (.iaload, 1) := by decide +kernel
theorem dX8_relieves_71 : decode cX8_relieves 71 = .ok (.imul, 1) := by decide +kernel
theorem dX8_relieves_72 : decode cX8_relieves 72 = .ok (.iadd, 1) := by decide +kernel
theorem dX8_relieves_73 : decode cX8_relieves 73 = .ok (.iconst 1, 1) := by decide +kernel
theorem dX8_relieves_74 : decode cX8_relieves 74 = .ok (.iadd, 1) := by decide +kernel
theorem dX8_relieves_75 : decode cX8_relieves 75 = .ok (.iaload, 1) := by decide +kernel
theorem dX8_relieves_76 : decode cX8_relieves 76 = .ok (.aload_n 0, 1) := by decide +kernel
theorem dX8_relieves_77 : decode cX8_relieves 77 = .ok (.getfield 7, 3) := by decide +kernel
theorem dX8_relieves_80 : decode cX8_relieves 80 = .ok (.iconst 4, 1) := by decide +kernel
theorem dX8_relieves_81 : decode cX8_relieves 81 = .ok (.iaload, 1) := by decide +kernel
theorem dX8_relieves_82 : decode cX8_relieves 82 = .ok (.aload_n 0, 1) := by decide +kernel
theorem dX8_relieves_83 : decode cX8_relieves 83 = .ok (.getfield 7, 3) := by decide +kernel
theorem dX8_relieves_86 : decode cX8_relieves 86 = .ok (.iconst 3, 1) := by decide +kernel
theorem dX8_relieves_87 : decode cX8_relieves 87 = .ok (.iaload, 1) := by decide +kernel
theorem dX8_relieves_88 : decode cX8_relieves 88 = .ok (.invokevirtual 88, 3) := by decide +kernel
theorem dX8_relieves_91 : decode cX8_relieves 91 = .ok (.aload_n 0, 1) := by decide +kernel
theorem dX8_relieves_92 : decode cX8_relieves 92 = .ok (.getfield 7, 3) := by decide +kernel
theorem dX8_relieves_95 : decode cX8_relieves 95 = .ok (.iconst 2, 1) := by decide +kernel
theorem dX8_relieves_96 : decode cX8_relieves 96 = .ok (.aload_n 0, 1) := by decide +kernel
theorem dX8_relieves_97 : decode cX8_relieves 97 = .ok (.getfield 7, 3) := by decide +kernel
theorem dX8_relieves_100 : decode cX8_relieves 100 = .ok (.iconst 2, 1) := by decide +kernel
theorem dX8_relieves_101 : decode cX8_relieves 101 = .ok (.iaload, 1) := by decide +kernel
theorem dX8_relieves_102 : decode cX8_relieves 102 = .ok (.iconst 1, 1) := by decide +kernel
theorem dX8_relieves_103 : decode cX8_relieves 103 = .ok (.iadd, 1) := by decide +kernel
theorem dX8_relieves_104 : decode cX8_relieves 104 = .ok (.aload_n 0, 1) := by decide +kernel
theorem dX8_relieves_105 : decode cX8_relieves 105 = .ok (.getfield 7, 3) := by decide +kernel
theorem dX8_relieves_108 : decode cX8_relieves 108 = .ok (.iconst 1, 1) := by decide +kernel
theorem dX8_relieves_109 : decode cX8_relieves 109 = .ok (.iaload, 1) := by decide +kernel
theorem dX8_relieves_110 : decode cX8_relieves 110 = .ok (.irem, 1) := by decide +kernel
theorem dX8_relieves_111 : decode cX8_relieves 111 = .ok (.iastore, 1) := by decide +kernel
theorem dX8_relieves_112 : decode cX8_relieves 112 = .ok (.aload_n 0, 1) := by decide +kernel
theorem dX8_relieves_113 : decode cX8_relieves 113 = .ok (.dup, 1) := by decide +kernel
theorem dX8_relieves_114 : decode cX8_relieves 114 = .ok (.getfield 215, 3) := by decide +kernel
theorem dX8_relieves_117 : decode cX8_relieves 117 = .ok (.iconst 1, 1) := by decide +kernel
theorem dX8_relieves_118 : decode cX8_relieves 118 = .ok (.iadd, 1) := by decide +kernel
theorem dX8_relieves_119 : decode cX8_relieves 119 = .ok (.putfield 215, 3) := by decide +kernel
theorem dX8_relieves_122 : decode cX8_relieves 122 = .ok (.return_, 1) := by decide +kernel
theorem dX8_lesson_0 : decode cX8_lesson 0 = .ok (.aload_n 0, 1) := by decide +kernel
theorem dX8_lesson_1 : decode cX8_lesson 1 = .ok (.iload_n 1, 1) := by decide +kernel
theorem dX8_lesson_2 : decode cX8_lesson 2 = .ok (.iconst 4, 1) := by decide +kernel
theorem dX8_lesson_3 : decode cX8_lesson 3 = .ok (.invokevirtual 60, 3) := by decide +kernel
theorem dX8_lesson_6 : decode cX8_lesson 6 = .ok (.istore_n 3, 1) := by decide +kernel
theorem dX8_lesson_7 : decode cX8_lesson 7 = .ok (.iload_n 1, 1) := by decide +kernel
theorem dX8_lesson_8 : decode cX8_lesson 8 = .ok (.iconst 1, 1) := by decide +kernel
theorem dX8_lesson_9 : decode cX8_lesson 9 = .ok (.iadd, 1) := by decide +kernel
theorem dX8_lesson_10 : decode cX8_lesson 10 = .ok (.aload_n 0, 1) := by decide +kernel
theorem dX8_lesson_11 : decode cX8_lesson 11 = .ok (.getfield 7, 3) := by decide +kernel
theorem dX8_lesson_14 : decode cX8_lesson 14 = .ok (.iconst 0, 1) := by decide +kernel
theorem dX8_lesson_15 : decode cX8_lesson 15 = .ok (.iaload, 1) := by decide +kernel
theorem dX8_lesson_16 : decode cX8_lesson 16 = .ok (.irem, 1) := by decide +kernel
theorem dX8_lesson_17 : decode cX8_lesson 17 = .ok (.istore 4, 2) := by decide +kernel
theorem dX8_lesson_19 : decode cX8_lesson 19 = .ok (.iload_n 3, 1) := by decide +kernel
theorem dX8_lesson_20 : decode cX8_lesson 20 = .ok (.ifCond .lt 165, 3) := by decide +kernel
theorem dX8_lesson_23 : decode cX8_lesson 23 = .ok (.aload_n 0, 1) := by decide +kernel
theorem dX8_lesson_24 : decode cX8_lesson 24 = .ok (.iload_n 1, 1) := by decide +kernel
theorem dX8_lesson_25 : decode cX8_lesson 25 = .ok (.iload_n 3, 1) := by decide +kernel
theorem dX8_lesson_26 : decode cX8_lesson 26 = .ok (.invokevirtual 118, 3) := by decide +kernel
theorem dX8_lesson_29 : decode cX8_lesson 29 = .ok (.ifCond .eq 156, 3) := by decide +kernel
theorem dX8_lesson_32 : decode cX8_lesson 32 = .ok (.aload_n 0, 1) := by decide +kernel
theorem dX8_lesson_33 : decode cX8_lesson 33 = .ok (.iload_n 1, 1) := by decide +kernel
theorem dX8_lesson_34 : decode cX8_lesson 34 = .ok (.invokevirtual 218, 3) := by decide +kernel
theorem dX8_lesson_37 : decode cX8_lesson 37 = .ok (.ifCond .ne 148, 3) := by decide +kernel
theorem dX8_lesson_40 : decode cX8_lesson 40 = .ok (.aload_n 0, 1) := by decide +kernel
theorem dX8_lesson_41 : decode cX8_lesson 41 = .ok (.iload 4, 2) := by decide +kernel
theorem dX8_lesson_43 : decode cX8_lesson 43 = .ok (.iload_n 3, 1) := by decide +kernel
theorem dX8_lesson_44 : decode cX8_lesson 44 = .ok (.invokevirtual 118, 3) := by decide +kernel
theorem dX8_lesson_47 : decode cX8_lesson 47 = .ok (.ifCond .ne 138, 3) := by decide +kernel
theorem dX8_lesson_50 : decode cX8_lesson 50 = .ok (.aload_n 0, 1) := by decide +kernel
theorem dX8_lesson_51 : decode cX8_lesson 51 = .ok (.getfield 7, 3) := by decide +kernel
theorem dX8_lesson_54 : decode cX8_lesson 54 = .ok (.iload 4, 2) := by decide +kernel
theorem dX8_lesson_56 : decode cX8_lesson 56 = .ok (.bipush 11, 2) := by decide +kernel
theorem dX8_lesson_58 : decode cX8_lesson 58 = .ok (.iload_n 3, 1) := by decide +kernel
theorem dX8_lesson_59 : decode cX8_lesson 59 = .ok (.iadd, 1) := by decide +kernel
theorem dX8_lesson_60 : decode cX8_lesson 60 = .ok (.invokestatic 56, 3) := by decide +kernel
theorem dX8_lesson_63 : decode cX8_lesson 63 = .ok (.aload_n 0, 1) := by decide +kernel
theorem dX8_lesson_64 : decode cX8_lesson 64 = .ok (.iload 4, 2) := by decide +kernel
theorem dX8_lesson_66 : decode cX8_lesson 66 = .ok (.bipush 11, 2) := by decide +kernel
theorem dX8_lesson_68 : decode cX8_lesson 68 = .ok (.iload_n 3, 1) := by decide +kernel
theorem dX8_lesson_69 : decode cX8_lesson 69 = .ok (.iadd, 1) := by decide +kernel
theorem dX8_lesson_70 : decode cX8_lesson 70 = .ok (.invokevirtual 60, 3) := by decide +kernel
theorem dX8_lesson_73 : decode cX8_lesson 73 = .ok (.iconst 1, 1) := by decide +kernel
theorem dX8_lesson_74 : decode cX8_lesson 74 = .ok (.iadd, 1) := by decide +kernel
theorem dX8_lesson_75 : decode cX8_lesson 75 = .ok (.iconst 0, 1) := by decide +kernel
theorem dX8_lesson_76 : decode cX8_lesson 76 = .ok (.bipush 99, 2) := by decide +kernel
theorem dX8_lesson_78 : decode cX8_lesson 78 = .ok (.invokestatic 75, 3) := by decide +kernel
theorem dX8_lesson_81 : decode cX8_lesson 81 = .ok (.iastore, 1) := by decide +kernel
theorem dX8_lesson_82 : decode cX8_lesson 82 = .ok (.aload_n 0, 1) := by decide +kernel
theorem dX8_lesson_83 : decode cX8_lesson 83 = .ok (.iload 4, 2) := by decide +kernel
theorem dX8_lesson_85 : decode cX8_lesson 85 = .ok (.bipush 11, 2) := by decide +kernel
theorem dX8_lesson_87 : decode cX8_lesson 87 = .ok (.iload_n 3, 1) := by decide +kernel
theorem dX8_lesson_88 : decode cX8_lesson 88 = .ok (.iadd, 1) := by decide +kernel
theorem dX8_lesson_89 : decode cX8_lesson 89 = .ok (.invokevirtual 60, 3) := by decide +kernel
theorem dX8_lesson_92 : decode cX8_lesson 92 = .ok (.aload_n 0, 1) := by decide +kernel
theorem dX8_lesson_93 : decode cX8_lesson 93 = .ok (.iload 4, 2) := by decide +kernel
theorem dX8_lesson_95 : decode cX8_lesson 95 = .ok (.iload_n 3, 1) := by decide +kernel
theorem dX8_lesson_96 : decode cX8_lesson 96 = .ok (.invokevirtual 95, 3) := by decide +kernel
theorem dX8_lesson_99 : decode cX8_lesson 99 = .ok (.if_icmp .lt 86, 3) := by decide +kernel
theorem dX8_lesson_102 : decode cX8_lesson 102 = .ok (.aload_n 0, 1) := by decide +kernel
theorem dX8_lesson_103 : decode cX8_lesson 103 = .ok (.iload_n 1, 1) := by decide +kernel
theorem dX8_lesson_104 : decode cX8_lesson 104 = .ok (.iload_n 3, 1) := by decide +kernel
theorem dX8_lesson_105 : decode cX8_lesson 105 = .ok (.invokevirtual 221, 3) := by decide +kernel
theorem dX8_lesson_108 : decode cX8_lesson 108 = .ok (.istore 5, 2) := by decide +kernel
theorem dX8_lesson_110 : decode cX8_lesson 110 = .ok (.iload_n 2, 1) := by decide +kernel
theorem dX8_lesson_111 : decode cX8_lesson 111 = .ok (.ifCond .eq 42, 3) := by decide +kernel
theorem dX8_lesson_114 : decode cX8_lesson 114 = .ok (.aload_n 0, 1) := by decide +kernel
theorem dX8_lesson_115 : decode cX8_lesson 115 = .ok (.invokevirtual 224, 3) := by decide +kernel
theorem dX8_lesson_118 : decode cX8_lesson 118 = .ok (.bipush 16, 2) := by decide +kernel
theorem dX8_lesson_120 : decode cX8_lesson 120 = .ok (.irem, 1) := by decide +kernel
theorem dX8_lesson_121 : decode cX8_lesson 121 = .ok (.aload_n 0, 1) := by decide +kernel
theorem dX8_lesson_122 : decode cX8_lesson 122 = .ok (.getfield 7, 3) := by decide +kernel
theorem dX8_lesson_125 : decode cX8_lesson 125 = .ok (.iconst 5, 1) := by decide +kernel
theorem dX8_lesson_126 : decode cX8_lesson 126 = .ok (.iaload, 1) := by decide +kernel
theorem dX8_lesson_127 : decode cX8_lesson 127 = .ok (.if_icmp .ge 26, 3) := by decide +kernel
theorem dX8_lesson_130 : decode cX8_lesson 130 = .ok (.iload 5, 2) := by decide +kernel
theorem dX8_lesson_132 : decode cX8_lesson 132 = .ok (.iconst 1, 1) := by decide +kernel
theorem dX8_lesson_133 : decode cX8_lesson 133 = .ok (.iadd, 1) := by decide +kernel
theorem dX8_lesson_134 : decode cX8_lesson 134 = .ok (.iconst 0, 1) := by decide +kernel
theorem dX8_lesson_135 : decode cX8_lesson 135 = .ok (.sipush 999, 3) := by decide +kernel
theorem dX8_lesson_138 : decode cX8_lesson 138 = .ok (.invokestatic 75, 3) := by decide +kernel
theorem dX8_lesson_141 : decode cX8_lesson 141 = .ok (.istore 5, 2) := by decide +kernel
theorem dX8_lesson_143 : decode cX8_lesson 143 = .ok (.aload_n 0, 1) := by decide +kernel
theorem dX8_lesson_144 : decode cX8_lesson 144 = .ok (.dup, 1) := by decide +kernel
theorem dX8_lesson_145 : decode cX8_lesson 145 = .ok (.getfield 227, 3) := by decide +kernel
theorem dX8_lesson_148 : decode cX8_lesson 148 = .ok (.iconst 1, 1) := by decide +kernel
theorem dX8_lesson_149 : decode cX8_lesson 149 = .ok (.iadd, 1) := by decide +kernel
theorem dX8_lesson_150 : decode cX8_lesson 150 = .ok (.putfield 227, 3) := by decide +kernel
theorem dX8_lesson_153 : decode cX8_lesson 153 = .ok (.aload_n 0, 1) := by decide +kernel
theorem dX8_lesson_154 : decode cX8_lesson 154 = .ok (.getfield 7, 3) := by decide +kernel
theorem dX8_lesson_157 : decode cX8_lesson 157 = .ok (.iload 4, 2) := by decide +kernel
theorem dX8_lesson_159 : decode cX8_lesson 159 = .ok (.iconst 3, 1) := by decide +kernel
theorem dX8_lesson_160 : decode cX8_lesson 160 = .ok (.invokestatic 56, 3) := by decide +kernel
theorem dX8_lesson_163 : decode cX8_lesson 163 = .ok (.dup2, 1) := by decide +kernel
theorem dX8_lesson_164 : decode cX8_lesson 164 = .ok (.iaload, 1) := by decide +kernel
theorem dX8_lesson_165 : decode cX8_lesson 165 = .ok (.iconst 1, 1) := by decide +kernel
theorem dX8_lesson_166 : decode cX8_lesson 166 = .ok (.iload_n 3, 1) := by decide +kernel
theorem dX8_lesson_167 : decode cX8_lesson 167 = .ok (.ishl, 1) := by decide +kernel
theorem dX8_lesson_168 : decode cX8_lesson 168 = .ok (.ior, 1) := by decide +kernel
theorem dX8_lesson_169 : decode cX8_lesson 169 = .ok (.iastore, 1) := by decide +kernel
theorem dX8_lesson_170 : decode cX8_lesson 170 = .ok (.aload_n 0, 1) := by decide +kernel
theorem dX8_lesson_171 : decode cX8_lesson 171 = .ok (.getfield 7, 3) := by decide +kernel
theorem dX8_lesson_174 : decode cX8_lesson 174 = .ok (.iload 4, 2) := by decide +kernel
theorem dX8_lesson_176 : decode cX8_lesson 176 = .ok (.iconst 5, 1) := by decide +kernel
theorem dX8_lesson_177 : decode cX8_lesson 177 = .ok (.iload_n 3, 1) := by decide +kernel
theorem dX8_lesson_178 : decode cX8_lesson 178 = .ok (.iadd, 1) := by decide +kernel
theorem dX8_lesson_179 : decode cX8_lesson 179 = .ok (.invokestatic 56, 3) := by decide +kernel
theorem dX8_lesson_182 : decode cX8_lesson 182 = .ok (.iload 5, 2) := by decide +kernel
theorem dX8_lesson_184 : decode cX8_lesson 184 = .ok (.iastore, 1) := by decide +kernel
theorem dX8_lesson_185 : decode cX8_lesson 185 = .ok (.return_, 1) := by decide +kernel
theorem dX8_day_0 : decode cX8_day 0 = .ok (.aload_n 0, 1) := by decide +kernel
theorem dX8_day_1 : decode cX8_day 1 = .ok (.invokevirtual 230, 3) := by decide +kernel
theorem dX8_day_4 : decode cX8_day 4 = .ok (.iconst 0, 1) := by decide +kernel
theorem dX8_day_5 : decode cX8_day 5 = .ok (.istore_n 2, 1) := by decide +kernel
theorem dX8_day_6 : decode cX8_day 6 = .ok (.iload_n 2, 1) := by decide +kernel
theorem dX8_day_7 : decode cX8_day 7 = .ok (.aload_n 0, 1) := by decide +kernel
theorem dX8_day_8 : decode cX8_day 8 = .ok (.getfield 7, 3) := by decide +kernel
theorem dX8_day_11 : decode cX8_day 11 = .ok (.iconst 0, 1) := by decide +kernel
theorem dX8_day_12 : decode cX8_day 12 = .ok (.iaload, 1) := by decide +kernel
theorem dX8_day_13 : decode cX8_day 13 = .ok (.if_icmp .ge 25, 3) := by decide +kernel
theorem dX8_day_16 : decode cX8_day 16 = .ok (.aload_n 0, 1) := by decide +kernel
theorem dX8_day_17 : decode cX8_day 17 = .ok (.getfield 7, 3) := by decide +kernel
theorem dX8_day_20 : decode cX8_day 20 = .ok (.iconst 0, 1) := by decide +kernel
theorem dX8_day_21 : decode cX8_day 21 = .ok (.iaload, 1) := by decide +kernel
theorem dX8_day_22 : decode cX8_day 22 = .ok (.iconst 1, 1) := by decide +kernel
theorem dX8_day_23 : decode cX8_day 23 = .ok (.if_icmp .le 15, 3) := by decide +kernel
theorem dX8_day_26 : decode cX8_day 26 = .ok (.aload_n 0, 1) := by decide +kernel
theorem dX8_day_27 : decode cX8_day 27 = .ok (.iload_n 2, 1) := by decide +kernel
theorem dX8_day_28 : decode cX8_day 28 = .ok (.iload_n 1, 1) := by decide +kernel
theorem dX8_day_29 : decode cX8_day 29 = .ok (.invokevirtual 233, 3) := by decide +kernel
theorem dX8_day_32 : decode cX8_day 32 = .ok (.iinc 2 1, 3) := by decide +kernel
theorem dX8_day_35 : decode cX8_day 35 = .ok (.goto (-29), 3) := by decide +kernel
theorem dX8_day_38 : decode cX8_day 38 = .ok (.iconst 0, 1) := by decide +kernel
theorem dX8_day_39 : decode cX8_day 39 = .ok (.istore_n 2, 1) := by decide +kernel
theorem dX8_day_40 : decode cX8_day 40 = .ok (.iload_n 2, 1) := by decide +kernel
theorem dX8_day_41 : decode cX8_day 41 = .ok (.iconst 4, 1) := by decide +kernel
theorem dX8_day_42 : decode cX8_day 42 = .ok (.if_icmp .ge 71, 3) := by decide +kernel
theorem dX8_day_45 : decode cX8_day 45 = .ok (.aload_n 0, 1) := by decide +kernel
theorem dX8_day_46 : decode cX8_day 46 = .ok (.aload_n 0, 1) := by decide +kernel
theorem dX8_day_47 : decode cX8_day 47 = .ok (.iload_n 2, 1) := by decide +kernel
theorem dX8_day_48 : decode cX8_day 48 = .ok (.iconst 0, 1) := by decide +kernel
theorem dX8_day_49 : decode cX8_day 49 = .ok (.invokevirtual 136, 3) := by decide +kernel
theorem dX8_day_52 : decode cX8_day 52 = .ok (.invokevirtual 139, 3) := by decide +kernel
theorem dX8_day_55 : decode cX8_day 55 = .ok (.aload_n 0, 1) := by decide +kernel
theorem dX8_day_56 : decode cX8_day 56 = .ok (.iload_n 2, 1) := by decide +kernel
theorem dX8_day_57 : decode cX8_day 57 = .ok (.iconst 1, 1) := by decide +kernel
theorem dX8_day_58 : decode cX8_day 58 = .ok (.invokevirtual 136, 3) := by decide +kernel
theorem dX8_day_61 : decode cX8_day 61 = .ok (.if_icmp .lt 7, 3) := by decide +kernel
theorem dX8_day_64 : decode cX8_day 64 = .ok (.iconst 2, 1) := by decide +kernel
theorem dX8_day_65 : decode cX8_day 65 = .ok (.goto 4, 3) := by decide +kernel
theorem dX8_day_68 : decode cX8_day 68 = .ok (.iconst 3, 1) := by decide +kernel
theorem dX8_day_69 : decode cX8_day 69 = .ok (.istore_n 3, 1) := by decide +kernel
theorem dX8_day_70 : decode cX8_day 70 = .ok (.aload_n 0, 1) := by decide +kernel
theorem dX8_day_71 : decode cX8_day 71 = .ok (.getfield 7, 3) := by decide +kernel
theorem dX8_day_74 : decode cX8_day 74 = .ok (.iload_n 2, 1) := by decide +kernel
theorem dX8_day_75 : decode cX8_day 75 = .ok (.iload_n 3, 1) := by decide +kernel
theorem dX8_day_76 : decode cX8_day 76 = .ok (.invokestatic 131, 3) := by decide +kernel
theorem dX8_day_79 : decode cX8_day 79 = .ok (.aload_n 0, 1) := by decide +kernel
theorem dX8_day_80 : decode cX8_day 80 = .ok (.iload_n 2, 1) := by decide +kernel
theorem dX8_day_81 : decode cX8_day 81 = .ok (.iload_n 3, 1) := by decide +kernel
theorem dX8_day_82 : decode cX8_day 82 = .ok (.invokevirtual 136, 3) := by decide +kernel
theorem dX8_day_85 : decode cX8_day 85 = .ok (.aload_n 0, 1) := by decide +kernel
theorem dX8_day_86 : decode cX8_day 86 = .ok (.iload_n 2, 1) := by decide +kernel
theorem dX8_day_87 : decode cX8_day 87 = .ok (.iconst 1, 1) := by decide +kernel
theorem dX8_day_88 : decode cX8_day 88 = .ok (.invokevirtual 136, 3) := by decide +kernel
theorem dX8_day_91 : decode cX8_day 91 = .ok (.ifCond .le 7, 3) := by decide +kernel
theorem dX8_day_94 : decode cX8_day 94 = .ok (.iconst 1, 1) := by decide +kernel
theorem dX8_day_95 : decode cX8_day 95 = .ok (.goto 4, 3) := by decide +kernel
theorem dX8_day_98 : decode cX8_day 98 = .ok (.iconst 0, 1) := by decide +kernel
theorem dX8_day_99 : decode cX8_day 99 = .ok (.iadd, 1) := by decide +kernel
theorem dX8_day_100 : decode cX8_day 100 = .ok (.iconst 0, 1) := by decide +kernel
theorem dX8_day_101 : decode cX8_day 101 = .ok (.ldc 237, 2) := by decide +kernel
theorem dX8_day_103 : decode cX8_day 103 = .ok (.invokestatic 75, 3) := by decide +kernel
theorem dX8_day_106 : decode cX8_day 106 = .ok (.iastore, 1) := by decide +kernel
theorem dX8_day_107 : decode cX8_day 107 = .ok (.iinc 2 1, 3) := by decide +kernel
theorem dX8_day_110 : decode cX8_day 110 = .ok (.goto (-70), 3) := by decide +kernel
theorem dX8_day_113 : decode cX8_day 113 = .ok (.aload_n 0, 1) := by decide +kernel
theorem dX8_day_114 : decode cX8_day 114 = .ok (.getfield 7, 3) := by decide +kernel
theorem dX8_day_117 : decode cX8_day 117 = .ok (.iconst 3, 1) := by decide +kernel
theorem dX8_day_118 : decode cX8_day 118 = .ok (.dup2, 1) := by decide +kernel
theorem dX8_day_119 : decode cX8_day 119 = .ok (.iaload, 1) := by decide +kernel
theorem dX8_day_120 : decode cX8_day 120 = .ok (.iconst 1, 1) := by decide +kernel
theorem dX8_day_121 : decode cX8_day 121 = .ok (.iadd, 1) := by decide +kernel
theorem dX8_day_122 : decode cX8_day 122 = .ok (.iastore, 1) := by decide +kernel
theorem dX8_day_123 : decode cX8_day 123 = .ok (.return_, 1) := by decide +kernel
theorem dX8_daysGo_0 : decode cX8_daysGo 0 = .ok (.aload_n 0, 1) := by decide +kernel
theorem dX8_daysGo_1 : decode cX8_daysGo 1 = .ok (.iconst 0, 1) := by decide +kernel
theorem dX8_daysGo_2 : decode cX8_daysGo 2 = .ok (.putfield 215, 3) := by decide +kernel
theorem dX8_daysGo_5 : decode cX8_daysGo 5 = .ok (.aload_n 0, 1) := by decide +kernel
theorem dX8_daysGo_6 : decode cX8_daysGo 6 = .ok (.iconst 0, 1) := by decide +kernel
theorem dX8_daysGo_7 : decode cX8_daysGo 7 = .ok (.putfield 227, 3) := by decide +kernel
theorem dX8_daysGo_10 : decode cX8_daysGo 10 = .ok (.iconst 0, 1) := by decide +kernel
theorem dX8_daysGo_11 : decode cX8_daysGo 11 = .ok (.istore_n 3, 1) := by decide +kernel
theorem dX8_daysGo_12 : decode cX8_daysGo 12 = .ok (.iload_n 3, 1) := by decide +kernel
theorem dX8_daysGo_13 : decode cX8_daysGo 13 = .ok (.iload_n 1, 1) := by decide +kernel
theorem dX8_daysGo_14 : decode cX8_daysGo 14 = .ok (.if_icmp .ge 14, 3) := by decide +kernel
theorem dX8_daysGo_17 : decode cX8_daysGo 17 = .ok (.aload_n 0, 1) := by decide +kernel
theorem dX8_daysGo_18 : decode cX8_daysGo 18 = .ok (.iload_n 2, 1) := by decide +kernel
theorem dX8_daysGo_19 : decode cX8_daysGo 19 = .ok (.invokevirtual 238, 3) := by decide +kernel
theorem dX8_daysGo_22 : decode cX8_daysGo 22 = .ok (.iinc 3 1, 3) := by decide +kernel
theorem dX8_daysGo_25 : decode cX8_daysGo 25 = .ok (.goto (-13), 3) := by decide +kernel
theorem dX8_daysGo_28 : decode cX8_daysGo 28 = .ok (.return_, 1) := by decide +kernel
theorem dX8_isSpan_0 : decode cX8_isSpan 0 = .ok (.iload_n 0, 1) := by decide +kernel
theorem dX8_isSpan_1 : decode cX8_isSpan 1 = .ok (.i2l, 1) := by decide +kernel
theorem dX8_isSpan_2 : decode cX8_isSpan 2 = .ok (.lconst 1, 1) := by decide +kernel
theorem dX8_isSpan_3 : decode cX8_isSpan 3 = .ok (.ldc2_w 242, 3) := by decide +kernel
theorem dX8_isSpan_6 : decode cX8_isSpan 6 = .ok (.invokestatic 44, 3) := by decide +kernel
theorem dX8_isSpan_9 : decode cX8_isSpan 9 = .ok (.ireturn, 1) := by decide +kernel
theorem dX8_daysWrong_0 : decode cX8_daysWrong 0 = .ok (.iload_n 1, 1) := by decide +kernel
theorem dX8_daysWrong_1 : decode cX8_daysWrong 1 = .ok (.invokestatic 244, 3) := by decide +kernel
theorem dX8_daysWrong_4 : decode cX8_daysWrong 4 = .ok (.ifCond .ne 8, 3) := by decide +kernel
theorem dX8_daysWrong_7 : decode cX8_daysWrong 7 = .ok (.ldc 43, 2) := by decide +kernel
theorem dX8_daysWrong_9 : decode cX8_daysWrong 9 = .ok (.goto 23, 3) := by decide +kernel
theorem dX8_daysWrong_12 : decode cX8_daysWrong 12 = .ok (.aload_n 0, 1) := by decide +kernel
theorem dX8_daysWrong_13 : decode cX8_daysWrong 13 = .ok (.getfield 7, 3) := by decide +kernel
theorem dX8_daysWrong_16 : decode cX8_daysWrong 16 = .ok (.iconst 3, 1) := by decide +kernel
theorem dX8_daysWrong_17 : decode cX8_daysWrong 17 = .ok (.iaload, 1) := by decide +kernel
theorem dX8_daysWrong_18 : decode cX8_daysWrong 18 = .ok (.iload_n 1, 1) := by decide +kernel
theorem dX8_daysWrong_19 : decode cX8_daysWrong 19 = .ok (.iadd, 1) := by decide +kernel
theorem dX8_daysWrong_20 : decode cX8_daysWrong 20 = .ok (.sipush 9999, 3) := by decide +kernel
theorem dX8_daysWrong_23 : decode cX8_daysWrong 23 = .ok (.if_icmp .le 8, 3) := by decide +kernel
theorem dX8_daysWrong_26 : decode cX8_daysWrong 26 = .ok (.ldc 247, 2) := by decide +kernel
theorem dX8_daysWrong_28 : decode cX8_daysWrong 28 = .ok (.goto 4, 3) := by decide +kernel
theorem dX8_daysWrong_31 : decode cX8_daysWrong 31 = .ok (.iconst 0, 1) := by decide +kernel
theorem dX8_daysWrong_32 : decode cX8_daysWrong 32 = .ok (.ireturn, 1) := by decide +kernel
theorem dX8_days_0 : decode cX8_days 0 = .ok (.aload_n 0, 1) := by decide +kernel
theorem dX8_days_1 : decode cX8_days 1 = .ok (.iload_n 1, 1) := by decide +kernel
theorem dX8_days_2 : decode cX8_days 2 = .ok (.invokevirtual 248, 3) := by decide +kernel
theorem dX8_days_5 : decode cX8_days 5 = .ok (.istore_n 2, 1) := by decide +kernel
theorem dX8_days_6 : decode cX8_days 6 = .ok (.iload_n 2, 1) := by decide +kernel
theorem dX8_days_7 : decode cX8_days 7 = .ok (.ifCond .eq 9, 3) := by decide +kernel
theorem dX8_days_10 : decode cX8_days 10 = .ok (.aload_n 0, 1) := by decide +kernel
theorem dX8_days_11 : decode cX8_days 11 = .ok (.iload_n 2, 1) := by decide +kernel
theorem dX8_days_12 : decode cX8_days 12 = .ok (.invokevirtual 84, 3) := by decide +kernel
theorem dX8_days_15 : decode cX8_days 15 = .ok (.ireturn, 1) := by decide +kernel
theorem dX8_days_16 : decode cX8_days 16 = .ok (.aload_n 0, 1) := by decide +kernel
theorem dX8_days_17 : decode cX8_days 17 = .ok (.iload_n 1, 1) := by decide +kernel
theorem dX8_days_18 : decode cX8_days 18 = .ok (.iconst 0, 1) := by decide +kernel
theorem dX8_days_19 : decode cX8_days 19 = .ok (.invokevirtual 251, 3) := by decide +kernel
theorem dX8_days_22 : decode cX8_days 22 = .ok (.aload_n 0, 1) := by decide +kernel
theorem dX8_days_23 : decode cX8_days 23 = .ok (.getfield 215, 3) := by decide +kernel
theorem dX8_days_26 : decode cX8_days 26 = .ok (.ireturn, 1) := by decide +kernel
theorem dX8_draws_0 : decode cX8_draws 0 = .ok (.aload_n 0, 1) := by decide +kernel
theorem dX8_draws_1 : decode cX8_draws 1 = .ok (.iload_n 1, 1) := by decide +kernel
theorem dX8_draws_2 : decode cX8_draws 2 = .ok (.invokevirtual 248, 3) := by decide +kernel
theorem dX8_draws_5 : decode cX8_draws 5 = .ok (.istore_n 2, 1) := by decide +kernel
theorem dX8_draws_6 : decode cX8_draws 6 = .ok (.iload_n 2, 1) := by decide +kernel
theorem dX8_draws_7 : decode cX8_draws 7 = .ok (.ifCond .eq 9, 3) := by decide +kernel
theorem dX8_draws_10 : decode cX8_draws 10 = .ok (.aload_n 0, 1) := by decide +kernel
theorem dX8_draws_11 : decode cX8_draws 11 = .ok (.iload_n 2, 1) := by decide +kernel
theorem dX8_draws_12 : decode cX8_draws 12 = .ok (.invokevirtual 84, 3) := by decide +kernel
theorem dX8_draws_15 : decode cX8_draws 15 = .ok (.ireturn, 1) := by decide +kernel
theorem dX8_draws_16 : decode cX8_draws 16 = .ok (.aload_n 0, 1) := by decide +kernel
theorem dX8_draws_17 : decode cX8_draws 17 = .ok (.iload_n 1, 1) := by decide +kernel
theorem dX8_draws_18 : decode cX8_draws 18 = .ok (.iconst 1, 1) := by decide +kernel
theorem dX8_draws_19 : decode cX8_draws 19 = .ok (.invokevirtual 251, 3) := by decide +kernel
theorem dX8_draws_22 : decode cX8_draws 22 = .ok (.aload_n 0, 1) := by decide +kernel
theorem dX8_draws_23 : decode cX8_draws 23 = .ok (.getfield 227, 3) := by decide +kernel
theorem dX8_draws_26 : decode cX8_draws 26 = .ok (.ireturn, 1) := by decide +kernel
theorem dX8_misheard_0 : decode cX8_misheard 0 = .ok (.iload_n 1, 1) := by decide +kernel
theorem dX8_misheard_1 : decode cX8_misheard 1 = .ok (.i2l, 1) := by decide +kernel
theorem dX8_misheard_2 : decode cX8_misheard 2 = .ok (.lconst 0, 1) := by decide +kernel
theorem dX8_misheard_3 : decode cX8_misheard 3 = .ok (.ldc2_w 254, 3) := by decide +kernel
theorem dX8_misheard_6 : decode cX8_misheard 6 = .ok (.invokestatic 44, 3) := by decide +kernel
theorem dX8_misheard_9 : decode cX8_misheard 9 = .ok (.ifCond .ne 10, 3) := by decide +kernel
theorem dX8_misheard_12 : decode cX8_misheard 12 = .ok (.aload_n 0, 1) := by decide +kernel
theorem dX8_misheard_13 : decode cX8_misheard 13 = .ok (.ldc 43, 2) := by decide +kernel
theorem dX8_misheard_15 : decode cX8_misheard 15 = .ok (.invokevirtual 84, 3) := by decide +kernel
theorem dX8_misheard_18 : decode cX8_misheard 18 = .ok (.ireturn, 1) := by decide +kernel
theorem dX8_misheard_19 : decode cX8_misheard 19 = .ok (.aload_n 0, 1) := by decide +kernel
theorem dX8_misheard_20 : decode cX8_misheard 20 = .ok (.getfield 7, 3) := by decide +kernel
theorem dX8_misheard_23 : decode cX8_misheard 23 = .ok (.iconst 5, 1) := by decide +kernel
theorem dX8_misheard_24 : decode cX8_misheard 24 = .ok (.iaload, 1) := by decide +kernel
theorem dX8_misheard_25 : decode cX8_misheard 25 = .ok (.istore_n 2, 1) := by decide +kernel
theorem dX8_misheard_26 : decode cX8_misheard 26 = .ok (.aload_n 0, 1) := by decide +kernel
theorem dX8_misheard_27 : decode cX8_misheard 27 = .ok (.getfield 7, 3) := by decide +kernel
theorem dX8_misheard_30 : decode cX8_misheard 30 = .ok (.iconst 5, 1) := by decide +kernel
theorem dX8_misheard_31 : decode cX8_misheard 31 = .ok (.iload_n 1, 1) := by decide +kernel
theorem dX8_misheard_32 : decode cX8_misheard 32 = .ok (.iastore, 1) := by decide +kernel
theorem dX8_misheard_33 : decode cX8_misheard 33 = .ok (.iload_n 2, 1) := by decide +kernel
theorem dX8_misheard_34 : decode cX8_misheard 34 = .ok (.ireturn, 1) := by decide +kernel
theorem dX8_seed_0 : decode cX8_seed 0 = .ok (.aload_n 0, 1) := by decide +kernel
theorem dX8_seed_1 : decode cX8_seed 1 = .ok (.getfield 7, 3) := by decide +kernel
theorem dX8_seed_4 : decode cX8_seed 4 = .ok (.bipush 6, 2) := by decide +kernel
theorem dX8_seed_6 : decode cX8_seed 6 = .ok (.iaload, 1) := by decide +kernel
theorem dX8_seed_7 : decode cX8_seed 7 = .ok (.istore_n 2, 1) := by decide +kernel
theorem dX8_seed_8 : decode cX8_seed 8 = .ok (.aload_n 0, 1) := by decide +kernel
theorem dX8_seed_9 : decode cX8_seed 9 = .ok (.getfield 7, 3) := by decide +kernel
theorem dX8_seed_12 : decode cX8_seed 12 = .ok (.bipush 6, 2) := by decide +kernel
theorem dX8_seed_14 : decode cX8_seed 14 = .ok (.iload_n 1, 1) := by decide +kernel
theorem dX8_seed_15 : decode cX8_seed 15 = .ok (.iastore, 1) := by decide +kernel
theorem dX8_seed_16 : decode cX8_seed 16 = .ok (.iload_n 2, 1) := by decide +kernel
theorem dX8_seed_17 : decode cX8_seed 17 = .ok (.ireturn, 1) := by decide +kernel
theorem dX8_then_0 : decode cX8_then 0 = .ok (.iload_n 1, 1) := by decide +kernel
theorem dX8_then_1 : decode cX8_then 1 = .ok (.i2l, 1) := by decide +kernel
theorem dX8_then_2 : decode cX8_then 2 = .ok (.lconst 0, 1) := by decide +kernel
theorem dX8_then_3 : decode cX8_then 3 = .ok (.ldc2_w 242, 3) := by decide +kernel
theorem dX8_then_6 : decode cX8_then 6 = .ok (.invokestatic 44, 3) := by decide +kernel
theorem dX8_then_9 : decode cX8_then 9 = .ok (.ifCond .eq 23, 3) := by decide +kernel
theorem dX8_then_12 : decode cX8_then 12 = .ok (.aload_n 0, 1) := by decide +kernel
theorem dX8_then_13 : decode cX8_then 13 = .ok (.iload_n 2, 1) := by decide +kernel
theorem dX8_then_14 : decode cX8_then 14 = .ok (.invokevirtual 98, 3) := by decide +kernel
theorem dX8_then_17 : decode cX8_then 17 = .ok (.ifCond .eq 15, 3) := by decide +kernel
theorem dX8_then_20 : decode cX8_then 20 = .ok (.iload_n 3, 1) := by decide +kernel
theorem dX8_then_21 : decode cX8_then 21 = .ok (.i2l, 1) := by decide +kernel
theorem dX8_then_22 : decode cX8_then 22 = .ok (.lconst 0, 1) := by decide +kernel
theorem dX8_then_23 : decode cX8_then 23 = .ok (.ldc2_w 101, 3) := by decide +kernel
theorem dX8_then_26 : decode cX8_then 26 = .ok (.invokestatic 44, 3) := by decide +kernel
theorem dX8_then_29 : decode cX8_then 29 = .ok (.ifCond .ne 10, 3) := by decide +kernel
theorem dX8_then_32 : decode cX8_then 32 = .ok (.aload_n 0, 1) := by decide +kernel
theorem dX8_then_33 : decode cX8_then 33 = .ok (.ldc 43, 2) := by decide +kernel
theorem dX8_then_35 : decode cX8_then 35 = .ok (.invokevirtual 84, 3) := by decide +kernel
theorem dX8_then_38 : decode cX8_then 38 = .ok (.ireturn, 1) := by decide +kernel
theorem dX8_then_39 : decode cX8_then 39 = .ok (.aload_n 0, 1) := by decide +kernel
theorem dX8_then_40 : decode cX8_then 40 = .ok (.invokevirtual 256, 3) := by decide +kernel
theorem dX8_then_43 : decode cX8_then 43 = .ok (.aload_n 0, 1) := by decide +kernel
theorem dX8_then_44 : decode cX8_then 44 = .ok (.iload_n 1, 1) := by decide +kernel
theorem dX8_then_45 : decode cX8_then 45 = .ok (.iconst 0, 1) := by decide +kernel
theorem dX8_then_46 : decode cX8_then 46 = .ok (.invokevirtual 251, 3) := by decide +kernel
theorem dX8_then_49 : decode cX8_then 49 = .ok (.aload_n 0, 1) := by decide +kernel
theorem dX8_then_50 : decode cX8_then 50 = .ok (.iload_n 2, 1) := by decide +kernel
theorem dX8_then_51 : decode cX8_then 51 = .ok (.iload_n 3, 1) := by decide +kernel
theorem dX8_then_52 : decode cX8_then 52 = .ok (.invokevirtual 103, 3) := by decide +kernel
theorem dX8_then_55 : decode cX8_then 55 = .ok (.istore 4, 2) := by decide +kernel
theorem dX8_then_57 : decode cX8_then 57 = .ok (.aload_n 0, 1) := by decide +kernel
theorem dX8_then_58 : decode cX8_then 58 = .ok (.invokevirtual 259, 3) := by decide +kernel
theorem dX8_then_61 : decode cX8_then 61 = .ok (.iload 4, 2) := by decide +kernel
theorem dX8_then_63 : decode cX8_then 63 = .ok (.ireturn, 1) := by decide +kernel
theorem dX8_thenTask_0 : decode cX8_thenTask 0 = .ok (.iload_n 1, 1) := by decide +kernel
theorem dX8_thenTask_1 : decode cX8_thenTask 1 = .ok (.i2l, 1) := by decide +kernel
theorem dX8_thenTask_2 : decode cX8_thenTask 2 = .ok (.lconst 0, 1) := by decide +kernel
theorem dX8_thenTask_3 : decode cX8_thenTask 3 = .ok (.ldc2_w 242, 3) := by decide +kernel
theorem dX8_thenTask_6 : decode cX8_thenTask 6 = .ok (.invokestatic 44, 3) := by decide +kernel
theorem dX8_thenTask_9 : decode cX8_thenTask 9 = .ok (.ifCond .eq 27, 3) := by decide +kernel
theorem dX8_thenTask_12 : decode cX8_thenTask 12 = .ok (.iload_n 2, 1) := by decide +kernel
theorem dX8_thenTask_13 : decode cX8_thenTask 13 = .ok (.i2l, 1) := by decide +kernel
theorem dX8_thenTask_14 : decode cX8_thenTask 14 = .ok (.lconst 0, 1) := by decide +kernel
theorem dX8_thenTask_15 : decode cX8_thenTask 15 = .ok (.ldc2_w 134, 3) := by decide +kernel
theorem dX8_thenTask_18 : decode cX8_thenTask 18 = .ok (.invokestatic 44, 3) := by decide +kernel
theorem dX8_thenTask_21 : decode cX8_thenTask 21 = .ok (.ifCond .eq 15, 3) := by decide +kernel
theorem dX8_thenTask_24 : decode cX8_thenTask 24 = .ok (.iload_n 3, 1) := by decide +kernel
theorem dX8_thenTask_25 : decode cX8_thenTask 25 = .ok (.i2l, 1) := by decide +kernel
theorem dX8_thenTask_26 : decode cX8_thenTask 26 = .ok (.lconst 0, 1) := by decide +kernel
theorem dX8_thenTask_27 : decode cX8_thenTask 27 = .ok (.ldc2_w 142, 3) := by decide +kernel
theorem dX8_thenTask_30 : decode cX8_thenTask 30 = .ok (.invokestatic 44, 3) := by decide +kernel
theorem dX8_thenTask_33 : decode cX8_thenTask 33 = .ok (.ifCond .ne 10, 3) := by decide +kernel
theorem dX8_thenTask_36 : decode cX8_thenTask 36 = .ok (.aload_n 0, 1) := by decide +kernel
theorem dX8_thenTask_37 : decode cX8_thenTask 37 = .ok (.ldc 43, 2) := by decide +kernel
theorem dX8_thenTask_39 : decode cX8_thenTask 39 = .ok (.invokevirtual 84, 3) := by decide +kernel
theorem dX8_thenTask_42 : decode cX8_thenTask 42 = .ok (.ireturn, 1) := by decide +kernel
theorem dX8_thenTask_43 : decode cX8_thenTask 43 = .ok (.aload_n 0, 1) := by decide +kernel
theorem dX8_thenTask_44 : decode cX8_thenTask 44 = .ok (.invokevirtual 256, 3) := by decide +kernel
theorem dX8_thenTask_47 : decode cX8_thenTask 47 = .ok (.aload_n 0, 1) := by decide +kernel
theorem dX8_thenTask_48 : decode cX8_thenTask 48 = .ok (.iload_n 1, 1) := by decide +kernel
theorem dX8_thenTask_49 : decode cX8_thenTask 49 = .ok (.iconst 0, 1) := by decide +kernel
theorem dX8_thenTask_50 : decode cX8_thenTask 50 = .ok (.invokevirtual 251, 3) := by decide +kernel
theorem dX8_thenTask_53 : decode cX8_thenTask 53 = .ok (.aload_n 0, 1) := by decide +kernel
theorem dX8_thenTask_54 : decode cX8_thenTask 54 = .ok (.iload_n 2, 1) := by decide +kernel
theorem dX8_thenTask_55 : decode cX8_thenTask 55 = .ok (.iload_n 3, 1) := by decide +kernel
theorem dX8_thenTask_56 : decode cX8_thenTask 56 = .ok (.invokevirtual 144, 3) := by decide +kernel
theorem dX8_thenTask_59 : decode cX8_thenTask 59 = .ok (.istore 4, 2) := by decide +kernel
theorem dX8_thenTask_61 : decode cX8_thenTask 61 = .ok (.aload_n 0, 1) := by decide +kernel
theorem dX8_thenTask_62 : decode cX8_thenTask 62 = .ok (.invokevirtual 259, 3) := by decide +kernel
theorem dX8_thenTask_65 : decode cX8_thenTask 65 = .ok (.iload 4, 2) := by decide +kernel
theorem dX8_thenTask_67 : decode cX8_thenTask 67 = .ok (.ireturn, 1) := by decide +kernel
theorem dX8_lost_0 : decode cX8_lost 0 = .ok (.iload_n 1, 1) := by decide +kernel
theorem dX8_lost_1 : decode cX8_lost 1 = .ok (.invokestatic 113, 3) := by decide +kernel
theorem dX8_lost_4 : decode cX8_lost 4 = .ok (.ifCond .eq 15, 3) := by decide +kernel
theorem dX8_lost_7 : decode cX8_lost 7 = .ok (.iload_n 2, 1) := by decide +kernel
theorem dX8_lost_8 : decode cX8_lost 8 = .ok (.i2l, 1) := by decide +kernel
theorem dX8_lost_9 : decode cX8_lost 9 = .ok (.lconst 0, 1) := by decide +kernel
theorem dX8_lost_10 : decode cX8_lost 10 = .ok (.ldc2_w 242, 3) := by decide +kernel
theorem dX8_lost_13 : decode cX8_lost 13 = .ok (.invokestatic 44, 3) := by decide +kernel
theorem dX8_lost_16 : decode cX8_lost 16 = .ok (.ifCond .ne 10, 3) := by decide +kernel
theorem dX8_lost_19 : decode cX8_lost 19 = .ok (.aload_n 0, 1) := by decide +kernel
theorem dX8_lost_20 : decode cX8_lost 20 = .ok (.ldc 43, 2) := by decide +kernel
theorem dX8_lost_22 : decode cX8_lost 22 = .ok (.invokevirtual 84, 3) := by decide +kernel
theorem dX8_lost_25 : decode cX8_lost 25 = .ok (.ireturn, 1) := by decide +kernel
theorem dX8_lost_26 : decode cX8_lost 26 = .ok (.aload_n 0, 1) := by decide +kernel
theorem dX8_lost_27 : decode cX8_lost 27 = .ok (.invokevirtual 256, 3) := by decide +kernel
theorem dX8_lost_30 : decode cX8_lost 30 = .ok (.iconst 0, 1) := by decide +kernel
theorem dX8_lost_31 : decode cX8_lost 31 = .ok (.istore_n 3, 1) := by decide +kernel
theorem dX8_lost_32 : decode cX8_lost 32 = .ok (.iload_n 3, 1) := by decide +kernel
theorem dX8_lost_33 : decode cX8_lost 33 = .ok (.iload_n 2, 1) := by decide +kernel
theorem dX8_lost_34 : decode cX8_lost 34 = .ok (.if_icmp .gt 22, 3) := by decide +kernel
theorem dX8_lost_37 : decode cX8_lost 37 = .ok (.aload_n 0, 1) := by decide +kernel
theorem dX8_lost_38 : decode cX8_lost 38 = .ok (.iload_n 1, 1) := by decide +kernel
theorem dX8_lost_39 : decode cX8_lost 39 = .ok (.invokevirtual 139, 3) := by decide +kernel
theorem dX8_lost_42 : decode cX8_lost 42 = .ok (.ifCond .le 14, 3) := by decide +kernel
theorem dX8_lost_45 : decode cX8_lost 45 = .ok (.aload_n 0, 1) := by decide +kernel
theorem dX8_lost_46 : decode cX8_lost 46 = .ok (.iconst 0, 1) := by decide +kernel
theorem dX8_lost_47 : decode cX8_lost 47 = .ok (.invokevirtual 238, 3) := by decide +kernel
theorem dX8_lost_50 : decode cX8_lost 50 = .ok (.iinc 3 1, 3) := by decide +kernel
theorem dX8_lost_53 : decode cX8_lost 53 = .ok (.goto (-21), 3) := by decide +kernel
theorem dX8_lost_56 : decode cX8_lost 56 = .ok (.aload_n 0, 1) := by decide +kernel
theorem dX8_lost_57 : decode cX8_lost 57 = .ok (.invokevirtual 259, 3) := by decide +kernel
theorem dX8_lost_60 : decode cX8_lost 60 = .ok (.iload_n 3, 1) := by decide +kernel
theorem dX8_lost_61 : decode cX8_lost 61 = .ok (.iload_n 2, 1) := by decide +kernel
theorem dX8_lost_62 : decode cX8_lost 62 = .ok (.if_icmp .le 13, 3) := by decide +kernel
theorem dX8_lost_65 : decode cX8_lost 65 = .ok (.aload_n 0, 1) := by decide +kernel
theorem dX8_lost_66 : decode cX8_lost 66 = .ok (.ldc_w 262, 3) := by decide +kernel
theorem dX8_lost_69 : decode cX8_lost 69 = .ok (.invokevirtual 84, 3) := by decide +kernel
theorem dX8_lost_72 : decode cX8_lost 72 = .ok (.goto 4, 3) := by decide +kernel
theorem dX8_lost_75 : decode cX8_lost 75 = .ok (.iload_n 3, 1) := by decide +kernel
theorem dX8_lost_76 : decode cX8_lost 76 = .ok (.ireturn, 1) := by decide +kernel
theorem dX8_isKept_0 : decode cX8_isKept 0 = .ok (.iconst 0, 1) := by decide +kernel
theorem dX8_isKept_1 : decode cX8_isKept 1 = .ok (.istore 4, 2) := by decide +kernel
theorem dX8_isKept_3 : decode cX8_isKept 3 = .ok (.iload 4, 2) := by decide +kernel
theorem dX8_isKept_5 : decode cX8_isKept 5 = .ok (.aload_n 0, 1) := by decide +kernel
theorem dX8_isKept_6 : decode cX8_isKept 6 = .ok (.getfield 7, 3) := by decide +kernel
theorem dX8_isKept_9 : decode cX8_isKept 9 = .ok (.iconst 0, 1) := by decide +kernel
theorem dX8_isKept_10 : decode cX8_isKept 10 = .ok (.iaload, 1) := by decide +kernel
theorem dX8_isKept_11 : decode cX8_isKept 11 = .ok (.if_icmp .ge 34, 3) := by decide +kernel
theorem dX8_isKept_14 : decode cX8_isKept 14 = .ok (.aload_n 0, 1) := by decide +kernel
theorem dX8_isKept_15 : decode cX8_isKept 15 = .ok (.getfield 7, 3) := by decide +kernel
theorem dX8_isKept_18 : decode cX8_isKept 18 = .ok (.iload 4, 2) := by decide +kernel
theorem dX8_isKept_20 : decode cX8_isKept 20 = .ok (.iconst 4, 1) := by decide +kernel
theorem dX8_isKept_21 : decode cX8_isKept 21 = .ok (.invokestatic 56, 3) := by decide +kernel
theorem dX8_isKept_24 : decode cX8_isKept 24 = .ok (.iload_n 3, 1) := by decide +kernel
theorem dX8_isKept_25 : decode cX8_isKept 25 = .ok (.iload 4, 2) := by decide +kernel
theorem dX8_isKept_27 : decode cX8_isKept 27 = .ok (.invokestatic 63, 3) := by decide +kernel
theorem dX8_isKept_30 : decode cX8_isKept 30 = .ok (.ifCond .eq 7, 3) := by decide +kernel
theorem dX8_isKept_33 : decode cX8_isKept 33 = .ok (.iload_n 1, 1) := by decide +kernel
theorem dX8_isKept_34 : decode cX8_isKept 34 = .ok (.goto 4, 3) := by decide +kernel
theorem dX8_isKept_37 : decode cX8_isKept 37 = .ok (.iconst (-1), 1) := by decide +kernel
theorem dX8_isKept_38 : decode cX8_isKept 38 = .ok (.iastore, 1) := by decide +kernel
theorem dX8_isKept_39 : decode cX8_isKept 39 = .ok (.iinc 4 1, 3) := by decide +kernel
theorem dX8_isKept_42 : decode cX8_isKept 42 = .ok (.goto (-39), 3) := by decide +kernel
theorem dX8_isKept_45 : decode cX8_isKept 45 = .ok (.iconst 1, 1) := by decide +kernel
theorem dX8_isKept_46 : decode cX8_isKept 46 = .ok (.istore 4, 2) := by decide +kernel
theorem dX8_isKept_48 : decode cX8_isKept 48 = .ok (.iconst 0, 1) := by decide +kernel
theorem dX8_isKept_49 : decode cX8_isKept 49 = .ok (.istore 5, 2) := by decide +kernel
theorem dX8_isKept_51 : decode cX8_isKept 51 = .ok (.iload 5, 2) := by decide +kernel
theorem dX8_isKept_53 : decode cX8_isKept 53 = .ok (.iload_n 2, 1) := by decide +kernel
theorem dX8_isKept_54 : decode cX8_isKept 54 = .ok (.if_icmp .ge 34, 3) := by decide +kernel
theorem dX8_isKept_57 : decode cX8_isKept 57 = .ok (.iload 4, 2) := by decide +kernel
theorem dX8_isKept_59 : decode cX8_isKept 59 = .ok (.ifCond .eq 29, 3) := by decide +kernel
theorem dX8_isKept_62 : decode cX8_isKept 62 = .ok (.aload_n 0, 1) := by decide +kernel
theorem dX8_isKept_63 : decode cX8_isKept 63 = .ok (.iconst 0, 1) := by decide +kernel
theorem dX8_isKept_64 : decode cX8_isKept 64 = .ok (.invokevirtual 238, 3) := by decide +kernel
theorem dX8_isKept_67 : decode cX8_isKept 67 = .ok (.aload_n 0, 1) := by decide +kernel
theorem dX8_isKept_68 : decode cX8_isKept 68 = .ok (.iload_n 1, 1) := by decide +kernel
theorem dX8_isKept_69 : decode cX8_isKept 69 = .ok (.invokevirtual 139, 3) := by decide +kernel
theorem dX8_isKept_72 : decode cX8_isKept 72 = .ok (.ifCond .le 7, 3) := by decide +kernel
theorem dX8_isKept_75 : decode cX8_isKept 75 = .ok (.iconst 1, 1) := by decide +kernel
theorem dX8_isKept_76 : decode cX8_isKept 76 = .ok (.goto 4, 3) := by decide +kernel
theorem dX8_isKept_79 : decode cX8_isKept 79 = .ok (.iconst 0, 1) := by decide +kernel
theorem dX8_isKept_80 : decode cX8_isKept 80 = .ok (.istore 4, 2) := by decide +kernel
theorem dX8_isKept_82 : decode cX8_isKept 82 = .ok (.iinc 5 1, 3) := by decide +kernel
theorem dX8_isKept_85 : decode cX8_isKept 85 = .ok (.goto (-34), 3) := by decide +kernel
theorem dX8_isKept_88 : decode cX8_isKept 88 = .ok (.aload_n 0, 1) := by decide +kernel
theorem dX8_isKept_89 : decode cX8_isKept 89 = .ok (.invokevirtual 259, 3) := by decide +kernel
theorem dX8_isKept_92 : decode cX8_isKept 92 = .ok (.iload 4, 2) := by decide +kernel
theorem dX8_isKept_94 : decode cX8_isKept 94 = .ok (.ireturn, 1) := by decide +kernel
theorem dX8_teachers_0 : decode cX8_teachers 0 = .ok (.iload_n 1, 1) := by decide +kernel
theorem dX8_teachers_1 : decode cX8_teachers 1 = .ok (.invokestatic 113, 3) := by decide +kernel
theorem dX8_teachers_4 : decode cX8_teachers 4 = .ok (.ifCond .eq 25, 3) := by decide +kernel
theorem dX8_teachers_7 : decode cX8_teachers 7 = .ok (.iload_n 2, 1) := by decide +kernel
theorem dX8_teachers_8 : decode cX8_teachers 8 = .ok (.i2l, 1) := by decide +kernel
theorem dX8_teachers_9 : decode cX8_teachers 9 = .ok (.lconst 1, 1) := by decide +kernel
theorem dX8_teachers_10 : decode cX8_teachers 10 = .ok (.ldc2_w 263, 3) := by decide +kernel
theorem dX8_teachers_13 : decode cX8_teachers 13 = .ok (.invokestatic 44, 3) := by decide +kernel
theorem dX8_teachers_16 : decode cX8_teachers 16 = .ok (.ifCond .eq 13, 3) := by decide +kernel
theorem dX8_teachers_19 : decode cX8_teachers 19 = .ok (.iload_n 3, 1) := by decide +kernel
theorem dX8_teachers_20 : decode cX8_teachers 20 = .ok (.i2l, 1) := by decide +kernel
theorem dX8_teachers_21 : decode cX8_teachers 21 = .ok (.lconst 0, 1) := by decide +kernel
theorem dX8_teachers_22 : decode cX8_teachers 22 = .ok (.lconst 1, 1) := by decide +kernel
theorem dX8_teachers_23 : decode cX8_teachers 23 = .ok (.invokestatic 44, 3) := by decide +kernel
theorem dX8_teachers_26 : decode cX8_teachers 26 = .ok (.ifCond .ne 10, 3) := by decide +kernel
theorem dX8_teachers_29 : decode cX8_teachers 29 = .ok (.aload_n 0, 1) := by decide +kernel
theorem dX8_teachers_30 : decode cX8_teachers 30 = .ok (.ldc 43, 2) := by decide +kernel
theorem dX8_teachers_32 : decode cX8_teachers 32 = .ok (.invokevirtual 84, 3) := by decide +kernel
theorem dX8_teachers_35 : decode cX8_teachers 35 = .ok (.ireturn, 1) := by decide +kernel
theorem dX8_teachers_36 : decode cX8_teachers 36 = .ok (.aload_n 0, 1) := by decide +kernel
theorem dX8_teachers_37 : decode cX8_teachers 37 = .ok (.invokevirtual 256, 3) := by decide +kernel
theorem dX8_teachers_40 : decode cX8_teachers 40 = .ok (.iconst (-1), 1) := by decide +kernel
theorem dX8_teachers_41 : decode cX8_teachers 41 = .ok (.istore 4, 2) := by decide +kernel
theorem dX8_teachers_43 : decode cX8_teachers 43 = .ok (.iconst 0, 1) := by decide +kernel
theorem dX8_teachers_44 : decode cX8_teachers 44 = .ok (.istore 5, 2) := by decide +kernel
theorem dX8_teachers_46 : decode cX8_teachers 46 = .ok (.iload 5, 2) := by decide +kernel
theorem dX8_teachers_48 : decode cX8_teachers 48 = .ok (.iconst 1, 1) := by decide +kernel
theorem dX8_teachers_49 : decode cX8_teachers 49 = .ok (.aload_n 0, 1) := by decide +kernel
theorem dX8_teachers_50 : decode cX8_teachers 50 = .ok (.getfield 7, 3) := by decide +kernel
theorem dX8_teachers_53 : decode cX8_teachers 53 = .ok (.iconst 0, 1) := by decide +kernel
theorem dX8_teachers_54 : decode cX8_teachers 54 = .ok (.iaload, 1) := by decide +kernel
theorem dX8_teachers_55 : decode cX8_teachers 55 = .ok (.ishl, 1) := by decide +kernel
theorem dX8_teachers_56 : decode cX8_teachers 56 = .ok (.if_icmp .ge 47, 3) := by decide +kernel
theorem dX8_teachers_59 : decode cX8_teachers 59 = .ok (.iload 4, 2) := by decide +kernel
theorem dX8_teachers_61 : decode cX8_teachers 61 = .ok (.ifCond .lt 16, 3) := by decide +kernel
theorem dX8_teachers_64 : decode cX8_teachers 64 = .ok (.iload 5, 2) := by decide +kernel
theorem dX8_teachers_66 : decode cX8_teachers 66 = .ok (.invokestatic 67, 3) := by decide +kernel
theorem dX8_teachers_69 : decode cX8_teachers 69 = .ok (.iload 4, 2) := by decide +kernel
theorem dX8_teachers_71 : decode cX8_teachers 71 = .ok (.invokestatic 67, 3) := by decide +kernel
theorem dX8_teachers_74 : decode cX8_teachers 74 = .ok (.if_icmp .ge 23, 3) := by decide +kernel
theorem dX8_teachers_77 : decode cX8_teachers 77 = .ok (.aload_n 0, 1) := by decide +kernel
theorem dX8_teachers_78 : decode cX8_teachers 78 = .ok (.iload_n 1, 1) := by decide +kernel
theorem dX8_teachers_79 : decode cX8_teachers 79 = .ok (.iload_n 2, 1) := by decide +kernel
theorem dX8_teachers_80 : decode cX8_teachers 80 = .ok (.iload 5, 2) := by decide +kernel
theorem dX8_teachers_82 : decode cX8_teachers 82 = .ok (.invokevirtual 265, 3) := by decide +kernel
theorem dX8_teachers_85 : decode cX8_teachers 85 = .ok (.ifCond .eq 8, 3) := by decide +kernel
theorem dX8_teachers_88 : decode cX8_teachers 88 = .ok (.iload 5, 2) := by decide +kernel
theorem dX8_teachers_90 : decode cX8_teachers 90 = .ok (.goto 5, 3) := by decide +kernel
theorem dX8_teachers_93 : decode cX8_teachers 93 = .ok (.iload 4, 2) := by decide +kernel
theorem dX8_teachers_95 : decode cX8_teachers 95 = .ok (.istore 4, 2) := by decide +kernel
theorem dX8_teachers_97 : decode cX8_teachers 97 = .ok (.iinc 5 1, 3) := by decide +kernel
theorem dX8_teachers_100 : decode cX8_teachers 100 = .ok (.goto (-54), 3) := by decide +kernel
theorem dX8_teachers_103 : decode cX8_teachers 103 = .ok (.iload 4, 2) := by decide +kernel
theorem dX8_teachers_105 : decode cX8_teachers 105 = .ok (.ifCond .ge 13, 3) := by decide +kernel
theorem dX8_teachers_108 : decode cX8_teachers 108 = .ok (.aload_n 0, 1) := by decide +kernel
theorem dX8_teachers_109 : decode cX8_teachers 109 = .ok (.ldc_w 262, 3) := by decide +kernel
theorem dX8_teachers_112 : decode cX8_teachers 112 = .ok (.invokevirtual 84, 3) := by decide +kernel
theorem dX8_teachers_115 : decode cX8_teachers 115 = .ok (.goto 17, 3) := by decide +kernel
theorem dX8_teachers_118 : decode cX8_teachers 118 = .ok (.iload_n 3, 1) := by decide +kernel
theorem dX8_teachers_119 : decode cX8_teachers 119 = .ok (.ifCond .ne 11, 3) := by decide +kernel
theorem dX8_teachers_122 : decode cX8_teachers 122 = .ok (.iload 4, 2) := by decide +kernel
theorem dX8_teachers_124 : decode cX8_teachers 124 = .ok (.invokestatic 67, 3) := by decide +kernel
theorem dX8_teachers_127 : decode cX8_teachers 127 = .ok (.goto 5, 3) := by decide +kernel
theorem dX8_teachers_130 : decode cX8_teachers 130 = .ok (.iload 4, 2) := by decide +kernel
theorem dX8_teachers_132 : decode cX8_teachers 132 = .ok (.ireturn, 1) := by decide +kernel
theorem dX8_isDoneWithout_0 : decode cX8_isDoneWithout 0 = .ok (.iconst 1, 1) := by decide +kernel
theorem dX8_isDoneWithout_1 : decode cX8_isDoneWithout 1 = .ok (.istore_n 3, 1) := by decide +kernel
theorem dX8_isDoneWithout_2 : decode cX8_isDoneWithout 2 = .ok (.iconst 0, 1) := by decide +kernel
theorem dX8_isDoneWithout_3 : decode cX8_isDoneWithout 3 = .ok (.istore 4, 2) := by decide +kernel
theorem dX8_isDoneWithout_5 : decode cX8_isDoneWithout 5 = .ok (.iload 4, 2) := by decide +kernel
theorem dX8_isDoneWithout_7 : decode cX8_isDoneWithout 7 = .ok (.iconst 4, 1) := by decide +kernel
theorem dX8_isDoneWithout_8 : decode cX8_isDoneWithout 8 = .ok (.if_icmp .ge 80, 3) := by decide +kernel
theorem dX8_isDoneWithout_11 : decode cX8_isDoneWithout 11 = .ok (.aload_n 0, 1) := by decide +kernel
theorem dX8_isDoneWithout_12 : decode cX8_isDoneWithout 12 = .ok (.iload 4, 2) := by decide +kernel
theorem dX8_isDoneWithout_14 : decode cX8_isDoneWithout 14 = .ok (.iconst 0, 1) := by decide +kernel
theorem dX8_isDoneWithout_15 : decode cX8_isDoneWithout 15 = .ok (.invokevirtual 136, 3) := by decide +kernel
theorem dX8_isDoneWithout_18 : decode cX8_isDoneWithout 18 = .ok (.istore 5, 2) := by decide +kernel
theorem dX8_isDoneWithout_20 : decode cX8_isDoneWithout 20 = .ok (.aload_n 0, 1) := by decide +kernel
theorem dX8_isDoneWithout_21 : decode cX8_isDoneWithout 21 = .ok (.iload 5, 2) := by decide +kernel
theorem dX8_isDoneWithout_23 : decode cX8_isDoneWithout 23 = .ok (.invokevirtual 139, 3) := by decide +kernel
theorem dX8_isDoneWithout_26 : decode cX8_isDoneWithout 26 = .ok (.aload_n 0, 1) := by decide +kernel
theorem dX8_isDoneWithout_27 : decode cX8_isDoneWithout 27 = .ok (.iload_n 1, 1) := by decide +kernel
theorem dX8_isDoneWithout_28 : decode cX8_isDoneWithout 28 = .ok (.iload 5, 2) := by decide +kernel
theorem dX8_isDoneWithout_30 : decode cX8_isDoneWithout 30 = .ok (.invokevirtual 118, 3) := by decide +kernel
theorem dX8_isDoneWithout_33 : decode cX8_isDoneWithout 33 = .ok (.ifCond .eq 7, 3) := by decide +kernel
theorem dX8_isDoneWithout_36 : decode cX8_isDoneWithout 36 = .ok (.iconst 1, 1) := by decide +kernel
theorem dX8_isDoneWithout_37 : decode cX8_isDoneWithout 37 = .ok (.goto 4, 3) := by decide +kernel
theorem dX8_isDoneWithout_40 : decode cX8_isDoneWithout 40 = .ok (.iconst 0, 1) := by decide +kernel
theorem dX8_isDoneWithout_41 : decode cX8_isDoneWithout 41 = .ok (.isub, 1) := by decide +kernel
theorem dX8_isDoneWithout_42 : decode cX8_isDoneWithout 42 = .ok (.aload_n 0, 1) := by decide +kernel
theorem dX8_isDoneWithout_43 : decode cX8_isDoneWithout 43 = .ok (.iload_n 2, 1) := by decide +kernel
theorem dX8_isDoneWithout_44 : decode cX8_isDoneWithout 44 = .ok (.iload 5, 2) := by decide +kernel
theorem dX8_isDoneWithout_46 : decode cX8_isDoneWithout 46 = .ok (.invokevirtual 118, 3) := by decide +kernel
theorem dX8_isDoneWithout_49 : decode cX8_isDoneWithout 49 = .ok (.ifCond .eq 7, 3) := by decide +kernel
theorem dX8_isDoneWithout_52 : decode cX8_isDoneWithout 52 = .ok (.iconst 1, 1) := by decide +kernel
theorem dX8_isDoneWithout_53 : decode cX8_isDoneWithout 53 = .ok (.goto 4, 3) := by decide +kernel
theorem dX8_isDoneWithout_56 : decode cX8_isDoneWithout 56 = .ok (.iconst 0, 1) := by decide +kernel
theorem dX8_isDoneWithout_57 : decode cX8_isDoneWithout 57 = .ok (.isub, 1) := by decide +kernel
theorem dX8_isDoneWithout_58 : decode cX8_isDoneWithout 58 = .ok (.istore 6, 2) := by decide +kernel
theorem dX8_isDoneWithout_60 : decode cX8_isDoneWithout 60 = .ok (.iload_n 3, 1) := by decide +kernel
theorem dX8_isDoneWithout_61 : decode cX8_isDoneWithout 61 = .ok (.ifCond .eq 19, 3) := by decide +kernel
theorem dX8_isDoneWithout_64 : decode cX8_isDoneWithout 64 = .ok (.iload 6, 2) := by decide +kernel
theorem dX8_isDoneWithout_66 : decode cX8_isDoneWithout 66 = .ok (.aload_n 0, 1) := by decide +kernel
theorem dX8_isDoneWithout_67 : decode cX8_isDoneWithout 67 = .ok (.iload 4, 2) := by decide +kernel
theorem dX8_isDoneWithout_69 : decode cX8_isDoneWithout 69 = .ok (.iconst 1, 1) := by decide +kernel
theorem dX8_isDoneWithout_70 : decode cX8_isDoneWithout 70 = .ok (.invokevirtual 136, 3) := by decide +kernel
theorem dX8_isDoneWithout_73 : decode cX8_isDoneWithout 73 = .ok (.if_icmp .lt 7, 3) := by decide +kernel
theorem dX8_isDoneWithout_76 : decode cX8_isDoneWithout 76 = .ok (.iconst 1, 1) := by decide +kernel
theorem dX8_isDoneWithout_77 : decode cX8_isDoneWithout 77 = .ok (.goto 4, 3) := by decide +kernel
theorem dX8_isDoneWithout_80 : decode cX8_isDoneWithout 80 = .ok (.iconst 0, 1) := by decide +kernel
theorem dX8_isDoneWithout_81 : decode cX8_isDoneWithout 81 = .ok (.istore_n 3, 1) := by decide +kernel
theorem dX8_isDoneWithout_82 : decode cX8_isDoneWithout 82 = .ok (.iinc 4 1, 3) := by decide +kernel
theorem dX8_isDoneWithout_85 : decode cX8_isDoneWithout 85 = .ok (.goto (-80), 3) := by decide +kernel
theorem dX8_isDoneWithout_88 : decode cX8_isDoneWithout 88 = .ok (.iload_n 3, 1) := by decide +kernel
theorem dX8_isDoneWithout_89 : decode cX8_isDoneWithout 89 = .ok (.ireturn, 1) := by decide +kernel
theorem dX8_storm_0 : decode cX8_storm 0 = .ok (.iload_n 1, 1) := by decide +kernel
theorem dX8_storm_1 : decode cX8_storm 1 = .ok (.i2l, 1) := by decide +kernel
theorem dX8_storm_2 : decode cX8_storm 2 = .ok (.lconst 0, 1) := by decide +kernel
theorem dX8_storm_3 : decode cX8_storm 3 = .ok (.lconst 1, 1) := by decide +kernel
theorem dX8_storm_4 : decode cX8_storm 4 = .ok (.invokestatic 44, 3) := by decide +kernel
theorem dX8_storm_7 : decode cX8_storm 7 = .ok (.ifCond .ne 10, 3) := by decide +kernel
theorem dX8_storm_10 : decode cX8_storm 10 = .ok (.aload_n 0, 1) := by decide +kernel
theorem dX8_storm_11 : decode cX8_storm 11 = .ok (.ldc 43, 2) := by decide +kernel
theorem dX8_storm_13 : decode cX8_storm 13 = .ok (.invokevirtual 84, 3) := by decide +kernel
theorem dX8_storm_16 : decode cX8_storm 16 = .ok (.ireturn, 1) := by decide +kernel
theorem dX8_storm_17 : decode cX8_storm 17 = .ok (.iconst 0, 1) := by decide +kernel
theorem dX8_storm_18 : decode cX8_storm 18 = .ok (.istore_n 2, 1) := by decide +kernel
theorem dX8_storm_19 : decode cX8_storm 19 = .ok (.iconst (-1), 1) := by decide +kernel
theorem dX8_storm_20 : decode cX8_storm 20 = .ok (.istore_n 3, 1) := by decide +kernel
theorem dX8_storm_21 : decode cX8_storm 21 = .ok (.iconst 0, 1) := by decide +kernel
theorem dX8_storm_22 : decode cX8_storm 22 = .ok (.istore 4, 2) := by decide +kernel
theorem dX8_storm_24 : decode cX8_storm 24 = .ok (.iload 4, 2) := by decide +kernel
theorem dX8_storm_26 : decode cX8_storm 26 = .ok (.aload_n 0, 1) := by decide +kernel
theorem dX8_storm_27 : decode cX8_storm 27 = .ok (.getfield 7, 3) := by decide +kernel
theorem dX8_storm_30 : decode cX8_storm 30 = .ok (.iconst 0, 1) := by decide +kernel
theorem dX8_storm_31 : decode cX8_storm 31 = .ok (.iaload, 1) := by decide +kernel
theorem dX8_storm_32 : decode cX8_storm 32 = .ok (.if_icmp .ge 63, 3) := by decide +kernel
theorem dX8_storm_35 : decode cX8_storm 35 = .ok (.iload 4, 2) := by decide +kernel
theorem dX8_storm_37 : decode cX8_storm 37 = .ok (.iconst 1, 1) := by decide +kernel
theorem dX8_storm_38 : decode cX8_storm 38 = .ok (.iadd, 1) := by decide +kernel
theorem dX8_storm_39 : decode cX8_storm 39 = .ok (.istore 5, 2) := by decide +kernel
theorem dX8_storm_41 : decode cX8_storm 41 = .ok (.iload 5, 2) := by decide +kernel
theorem dX8_storm_43 : decode cX8_storm 43 = .ok (.aload_n 0, 1) := by decide +kernel
theorem dX8_storm_44 : decode cX8_storm 44 = .ok (.getfield 7, 3) := by decide +kernel
theorem dX8_storm_47 : decode cX8_storm 47 = .ok (.iconst 0, 1) := by decide +kernel
theorem dX8_storm_48 : decode cX8_storm 48 = .ok (.iaload, 1) := by decide +kernel
theorem dX8_storm_49 : decode cX8_storm 49 = .ok (.if_icmp .ge 40, 3) := by decide +kernel
theorem dX8_storm_52 : decode cX8_storm 52 = .ok (.aload_n 0, 1) := by decide +kernel
theorem dX8_storm_53 : decode cX8_storm 53 = .ok (.iload 4, 2) := by decide +kernel
theorem dX8_storm_55 : decode cX8_storm 55 = .ok (.iload 5, 2) := by decide +kernel
theorem dX8_storm_57 : decode cX8_storm 57 = .ok (.invokevirtual 269, 3) := by decide +kernel
theorem dX8_storm_60 : decode cX8_storm 60 = .ok (.ifCond .eq 23, 3) := by decide +kernel
theorem dX8_storm_63 : decode cX8_storm 63 = .ok (.iinc 2 1, 3) := by decide +kernel
theorem dX8_storm_66 : decode cX8_storm 66 = .ok (.iload_n 3, 1) := by decide +kernel
theorem dX8_storm_67 : decode cX8_storm 67 = .ok (.ifCond .ge 14, 3) := by decide +kernel
theorem dX8_storm_70 : decode cX8_storm 70 = .ok (.bipush 10, 2) := by decide +kernel
theorem dX8_storm_72 : decode cX8_storm 72 = .ok (.iload 4, 2) := by decide +kernel
theorem dX8_storm_74 : decode cX8_storm 74 = .ok (.imul, 1) := by decide +kernel
theorem dX8_storm_75 : decode cX8_storm 75 = .ok (.iload 5, 2) := by decide +kernel
theorem dX8_storm_77 : decode cX8_storm 77 = .ok (.iadd, 1) := by decide +kernel
theorem dX8_storm_78 : decode cX8_storm 78 = .ok (.goto 4, 3) := by decide +kernel
theorem dX8_storm_81 : decode cX8_storm 81 = .ok (.iload_n 3, 1) := by decide +kernel
theorem dX8_storm_82 : decode cX8_storm 82 = .ok (.istore_n 3, 1) := by decide +kernel
theorem dX8_storm_83 : decode cX8_storm 83 = .ok (.iinc 5 1, 3) := by decide +kernel
theorem dX8_storm_86 : decode cX8_storm 86 = .ok (.goto (-45), 3) := by decide +kernel
theorem dX8_storm_89 : decode cX8_storm 89 = .ok (.iinc 4 1, 3) := by decide +kernel
theorem dX8_storm_92 : decode cX8_storm 92 = .ok (.goto (-68), 3) := by decide +kernel
theorem dX8_storm_95 : decode cX8_storm 95 = .ok (.iload_n 1, 1) := by decide +kernel
theorem dX8_storm_96 : decode cX8_storm 96 = .ok (.ifCond .ne 7, 3) := by decide +kernel
theorem dX8_storm_99 : decode cX8_storm 99 = .ok (.iload_n 2, 1) := by decide +kernel
theorem dX8_storm_100 : decode cX8_storm 100 = .ok (.goto 18, 3) := by decide +kernel
theorem dX8_storm_103 : decode cX8_storm 103 = .ok (.iload_n 3, 1) := by decide +kernel
theorem dX8_storm_104 : decode cX8_storm 104 = .ok (.ifCond .ge 13, 3) := by decide +kernel
theorem dX8_storm_107 : decode cX8_storm 107 = .ok (.aload_n 0, 1) := by decide +kernel
theorem dX8_storm_108 : decode cX8_storm 108 = .ok (.ldc_w 262, 3) := by decide +kernel
theorem dX8_storm_111 : decode cX8_storm 111 = .ok (.invokevirtual 84, 3) := by decide +kernel
theorem dX8_storm_114 : decode cX8_storm 114 = .ok (.goto 4, 3) := by decide +kernel
theorem dX8_storm_117 : decode cX8_storm 117 = .ok (.iload_n 3, 1) := by decide +kernel
theorem dX8_storm_118 : decode cX8_storm 118 = .ok (.ireturn, 1) := by decide +kernel
theorem dX8_doneIn_0 : decode cX8_doneIn 0 = .ok (.aload_n 0, 1) := by decide +kernel
theorem dX8_doneIn_1 : decode cX8_doneIn 1 = .ok (.getfield 7, 3) := by decide +kernel
theorem dX8_doneIn_4 : decode cX8_doneIn 4 = .ok (.iconst 4, 1) := by decide +kernel
theorem dX8_doneIn_5 : decode cX8_doneIn 5 = .ok (.iload_n 2, 1) := by decide +kernel
theorem dX8_doneIn_6 : decode cX8_doneIn 6 = .ok (.iastore, 1) := by decide +kernel
theorem dX8_doneIn_7 : decode cX8_doneIn 7 = .ok (.aload_n 0, 1) := by decide +kernel
theorem dX8_doneIn_8 : decode cX8_doneIn 8 = .ok (.iload_n 1, 1) := by decide +kernel
theorem dX8_doneIn_9 : decode cX8_doneIn 9 = .ok (.iconst 0, 1) := by decide +kernel
theorem dX8_doneIn_10 : decode cX8_doneIn 10 = .ok (.invokevirtual 251, 3) := by decide +kernel
theorem dX8_doneIn_13 : decode cX8_doneIn 13 = .ok (.iconst 0, 1) := by decide +kernel
theorem dX8_doneIn_14 : decode cX8_doneIn 14 = .ok (.istore_n 3, 1) := by decide +kernel
theorem dX8_doneIn_15 : decode cX8_doneIn 15 = .ok (.iconst 0, 1) := by decide +kernel
theorem dX8_doneIn_16 : decode cX8_doneIn 16 = .ok (.istore 4, 2) := by decide +kernel
theorem dX8_doneIn_18 : decode cX8_doneIn 18 = .ok (.iload 4, 2) := by decide +kernel
theorem dX8_doneIn_20 : decode cX8_doneIn 20 = .ok (.iconst 4, 1) := by decide +kernel
theorem dX8_doneIn_21 : decode cX8_doneIn 21 = .ok (.if_icmp .ge 19, 3) := by decide +kernel
theorem dX8_doneIn_24 : decode cX8_doneIn 24 = .ok (.iload_n 3, 1) := by decide +kernel
theorem dX8_doneIn_25 : decode cX8_doneIn 25 = .ok (.aload_n 0, 1) := by decide +kernel
theorem dX8_doneIn_26 : decode cX8_doneIn 26 = .ok (.iload 4, 2) := by decide +kernel
theorem dX8_doneIn_28 : decode cX8_doneIn 28 = .ok (.iconst 2, 1) := by decide +kernel
theorem dX8_doneIn_29 : decode cX8_doneIn 29 = .ok (.invokevirtual 136, 3) := by decide +kernel
theorem dX8_doneIn_32 : decode cX8_doneIn 32 = .ok (.iadd, 1) := by decide +kernel
theorem dX8_doneIn_33 : decode cX8_doneIn 33 = .ok (.istore_n 3, 1) := by decide +kernel
theorem dX8_doneIn_34 : decode cX8_doneIn 34 = .ok (.iinc 4 1, 3) := by decide +kernel
theorem dX8_doneIn_37 : decode cX8_doneIn 37 = .ok (.goto (-19), 3) := by decide +kernel
theorem dX8_doneIn_40 : decode cX8_doneIn 40 = .ok (.aload_n 0, 1) := by decide +kernel
theorem dX8_doneIn_41 : decode cX8_doneIn 41 = .ok (.invokevirtual 259, 3) := by decide +kernel
theorem dX8_doneIn_44 : decode cX8_doneIn 44 = .ok (.iload_n 3, 1) := by decide +kernel
theorem dX8_doneIn_45 : decode cX8_doneIn 45 = .ok (.ireturn, 1) := by decide +kernel
theorem dX8_saves_0 : decode cX8_saves 0 = .ok (.iload_n 1, 1) := by decide +kernel
theorem dX8_saves_1 : decode cX8_saves 1 = .ok (.invokestatic 113, 3) := by decide +kernel
theorem dX8_saves_4 : decode cX8_saves 4 = .ok (.ifCond .eq 15, 3) := by decide +kernel
theorem dX8_saves_7 : decode cX8_saves 7 = .ok (.iload_n 2, 1) := by decide +kernel
theorem dX8_saves_8 : decode cX8_saves 8 = .ok (.i2l, 1) := by decide +kernel
theorem dX8_saves_9 : decode cX8_saves 9 = .ok (.lconst 0, 1) := by decide +kernel
theorem dX8_saves_10 : decode cX8_saves 10 = .ok (.ldc2_w 242, 3) := by decide +kernel
theorem dX8_saves_13 : decode cX8_saves 13 = .ok (.invokestatic 44, 3) := by decide +kernel
theorem dX8_saves_16 : decode cX8_saves 16 = .ok (.ifCond .ne 10, 3) := by decide +kernel
theorem dX8_saves_19 : decode cX8_saves 19 = .ok (.aload_n 0, 1) := by decide +kernel
theorem dX8_saves_20 : decode cX8_saves 20 = .ok (.ldc 43, 2) := by decide +kernel
theorem dX8_saves_22 : decode cX8_saves 22 = .ok (.invokevirtual 84, 3) := by decide +kernel
theorem dX8_saves_25 : decode cX8_saves 25 = .ok (.ireturn, 1) := by decide +kernel
theorem dX8_saves_26 : decode cX8_saves 26 = .ok (.aload_n 0, 1) := by decide +kernel
theorem dX8_saves_27 : decode cX8_saves 27 = .ok (.invokevirtual 256, 3) := by decide +kernel
theorem dX8_saves_30 : decode cX8_saves 30 = .ok (.aload_n 0, 1) := by decide +kernel
theorem dX8_saves_31 : decode cX8_saves 31 = .ok (.iload_n 2, 1) := by decide +kernel
theorem dX8_saves_32 : decode cX8_saves 32 = .ok (.aload_n 0, 1) := by decide +kernel
theorem dX8_saves_33 : decode cX8_saves 33 = .ok (.getfield 7, 3) := by decide +kernel
theorem dX8_saves_36 : decode cX8_saves 36 = .ok (.iconst 4, 1) := by decide +kernel
theorem dX8_saves_37 : decode cX8_saves 37 = .ok (.iaload, 1) := by decide +kernel
theorem dX8_saves_38 : decode cX8_saves 38 = .ok (.iconst 1, 1) := by decide +kernel
theorem dX8_saves_39 : decode cX8_saves 39 = .ok (.iload_n 1, 1) := by decide +kernel
theorem dX8_saves_40 : decode cX8_saves 40 = .ok (.ishl, 1) := by decide +kernel
theorem dX8_saves_41 : decode cX8_saves 41 = .ok (.ior, 1) := by decide +kernel
theorem dX8_saves_42 : decode cX8_saves 42 = .ok (.invokevirtual 272, 3) := by decide +kernel
theorem dX8_saves_45 : decode cX8_saves 45 = .ok (.istore_n 3, 1) := by decide +kernel
theorem dX8_saves_46 : decode cX8_saves 46 = .ok (.iload_n 3, 1) := by decide +kernel
theorem dX8_saves_47 : decode cX8_saves 47 = .ok (.aload_n 0, 1) := by decide +kernel
theorem dX8_saves_48 : decode cX8_saves 48 = .ok (.iload_n 2, 1) := by decide +kernel
theorem dX8_saves_49 : decode cX8_saves 49 = .ok (.aload_n 0, 1) := by decide +kernel
theorem dX8_saves_50 : decode cX8_saves 50 = .ok (.getfield 7, 3) := by decide +kernel
theorem dX8_saves_53 : decode cX8_saves 53 = .ok (.iconst 4, 1) := by decide +kernel
theorem dX8_saves_54 : decode cX8_saves 54 = .ok (.iaload, 1) := by decide +kernel
theorem dX8_saves_55 : decode cX8_saves 55 = .ok (.iconst 1, 1) := by decide +kernel
theorem dX8_saves_56 : decode cX8_saves 56 = .ok (.iload_n 1, 1) := by decide +kernel
theorem dX8_saves_57 : decode cX8_saves 57 = .ok (.ishl, 1) := by decide +kernel
theorem dX8_saves_58 : decode cX8_saves 58 = .ok (.iconst (-1), 1) := by decide +kernel
theorem dX8_saves_59 : decode cX8_saves 59 = .ok (.ixor, 1) := by decide +kernel
theorem dX8_saves_60 : decode cX8_saves 60 = .ok (.iand, 1) := by decide +kernel
theorem dX8_saves_61 : decode cX8_saves 61 = .ok (.invokevirtual 272, 3) := by decide +kernel
theorem dX8_saves_64 : decode cX8_saves 64 = .ok (.isub, 1) := by decide +kernel
theorem dX8_saves_65 : decode cX8_saves 65 = .ok (.ireturn, 1) := by decide +kernel
theorem dX8_isVersion_0 : decode cX8_isVersion 0 = .ok (.iload_n 0, 1) := by decide +kernel
theorem dX8_isVersion_1 : decode cX8_isVersion 1 = .ok (.i2l, 1) := by decide +kernel
theorem dX8_isVersion_2 : decode cX8_isVersion 2 = .ok (.lconst 0, 1) := by decide +kernel
theorem dX8_isVersion_3 : decode cX8_isVersion 3 = .ok (.ldc2_w 116, 3) := by decide +kernel
theorem dX8_isVersion_6 : decode cX8_isVersion 6 = .ok (.invokestatic 44, 3) := by decide +kernel
theorem dX8_isVersion_9 : decode cX8_isVersion 9 = .ok (.ireturn, 1) := by decide +kernel
theorem dX8_changes_0 : decode cX8_changes 0 = .ok (.iload_n 1, 1) := by decide +kernel
theorem dX8_changes_1 : decode cX8_changes 1 = .ok (.invokestatic 113, 3) := by decide +kernel
theorem dX8_changes_4 : decode cX8_changes 4 = .ok (.ifCond .eq 10, 3) := by decide +kernel
theorem dX8_changes_7 : decode cX8_changes 7 = .ok (.iload_n 2, 1) := by decide +kernel
theorem dX8_changes_8 : decode cX8_changes 8 = .ok (.invokestatic 275, 3) := by decide +kernel
theorem dX8_changes_11 : decode cX8_changes 11 = .ok (.ifCond .ne 10, 3) := by decide +kernel
theorem dX8_changes_14 : decode cX8_changes 14 = .ok (.aload_n 0, 1) := by decide +kernel
theorem dX8_changes_15 : decode cX8_changes 15 = .ok (.ldc 43, 2) := by decide +kernel
theorem dX8_changes_17 : decode cX8_changes 17 = .ok (.invokevirtual 84, 3) := by decide +kernel
theorem dX8_changes_20 : decode cX8_changes 20 = .ok (.ireturn, 1) := by decide +kernel
theorem dX8_changes_21 : decode cX8_changes 21 = .ok (.iload_n 2, 1) := by decide +kernel
theorem dX8_changes_22 : decode cX8_changes 22 = .ok (.istore_n 3, 1) := by decide +kernel
theorem dX8_changes_23 : decode cX8_changes 23 = .ok (.iconst 0, 1) := by decide +kernel
theorem dX8_changes_24 : decode cX8_changes 24 = .ok (.istore 4, 2) := by decide +kernel
theorem dX8_changes_26 : decode cX8_changes 26 = .ok (.iconst 0, 1) := by decide +kernel
theorem dX8_changes_27 : decode cX8_changes 27 = .ok (.istore 5, 2) := by decide +kernel
theorem dX8_changes_29 : decode cX8_changes 29 = .ok (.iload 5, 2) := by decide +kernel
theorem dX8_changes_31 : decode cX8_changes 31 = .ok (.aload_n 0, 1) := by decide +kernel
theorem dX8_changes_32 : decode cX8_changes 32 = .ok (.getfield 7, 3) := by decide +kernel
theorem dX8_changes_35 : decode cX8_changes 35 = .ok (.iconst 0, 1) := by decide +kernel
theorem dX8_changes_36 : decode cX8_changes 36 = .ok (.iaload, 1) := by decide +kernel
theorem dX8_changes_37 : decode cX8_changes 37 = .ok (.if_icmp .ge 52, 3) := by decide +kernel
theorem dX8_changes_40 : decode cX8_changes 40 = .ok (.aload_n 0, 1) := by decide +kernel
theorem dX8_changes_41 : decode cX8_changes 41 = .ok (.iload 5, 2) := by decide +kernel
theorem dX8_changes_43 : decode cX8_changes 43 = .ok (.iload_n 1, 1) := by decide +kernel
theorem dX8_changes_44 : decode cX8_changes 44 = .ok (.invokevirtual 118, 3) := by decide +kernel
theorem dX8_changes_47 : decode cX8_changes 47 = .ok (.ifCond .eq 36, 3) := by decide +kernel
theorem dX8_changes_50 : decode cX8_changes 50 = .ok (.iload 4, 2) := by decide +kernel
theorem dX8_changes_52 : decode cX8_changes 52 = .ok (.aload_n 0, 1) := by decide +kernel
theorem dX8_changes_53 : decode cX8_changes 53 = .ok (.iload 5, 2) := by decide +kernel
theorem dX8_changes_55 : decode cX8_changes 55 = .ok (.iconst 5, 1) := by decide +kernel
theorem dX8_changes_56 : decode cX8_changes 56 = .ok (.iload_n 1, 1) := by decide +kernel
theorem dX8_changes_57 : decode cX8_changes 57 = .ok (.iadd, 1) := by decide +kernel
theorem dX8_changes_58 : decode cX8_changes 58 = .ok (.invokevirtual 60, 3) := by decide +kernel
theorem dX8_changes_61 : decode cX8_changes 61 = .ok (.iload_n 3, 1) := by decide +kernel
theorem dX8_changes_62 : decode cX8_changes 62 = .ok (.if_icmp .ne 7, 3) := by decide +kernel
theorem dX8_changes_65 : decode cX8_changes 65 = .ok (.iconst 0, 1) := by decide +kernel
theorem dX8_changes_66 : decode cX8_changes 66 = .ok (.goto 4, 3) := by decide +kernel
theorem dX8_changes_69 : decode cX8_changes 69 = .ok (.iconst 1, 1) := by decide +kernel
theorem dX8_changes_70 : decode cX8_changes 70 = .ok (.iadd, 1) := by decide +kernel
theorem dX8_changes_71 : decode cX8_changes 71 = .ok (.istore 4, 2) := by decide +kernel
theorem dX8_changes_73 : decode cX8_changes 73 = .ok (.aload_n 0, 1) := by decide +kernel
theorem dX8_changes_74 : decode cX8_changes 74 = .ok (.iload 5, 2) := by decide +kernel
theorem dX8_changes_76 : decode cX8_changes 76 = .ok (.iconst 5, 1) := by decide +kernel
theorem dX8_changes_77 : decode cX8_changes 77 = .ok (.iload_n 1, 1) := by decide +kernel
theorem dX8_changes_78 : decode cX8_changes 78 = .ok (.iadd, 1) := by decide +kernel
theorem dX8_changes_79 : decode cX8_changes 79 = .ok (.invokevirtual 60, 3) := by decide +kernel
theorem dX8_changes_82 : decode cX8_changes 82 = .ok (.istore_n 3, 1) := by decide +kernel
theorem dX8_changes_83 : decode cX8_changes 83 = .ok (.iinc 5 1, 3) := by decide +kernel
theorem dX8_changes_86 : decode cX8_changes 86 = .ok (.goto (-57), 3) := by decide +kernel
theorem dX8_changes_89 : decode cX8_changes 89 = .ok (.iload 4, 2) := by decide +kernel
theorem dX8_changes_91 : decode cX8_changes 91 = .ok (.ireturn, 1) := by decide +kernel
theorem dX8_began_0 : decode cX8_began 0 = .ok (.iload_n 1, 1) := by decide +kernel
theorem dX8_began_1 : decode cX8_began 1 = .ok (.invokestatic 113, 3) := by decide +kernel
theorem dX8_began_4 : decode cX8_began 4 = .ok (.ifCond .eq 10, 3) := by decide +kernel
theorem dX8_began_7 : decode cX8_began 7 = .ok (.iload_n 2, 1) := by decide +kernel
theorem dX8_began_8 : decode cX8_began 8 = .ok (.invokestatic 275, 3) := by decide +kernel
theorem dX8_began_11 : decode cX8_began 11 = .ok (.ifCond .ne 10, 3) := by decide +kernel
theorem dX8_began_14 : decode cX8_began 14 = .ok (.aload_n 0, 1) := by decide +kernel
theorem dX8_began_15 : decode cX8_began 15 = .ok (.ldc 43, 2) := by decide +kernel
theorem dX8_began_17 : decode cX8_began 17 = .ok (.invokevirtual 84, 3) := by decide +kernel
theorem dX8_began_20 : decode cX8_began 20 = .ok (.ireturn, 1) := by decide +kernel
theorem dX8_began_21 : decode cX8_began 21 = .ok (.iconst 0, 1) := by decide +kernel
theorem dX8_began_22 : decode cX8_began 22 = .ok (.istore_n 3, 1) := by decide +kernel
theorem dX8_began_23 : decode cX8_began 23 = .ok (.iconst 0, 1) := by decide +kernel
theorem dX8_began_24 : decode cX8_began 24 = .ok (.istore 4, 2) := by decide +kernel
theorem dX8_began_26 : decode cX8_began 26 = .ok (.iconst 0, 1) := by decide +kernel
theorem dX8_began_27 : decode cX8_began 27 = .ok (.istore 5, 2) := by decide +kernel
theorem dX8_began_29 : decode cX8_began 29 = .ok (.iload 5, 2) := by decide +kernel
theorem dX8_began_31 : decode cX8_began 31 = .ok (.aload_n 0, 1) := by decide +kernel
theorem dX8_began_32 : decode cX8_began 32 = .ok (.getfield 7, 3) := by decide +kernel
theorem dX8_began_35 : decode cX8_began 35 = .ok (.iconst 0, 1) := by decide +kernel
theorem dX8_began_36 : decode cX8_began 36 = .ok (.iaload, 1) := by decide +kernel
theorem dX8_began_37 : decode cX8_began 37 = .ok (.if_icmp .ge 89, 3) := by decide +kernel
theorem dX8_began_40 : decode cX8_began 40 = .ok (.aload_n 0, 1) := by decide +kernel
theorem dX8_began_41 : decode cX8_began 41 = .ok (.iload 5, 2) := by decide +kernel
theorem dX8_began_43 : decode cX8_began 43 = .ok (.iload_n 1, 1) := by decide +kernel
theorem dX8_began_44 : decode cX8_began 44 = .ok (.invokevirtual 118, 3) := by decide +kernel
theorem dX8_began_47 : decode cX8_began 47 = .ok (.ifCond .eq 20, 3) := by decide +kernel
theorem dX8_began_50 : decode cX8_began 50 = .ok (.aload_n 0, 1) := by decide +kernel
theorem dX8_began_51 : decode cX8_began 51 = .ok (.iload 5, 2) := by decide +kernel
theorem dX8_began_53 : decode cX8_began 53 = .ok (.iconst 5, 1) := by decide +kernel
theorem dX8_began_54 : decode cX8_began 54 = .ok (.iload_n 1, 1) := by decide +kernel
theorem dX8_began_55 : decode cX8_began 55 = .ok (.iadd, 1) := by decide +kernel
theorem dX8_began_56 : decode cX8_began 56 = .ok (.invokevirtual 60, 3) := by decide +kernel
theorem dX8_began_59 : decode cX8_began 59 = .ok (.iload_n 2, 1) := by decide +kernel
theorem dX8_began_60 : decode cX8_began 60 = .ok (.if_icmp .ne 7, 3) := by decide +kernel
theorem dX8_began_63 : decode cX8_began 63 = .ok (.iconst 1, 1) := by decide +kernel
theorem dX8_began_64 : decode cX8_began 64 = .ok (.goto 4, 3) := by decide +kernel
theorem dX8_began_67 : decode cX8_began 67 = .ok (.iconst 0, 1) := by decide +kernel
theorem dX8_began_68 : decode cX8_began 68 = .ok (.istore 6, 2) := by decide +kernel
theorem dX8_began_70 : decode cX8_began 70 = .ok (.iload 6, 2) := by decide +kernel
theorem dX8_began_72 : decode cX8_began 72 = .ok (.ifCond .eq 29, 3) := by decide +kernel
theorem dX8_began_75 : decode cX8_began 75 = .ok (.iload_n 3, 1) := by decide +kernel
theorem dX8_began_76 : decode cX8_began 76 = .ok (.ifCond .eq 15, 3) := by decide +kernel
theorem dX8_began_79 : decode cX8_began 79 = .ok (.aload_n 0, 1) := by decide +kernel
theorem dX8_began_80 : decode cX8_began 80 = .ok (.iload 5, 2) := by decide +kernel
theorem dX8_began_82 : decode cX8_began 82 = .ok (.iconst 2, 1) := by decide +kernel
theorem dX8_began_83 : decode cX8_began 83 = .ok (.invokevirtual 60, 3) := by decide +kernel
theorem dX8_began_86 : decode cX8_began 86 = .ok (.iload 4, 2) := by decide +kernel
theorem dX8_began_88 : decode cX8_began 88 = .ok (.if_icmp .ge 13, 3) := by decide +kernel
theorem dX8_began_91 : decode cX8_began 91 = .ok (.aload_n 0, 1) := by decide +kernel
theorem dX8_began_92 : decode cX8_began 92 = .ok (.iload 5, 2) := by decide +kernel
theorem dX8_began_94 : decode cX8_began 94 = .ok (.iconst 2, 1) := by decide +kernel
theorem dX8_began_95 : decode cX8_began 95 = .ok (.invokevirtual 60, 3) := by decide +kernel
theorem dX8_began_98 : decode cX8_began 98 = .ok (.goto 5, 3) := by decide +kernel
theorem dX8_began_101 : decode cX8_began 101 = .ok (.iload 4, 2) := by decide +kernel
theorem dX8_began_103 : decode cX8_began 103 = .ok (.istore 4, 2) := by decide +kernel
theorem dX8_began_105 : decode cX8_began 105 = .ok (.iload_n 3, 1) := by decide +kernel
theorem dX8_began_106 : decode cX8_began 106 = .ok (.ifCond .ne 8, 3) := by decide +kernel
theorem dX8_began_109 : decode cX8_began 109 = .ok (.iload 6, 2) := by decide +kernel
theorem dX8_began_111 : decode cX8_began 111 = .ok (.ifCond .eq 7, 3) := by decide +kernel
theorem dX8_began_114 : decode cX8_began 114 = .ok (.iconst 1, 1) := by decide +kernel
theorem dX8_began_115 : decode cX8_began 115 = .ok (.goto 4, 3) := by decide +kernel
theorem dX8_began_118 : decode cX8_began 118 = .ok (.iconst 0, 1) := by decide +kernel
theorem dX8_began_119 : decode cX8_began 119 = .ok (.istore_n 3, 1) := by decide +kernel
theorem dX8_began_120 : decode cX8_began 120 = .ok (.iinc 5 1, 3) := by decide +kernel
theorem dX8_began_123 : decode cX8_began 123 = .ok (.goto (-94), 3) := by decide +kernel
theorem dX8_began_126 : decode cX8_began 126 = .ok (.iload_n 3, 1) := by decide +kernel
theorem dX8_began_127 : decode cX8_began 127 = .ok (.ifCond .eq 8, 3) := by decide +kernel
theorem dX8_began_130 : decode cX8_began 130 = .ok (.iload 4, 2) := by decide +kernel
theorem dX8_began_132 : decode cX8_began 132 = .ok (.goto 10, 3) := by decide +kernel
theorem dX8_began_135 : decode cX8_began 135 = .ok (.aload_n 0, 1) := by decide +kernel
theorem dX8_began_136 : decode cX8_began 136 = .ok (.ldc_w 262, 3) := by decide +kernel
theorem dX8_began_139 : decode cX8_began 139 = .ok (.invokevirtual 84, 3) := by decide +kernel
theorem dX8_began_142 : decode cX8_began 142 = .ok (.ireturn, 1) := by decide +kernel
theorem dX8_handed_0 : decode cX8_handed 0 = .ok (.aload_n 0, 1) := by decide +kernel
theorem dX8_handed_1 : decode cX8_handed 1 = .ok (.iload_n 1, 1) := by decide +kernel
theorem dX8_handed_2 : decode cX8_handed 2 = .ok (.invokevirtual 98, 3) := by decide +kernel
theorem dX8_handed_5 : decode cX8_handed 5 = .ok (.ifCond .eq 10, 3) := by decide +kernel
theorem dX8_handed_8 : decode cX8_handed 8 = .ok (.iload_n 2, 1) := by decide +kernel
theorem dX8_handed_9 : decode cX8_handed 9 = .ok (.invokestatic 113, 3) := by decide +kernel
theorem dX8_handed_12 : decode cX8_handed 12 = .ok (.ifCond .ne 10, 3) := by decide +kernel
theorem dX8_handed_15 : decode cX8_handed 15 = .ok (.aload_n 0, 1) := by decide +kernel
theorem dX8_handed_16 : decode cX8_handed 16 = .ok (.ldc 43, 2) := by decide +kernel
theorem dX8_handed_18 : decode cX8_handed 18 = .ok (.invokevirtual 84, 3) := by decide +kernel
theorem dX8_handed_21 : decode cX8_handed 21 = .ok (.ireturn, 1) := by decide +kernel
theorem dX8_handed_22 : decode cX8_handed 22 = .ok (.aload_n 0, 1) := by decide +kernel
theorem dX8_handed_23 : decode cX8_handed 23 = .ok (.iload_n 1, 1) := by decide +kernel
theorem dX8_handed_24 : decode cX8_handed 24 = .ok (.iload_n 2, 1) := by decide +kernel
theorem dX8_handed_25 : decode cX8_handed 25 = .ok (.invokevirtual 118, 3) := by decide +kernel
theorem dX8_handed_28 : decode cX8_handed 28 = .ok (.ifCond .ne 10, 3) := by decide +kernel
theorem dX8_handed_31 : decode cX8_handed 31 = .ok (.aload_n 0, 1) := by decide +kernel
theorem dX8_handed_32 : decode cX8_handed 32 = .ok (.ldc 247, 2) := by decide +kernel
theorem dX8_handed_34 : decode cX8_handed 34 = .ok (.invokevirtual 84, 3) := by decide +kernel
theorem dX8_handed_37 : decode cX8_handed 37 = .ok (.ireturn, 1) := by decide +kernel
theorem dX8_handed_38 : decode cX8_handed 38 = .ok (.iconst 0, 1) := by decide +kernel
theorem dX8_handed_39 : decode cX8_handed 39 = .ok (.istore_n 3, 1) := by decide +kernel
theorem dX8_handed_40 : decode cX8_handed 40 = .ok (.iload_n 3, 1) := by decide +kernel
theorem dX8_handed_41 : decode cX8_handed 41 = .ok (.iconst 1, 1) := by decide +kernel
theorem dX8_handed_42 : decode cX8_handed 42 = .ok (.iadd, 1) := by decide +kernel
theorem dX8_handed_43 : decode cX8_handed 43 = .ok (.aload_n 0, 1) := by decide +kernel
theorem dX8_handed_44 : decode cX8_handed 44 = .ok (.getfield 7, 3) := by decide +kernel
theorem dX8_handed_47 : decode cX8_handed 47 = .ok (.iconst 0, 1) := by decide +kernel
theorem dX8_handed_48 : decode cX8_handed 48 = .ok (.iaload, 1) := by decide +kernel
theorem dX8_handed_49 : decode cX8_handed 49 = .ok (.if_icmp .ge 26, 3) := by decide +kernel
theorem dX8_handed_52 : decode cX8_handed 52 = .ok (.aload_n 0, 1) := by decide +kernel
theorem dX8_handed_53 : decode cX8_handed 53 = .ok (.iload_n 1, 1) := by decide +kernel
theorem dX8_handed_54 : decode cX8_handed 54 = .ok (.iload_n 3, 1) := by decide +kernel
theorem dX8_handed_55 : decode cX8_handed 55 = .ok (.iadd, 1) := by decide +kernel
theorem dX8_handed_56 : decode cX8_handed 56 = .ok (.aload_n 0, 1) := by decide +kernel
theorem dX8_handed_57 : decode cX8_handed 57 = .ok (.getfield 7, 3) := by decide +kernel
theorem dX8_handed_60 : decode cX8_handed 60 = .ok (.iconst 0, 1) := by decide +kernel
theorem dX8_handed_61 : decode cX8_handed 61 = .ok (.iaload, 1) := by decide +kernel
theorem dX8_handed_62 : decode cX8_handed 62 = .ok (.irem, 1) := by decide +kernel
theorem dX8_handed_63 : decode cX8_handed 63 = .ok (.invokevirtual 218, 3) := by decide +kernel
theorem dX8_handed_66 : decode cX8_handed 66 = .ok (.ifCond .ne 9, 3) := by decide +kernel
theorem dX8_handed_69 : decode cX8_handed 69 = .ok (.iinc 3 1, 3) := by decide +kernel
theorem dX8_handed_72 : decode cX8_handed 72 = .ok (.goto (-32), 3) := by decide +kernel
theorem dX8_handed_75 : decode cX8_handed 75 = .ok (.iload_n 3, 1) := by decide +kernel
theorem dX8_handed_76 : decode cX8_handed 76 = .ok (.ireturn, 1) := by decide +kernel
theorem dX8_wages_0 : decode cX8_wages 0 = .ok (.iload_n 1, 1) := by decide +kernel
theorem dX8_wages_1 : decode cX8_wages 1 = .ok (.invokestatic 244, 3) := by decide +kernel
theorem dX8_wages_4 : decode cX8_wages 4 = .ok (.ifCond .ne 10, 3) := by decide +kernel
theorem dX8_wages_7 : decode cX8_wages 7 = .ok (.aload_n 0, 1) := by decide +kernel
theorem dX8_wages_8 : decode cX8_wages 8 = .ok (.ldc 43, 2) := by decide +kernel
theorem dX8_wages_10 : decode cX8_wages 10 = .ok (.invokevirtual 84, 3) := by decide +kernel
theorem dX8_wages_13 : decode cX8_wages 13 = .ok (.ireturn, 1) := by decide +kernel
theorem dX8_wages_14 : decode cX8_wages 14 = .ok (.aload_n 0, 1) := by decide +kernel
theorem dX8_wages_15 : decode cX8_wages 15 = .ok (.invokevirtual 256, 3) := by decide +kernel
theorem dX8_wages_18 : decode cX8_wages 18 = .ok (.iconst 0, 1) := by decide +kernel
theorem dX8_wages_19 : decode cX8_wages 19 = .ok (.istore_n 2, 1) := by decide +kernel
theorem dX8_wages_20 : decode cX8_wages 20 = .ok (.iconst 0, 1) := by decide +kernel
theorem dX8_wages_21 : decode cX8_wages 21 = .ok (.istore_n 3, 1) := by decide +kernel
theorem dX8_wages_22 : decode cX8_wages 22 = .ok (.iload_n 3, 1) := by decide +kernel
theorem dX8_wages_23 : decode cX8_wages 23 = .ok (.iload_n 1, 1) := by decide +kernel
theorem dX8_wages_24 : decode cX8_wages 24 = .ok (.if_icmp .ge 43, 3) := by decide +kernel
theorem dX8_wages_27 : decode cX8_wages 27 = .ok (.aload_n 0, 1) := by decide +kernel
theorem dX8_wages_28 : decode cX8_wages 28 = .ok (.iconst 0, 1) := by decide +kernel
theorem dX8_wages_29 : decode cX8_wages 29 = .ok (.invokevirtual 238, 3) := by decide +kernel
theorem dX8_wages_32 : decode cX8_wages 32 = .ok (.iconst 0, 1) := by decide +kernel
theorem dX8_wages_33 : decode cX8_wages 33 = .ok (.istore 4, 2) := by decide +kernel
theorem dX8_wages_35 : decode cX8_wages 35 = .ok (.iload 4, 2) := by decide +kernel
theorem dX8_wages_37 : decode cX8_wages 37 = .ok (.aload_n 0, 1) := by decide +kernel
theorem dX8_wages_38 : decode cX8_wages 38 = .ok (.getfield 7, 3) := by decide +kernel
theorem dX8_wages_41 : decode cX8_wages 41 = .ok (.iconst 0, 1) := by decide +kernel
theorem dX8_wages_42 : decode cX8_wages 42 = .ok (.iaload, 1) := by decide +kernel
theorem dX8_wages_43 : decode cX8_wages 43 = .ok (.if_icmp .ge 18, 3) := by decide +kernel
theorem dX8_wages_46 : decode cX8_wages 46 = .ok (.iload_n 2, 1) := by decide +kernel
theorem dX8_wages_47 : decode cX8_wages 47 = .ok (.aload_n 0, 1) := by decide +kernel
theorem dX8_wages_48 : decode cX8_wages 48 = .ok (.iload 4, 2) := by decide +kernel
theorem dX8_wages_50 : decode cX8_wages 50 = .ok (.invokevirtual 92, 3) := by decide +kernel
theorem dX8_wages_53 : decode cX8_wages 53 = .ok (.iadd, 1) := by decide +kernel
theorem dX8_wages_54 : decode cX8_wages 54 = .ok (.istore_n 2, 1) := by decide +kernel
theorem dX8_wages_55 : decode cX8_wages 55 = .ok (.iinc 4 1, 3) := by decide +kernel
theorem dX8_wages_58 : decode cX8_wages 58 = .ok (.goto (-23), 3) := by decide +kernel
theorem dX8_wages_61 : decode cX8_wages 61 = .ok (.iinc 3 1, 3) := by decide +kernel
theorem dX8_wages_64 : decode cX8_wages 64 = .ok (.goto (-42), 3) := by decide +kernel
theorem dX8_wages_67 : decode cX8_wages 67 = .ok (.aload_n 0, 1) := by decide +kernel
theorem dX8_wages_68 : decode cX8_wages 68 = .ok (.invokevirtual 259, 3) := by decide +kernel
theorem dX8_wages_71 : decode cX8_wages 71 = .ok (.iload_n 2, 1) := by decide +kernel
theorem dX8_wages_72 : decode cX8_wages 72 = .ok (.ireturn, 1) := by decide +kernel
theorem dX8_runs_0 : decode cX8_runs 0 = .ok (.aload_n 0, 1) := by decide +kernel
theorem dX8_runs_1 : decode cX8_runs 1 = .ok (.getfield 278, 3) := by decide +kernel
theorem dX8_runs_4 : decode cX8_runs 4 = .ok (.bipush 30, 2) := by decide +kernel
theorem dX8_runs_6 : decode cX8_runs 6 = .ok (.if_icmp .ge 23, 3) := by decide +kernel
theorem dX8_runs_9 : decode cX8_runs 9 = .ok (.aload_n 0, 1) := by decide +kernel
theorem dX8_runs_10 : decode cX8_runs 10 = .ok (.getfield 28, 3) := by decide +kernel
theorem dX8_runs_13 : decode cX8_runs 13 = .ok (.aload_n 0, 1) := by decide +kernel
theorem dX8_runs_14 : decode cX8_runs 14 = .ok (.getfield 278, 3) := by decide +kernel
theorem dX8_runs_17 : decode cX8_runs 17 = .ok (.iload_n 1, 1) := by decide +kernel
theorem dX8_runs_18 : decode cX8_runs 18 = .ok (.iastore, 1) := by decide +kernel
theorem dX8_runs_19 : decode cX8_runs 19 = .ok (.aload_n 0, 1) := by decide +kernel
theorem dX8_runs_20 : decode cX8_runs 20 = .ok (.dup, 1) := by decide +kernel
theorem dX8_runs_21 : decode cX8_runs 21 = .ok (.getfield 278, 3) := by decide +kernel
theorem dX8_runs_24 : decode cX8_runs 24 = .ok (.iconst 1, 1) := by decide +kernel
theorem dX8_runs_25 : decode cX8_runs 25 = .ok (.iadd, 1) := by decide +kernel
theorem dX8_runs_26 : decode cX8_runs 26 = .ok (.putfield 278, 3) := by decide +kernel
theorem dX8_runs_29 : decode cX8_runs 29 = .ok (.return_, 1) := by decide +kernel
theorem dX8_hearing_0 : decode cX8_hearing 0 = .ok (.aload_n 0, 1) := by decide +kernel
theorem dX8_hearing_1 : decode cX8_hearing 1 = .ok (.aload_n 0, 1) := by decide +kernel
theorem dX8_hearing_2 : decode cX8_hearing 2 = .ok (.getfield 281, 3) := by decide +kernel
theorem dX8_hearing_5 : decode cX8_hearing 5 = .ok (.iconst 0, 1) := by decide +kernel
theorem dX8_hearing_6 : decode cX8_hearing 6 = .ok (.invokevirtual 60, 3) := by decide +kernel
theorem dX8_hearing_9 : decode cX8_hearing 9 = .ok (.istore_n 2, 1) := by decide +kernel
theorem dX8_hearing_10 : decode cX8_hearing 10 = .ok (.iload_n 2, 1) := by decide +kernel
theorem dX8_hearing_11 : decode cX8_hearing 11 = .ok (.bipush 6, 2) := by decide +kernel
theorem dX8_hearing_13 : decode cX8_hearing 13 = .ok (.if_icmp .ne 11, 3) := by decide +kernel
theorem dX8_hearing_16 : decode cX8_hearing 16 = .ok (.aload_n 0, 1) := by decide +kernel
theorem dX8_hearing_17 : decode cX8_hearing 17 = .ok (.bipush 70, 2) := by decide +kernel
theorem dX8_hearing_19 : decode cX8_hearing 19 = .ok (.invokevirtual 284, 3) := by decide +kernel
theorem dX8_hearing_22 : decode cX8_hearing 22 = .ok (.iconst 5, 1) := by decide +kernel
theorem dX8_hearing_23 : decode cX8_hearing 23 = .ok (.ireturn, 1) := by decide +kernel
theorem dX8_hearing_24 : decode cX8_hearing 24 = .ok (.iload_n 2, 1) := by decide +kernel
theorem dX8_hearing_25 : decode cX8_hearing 25 = .ok (.iconst 4, 1) := by decide +kernel
theorem dX8_hearing_26 : decode cX8_hearing 26 = .ok (.if_icmp .ne 9, 3) := by decide +kernel
theorem dX8_hearing_29 : decode cX8_hearing 29 = .ok (.aload_n 0, 1) := by decide +kernel
theorem dX8_hearing_30 : decode cX8_hearing 30 = .ok (.bipush 50, 2) := by decide +kernel
theorem dX8_hearing_32 : decode cX8_hearing 32 = .ok (.invokevirtual 284, 3) := by decide +kernel
theorem dX8_hearing_35 : decode cX8_hearing 35 = .ok (.iload_n 2, 1) := by decide +kernel
theorem dX8_hearing_36 : decode cX8_hearing 36 = .ok (.iconst 1, 1) := by decide +kernel
theorem dX8_hearing_37 : decode cX8_hearing 37 = .ok (.if_icmp .eq 8, 3) := by decide +kernel
theorem dX8_hearing_40 : decode cX8_hearing 40 = .ok (.iload_n 2, 1) := by decide +kernel
theorem dX8_hearing_41 : decode cX8_hearing 41 = .ok (.iconst 4, 1) := by decide +kernel
theorem dX8_hearing_42 : decode cX8_hearing 42 = .ok (.if_icmp .ne 9, 3) := by decide +kernel
theorem dX8_hearing_45 : decode cX8_hearing 45 = .ok (.aload_n 0, 1) := by decide +kernel
theorem dX8_hearing_46 : decode cX8_hearing 46 = .ok (.bipush 20, 2) := by decide +kernel
theorem dX8_hearing_48 : decode cX8_hearing 48 = .ok (.invokevirtual 284, 3) := by decide +kernel
theorem dX8_hearing_51 : decode cX8_hearing 51 = .ok (.aload_n 0, 1) := by decide +kernel
theorem dX8_hearing_52 : decode cX8_hearing 52 = .ok (.bipush 10, 2) := by decide +kernel
theorem dX8_hearing_54 : decode cX8_hearing 54 = .ok (.invokevirtual 284, 3) := by decide +kernel
theorem dX8_hearing_57 : decode cX8_hearing 57 = .ok (.iload_n 1, 1) := by decide +kernel
theorem dX8_hearing_58 : decode cX8_hearing 58 = .ok (.aload_n 0, 1) := by decide +kernel
theorem dX8_hearing_59 : decode cX8_hearing 59 = .ok (.getfield 281, 3) := by decide +kernel
theorem dX8_hearing_62 : decode cX8_hearing 62 = .ok (.iadd, 1) := by decide +kernel
theorem dX8_hearing_63 : decode cX8_hearing 63 = .ok (.istore_n 3, 1) := by decide +kernel
theorem dX8_hearing_64 : decode cX8_hearing 64 = .ok (.iload_n 2, 1) := by decide +kernel
theorem dX8_hearing_65 : decode cX8_hearing 65 = .ok (.iconst 1, 1) := by decide +kernel
theorem dX8_hearing_66 : decode cX8_hearing 66 = .ok (.if_icmp .ne 10, 3) := by decide +kernel
theorem dX8_hearing_69 : decode cX8_hearing 69 = .ok (.iload_n 3, 1) := by decide +kernel
theorem dX8_hearing_70 : decode cX8_hearing 70 = .ok (.bipush 6, 2) := by decide +kernel
theorem dX8_hearing_72 : decode cX8_hearing 72 = .ok (.isub, 1) := by decide +kernel
theorem dX8_hearing_73 : decode cX8_hearing 73 = .ok (.goto 18, 3) := by decide +kernel
theorem dX8_hearing_76 : decode cX8_hearing 76 = .ok (.iload_n 2, 1) := by decide +kernel
theorem dX8_hearing_77 : decode cX8_hearing 77 = .ok (.iconst 4, 1) := by decide +kernel
theorem dX8_hearing_78 : decode cX8_hearing 78 = .ok (.if_icmp .ne 12, 3) := by decide +kernel
theorem dX8_hearing_81 : decode cX8_hearing 81 = .ok (.iload_n 3, 1) := by decide +kernel
theorem dX8_hearing_82 : decode cX8_hearing 82 = .ok (.bipush 6, 2) := by decide +kernel
theorem dX8_hearing_84 : decode cX8_hearing 84 = .ok (.isub, 1) := by decide +kernel
theorem dX8_hearing_85 : decode cX8_hearing 85 = .ok (.iconst 3, 1) := by decide +kernel
theorem dX8_hearing_86 : decode cX8_hearing 86 = .ok (.imul, 1) := by decide +kernel
theorem dX8_hearing_87 : decode cX8_hearing 87 = .ok (.goto 4, 3) := by decide +kernel
theorem dX8_hearing_90 : decode cX8_hearing 90 = .ok (.iload_n 3, 1) := by decide +kernel
theorem dX8_hearing_91 : decode cX8_hearing 91 = .ok (.ireturn, 1) := by decide +kernel
theorem dX8_telling_0 : decode cX8_telling 0 = .ok (.aload_n 0, 1) := by decide +kernel
theorem dX8_telling_1 : decode cX8_telling 1 = .ok (.aload_n 0, 1) := by decide +kernel
theorem dX8_telling_2 : decode cX8_telling 2 = .ok (.getfield 281, 3) := by decide +kernel
theorem dX8_telling_5 : decode cX8_telling 5 = .ok (.iconst 0, 1) := by decide +kernel
theorem dX8_telling_6 : decode cX8_telling 6 = .ok (.invokevirtual 60, 3) := by decide +kernel
theorem dX8_telling_9 : decode cX8_telling 9 = .ok (.istore_n 2, 1) := by decide +kernel
theorem dX8_telling_10 : decode cX8_telling 10 = .ok (.iload_n 2, 1) := by decide +kernel
theorem dX8_telling_11 : decode cX8_telling 11 = .ok (.bipush 6, 2) := by decide +kernel
theorem dX8_telling_13 : decode cX8_telling 13 = .ok (.if_icmp .ne 9, 3) := by decide +kernel
theorem dX8_telling_16 : decode cX8_telling 16 = .ok (.aload_n 0, 1) := by decide +kernel
theorem dX8_telling_17 : decode cX8_telling 17 = .ok (.bipush 71, 2) := by decide +kernel
theorem dX8_telling_19 : decode cX8_telling 19 = .ok (.invokevirtual 284, 3) := by decide +kernel
theorem dX8_telling_22 : decode cX8_telling 22 = .ok (.iload_n 2, 1) := by decide +kernel
theorem dX8_telling_23 : decode cX8_telling 23 = .ok (.iconst 5, 1) := by decide +kernel
theorem dX8_telling_24 : decode cX8_telling 24 = .ok (.if_icmp .ne 9, 3) := by decide +kernel
theorem dX8_telling_27 : decode cX8_telling 27 = .ok (.aload_n 0, 1) := by decide +kernel
theorem dX8_telling_28 : decode cX8_telling 28 = .ok (.bipush 60, 2) := by decide +kernel
theorem dX8_telling_30 : decode cX8_telling 30 = .ok (.invokevirtual 284, 3) := by decide +kernel
theorem dX8_telling_33 : decode cX8_telling 33 = .ok (.iload_n 2, 1) := by decide +kernel
theorem dX8_telling_34 : decode cX8_telling 34 = .ok (.iconst 2, 1) := by decide +kernel
theorem dX8_telling_35 : decode cX8_telling 35 = .ok (.if_icmp .eq 8, 3) := by decide +kernel
theorem dX8_telling_38 : decode cX8_telling 38 = .ok (.iload_n 2, 1) := by decide +kernel
theorem dX8_telling_39 : decode cX8_telling 39 = .ok (.iconst 5, 1) := by decide +kernel
theorem dX8_telling_40 : decode cX8_telling 40 = .ok (.if_icmp .ne 9, 3) := by decide +kernel
theorem dX8_telling_43 : decode cX8_telling 43 = .ok (.aload_n 0, 1) := by decide +kernel
theorem dX8_telling_44 : decode cX8_telling 44 = .ok (.bipush 30, 2) := by decide +kernel
theorem dX8_telling_46 : decode cX8_telling 46 = .ok (.invokevirtual 284, 3) := by decide +kernel
theorem dX8_telling_49 : decode cX8_telling 49 = .ok (.aload_n 0, 1) := by decide +kernel
theorem dX8_telling_50 : decode cX8_telling 50 = .ok (.bipush 11, 2) := by decide +kernel
theorem dX8_telling_52 : decode cX8_telling 52 = .ok (.invokevirtual 284, 3) := by decide +kernel
theorem dX8_telling_55 : decode cX8_telling 55 = .ok (.aload_n 0, 1) := by decide +kernel
theorem dX8_telling_56 : decode cX8_telling 56 = .ok (.iload_n 2, 1) := by decide +kernel
theorem dX8_telling_57 : decode cX8_telling 57 = .ok (.iconst 5, 1) := by decide +kernel
theorem dX8_telling_58 : decode cX8_telling 58 = .ok (.if_icmp .ne 9, 3) := by decide +kernel
theorem dX8_telling_61 : decode cX8_telling 61 = .ok (.iload_n 1, 1) := by decide +kernel
theorem dX8_telling_62 : decode cX8_telling 62 = .ok (.iconst 1, 1) := by decide +kernel
theorem dX8_telling_63 : decode cX8_telling 63 = .ok (.iadd, 1) := by decide +kernel
theorem dX8_telling_64 : decode cX8_telling 64 = .ok (.goto 4, 3) := by decide +kernel
theorem dX8_telling_67 : decode cX8_telling 67 = .ok (.iload_n 1, 1) := by decide +kernel
theorem dX8_telling_68 : decode cX8_telling 68 = .ok (.invokevirtual 287, 3) := by decide +kernel
theorem dX8_telling_71 : decode cX8_telling 71 = .ok (.iconst 2, 1) := by decide +kernel
theorem dX8_telling_72 : decode cX8_telling 72 = .ok (.imul, 1) := by decide +kernel
theorem dX8_telling_73 : decode cX8_telling 73 = .ok (.istore_n 3, 1) := by decide +kernel
theorem dX8_telling_74 : decode cX8_telling 74 = .ok (.iload_n 2, 1) := by decide +kernel
theorem dX8_telling_75 : decode cX8_telling 75 = .ok (.bipush 6, 2) := by decide +kernel
theorem dX8_telling_77 : decode cX8_telling 77 = .ok (.if_icmp .ne 17, 3) := by decide +kernel
theorem dX8_telling_80 : decode cX8_telling 80 = .ok (.iload_n 3, 1) := by decide +kernel
theorem dX8_telling_81 : decode cX8_telling 81 = .ok (.aload_n 0, 1) := by decide +kernel
theorem dX8_telling_82 : decode cX8_telling 82 = .ok (.aload_n 0, 1) := by decide +kernel
theorem dX8_telling_83 : decode cX8_telling 83 = .ok (.getfield 281, 3) := by decide +kernel
theorem dX8_telling_86 : decode cX8_telling 86 = .ok (.iconst 1, 1) := by decide +kernel
theorem dX8_telling_87 : decode cX8_telling 87 = .ok (.invokevirtual 60, 3) := by decide +kernel
theorem dX8_telling_90 : decode cX8_telling 90 = .ok (.iadd, 1) := by decide +kernel
theorem dX8_telling_91 : decode cX8_telling 91 = .ok (.goto 20, 3) := by decide +kernel
theorem dX8_telling_94 : decode cX8_telling 94 = .ok (.iload_n 2, 1) := by decide +kernel
theorem dX8_telling_95 : decode cX8_telling 95 = .ok (.iconst 2, 1) := by decide +kernel
theorem dX8_telling_96 : decode cX8_telling 96 = .ok (.if_icmp .eq 8, 3) := by decide +kernel
theorem dX8_telling_99 : decode cX8_telling 99 = .ok (.iload_n 2, 1) := by decide +kernel
theorem dX8_telling_100 : decode cX8_telling 100 = .ok (.iconst 5, 1) := by decide +kernel
theorem dX8_telling_101 : decode cX8_telling 101 = .ok (.if_icmp .ne 9, 3) := by decide +kernel
theorem dX8_telling_104 : decode cX8_telling 104 = .ok (.iconst 0, 1) := by decide +kernel
theorem dX8_telling_105 : decode cX8_telling 105 = .ok (.iload_n 3, 1) := by decide +kernel
theorem dX8_telling_106 : decode cX8_telling 106 = .ok (.isub, 1) := by decide +kernel
theorem dX8_telling_107 : decode cX8_telling 107 = .ok (.goto 4, 3) := by decide +kernel
theorem dX8_telling_110 : decode cX8_telling 110 = .ok (.iload_n 3, 1) := by decide +kernel
theorem dX8_telling_111 : decode cX8_telling 111 = .ok (.ireturn, 1) := by decide +kernel
theorem dX8_bunking_0 : decode cX8_bunking 0 = .ok (.aload_n 0, 1) := by decide +kernel
theorem dX8_bunking_1 : decode cX8_bunking 1 = .ok (.aload_n 0, 1) := by decide +kernel
theorem dX8_bunking_2 : decode cX8_bunking 2 = .ok (.getfield 281, 3) := by decide +kernel
theorem dX8_bunking_5 : decode cX8_bunking 5 = .ok (.iconst 0, 1) := by decide +kernel
theorem dX8_bunking_6 : decode cX8_bunking 6 = .ok (.invokevirtual 60, 3) := by decide +kernel
theorem dX8_bunking_9 : decode cX8_bunking 9 = .ok (.istore_n 2, 1) := by decide +kernel
theorem dX8_bunking_10 : decode cX8_bunking 10 = .ok (.iload_n 2, 1) := by decide +kernel
theorem dX8_bunking_11 : decode cX8_bunking 11 = .ok (.iconst 3, 1) := by decide +kernel
theorem dX8_bunking_12 : decode cX8_bunking 12 = .ok (.if_icmp .ne 9, 3) := by decide +kernel
theorem dX8_bunking_15 : decode cX8_bunking 15 = .ok (.aload_n 0, 1) := by decide +kernel
theorem dX8_bunking_16 : decode cX8_bunking 16 = .ok (.bipush 40, 2) := by decide +kernel
theorem dX8_bunking_18 : decode cX8_bunking 18 = .ok (.invokevirtual 284, 3) := by decide +kernel
theorem dX8_bunking_21 : decode cX8_bunking 21 = .ok (.iload_n 2, 1) := by decide +kernel
theorem dX8_bunking_22 : decode cX8_bunking 22 = .ok (.iconst 4, 1) := by decide +kernel
theorem dX8_bunking_23 : decode cX8_bunking 23 = .ok (.if_icmp .ne 9, 3) := by decide +kernel
theorem dX8_bunking_26 : decode cX8_bunking 26 = .ok (.aload_n 0, 1) := by decide +kernel
theorem dX8_bunking_27 : decode cX8_bunking 27 = .ok (.bipush 51, 2) := by decide +kernel
theorem dX8_bunking_29 : decode cX8_bunking 29 = .ok (.invokevirtual 284, 3) := by decide +kernel
theorem dX8_bunking_32 : decode cX8_bunking 32 = .ok (.aload_n 0, 1) := by decide +kernel
theorem dX8_bunking_33 : decode cX8_bunking 33 = .ok (.bipush 12, 2) := by decide +kernel
theorem dX8_bunking_35 : decode cX8_bunking 35 = .ok (.invokevirtual 284, 3) := by decide +kernel
theorem dX8_bunking_38 : decode cX8_bunking 38 = .ok (.aload_n 0, 1) := by decide +kernel
theorem dX8_bunking_39 : decode cX8_bunking 39 = .ok (.iload_n 2, 1) := by decide +kernel
theorem dX8_bunking_40 : decode cX8_bunking 40 = .ok (.iconst 3, 1) := by decide +kernel
theorem dX8_bunking_41 : decode cX8_bunking 41 = .ok (.if_icmp .ne 9, 3) := by decide +kernel
theorem dX8_bunking_44 : decode cX8_bunking 44 = .ok (.iload_n 1, 1) := by decide +kernel
theorem dX8_bunking_45 : decode cX8_bunking 45 = .ok (.iconst 2, 1) := by decide +kernel
theorem dX8_bunking_46 : decode cX8_bunking 46 = .ok (.idiv, 1) := by decide +kernel
theorem dX8_bunking_47 : decode cX8_bunking 47 = .ok (.goto 4, 3) := by decide +kernel
theorem dX8_bunking_50 : decode cX8_bunking 50 = .ok (.iload_n 1, 1) := by decide +kernel
theorem dX8_bunking_51 : decode cX8_bunking 51 = .ok (.invokevirtual 290, 3) := by decide +kernel
theorem dX8_bunking_54 : decode cX8_bunking 54 = .ok (.aload_n 0, 1) := by decide +kernel
theorem dX8_bunking_55 : decode cX8_bunking 55 = .ok (.aload_n 0, 1) := by decide +kernel
theorem dX8_bunking_56 : decode cX8_bunking 56 = .ok (.getfield 281, 3) := by decide +kernel
theorem dX8_bunking_59 : decode cX8_bunking 59 = .ok (.iconst 1, 1) := by decide +kernel
theorem dX8_bunking_60 : decode cX8_bunking 60 = .ok (.invokevirtual 60, 3) := by decide +kernel
theorem dX8_bunking_63 : decode cX8_bunking 63 = .ok (.isub, 1) := by decide +kernel
theorem dX8_bunking_64 : decode cX8_bunking 64 = .ok (.istore_n 3, 1) := by decide +kernel
theorem dX8_bunking_65 : decode cX8_bunking 65 = .ok (.iload_n 2, 1) := by decide +kernel
theorem dX8_bunking_66 : decode cX8_bunking 66 = .ok (.iconst 4, 1) := by decide +kernel
theorem dX8_bunking_67 : decode cX8_bunking 67 = .ok (.if_icmp .ne 12, 3) := by decide +kernel
theorem dX8_bunking_70 : decode cX8_bunking 70 = .ok (.iload_n 3, 1) := by decide +kernel
theorem dX8_bunking_71 : decode cX8_bunking 71 = .ok (.aload_n 0, 1) := by decide +kernel
theorem dX8_bunking_72 : decode cX8_bunking 72 = .ok (.getfield 281, 3) := by decide +kernel
theorem dX8_bunking_75 : decode cX8_bunking 75 = .ok (.ixor, 1) := by decide +kernel
theorem dX8_bunking_76 : decode cX8_bunking 76 = .ok (.goto 4, 3) := by decide +kernel
theorem dX8_bunking_79 : decode cX8_bunking 79 = .ok (.iload_n 3, 1) := by decide +kernel
theorem dX8_bunking_80 : decode cX8_bunking 80 = .ok (.ireturn, 1) := by decide +kernel
theorem dX8_parting_0 : decode cX8_parting 0 = .ok (.aload_n 0, 1) := by decide +kernel
theorem dX8_parting_1 : decode cX8_parting 1 = .ok (.aload_n 0, 1) := by decide +kernel
theorem dX8_parting_2 : decode cX8_parting 2 = .ok (.getfield 281, 3) := by decide +kernel
theorem dX8_parting_5 : decode cX8_parting 5 = .ok (.iconst 0, 1) := by decide +kernel
theorem dX8_parting_6 : decode cX8_parting 6 = .ok (.invokevirtual 60, 3) := by decide +kernel
theorem dX8_parting_9 : decode cX8_parting 9 = .ok (.istore_n 2, 1) := by decide +kernel
theorem dX8_parting_10 : decode cX8_parting 10 = .ok (.iload_n 2, 1) := by decide +kernel
theorem dX8_parting_11 : decode cX8_parting 11 = .ok (.iconst 1, 1) := by decide +kernel
theorem dX8_parting_12 : decode cX8_parting 12 = .ok (.if_icmp .eq 8, 3) := by decide +kernel
theorem dX8_parting_15 : decode cX8_parting 15 = .ok (.iload_n 2, 1) := by decide +kernel
theorem dX8_parting_16 : decode cX8_parting 16 = .ok (.iconst 4, 1) := by decide +kernel
theorem dX8_parting_17 : decode cX8_parting 17 = .ok (.if_icmp .ne 9, 3) := by decide +kernel
theorem dX8_parting_20 : decode cX8_parting 20 = .ok (.aload_n 0, 1) := by decide +kernel
theorem dX8_parting_21 : decode cX8_parting 21 = .ok (.bipush 21, 2) := by decide +kernel
theorem dX8_parting_23 : decode cX8_parting 23 = .ok (.invokevirtual 284, 3) := by decide +kernel
theorem dX8_parting_26 : decode cX8_parting 26 = .ok (.aload_n 0, 1) := by decide +kernel
theorem dX8_parting_27 : decode cX8_parting 27 = .ok (.bipush 13, 2) := by decide +kernel
theorem dX8_parting_29 : decode cX8_parting 29 = .ok (.invokevirtual 284, 3) := by decide +kernel
theorem dX8_parting_32 : decode cX8_parting 32 = .ok (.aload_n 0, 1) := by decide +kernel
theorem dX8_parting_33 : decode cX8_parting 33 = .ok (.aload_n 0, 1) := by decide +kernel
theorem dX8_parting_34 : decode cX8_parting 34 = .ok (.getfield 281, 3) := by decide +kernel
theorem dX8_parting_37 : decode cX8_parting 37 = .ok (.iconst 1, 1) := by decide +kernel
theorem dX8_parting_38 : decode cX8_parting 38 = .ok (.invokevirtual 60, 3) := by decide +kernel
theorem dX8_parting_41 : decode cX8_parting 41 = .ok (.aload_n 0, 1) := by decide +kernel
theorem dX8_parting_42 : decode cX8_parting 42 = .ok (.getfield 281, 3) := by decide +kernel
theorem dX8_parting_45 : decode cX8_parting 45 = .ok (.isub, 1) := by decide +kernel
theorem dX8_parting_46 : decode cX8_parting 46 = .ok (.istore_n 3, 1) := by decide +kernel
theorem dX8_parting_47 : decode cX8_parting 47 = .ok (.aload_n 0, 1) := by decide +kernel
theorem dX8_parting_48 : decode cX8_parting 48 = .ok (.iload_n 3, 1) := by decide +kernel
theorem dX8_parting_49 : decode cX8_parting 49 = .ok (.ifCond .ne 7, 3) := by decide +kernel
theorem dX8_parting_52 : decode cX8_parting 52 = .ok (.iconst 1, 1) := by decide +kernel
theorem dX8_parting_53 : decode cX8_parting 53 = .ok (.goto 4, 3) := by decide +kernel
theorem dX8_parting_56 : decode cX8_parting 56 = .ok (.iconst 0, 1) := by decide +kernel
theorem dX8_parting_57 : decode cX8_parting 57 = .ok (.putfield 293, 3) := by decide +kernel
theorem dX8_parting_60 : decode cX8_parting 60 = .ok (.aload_n 0, 1) := by decide +kernel
theorem dX8_parting_61 : decode cX8_parting 61 = .ok (.getfield 293, 3) := by decide +kernel
theorem dX8_parting_64 : decode cX8_parting 64 = .ok (.ifCond .eq 7, 3) := by decide +kernel
theorem dX8_parting_67 : decode cX8_parting 67 = .ok (.iconst 0, 1) := by decide +kernel
theorem dX8_parting_68 : decode cX8_parting 68 = .ok (.goto 17, 3) := by decide +kernel
theorem dX8_parting_71 : decode cX8_parting 71 = .ok (.iload_n 3, 1) := by decide +kernel
theorem dX8_parting_72 : decode cX8_parting 72 = .ok (.iconst (-1), 1) := by decide +kernel
theorem dX8_parting_73 : decode cX8_parting 73 = .ok (.if_icmp .ne 9, 3) := by decide +kernel
theorem dX8_parting_76 : decode cX8_parting 76 = .ok (.iconst 0, 1) := by decide +kernel
theorem dX8_parting_77 : decode cX8_parting 77 = .ok (.iload_n 1, 1) := by decide +kernel
theorem dX8_parting_78 : decode cX8_parting 78 = .ok (.isub, 1) := by decide +kernel
theorem dX8_parting_79 : decode cX8_parting 79 = .ok (.goto 6, 3) := by decide +kernel
theorem dX8_parting_82 : decode cX8_parting 82 = .ok (.iload_n 1, 1) := by decide +kernel
theorem dX8_parting_83 : decode cX8_parting 83 = .ok (.iload_n 3, 1) := by decide +kernel
theorem dX8_parting_84 : decode cX8_parting 84 = .ok (.idiv, 1) := by decide +kernel
theorem dX8_parting_85 : decode cX8_parting 85 = .ok (.istore 4, 2) := by decide +kernel
theorem dX8_parting_87 : decode cX8_parting 87 = .ok (.aload_n 0, 1) := by decide +kernel
theorem dX8_parting_88 : decode cX8_parting 88 = .ok (.getfield 293, 3) := by decide +kernel
theorem dX8_parting_91 : decode cX8_parting 91 = .ok (.ifCond .ne 24, 3) := by decide +kernel
theorem dX8_parting_94 : decode cX8_parting 94 = .ok (.iload_n 2, 1) := by decide +kernel
theorem dX8_parting_95 : decode cX8_parting 95 = .ok (.iconst 1, 1) := by decide +kernel
theorem dX8_parting_96 : decode cX8_parting 96 = .ok (.if_icmp .eq 8, 3) := by decide +kernel
theorem dX8_parting_99 : decode cX8_parting 99 = .ok (.iload_n 2, 1) := by decide +kernel
theorem dX8_parting_100 : decode cX8_parting 100 = .ok (.iconst 4, 1) := by decide +kernel
theorem dX8_parting_101 : decode cX8_parting 101 = .ok (.if_icmp .ne 14, 3) := by decide +kernel
theorem dX8_parting_104 : decode cX8_parting 104 = .ok (.iload 4, 2) := by decide +kernel
theorem dX8_parting_106 : decode cX8_parting 106 = .ok (.aload_n 0, 1) := by decide +kernel
theorem dX8_parting_107 : decode cX8_parting 107 = .ok (.iconst 1, 1) := by decide +kernel
theorem dX8_parting_108 : decode cX8_parting 108 = .ok (.invokevirtual 290, 3) := by decide +kernel
theorem dX8_parting_111 : decode cX8_parting 111 = .ok (.iadd, 1) := by decide +kernel
theorem dX8_parting_112 : decode cX8_parting 112 = .ok (.goto 5, 3) := by decide +kernel
theorem dX8_parting_115 : decode cX8_parting 115 = .ok (.iload 4, 2) := by decide +kernel
theorem dX8_parting_117 : decode cX8_parting 117 = .ok (.ireturn, 1) := by decide +kernel
theorem dX8_voice_0 : decode cX8_voice 0 = .ok (.aload_n 0, 1) := by decide +kernel
theorem dX8_voice_1 : decode cX8_voice 1 = .ok (.iload_n 1, 1) := by decide +kernel
theorem dX8_voice_2 : decode cX8_voice 2 = .ok (.invokevirtual 98, 3) := by decide +kernel
theorem dX8_voice_5 : decode cX8_voice 5 = .ok (.ifCond .eq 15, 3) := by decide +kernel
theorem dX8_voice_8 : decode cX8_voice 8 = .ok (.iload_n 2, 1) := by decide +kernel
theorem dX8_voice_9 : decode cX8_voice 9 = .ok (.i2l, 1) := by decide +kernel
theorem dX8_voice_10 : decode cX8_voice 10 = .ok (.lconst 0, 1) := by decide +kernel
theorem dX8_voice_11 : decode cX8_voice 11 = .ok (.ldc2_w 134, 3) := by decide +kernel
theorem dX8_voice_14 : decode cX8_voice 14 = .ok (.invokestatic 44, 3) := by decide +kernel
theorem dX8_voice_17 : decode cX8_voice 17 = .ok (.ifCond .ne 10, 3) := by decide +kernel
theorem dX8_voice_20 : decode cX8_voice 20 = .ok (.aload_n 0, 1) := by decide +kernel
theorem dX8_voice_21 : decode cX8_voice 21 = .ok (.ldc 43, 2) := by decide +kernel
theorem dX8_voice_23 : decode cX8_voice 23 = .ok (.invokevirtual 84, 3) := by decide +kernel
theorem dX8_voice_26 : decode cX8_voice 26 = .ok (.ireturn, 1) := by decide +kernel
theorem dX8_voice_27 : decode cX8_voice 27 = .ok (.aload_n 0, 1) := by decide +kernel
theorem dX8_voice_28 : decode cX8_voice 28 = .ok (.iload_n 1, 1) := by decide +kernel
theorem dX8_voice_29 : decode cX8_voice 29 = .ok (.putfield 281, 3) := by decide +kernel
theorem dX8_voice_32 : decode cX8_voice 32 = .ok (.aload_n 0, 1) := by decide +kernel
theorem dX8_voice_33 : decode cX8_voice 33 = .ok (.iconst 0, 1) := by decide +kernel
theorem dX8_voice_34 : decode cX8_voice 34 = .ok (.putfield 278, 3) := by decide +kernel
theorem dX8_voice_37 : decode cX8_voice 37 = .ok (.aload_n 0, 1) := by decide +kernel
theorem dX8_voice_38 : decode cX8_voice 38 = .ok (.iconst 0, 1) := by decide +kernel
theorem dX8_voice_39 : decode cX8_voice 39 = .ok (.putfield 293, 3) := by decide +kernel
theorem dX8_voice_42 : decode cX8_voice 42 = .ok (.iload_n 2, 1) := by decide +kernel
theorem dX8_voice_43 : decode cX8_voice 43 = .ok (.ifCond .ne 11, 3) := by decide +kernel
theorem dX8_voice_46 : decode cX8_voice 46 = .ok (.aload_n 0, 1) := by decide +kernel
theorem dX8_voice_47 : decode cX8_voice 47 = .ok (.iload_n 3, 1) := by decide +kernel
theorem dX8_voice_48 : decode cX8_voice 48 = .ok (.invokevirtual 287, 3) := by decide +kernel
theorem dX8_voice_51 : decode cX8_voice 51 = .ok (.goto 34, 3) := by decide +kernel
theorem dX8_voice_54 : decode cX8_voice 54 = .ok (.iload_n 2, 1) := by decide +kernel
theorem dX8_voice_55 : decode cX8_voice 55 = .ok (.iconst 1, 1) := by decide +kernel
theorem dX8_voice_56 : decode cX8_voice 56 = .ok (.if_icmp .ne 11, 3) := by decide +kernel
theorem dX8_voice_59 : decode cX8_voice 59 = .ok (.aload_n 0, 1) := by decide +kernel
theorem dX8_voice_60 : decode cX8_voice 60 = .ok (.iload_n 3, 1) := by decide +kernel
theorem dX8_voice_61 : decode cX8_voice 61 = .ok (.invokevirtual 290, 3) := by decide +kernel
theorem dX8_voice_64 : decode cX8_voice 64 = .ok (.goto 21, 3) := by decide +kernel
theorem dX8_voice_67 : decode cX8_voice 67 = .ok (.iload_n 2, 1) := by decide +kernel
theorem dX8_voice_68 : decode cX8_voice 68 = .ok (.iconst 2, 1) := by decide +kernel
theorem dX8_voice_69 : decode cX8_voice 69 = .ok (.if_icmp .ne 11, 3) := by decide +kernel
theorem dX8_voice_72 : decode cX8_voice 72 = .ok (.aload_n 0, 1) := by decide +kernel
theorem dX8_voice_73 : decode cX8_voice 73 = .ok (.iload_n 3, 1) := by decide +kernel
theorem dX8_voice_74 : decode cX8_voice 74 = .ok (.invokevirtual 296, 3) := by decide +kernel
theorem dX8_voice_77 : decode cX8_voice 77 = .ok (.goto 8, 3) := by decide +kernel
theorem dX8_voice_80 : decode cX8_voice 80 = .ok (.aload_n 0, 1) := by decide +kernel
theorem dX8_voice_81 : decode cX8_voice 81 = .ok (.iload_n 3, 1) := by decide +kernel
theorem dX8_voice_82 : decode cX8_voice 82 = .ok (.invokevirtual 299, 3) := by decide +kernel
theorem dX8_voice_85 : decode cX8_voice 85 = .ok (.istore 4, 2) := by decide +kernel
theorem dX8_voice_87 : decode cX8_voice 87 = .ok (.aload_n 0, 1) := by decide +kernel
theorem dX8_voice_88 : decode cX8_voice 88 = .ok (.getfield 293, 3) := by decide +kernel
theorem dX8_voice_91 : decode cX8_voice 91 = .ok (.ifCond .eq 13, 3) := by decide +kernel
theorem dX8_voice_94 : decode cX8_voice 94 = .ok (.aload_n 0, 1) := by decide +kernel
theorem dX8_voice_95 : decode cX8_voice 95 = .ok (.ldc_w 302, 3) := by decide +kernel
theorem dX8_voice_98 : decode cX8_voice 98 = .ok (.invokevirtual 84, 3) := by decide +kernel
theorem dX8_voice_101 : decode cX8_voice 101 = .ok (.goto 5, 3) := by decide +kernel
theorem dX8_voice_104 : decode cX8_voice 104 = .ok (.iload 4, 2) := by decide +kernel
theorem dX8_voice_106 : decode cX8_voice 106 = .ok (.ireturn, 1) := by decide +kernel
theorem dX8_body_0 : decode cX8_body 0 = .ok (.iload_n 1, 1) := by decide +kernel
theorem dX8_body_1 : decode cX8_body 1 = .ok (.i2l, 1) := by decide +kernel
theorem dX8_body_2 : decode cX8_body 2 = .ok (.lconst 0, 1) := by decide +kernel
theorem dX8_body_3 : decode cX8_body 3 = .ok (.aload_n 0, 1) := by decide +kernel
theorem dX8_body_4 : decode cX8_body 4 = .ok (.getfield 278, 3) := by decide +kernel
theorem dX8_body_7 : decode cX8_body 7 = .ok (.iconst 1, 1) := by decide +kernel
theorem dX8_body_8 : decode cX8_body 8 = .ok (.isub, 1) := by decide +kernel
theorem dX8_body_9 : decode cX8_body 9 = .ok (.i2l, 1) := by decide +kernel
theorem dX8_body_10 : decode cX8_body 10 = .ok (.invokestatic 44, 3) := by decide +kernel
theorem dX8_body_13 : decode cX8_body 13 = .ok (.ifCond .eq 12, 3) := by decide +kernel
theorem dX8_body_16 : decode cX8_body 16 = .ok (.aload_n 0, 1) := by decide +kernel
theorem dX8_body_17 : decode cX8_body 17 = .ok (.getfield 28, 3) := by decide +kernel
theorem dX8_body_20 : decode cX8_body 20 = .ok (.iload_n 1, 1) := by decide +kernel
theorem dX8_body_21 : decode cX8_body 21 = .ok (.iaload, 1) := by decide +kernel
theorem dX8_body_22 : decode cX8_body 22 = .ok (.goto 10, 3) := by decide +kernel
theorem dX8_body_25 : decode cX8_body 25 = .ok (.aload_n 0, 1) := by decide +kernel
theorem dX8_body_26 : decode cX8_body 26 = .ok (.ldc_w 262, 3) := by decide +kernel
theorem dX8_body_29 : decode cX8_body 29 = .ok (.invokevirtual 84, 3) := by decide +kernel
theorem dX8_body_32 : decode cX8_body 32 = .ok (.ireturn, 1) := by decide +kernel
theorem dX8_isSheet_0 : decode cX8_isSheet 0 = .ok (.iload_n 0, 1) := by decide +kernel
theorem dX8_isSheet_1 : decode cX8_isSheet 1 = .ok (.i2l, 1) := by decide +kernel
theorem dX8_isSheet_2 : decode cX8_isSheet 2 = .ok (.lconst 0, 1) := by decide +kernel
theorem dX8_isSheet_3 : decode cX8_isSheet 3 = .ok (.ldc2_w 134, 3) := by decide +kernel
theorem dX8_isSheet_6 : decode cX8_isSheet 6 = .ok (.invokestatic 44, 3) := by decide +kernel
theorem dX8_isSheet_9 : decode cX8_isSheet 9 = .ok (.ireturn, 1) := by decide +kernel
theorem dX8_wrong_0 : decode cX8_wrong 0 = .ok (.iload_n 1, 1) := by decide +kernel
theorem dX8_wrong_1 : decode cX8_wrong 1 = .ok (.invokestatic 303, 3) := by decide +kernel
theorem dX8_wrong_4 : decode cX8_wrong 4 = .ok (.ifCond .ne 8, 3) := by decide +kernel
theorem dX8_wrong_7 : decode cX8_wrong 7 = .ok (.ldc 43, 2) := by decide +kernel
theorem dX8_wrong_9 : decode cX8_wrong 9 = .ok (.goto 19, 3) := by decide +kernel
theorem dX8_wrong_12 : decode cX8_wrong 12 = .ok (.aload_n 0, 1) := by decide +kernel
theorem dX8_wrong_13 : decode cX8_wrong 13 = .ok (.getfield 31, 3) := by decide +kernel
theorem dX8_wrong_16 : decode cX8_wrong 16 = .ok (.iload_n 1, 1) := by decide +kernel
theorem dX8_wrong_17 : decode cX8_wrong 17 = .ok (.iaload, 1) := by decide +kernel
theorem dX8_wrong_18 : decode cX8_wrong 18 = .ok (.ifCond .ne 9, 3) := by decide +kernel
theorem dX8_wrong_21 : decode cX8_wrong 21 = .ok (.ldc_w 262, 3) := by decide +kernel
theorem dX8_wrong_24 : decode cX8_wrong 24 = .ok (.goto 4, 3) := by decide +kernel
theorem dX8_wrong_27 : decode cX8_wrong 27 = .ok (.iconst 0, 1) := by decide +kernel
theorem dX8_wrong_28 : decode cX8_wrong 28 = .ok (.ireturn, 1) := by decide +kernel
theorem dX8_sheet_0 : decode cX8_sheet 0 = .ok (.iload_n 1, 1) := by decide +kernel
theorem dX8_sheet_1 : decode cX8_sheet 1 = .ok (.invokestatic 303, 3) := by decide +kernel
theorem dX8_sheet_4 : decode cX8_sheet 4 = .ok (.ifCond .eq 29, 3) := by decide +kernel
theorem dX8_sheet_7 : decode cX8_sheet 7 = .ok (.iload_n 2, 1) := by decide +kernel
theorem dX8_sheet_8 : decode cX8_sheet 8 = .ok (.ifCond .eq 21, 3) := by decide +kernel
theorem dX8_sheet_11 : decode cX8_sheet 11 = .ok (.iload_n 2, 1) := by decide +kernel
theorem dX8_sheet_12 : decode cX8_sheet 12 = .ok (.bipush 8, 2) := by decide +kernel
theorem dX8_sheet_14 : decode cX8_sheet 14 = .ok (.if_icmp .eq 15, 3) := by decide +kernel
theorem dX8_sheet_17 : decode cX8_sheet 17 = .ok (.iload_n 2, 1) := by decide +kernel
theorem dX8_sheet_18 : decode cX8_sheet 18 = .ok (.bipush 16, 2) := by decide +kernel
theorem dX8_sheet_20 : decode cX8_sheet 20 = .ok (.if_icmp .eq 9, 3) := by decide +kernel
theorem dX8_sheet_23 : decode cX8_sheet 23 = .ok (.iload_n 2, 1) := by decide +kernel
theorem dX8_sheet_24 : decode cX8_sheet 24 = .ok (.bipush 32, 2) := by decide +kernel
theorem dX8_sheet_26 : decode cX8_sheet 26 = .ok (.if_icmp .ne 7, 3) := by decide +kernel
theorem dX8_sheet_29 : decode cX8_sheet 29 = .ok (.iconst 1, 1) := by decide +kernel
theorem dX8_sheet_30 : decode cX8_sheet 30 = .ok (.goto 4, 3) := by decide +kernel
theorem dX8_sheet_33 : decode cX8_sheet 33 = .ok (.iconst 0, 1) := by decide +kernel
theorem dX8_sheet_34 : decode cX8_sheet 34 = .ok (.istore 4, 2) := by decide +kernel
theorem dX8_sheet_36 : decode cX8_sheet 36 = .ok (.iload 4, 2) := by decide +kernel
theorem dX8_sheet_38 : decode cX8_sheet 38 = .ok (.ifCond .ne 10, 3) := by decide +kernel
theorem dX8_sheet_41 : decode cX8_sheet 41 = .ok (.aload_n 0, 1) := by decide +kernel
theorem dX8_sheet_42 : decode cX8_sheet 42 = .ok (.ldc 43, 2) := by decide +kernel
theorem dX8_sheet_44 : decode cX8_sheet 44 = .ok (.invokevirtual 84, 3) := by decide +kernel
theorem dX8_sheet_47 : decode cX8_sheet 47 = .ok (.ireturn, 1) := by decide +kernel
theorem dX8_sheet_48 : decode cX8_sheet 48 = .ok (.iload_n 2, 1) := by decide +kernel
theorem dX8_sheet_49 : decode cX8_sheet 49 = .ok (.ifCond .eq 14, 3) := by decide +kernel
theorem dX8_sheet_52 : decode cX8_sheet 52 = .ok (.iload_n 3, 1) := by decide +kernel
theorem dX8_sheet_53 : decode cX8_sheet 53 = .ok (.ifCond .ge 10, 3) := by decide +kernel
theorem dX8_sheet_56 : decode cX8_sheet 56 = .ok (.aload_n 0, 1) := by decide +kernel
theorem dX8_sheet_57 : decode cX8_sheet 57 = .ok (.ldc 247, 2) := by decide +kernel
theorem dX8_sheet_59 : decode cX8_sheet 59 = .ok (.invokevirtual 84, 3) := by decide +kernel
theorem dX8_sheet_62 : decode cX8_sheet 62 = .ok (.ireturn, 1) := by decide +kernel
theorem dX8_sheet_63 : decode cX8_sheet 63 = .ok (.iload_n 2, 1) := by decide +kernel
theorem dX8_sheet_64 : decode cX8_sheet 64 = .ok (.ifCond .eq 16, 3) := by decide +kernel
theorem dX8_sheet_67 : decode cX8_sheet 67 = .ok (.iload_n 3, 1) := by decide +kernel
theorem dX8_sheet_68 : decode cX8_sheet 68 = .ok (.bipush 24, 2) := by decide +kernel
theorem dX8_sheet_70 : decode cX8_sheet 70 = .ok (.if_icmp .le 10, 3) := by decide +kernel
theorem dX8_sheet_73 : decode cX8_sheet 73 = .ok (.aload_n 0, 1) := by decide +kernel
theorem dX8_sheet_74 : decode cX8_sheet 74 = .ok (.ldc 43, 2) := by decide +kernel
theorem dX8_sheet_76 : decode cX8_sheet 76 = .ok (.invokevirtual 84, 3) := by decide +kernel
theorem dX8_sheet_79 : decode cX8_sheet 79 = .ok (.ireturn, 1) := by decide +kernel
theorem dX8_sheet_80 : decode cX8_sheet 80 = .ok (.aload_n 0, 1) := by decide +kernel
theorem dX8_sheet_81 : decode cX8_sheet 81 = .ok (.getfield 31, 3) := by decide +kernel
theorem dX8_sheet_84 : decode cX8_sheet 84 = .ok (.iload_n 1, 1) := by decide +kernel
theorem dX8_sheet_85 : decode cX8_sheet 85 = .ok (.iload_n 2, 1) := by decide +kernel
theorem dX8_sheet_86 : decode cX8_sheet 86 = .ok (.iastore, 1) := by decide +kernel
theorem dX8_sheet_87 : decode cX8_sheet 87 = .ok (.aload_n 0, 1) := by decide +kernel
theorem dX8_sheet_88 : decode cX8_sheet 88 = .ok (.getfield 34, 3) := by decide +kernel
theorem dX8_sheet_91 : decode cX8_sheet 91 = .ok (.iload_n 1, 1) := by decide +kernel
theorem dX8_sheet_92 : decode cX8_sheet 92 = .ok (.iload_n 2, 1) := by decide +kernel
theorem dX8_sheet_93 : decode cX8_sheet 93 = .ok (.ifCond .ne 7, 3) := by decide +kernel
theorem dX8_sheet_96 : decode cX8_sheet 96 = .ok (.iconst 0, 1) := by decide +kernel
theorem dX8_sheet_97 : decode cX8_sheet 97 = .ok (.goto 4, 3) := by decide +kernel
theorem dX8_sheet_100 : decode cX8_sheet 100 = .ok (.iload_n 3, 1) := by decide +kernel
theorem dX8_sheet_101 : decode cX8_sheet 101 = .ok (.iastore, 1) := by decide +kernel
theorem dX8_sheet_102 : decode cX8_sheet 102 = .ok (.iconst 0, 1) := by decide +kernel
theorem dX8_sheet_103 : decode cX8_sheet 103 = .ok (.istore 5, 2) := by decide +kernel
theorem dX8_sheet_105 : decode cX8_sheet 105 = .ok (.iload 5, 2) := by decide +kernel
theorem dX8_sheet_107 : decode cX8_sheet 107 = .ok (.bipush 24, 2) := by decide +kernel
theorem dX8_sheet_109 : decode cX8_sheet 109 = .ok (.if_icmp .ge 22, 3) := by decide +kernel
theorem dX8_sheet_112 : decode cX8_sheet 112 = .ok (.aload_n 0, 1) := by decide +kernel
theorem dX8_sheet_113 : decode cX8_sheet 113 = .ok (.getfield 37, 3) := by decide +kernel
theorem dX8_sheet_116 : decode cX8_sheet 116 = .ok (.bipush 24, 2) := by decide +kernel
theorem dX8_sheet_118 : decode cX8_sheet 118 = .ok (.iload_n 1, 1) := by decide +kernel
theorem dX8_sheet_119 : decode cX8_sheet 119 = .ok (.imul, 1) := by decide +kernel
theorem dX8_sheet_120 : decode cX8_sheet 120 = .ok (.iload 5, 2) := by decide +kernel
theorem dX8_sheet_122 : decode cX8_sheet 122 = .ok (.iadd, 1) := by decide +kernel
theorem dX8_sheet_123 : decode cX8_sheet 123 = .ok (.iconst 0, 1) := by decide +kernel
theorem dX8_sheet_124 : decode cX8_sheet 124 = .ok (.iastore, 1) := by decide +kernel
theorem dX8_sheet_125 : decode cX8_sheet 125 = .ok (.iinc 5 1, 3) := by decide +kernel
theorem dX8_sheet_128 : decode cX8_sheet 128 = .ok (.goto (-23), 3) := by decide +kernel
theorem dX8_sheet_131 : decode cX8_sheet 131 = .ok (.iconst 1, 1) := by decide +kernel
theorem dX8_sheet_132 : decode cX8_sheet 132 = .ok (.ireturn, 1) := by decide +kernel
theorem dX8_put_0 : decode cX8_put 0 = .ok (.aload_n 0, 1) := by decide +kernel
theorem dX8_put_1 : decode cX8_put 1 = .ok (.iload_n 1, 1) := by decide +kernel
theorem dX8_put_2 : decode cX8_put 2 = .ok (.invokevirtual 306, 3) := by decide +kernel
theorem dX8_put_5 : decode cX8_put 5 = .ok (.istore 4, 2) := by decide +kernel
theorem dX8_put_7 : decode cX8_put 7 = .ok (.iload 4, 2) := by decide +kernel
theorem dX8_put_9 : decode cX8_put 9 = .ok (.ifCond .ne 25, 3) := by decide +kernel
theorem dX8_put_12 : decode cX8_put 12 = .ok (.iload_n 2, 1) := by decide +kernel
theorem dX8_put_13 : decode cX8_put 13 = .ok (.i2l, 1) := by decide +kernel
theorem dX8_put_14 : decode cX8_put 14 = .ok (.lconst 0, 1) := by decide +kernel
theorem dX8_put_15 : decode cX8_put 15 = .ok (.aload_n 0, 1) := by decide +kernel
theorem dX8_put_16 : decode cX8_put 16 = .ok (.getfield 34, 3) := by decide +kernel
theorem dX8_put_19 : decode cX8_put 19 = .ok (.iload_n 1, 1) := by decide +kernel
theorem dX8_put_20 : decode cX8_put 20 = .ok (.iaload, 1) := by decide +kernel
theorem dX8_put_21 : decode cX8_put 21 = .ok (.iconst 1, 1) := by decide +kernel
theorem dX8_put_22 : decode cX8_put 22 = .ok (.isub, 1) := by decide +kernel
theorem dX8_put_23 : decode cX8_put 23 = .ok (.i2l, 1) := by decide +kernel
theorem dX8_put_24 : decode cX8_put 24 = .ok (.invokestatic 44, 3) := by decide +kernel
theorem dX8_put_27 : decode cX8_put 27 = .ok (.ifCond .ne 7, 3) := by decide +kernel
theorem dX8_put_30 : decode cX8_put 30 = .ok (.ldc 43, 2) := by decide +kernel
theorem dX8_put_32 : decode cX8_put 32 = .ok (.istore 4, 2) := by decide +kernel
theorem dX8_put_34 : decode cX8_put 34 = .ok (.iload 4, 2) := by decide +kernel
theorem dX8_put_36 : decode cX8_put 36 = .ok (.ifCond .eq 10, 3) := by decide +kernel
theorem dX8_put_39 : decode cX8_put 39 = .ok (.aload_n 0, 1) := by decide +kernel
theorem dX8_put_40 : decode cX8_put 40 = .ok (.iload 4, 2) := by decide +kernel
theorem dX8_put_42 : decode cX8_put 42 = .ok (.invokevirtual 84, 3) := by decide +kernel
theorem dX8_put_45 : decode cX8_put 45 = .ok (.ireturn, 1) := by decide +kernel
theorem dX8_put_46 : decode cX8_put 46 = .ok (.aload_n 0, 1) := by decide +kernel
theorem dX8_put_47 : decode cX8_put 47 = .ok (.getfield 37, 3) := by decide +kernel
theorem dX8_put_50 : decode cX8_put 50 = .ok (.bipush 24, 2) := by decide +kernel
theorem dX8_put_52 : decode cX8_put 52 = .ok (.iload_n 1, 1) := by decide +kernel
theorem dX8_put_53 : decode cX8_put 53 = .ok (.imul, 1) := by decide +kernel
theorem dX8_put_54 : decode cX8_put 54 = .ok (.iload_n 2, 1) := by decide +kernel
theorem dX8_put_55 : decode cX8_put 55 = .ok (.iadd, 1) := by decide +kernel
theorem dX8_put_56 : decode cX8_put 56 = .ok (.aload_n 0, 1) := by decide +kernel
theorem dX8_put_57 : decode cX8_put 57 = .ok (.getfield 31, 3) := by decide +kernel
theorem dX8_put_60 : decode cX8_put 60 = .ok (.iload_n 1, 1) := by decide +kernel
theorem dX8_put_61 : decode cX8_put 61 = .ok (.iaload, 1) := by decide +kernel
theorem dX8_put_62 : decode cX8_put 62 = .ok (.bipush 8, 2) := by decide +kernel
theorem dX8_put_64 : decode cX8_put 64 = .ok (.if_icmp .ne 8, 3) := by decide +kernel
theorem dX8_put_67 : decode cX8_put 67 = .ok (.iload_n 3, 1) := by decide +kernel
theorem dX8_put_68 : decode cX8_put 68 = .ok (.i2b, 1) := by decide +kernel
theorem dX8_put_69 : decode cX8_put 69 = .ok (.goto 20, 3) := by decide +kernel
theorem dX8_put_72 : decode cX8_put 72 = .ok (.aload_n 0, 1) := by decide +kernel
theorem dX8_put_73 : decode cX8_put 73 = .ok (.getfield 31, 3) := by decide +kernel
theorem dX8_put_76 : decode cX8_put 76 = .ok (.iload_n 1, 1) := by decide +kernel
theorem dX8_put_77 : decode cX8_put 77 = .ok (.iaload, 1) := by decide +kernel
theorem dX8_put_78 : decode cX8_put 78 = .ok (.bipush 16, 2) := by decide +kernel
theorem dX8_put_80 : decode cX8_put 80 = .ok (.if_icmp .ne 8, 3) := by decide +kernel
theorem dX8_put_83 : decode cX8_put 83 = .ok (.iload_n 3, 1) := by decide +kernel
theorem dX8_put_84 : decode cX8_put 84 = .ok (.i2s, 1) := by decide +kernel
theorem dX8_put_85 : decode cX8_put 85 = .ok (.goto 4, 3) := by decide +kernel
theorem dX8_put_88 : decode cX8_put 88 = .ok (.iload_n 3, 1) := by decide +kernel
theorem dX8_put_89 : decode cX8_put 89 = .ok (.iastore, 1) := by decide +kernel
theorem dX8_put_90 : decode cX8_put 90 = .ok (.iconst 1, 1) := by decide +kernel
theorem dX8_put_91 : decode cX8_put 91 = .ok (.ireturn, 1) := by decide +kernel
theorem dX8_isStanding_0 : decode cX8_isStanding 0 = .ok (.iload_n 2, 1) := by decide +kernel
theorem dX8_isStanding_1 : decode cX8_isStanding 1 = .ok (.ifCond .lt 23, 3) := by decide +kernel
theorem dX8_isStanding_4 : decode cX8_isStanding 4 = .ok (.iload_n 2, 1) := by decide +kernel
theorem dX8_isStanding_5 : decode cX8_isStanding 5 = .ok (.i2l, 1) := by decide +kernel
theorem dX8_isStanding_6 : decode cX8_isStanding 6 = .ok (.iload_n 3, 1) := by decide +kernel
theorem dX8_isStanding_7 : decode cX8_isStanding 7 = .ok (.i2l, 1) := by decide +kernel
theorem dX8_isStanding_8 : decode cX8_isStanding 8 = .ok (.ladd, 1) := by decide +kernel
theorem dX8_isStanding_9 : decode cX8_isStanding 9 = .ok (.aload_n 0, 1) := by decide +kernel
theorem dX8_isStanding_10 : decode cX8_isStanding 10 = .ok (.getfield 34, 3) := by decide +kernel
theorem dX8_isStanding_13 : decode cX8_isStanding 13 = .ok (.iload_n 1, 1) := by decide +kernel
theorem dX8_isStanding_14 : decode cX8_isStanding 14 = .ok (.iaload, 1) := by decide +kernel
theorem dX8_isStanding_15 : decode cX8_isStanding 15 = .ok (.i2l, 1) := by decide +kernel
theorem dX8_isStanding_16 : decode cX8_isStanding 16 = .ok (.lcmp, 1) := by decide +kernel
theorem dX8_isStanding_17 : decode cX8_isStanding 17 = .ok (.ifCond .gt 7, 3) := by decide +kernel
theorem dX8_isStanding_20 : decode cX8_isStanding 20 = .ok (.iconst 1, 1) := by decide +kernel
theorem dX8_isStanding_21 : decode cX8_isStanding 21 = .ok (.goto 4, 3) := by decide +kernel
theorem dX8_isStanding_24 : decode cX8_isStanding 24 = .ok (.iconst 0, 1) := by decide +kernel
theorem dX8_isStanding_25 : decode cX8_isStanding 25 = .ok (.ireturn, 1) := by decide +kernel
theorem dX8_move_0 : decode cX8_move 0 = .ok (.iload_n 1, 1) := by decide +kernel
theorem dX8_move_1 : decode cX8_move 1 = .ok (.invokestatic 303, 3) := by decide +kernel
theorem dX8_move_4 : decode cX8_move 4 = .ok (.ifCond .eq 10, 3) := by decide +kernel
theorem dX8_move_7 : decode cX8_move 7 = .ok (.iload_n 3, 1) := by decide +kernel
theorem dX8_move_8 : decode cX8_move 8 = .ok (.invokestatic 303, 3) := by decide +kernel
theorem dX8_move_11 : decode cX8_move 11 = .ok (.ifCond .ne 10, 3) := by decide +kernel
theorem dX8_move_14 : decode cX8_move 14 = .ok (.aload_n 0, 1) := by decide +kernel
theorem dX8_move_15 : decode cX8_move 15 = .ok (.ldc 43, 2) := by decide +kernel
theorem dX8_move_17 : decode cX8_move 17 = .ok (.invokevirtual 84, 3) := by decide +kernel
theorem dX8_move_20 : decode cX8_move 20 = .ok (.ireturn, 1) := by decide +kernel
theorem dX8_move_21 : decode cX8_move 21 = .ok (.aload_n 0, 1) := by decide +kernel
theorem dX8_move_22 : decode cX8_move 22 = .ok (.getfield 31, 3) := by decide +kernel
theorem dX8_move_25 : decode cX8_move 25 = .ok (.iload_n 1, 1) := by decide +kernel
theorem dX8_move_26 : decode cX8_move 26 = .ok (.iaload, 1) := by decide +kernel
theorem dX8_move_27 : decode cX8_move 27 = .ok (.ifCond .eq 12, 3) := by decide +kernel
theorem dX8_move_30 : decode cX8_move 30 = .ok (.aload_n 0, 1) := by decide +kernel
theorem dX8_move_31 : decode cX8_move 31 = .ok (.getfield 31, 3) := by decide +kernel
theorem dX8_move_34 : decode cX8_move 34 = .ok (.iload_n 3, 1) := by decide +kernel
theorem dX8_move_35 : decode cX8_move 35 = .ok (.iaload, 1) := by decide +kernel
theorem dX8_move_36 : decode cX8_move 36 = .ok (.ifCond .ne 11, 3) := by decide +kernel
theorem dX8_move_39 : decode cX8_move 39 = .ok (.aload_n 0, 1) := by decide +kernel
theorem dX8_move_40 : decode cX8_move 40 = .ok (.ldc_w 262, 3) := by decide +kernel
theorem dX8_move_43 : decode cX8_move 43 = .ok (.invokevirtual 84, 3) := by decide +kernel
theorem dX8_move_46 : decode cX8_move 46 = .ok (.ireturn, 1) := by decide +kernel
theorem dX8_move_47 : decode cX8_move 47 = .ok (.aload_n 0, 1) := by decide +kernel
theorem dX8_move_48 : decode cX8_move 48 = .ok (.getfield 31, 3) := by decide +kernel
theorem dX8_move_51 : decode cX8_move 51 = .ok (.iload_n 1, 1) := by decide +kernel
theorem dX8_move_52 : decode cX8_move 52 = .ok (.iaload, 1) := by decide +kernel
theorem dX8_move_53 : decode cX8_move 53 = .ok (.aload_n 0, 1) := by decide +kernel
theorem dX8_move_54 : decode cX8_move 54 = .ok (.getfield 31, 3) := by decide +kernel
theorem dX8_move_57 : decode cX8_move 57 = .ok (.iload_n 3, 1) := by decide +kernel
theorem dX8_move_58 : decode cX8_move 58 = .ok (.iaload, 1) := by decide +kernel
theorem dX8_move_59 : decode cX8_move 59 = .ok (.if_icmp .eq 10, 3) := by decide +kernel
theorem dX8_move_62 : decode cX8_move 62 = .ok (.aload_n 0, 1) := by decide +kernel
theorem dX8_move_63 : decode cX8_move 63 = .ok (.ldc 108, 2) := by decide +kernel
theorem dX8_move_65 : decode cX8_move 65 = .ok (.invokevirtual 84, 3) := by decide +kernel
theorem dX8_move_68 : decode cX8_move 68 = .ok (.ireturn, 1) := by decide +kernel
theorem dX8_move_69 : decode cX8_move 69 = .ok (.iload 5, 2) := by decide +kernel
theorem dX8_move_71 : decode cX8_move 71 = .ok (.ifCond .lt 26, 3) := by decide +kernel
theorem dX8_move_74 : decode cX8_move 74 = .ok (.aload_n 0, 1) := by decide +kernel
theorem dX8_move_75 : decode cX8_move 75 = .ok (.iload_n 1, 1) := by decide +kernel
theorem dX8_move_76 : decode cX8_move 76 = .ok (.iload_n 2, 1) := by decide +kernel
theorem dX8_move_77 : decode cX8_move 77 = .ok (.iload 5, 2) := by decide +kernel
theorem dX8_move_79 : decode cX8_move 79 = .ok (.invokevirtual 309, 3) := by decide +kernel
theorem dX8_move_82 : decode cX8_move 82 = .ok (.ifCond .eq 15, 3) := by decide +kernel
theorem dX8_move_85 : decode cX8_move 85 = .ok (.aload_n 0, 1) := by decide +kernel
theorem dX8_move_86 : decode cX8_move 86 = .ok (.iload_n 3, 1) := by decide +kernel
theorem dX8_move_87 : decode cX8_move 87 = .ok (.iload 4, 2) := by decide +kernel
theorem dX8_move_89 : decode cX8_move 89 = .ok (.iload 5, 2) := by decide +kernel
theorem dX8_move_91 : decode cX8_move 91 = .ok (.invokevirtual 309, 3) := by decide +kernel
theorem dX8_move_94 : decode cX8_move 94 = .ok (.ifCond .ne 10, 3) := by decide +kernel
theorem dX8_move_97 : decode cX8_move 97 = .ok (.aload_n 0, 1) := by decide +kernel
theorem dX8_move_98 : decode cX8_move 98 = .ok (.ldc 43, 2) := by decide +kernel
theorem dX8_move_100 : decode cX8_move 100 = .ok (.invokevirtual 84, 3) := by decide +kernel
theorem dX8_move_103 : decode cX8_move 103 = .ok (.ireturn, 1) := by decide +kernel
theorem dX8_move_104 : decode cX8_move 104 = .ok (.iconst 0, 1) := by decide +kernel
theorem dX8_move_105 : decode cX8_move 105 = .ok (.istore 6, 2) := by decide +kernel
theorem dX8_move_107 : decode cX8_move 107 = .ok (.iload 6, 2) := by decide +kernel
theorem dX8_move_109 : decode cX8_move 109 = .ok (.iload 5, 2) := by decide +kernel
theorem dX8_move_111 : decode cX8_move 111 = .ok (.if_icmp .ge 30, 3) := by decide +kernel
theorem dX8_move_114 : decode cX8_move 114 = .ok (.aload_n 0, 1) := by decide +kernel
theorem dX8_move_115 : decode cX8_move 115 = .ok (.getfield 40, 3) := by decide +kernel
theorem dX8_move_118 : decode cX8_move 118 = .ok (.iload 6, 2) := by decide +kernel
theorem dX8_move_120 : decode cX8_move 120 = .ok (.aload_n 0, 1) := by decide +kernel
theorem dX8_move_121 : decode cX8_move 121 = .ok (.getfield 37, 3) := by decide +kernel
theorem dX8_move_124 : decode cX8_move 124 = .ok (.bipush 24, 2) := by decide +kernel
theorem dX8_move_126 : decode cX8_move 126 = .ok (.iload_n 1, 1) := by decide +kernel
theorem dX8_move_127 : decode cX8_move 127 = .ok (.imul, 1) := by decide +kernel
theorem dX8_move_128 : decode cX8_move 128 = .ok (.iload_n 2, 1) := by decide +kernel
theorem dX8_move_129 : decode cX8_move 129 = .ok (.iadd, 1) := by decide +kernel
theorem dX8_move_130 : decode cX8_move 130 = .ok (.iload 6, 2) := by decide +kernel
theorem dX8_move_132 : decode cX8_move 132 = .ok (.iadd, 1) := by decide +kernel
theorem dX8_move_133 : decode cX8_move 133 = .ok (.iaload, 1) := by decide +kernel
theorem dX8_move_134 : decode cX8_move 134 = .ok (.iastore, 1) := by decide +kernel
theorem dX8_move_135 : decode cX8_move 135 = .ok (.iinc 6 1, 3) := by decide +kernel
theorem dX8_move_138 : decode cX8_move 138 = .ok (.goto (-31), 3) := by decide +kernel
theorem dX8_move_141 : decode cX8_move 141 = .ok (.iconst 0, 1) := by decide +kernel
theorem dX8_move_142 : decode cX8_move 142 = .ok (.istore 6, 2) := by decide +kernel
theorem dX8_move_144 : decode cX8_move 144 = .ok (.iload 6, 2) := by decide +kernel
theorem dX8_move_146 : decode cX8_move 146 = .ok (.iload 5, 2) := by decide +kernel
theorem dX8_move_148 : decode cX8_move 148 = .ok (.if_icmp .ge 31, 3) := by decide +kernel
theorem dX8_move_151 : decode cX8_move 151 = .ok (.aload_n 0, 1) := by decide +kernel
theorem dX8_move_152 : decode cX8_move 152 = .ok (.getfield 37, 3) := by decide +kernel
theorem dX8_move_155 : decode cX8_move 155 = .ok (.bipush 24, 2) := by decide +kernel
theorem dX8_move_157 : decode cX8_move 157 = .ok (.iload_n 3, 1) := by decide +kernel
theorem dX8_move_158 : decode cX8_move 158 = .ok (.imul, 1) := by decide +kernel
theorem dX8_move_159 : decode cX8_move 159 = .ok (.iload 4, 2) := by decide +kernel
theorem dX8_move_161 : decode cX8_move 161 = .ok (.iadd, 1) := by decide +kernel
theorem dX8_move_162 : decode cX8_move 162 = .ok (.iload 6, 2) := by decide +kernel
theorem dX8_move_164 : decode cX8_move 164 = .ok (.iadd, 1) := by decide +kernel
theorem dX8_move_165 : decode cX8_move 165 = .ok (.aload_n 0, 1) := by decide +kernel
theorem dX8_move_166 : decode cX8_move 166 = .ok (.getfield 40, 3) := by decide +kernel
theorem dX8_move_169 : decode cX8_move 169 = .ok (.iload 6, 2) := by decide +kernel
theorem dX8_move_171 : decode cX8_move 171 = .ok (.iaload, 1) := by decide +kernel
theorem dX8_move_172 : decode cX8_move 172 = .ok (.iastore, 1) := by decide +kernel
theorem dX8_move_173 : decode cX8_move 173 = .ok (.iinc 6 1, 3) := by decide +kernel
theorem dX8_move_176 : decode cX8_move 176 = .ok (.goto (-32), 3) := by decide +kernel
theorem dX8_move_179 : decode cX8_move 179 = .ok (.iload 5, 2) := by decide +kernel
theorem dX8_move_181 : decode cX8_move 181 = .ok (.ireturn, 1) := by decide +kernel
theorem dX8_rosters_0 : decode cX8_rosters 0 = .ok (.aload_n 0, 1) := by decide +kernel
theorem dX8_rosters_1 : decode cX8_rosters 1 = .ok (.iload_n 1, 1) := by decide +kernel
theorem dX8_rosters_2 : decode cX8_rosters 2 = .ok (.invokevirtual 306, 3) := by decide +kernel
theorem dX8_rosters_5 : decode cX8_rosters 5 = .ok (.istore_n 2, 1) := by decide +kernel
theorem dX8_rosters_6 : decode cX8_rosters 6 = .ok (.iload_n 2, 1) := by decide +kernel
theorem dX8_rosters_7 : decode cX8_rosters 7 = .ok (.ifCond .eq 9, 3) := by decide +kernel
theorem dX8_rosters_10 : decode cX8_rosters 10 = .ok (.aload_n 0, 1) := by decide +kernel
theorem dX8_rosters_11 : decode cX8_rosters 11 = .ok (.iload_n 2, 1) := by decide +kernel
theorem dX8_rosters_12 : decode cX8_rosters 12 = .ok (.invokevirtual 84, 3) := by decide +kernel
theorem dX8_rosters_15 : decode cX8_rosters 15 = .ok (.ireturn, 1) := by decide +kernel
theorem dX8_rosters_16 : decode cX8_rosters 16 = .ok (.iconst 0, 1) := by decide +kernel
theorem dX8_rosters_17 : decode cX8_rosters 17 = .ok (.istore_n 3, 1) := by decide +kernel
theorem dX8_rosters_18 : decode cX8_rosters 18 = .ok (.iconst 2, 1) := by decide +kernel
theorem dX8_rosters_19 : decode cX8_rosters 19 = .ok (.iload_n 3, 1) := by decide +kernel
theorem dX8_rosters_20 : decode cX8_rosters 20 = .ok (.imul, 1) := by decide +kernel
theorem dX8_rosters_21 : decode cX8_rosters 21 = .ok (.iconst 1, 1) := by decide +kernel
theorem dX8_rosters_22 : decode cX8_rosters 22 = .ok (.iadd, 1) := by decide +kernel
theorem dX8_rosters_23 : decode cX8_rosters 23 = .ok (.aload_n 0, 1) := by decide +kernel
theorem dX8_rosters_24 : decode cX8_rosters 24 = .ok (.getfield 34, 3) := by decide +kernel
theorem dX8_rosters_27 : decode cX8_rosters 27 = .ok (.iload_n 1, 1) := by decide +kernel
theorem dX8_rosters_28 : decode cX8_rosters 28 = .ok (.iaload, 1) := by decide +kernel
theorem dX8_rosters_29 : decode cX8_rosters 29 = .ok (.if_icmp .ge 76, 3) := by decide +kernel
theorem dX8_rosters_32 : decode cX8_rosters 32 = .ok (.aload_n 0, 1) := by decide +kernel
theorem dX8_rosters_33 : decode cX8_rosters 33 = .ok (.aload_n 0, 1) := by decide +kernel
theorem dX8_rosters_34 : decode cX8_rosters 34 = .ok (.getfield 37, 3) := by decide +kernel
theorem dX8_rosters_37 : decode cX8_rosters 37 = .ok (.bipush 24, 2) := by decide +kernel
theorem dX8_rosters_39 : decode cX8_rosters 39 = .ok (.iload_n 1, 1) := by decide +kernel
theorem dX8_rosters_40 : decode cX8_rosters 40 = .ok (.imul, 1) := by decide +kernel
theorem dX8_rosters_41 : decode cX8_rosters 41 = .ok (.iconst 2, 1) := by decide +kernel
theorem dX8_rosters_42 : decode cX8_rosters 42 = .ok (.iload_n 3, 1) := by decide +kernel
theorem dX8_rosters_43 : decode cX8_rosters 43 = .ok (.imul, 1) := by decide +kernel
theorem dX8_rosters_44 : decode cX8_rosters 44 = .ok (.iadd, 1) := by decide +kernel
theorem dX8_rosters_45 : decode cX8_rosters 45 = .ok (.iaload, 1) := by decide +kernel
theorem dX8_rosters_46 : decode cX8_rosters 46 = .ok (.aload_n 0, 1) := by decide +kernel
theorem dX8_rosters_47 : decode cX8_rosters 47 = .ok (.getfield 37, 3) := by decide +kernel
theorem dX8_rosters_50 : decode cX8_rosters 50 = .ok (.bipush 24, 2) := by decide +kernel
theorem dX8_rosters_52 : decode cX8_rosters 52 = .ok (.iload_n 1, 1) := by decide +kernel
theorem dX8_rosters_53 : decode cX8_rosters 53 = .ok (.imul, 1) := by decide +kernel
theorem dX8_rosters_54 : decode cX8_rosters 54 = .ok (.iconst 2, 1) := by decide +kernel
theorem dX8_rosters_55 : decode cX8_rosters 55 = .ok (.iload_n 3, 1) := by decide +kernel
theorem dX8_rosters_56 : decode cX8_rosters 56 = .ok (.imul, 1) := by decide +kernel
theorem dX8_rosters_57 : decode cX8_rosters 57 = .ok (.iadd, 1) := by decide +kernel
theorem dX8_rosters_58 : decode cX8_rosters 58 = .ok (.iconst 1, 1) := by decide +kernel
theorem dX8_rosters_59 : decode cX8_rosters 59 = .ok (.iadd, 1) := by decide +kernel
theorem dX8_rosters_60 : decode cX8_rosters 60 = .ok (.iaload, 1) := by decide +kernel
theorem dX8_rosters_61 : decode cX8_rosters 61 = .ok (.invokevirtual 124, 3) := by decide +kernel
theorem dX8_rosters_64 : decode cX8_rosters 64 = .ok (.ifCond .ne 41, 3) := by decide +kernel
theorem dX8_rosters_67 : decode cX8_rosters 67 = .ok (.aload_n 0, 1) := by decide +kernel
theorem dX8_rosters_68 : decode cX8_rosters 68 = .ok (.aload_n 0, 1) := by decide +kernel
theorem dX8_rosters_69 : decode cX8_rosters 69 = .ok (.getfield 37, 3) := by decide +kernel
theorem dX8_rosters_72 : decode cX8_rosters 72 = .ok (.bipush 24, 2) := by decide +kernel
theorem dX8_rosters_74 : decode cX8_rosters 74 = .ok (.iload_n 1, 1) := by decide +kernel
theorem dX8_rosters_75 : decode cX8_rosters 75 = .ok (.imul, 1) := by decide +kernel
theorem dX8_rosters_76 : decode cX8_rosters 76 = .ok (.iconst 2, 1) := by decide +kernel
theorem dX8_rosters_77 : decode cX8_rosters 77 = .ok (.iload_n 3, 1) := by decide +kernel
theorem dX8_rosters_78 : decode cX8_rosters 78 = .ok (.imul, 1) := by decide +kernel
theorem dX8_rosters_79 : decode cX8_rosters 79 = .ok (.iadd, 1) := by decide +kernel
theorem dX8_rosters_80 : decode cX8_rosters 80 = .ok (.iaload, 1) := by decide +kernel
theorem dX8_rosters_81 : decode cX8_rosters 81 = .ok (.aload_n 0, 1) := by decide +kernel
theorem dX8_rosters_82 : decode cX8_rosters 82 = .ok (.getfield 37, 3) := by decide +kernel
theorem dX8_rosters_85 : decode cX8_rosters 85 = .ok (.bipush 24, 2) := by decide +kernel
theorem dX8_rosters_87 : decode cX8_rosters 87 = .ok (.iload_n 1, 1) := by decide +kernel
theorem dX8_rosters_88 : decode cX8_rosters 88 = .ok (.imul, 1) := by decide +kernel
theorem dX8_rosters_89 : decode cX8_rosters 89 = .ok (.iconst 2, 1) := by decide +kernel
theorem dX8_rosters_90 : decode cX8_rosters 90 = .ok (.iload_n 3, 1) := by decide +kernel
theorem dX8_rosters_91 : decode cX8_rosters 91 = .ok (.imul, 1) := by decide +kernel
theorem dX8_rosters_92 : decode cX8_rosters 92 = .ok (.iadd, 1) := by decide +kernel
theorem dX8_rosters_93 : decode cX8_rosters 93 = .ok (.iconst 1, 1) := by decide +kernel
theorem dX8_rosters_94 : decode cX8_rosters 94 = .ok (.iadd, 1) := by decide +kernel
theorem dX8_rosters_95 : decode cX8_rosters 95 = .ok (.iaload, 1) := by decide +kernel
theorem dX8_rosters_96 : decode cX8_rosters 96 = .ok (.invokevirtual 127, 3) := by decide +kernel
theorem dX8_rosters_99 : decode cX8_rosters 99 = .ok (.iinc 3 1, 3) := by decide +kernel
theorem dX8_rosters_102 : decode cX8_rosters 102 = .ok (.goto (-84), 3) := by decide +kernel
theorem dX8_rosters_105 : decode cX8_rosters 105 = .ok (.iload_n 3, 1) := by decide +kernel
theorem dX8_rosters_106 : decode cX8_rosters 106 = .ok (.ireturn, 1) := by decide +kernel
theorem dX8_judge_0 : decode cX8_judge 0 = .ok (.aload_n 0, 1) := by decide +kernel
theorem dX8_judge_1 : decode cX8_judge 1 = .ok (.iload_n 1, 1) := by decide +kernel
theorem dX8_judge_2 : decode cX8_judge 2 = .ok (.invokevirtual 306, 3) := by decide +kernel
theorem dX8_judge_5 : decode cX8_judge 5 = .ok (.istore_n 2, 1) := by decide +kernel
theorem dX8_judge_6 : decode cX8_judge 6 = .ok (.iload_n 2, 1) := by decide +kernel
theorem dX8_judge_7 : decode cX8_judge 7 = .ok (.ifCond .eq 9, 3) := by decide +kernel
theorem dX8_judge_10 : decode cX8_judge 10 = .ok (.aload_n 0, 1) := by decide +kernel
theorem dX8_judge_11 : decode cX8_judge 11 = .ok (.iload_n 2, 1) := by decide +kernel
theorem dX8_judge_12 : decode cX8_judge 12 = .ok (.invokevirtual 84, 3) := by decide +kernel
theorem dX8_judge_15 : decode cX8_judge 15 = .ok (.ireturn, 1) := by decide +kernel
theorem dX8_judge_16 : decode cX8_judge 16 = .ok (.iconst 0, 1) := by decide +kernel
theorem dX8_judge_17 : decode cX8_judge 17 = .ok (.istore_n 3, 1) := by decide +kernel
theorem dX8_judge_18 : decode cX8_judge 18 = .ok (.iload_n 3, 1) := by decide +kernel
theorem dX8_judge_19 : decode cX8_judge 19 = .ok (.aload_n 0, 1) := by decide +kernel
theorem dX8_judge_20 : decode cX8_judge 20 = .ok (.getfield 34, 3) := by decide +kernel
theorem dX8_judge_23 : decode cX8_judge 23 = .ok (.iload_n 1, 1) := by decide +kernel
theorem dX8_judge_24 : decode cX8_judge 24 = .ok (.iaload, 1) := by decide +kernel
theorem dX8_judge_25 : decode cX8_judge 25 = .ok (.if_icmp .ge 39, 3) := by decide +kernel
theorem dX8_judge_28 : decode cX8_judge 28 = .ok (.iload_n 3, 1) := by decide +kernel
theorem dX8_judge_29 : decode cX8_judge 29 = .ok (.aload_n 0, 1) := by decide +kernel
theorem dX8_judge_30 : decode cX8_judge 30 = .ok (.getfield 7, 3) := by decide +kernel
theorem dX8_judge_33 : decode cX8_judge 33 = .ok (.iconst 0, 1) := by decide +kernel
theorem dX8_judge_34 : decode cX8_judge 34 = .ok (.iaload, 1) := by decide +kernel
theorem dX8_judge_35 : decode cX8_judge 35 = .ok (.if_icmp .ge 29, 3) := by decide +kernel
theorem dX8_judge_38 : decode cX8_judge 38 = .ok (.aload_n 0, 1) := by decide +kernel
theorem dX8_judge_39 : decode cX8_judge 39 = .ok (.getfield 37, 3) := by decide +kernel
theorem dX8_judge_42 : decode cX8_judge 42 = .ok (.bipush 24, 2) := by decide +kernel
theorem dX8_judge_44 : decode cX8_judge 44 = .ok (.iload_n 1, 1) := by decide +kernel
theorem dX8_judge_45 : decode cX8_judge 45 = .ok (.imul, 1) := by decide +kernel
theorem dX8_judge_46 : decode cX8_judge 46 = .ok (.iload_n 3, 1) := by decide +kernel
theorem dX8_judge_47 : decode cX8_judge 47 = .ok (.iadd, 1) := by decide +kernel
theorem dX8_judge_48 : decode cX8_judge 48 = .ok (.iaload, 1) := by decide +kernel
theorem dX8_judge_49 : decode cX8_judge 49 = .ok (.aload_n 0, 1) := by decide +kernel
theorem dX8_judge_50 : decode cX8_judge 50 = .ok (.iload_n 3, 1) := by decide +kernel
theorem dX8_judge_51 : decode cX8_judge 51 = .ok (.iconst 3, 1) := by decide +kernel
theorem dX8_judge_52 : decode cX8_judge 52 = .ok (.invokevirtual 60, 3) := by decide +kernel
theorem dX8_judge_55 : decode cX8_judge 55 = .ok (.if_icmp .ne 9, 3) := by decide +kernel
theorem dX8_judge_58 : decode cX8_judge 58 = .ok (.iinc 3 1, 3) := by decide +kernel
theorem dX8_judge_61 : decode cX8_judge 61 = .ok (.goto (-43), 3) := by decide +kernel
theorem dX8_judge_64 : decode cX8_judge 64 = .ok (.iload_n 3, 1) := by decide +kernel
theorem dX8_judge_65 : decode cX8_judge 65 = .ok (.aload_n 0, 1) := by decide +kernel
theorem dX8_judge_66 : decode cX8_judge 66 = .ok (.getfield 34, 3) := by decide +kernel
theorem dX8_judge_69 : decode cX8_judge 69 = .ok (.iload_n 1, 1) := by decide +kernel
theorem dX8_judge_70 : decode cX8_judge 70 = .ok (.iaload, 1) := by decide +kernel
theorem dX8_judge_71 : decode cX8_judge 71 = .ok (.if_icmp .ne 17, 3) := by decide +kernel
theorem dX8_judge_74 : decode cX8_judge 74 = .ok (.iload_n 3, 1) := by decide +kernel
theorem dX8_judge_75 : decode cX8_judge 75 = .ok (.aload_n 0, 1) := by decide +kernel
theorem dX8_judge_76 : decode cX8_judge 76 = .ok (.getfield 7, 3) := by decide +kernel
theorem dX8_judge_79 : decode cX8_judge 79 = .ok (.iconst 0, 1) := by decide +kernel
theorem dX8_judge_80 : decode cX8_judge 80 = .ok (.iaload, 1) := by decide +kernel
theorem dX8_judge_81 : decode cX8_judge 81 = .ok (.if_icmp .ne 7, 3) := by decide +kernel
theorem dX8_judge_84 : decode cX8_judge 84 = .ok (.iconst (-1), 1) := by decide +kernel
theorem dX8_judge_85 : decode cX8_judge 85 = .ok (.goto 4, 3) := by decide +kernel
theorem dX8_judge_88 : decode cX8_judge 88 = .ok (.iload_n 3, 1) := by decide +kernel
theorem dX8_judge_89 : decode cX8_judge 89 = .ok (.ireturn, 1) := by decide +kernel
theorem dX8_image_0 : decode cX8_image 0 = .ok (.iconst 0, 1) := by decide +kernel
theorem dX8_image_1 : decode cX8_image 1 = .ok (.istore_n 1, 1) := by decide +kernel
theorem dX8_image_2 : decode cX8_image 2 = .ok (.iload_n 1, 1) := by decide +kernel
theorem dX8_image_3 : decode cX8_image 3 = .ok (.sipush 357, 3) := by decide +kernel
theorem dX8_image_6 : decode cX8_image 6 = .ok (.if_icmp .ge 21, 3) := by decide +kernel
theorem dX8_image_9 : decode cX8_image 9 = .ok (.aload_n 0, 1) := by decide +kernel
theorem dX8_image_10 : decode cX8_image 10 = .ok (.getfield 13, 3) := by decide +kernel
theorem dX8_image_13 : decode cX8_image 13 = .ok (.iload_n 1, 1) := by decide +kernel
theorem dX8_image_14 : decode cX8_image 14 = .ok (.aload_n 0, 1) := by decide +kernel
theorem dX8_image_15 : decode cX8_image 15 = .ok (.getfield 7, 3) := by decide +kernel
theorem dX8_image_18 : decode cX8_image 18 = .ok (.iload_n 1, 1) := by decide +kernel
theorem dX8_image_19 : decode cX8_image 19 = .ok (.iaload, 1) := by decide +kernel
theorem dX8_image_20 : decode cX8_image 20 = .ok (.iastore, 1) := by decide +kernel
theorem dX8_image_21 : decode cX8_image 21 = .ok (.iinc 1 1, 3) := by decide +kernel
theorem dX8_image_24 : decode cX8_image 24 = .ok (.goto (-22), 3) := by decide +kernel
theorem dX8_image_27 : decode cX8_image 27 = .ok (.aload_n 0, 1) := by decide +kernel
theorem dX8_image_28 : decode cX8_image 28 = .ok (.dup, 1) := by decide +kernel
theorem dX8_image_29 : decode cX8_image 29 = .ok (.getfield 312, 3) := by decide +kernel
theorem dX8_image_32 : decode cX8_image 32 = .ok (.iconst 1, 1) := by decide +kernel
theorem dX8_image_33 : decode cX8_image 33 = .ok (.iadd, 1) := by decide +kernel
theorem dX8_image_34 : decode cX8_image 34 = .ok (.putfield 312, 3) := by decide +kernel
theorem dX8_image_37 : decode cX8_image 37 = .ok (.aload_n 0, 1) := by decide +kernel
theorem dX8_image_38 : decode cX8_image 38 = .ok (.getfield 312, 3) := by decide +kernel
theorem dX8_image_41 : decode cX8_image 41 = .ok (.ireturn, 1) := by decide +kernel
theorem dX8_restore_0 : decode cX8_restore 0 = .ok (.aload_n 0, 1) := by decide +kernel
theorem dX8_restore_1 : decode cX8_restore 1 = .ok (.getfield 312, 3) := by decide +kernel
theorem dX8_restore_4 : decode cX8_restore 4 = .ok (.ifCond .ne 11, 3) := by decide +kernel
theorem dX8_restore_7 : decode cX8_restore 7 = .ok (.aload_n 0, 1) := by decide +kernel
theorem dX8_restore_8 : decode cX8_restore 8 = .ok (.ldc_w 262, 3) := by decide +kernel
theorem dX8_restore_11 : decode cX8_restore 11 = .ok (.invokevirtual 84, 3) := by decide +kernel
theorem dX8_restore_14 : decode cX8_restore 14 = .ok (.ireturn, 1) := by decide +kernel
theorem dX8_restore_15 : decode cX8_restore 15 = .ok (.iconst 0, 1) := by decide +kernel
theorem dX8_restore_16 : decode cX8_restore 16 = .ok (.istore_n 1, 1) := by decide +kernel
theorem dX8_restore_17 : decode cX8_restore 17 = .ok (.iload_n 1, 1) := by decide +kernel
theorem dX8_restore_18 : decode cX8_restore 18 = .ok (.sipush 357, 3) := by decide +kernel
theorem dX8_restore_21 : decode cX8_restore 21 = .ok (.if_icmp .ge 21, 3) := by decide +kernel
theorem dX8_restore_24 : decode cX8_restore 24 = .ok (.aload_n 0, 1) := by decide +kernel
theorem dX8_restore_25 : decode cX8_restore 25 = .ok (.getfield 7, 3) := by decide +kernel
theorem dX8_restore_28 : decode cX8_restore 28 = .ok (.iload_n 1, 1) := by decide +kernel
theorem dX8_restore_29 : decode cX8_restore 29 = .ok (.aload_n 0, 1) := by decide +kernel
theorem dX8_restore_30 : decode cX8_restore 30 = .ok (.getfield 13, 3) := by decide +kernel
theorem dX8_restore_33 : decode cX8_restore 33 = .ok (.iload_n 1, 1) := by decide +kernel
theorem dX8_restore_34 : decode cX8_restore 34 = .ok (.iaload, 1) := by decide +kernel
theorem dX8_restore_35 : decode cX8_restore 35 = .ok (.iastore, 1) := by decide +kernel
theorem dX8_restore_36 : decode cX8_restore 36 = .ok (.iinc 1 1, 3) := by decide +kernel
theorem dX8_restore_39 : decode cX8_restore 39 = .ok (.goto (-22), 3) := by decide +kernel
theorem dX8_restore_42 : decode cX8_restore 42 = .ok (.aload_n 0, 1) := by decide +kernel
theorem dX8_restore_43 : decode cX8_restore 43 = .ok (.getfield 7, 3) := by decide +kernel
theorem dX8_restore_46 : decode cX8_restore 46 = .ok (.iconst 3, 1) := by decide +kernel
theorem dX8_restore_47 : decode cX8_restore 47 = .ok (.iaload, 1) := by decide +kernel
theorem dX8_restore_48 : decode cX8_restore 48 = .ok (.ireturn, 1) := by decide +kernel
theorem dX8_tell_0 : decode cX8_tell 0 = .ok (.aload_n 0, 1) := by decide +kernel
theorem dX8_tell_1 : decode cX8_tell 1 = .ok (.getfield 7, 3) := by decide +kernel
theorem dX8_tell_4 : decode cX8_tell 4 = .ok (.bipush 8, 2) := by decide +kernel
theorem dX8_tell_6 : decode cX8_tell 6 = .ok (.iaload, 1) := by decide +kernel
theorem dX8_tell_7 : decode cX8_tell 7 = .ok (.bipush 24, 2) := by decide +kernel
theorem dX8_tell_9 : decode cX8_tell 9 = .ok (.if_icmp .ne 10, 3) := by decide +kernel
theorem dX8_tell_12 : decode cX8_tell 12 = .ok (.aload_n 0, 1) := by decide +kernel
theorem dX8_tell_13 : decode cX8_tell 13 = .ok (.ldc 87, 2) := by decide +kernel
theorem dX8_tell_15 : decode cX8_tell 15 = .ok (.invokevirtual 84, 3) := by decide +kernel
theorem dX8_tell_18 : decode cX8_tell 18 = .ok (.ireturn, 1) := by decide +kernel
theorem dX8_tell_19 : decode cX8_tell 19 = .ok (.aload_n 0, 1) := by decide +kernel
theorem dX8_tell_20 : decode cX8_tell 20 = .ok (.getfield 7, 3) := by decide +kernel
theorem dX8_tell_23 : decode cX8_tell 23 = .ok (.sipush 213, 3) := by decide +kernel
theorem dX8_tell_26 : decode cX8_tell 26 = .ok (.aload_n 0, 1) := by decide +kernel
theorem dX8_tell_27 : decode cX8_tell 27 = .ok (.getfield 7, 3) := by decide +kernel
theorem dX8_tell_30 : decode cX8_tell 30 = .ok (.bipush 8, 2) := by decide +kernel
theorem dX8_tell_32 : decode cX8_tell 32 = .ok (.iaload, 1) := by decide +kernel
theorem dX8_tell_33 : decode cX8_tell 33 = .ok (.iadd, 1) := by decide +kernel
theorem dX8_tell_34 : decode cX8_tell 34 = .ok (.iload_n 1, 1) := by decide +kernel
theorem dX8_tell_35 : decode cX8_tell 35 = .ok (.iastore, 1) := by decide +kernel
theorem dX8_tell_36 : decode cX8_tell 36 = .ok (.aload_n 0, 1) := by decide +kernel
theorem dX8_tell_37 : decode cX8_tell 37 = .ok (.getfield 7, 3) := by decide +kernel
theorem dX8_tell_40 : decode cX8_tell 40 = .ok (.bipush 8, 2) := by decide +kernel
theorem dX8_tell_42 : decode cX8_tell 42 = .ok (.dup2, 1) := by decide +kernel
theorem dX8_tell_43 : decode cX8_tell 43 = .ok (.iaload, 1) := by decide +kernel
theorem dX8_tell_44 : decode cX8_tell 44 = .ok (.iconst 1, 1) := by decide +kernel
theorem dX8_tell_45 : decode cX8_tell 45 = .ok (.iadd, 1) := by decide +kernel
theorem dX8_tell_46 : decode cX8_tell 46 = .ok (.iastore, 1) := by decide +kernel
theorem dX8_tell_47 : decode cX8_tell 47 = .ok (.aload_n 0, 1) := by decide +kernel
theorem dX8_tell_48 : decode cX8_tell 48 = .ok (.getfield 7, 3) := by decide +kernel
theorem dX8_tell_51 : decode cX8_tell 51 = .ok (.bipush 8, 2) := by decide +kernel
theorem dX8_tell_53 : decode cX8_tell 53 = .ok (.iaload, 1) := by decide +kernel
theorem dX8_tell_54 : decode cX8_tell 54 = .ok (.ireturn, 1) := by decide +kernel
theorem dX8_check_0 : decode cX8_check 0 = .ok (.aload_n 0, 1) := by decide +kernel
theorem dX8_check_1 : decode cX8_check 1 = .ok (.getfield 7, 3) := by decide +kernel
theorem dX8_check_4 : decode cX8_check 4 = .ok (.bipush 8, 2) := by decide +kernel
theorem dX8_check_6 : decode cX8_check 6 = .ok (.iaload, 1) := by decide +kernel
theorem dX8_check_7 : decode cX8_check 7 = .ok (.istore_n 2, 1) := by decide +kernel
theorem dX8_check_8 : decode cX8_check 8 = .ok (.aload_n 0, 1) := by decide +kernel
theorem dX8_check_9 : decode cX8_check 9 = .ok (.getfield 7, 3) := by decide +kernel
theorem dX8_check_12 : decode cX8_check 12 = .ok (.bipush 8, 2) := by decide +kernel
theorem dX8_check_14 : decode cX8_check 14 = .ok (.iconst 0, 1) := by decide +kernel
theorem dX8_check_15 : decode cX8_check 15 = .ok (.iastore, 1) := by decide +kernel
theorem dX8_check_16 : decode cX8_check 16 = .ok (.iload_n 1, 1) := by decide +kernel
theorem dX8_check_17 : decode cX8_check 17 = .ok (.invokestatic 113, 3) := by decide +kernel
theorem dX8_check_20 : decode cX8_check 20 = .ok (.ifCond .ne 10, 3) := by decide +kernel
theorem dX8_check_23 : decode cX8_check 23 = .ok (.aload_n 0, 1) := by decide +kernel
theorem dX8_check_24 : decode cX8_check 24 = .ok (.ldc 43, 2) := by decide +kernel
theorem dX8_check_26 : decode cX8_check 26 = .ok (.invokevirtual 84, 3) := by decide +kernel
theorem dX8_check_29 : decode cX8_check 29 = .ok (.ireturn, 1) := by decide +kernel
theorem dX8_check_30 : decode cX8_check 30 = .ok (.aload_n 0, 1) := by decide +kernel
theorem dX8_check_31 : decode cX8_check 31 = .ok (.invokevirtual 256, 3) := by decide +kernel
theorem dX8_check_34 : decode cX8_check 34 = .ok (.iconst 0, 1) := by decide +kernel
theorem dX8_check_35 : decode cX8_check 35 = .ok (.istore_n 3, 1) := by decide +kernel
theorem dX8_check_36 : decode cX8_check 36 = .ok (.iconst 1, 1) := by decide +kernel
theorem dX8_check_37 : decode cX8_check 37 = .ok (.istore 4, 2) := by decide +kernel
theorem dX8_check_39 : decode cX8_check 39 = .ok (.iload 4, 2) := by decide +kernel
theorem dX8_check_41 : decode cX8_check 41 = .ok (.ifCond .eq 54, 3) := by decide +kernel
theorem dX8_check_44 : decode cX8_check 44 = .ok (.iload_n 3, 1) := by decide +kernel
theorem dX8_check_45 : decode cX8_check 45 = .ok (.iload_n 2, 1) := by decide +kernel
theorem dX8_check_46 : decode cX8_check 46 = .ok (.if_icmp .ge 49, 3) := by decide +kernel
theorem dX8_check_49 : decode cX8_check 49 = .ok (.aload_n 0, 1) := by decide +kernel
theorem dX8_check_50 : decode cX8_check 50 = .ok (.iconst 0, 1) := by decide +kernel
theorem dX8_check_51 : decode cX8_check 51 = .ok (.invokevirtual 238, 3) := by decide +kernel
theorem dX8_check_54 : decode cX8_check 54 = .ok (.aload_n 0, 1) := by decide +kernel
theorem dX8_check_55 : decode cX8_check 55 = .ok (.iload_n 1, 1) := by decide +kernel
theorem dX8_check_56 : decode cX8_check 56 = .ok (.invokevirtual 139, 3) := by decide +kernel
theorem dX8_check_59 : decode cX8_check 59 = .ok (.aload_n 0, 1) := by decide +kernel
theorem dX8_check_60 : decode cX8_check 60 = .ok (.getfield 7, 3) := by decide +kernel
theorem dX8_check_63 : decode cX8_check 63 = .ok (.sipush 213, 3) := by decide +kernel
theorem dX8_check_66 : decode cX8_check 66 = .ok (.iload_n 3, 1) := by decide +kernel
theorem dX8_check_67 : decode cX8_check 67 = .ok (.iadd, 1) := by decide +kernel
theorem dX8_check_68 : decode cX8_check 68 = .ok (.iaload, 1) := by decide +kernel
theorem dX8_check_69 : decode cX8_check 69 = .ok (.if_icmp .ne 7, 3) := by decide +kernel
theorem dX8_check_72 : decode cX8_check 72 = .ok (.iconst 1, 1) := by decide +kernel
theorem dX8_check_73 : decode cX8_check 73 = .ok (.goto 4, 3) := by decide +kernel
theorem dX8_check_76 : decode cX8_check 76 = .ok (.iconst 0, 1) := by decide +kernel
theorem dX8_check_77 : decode cX8_check 77 = .ok (.istore 4, 2) := by decide +kernel
theorem dX8_check_79 : decode cX8_check 79 = .ok (.iload_n 3, 1) := by decide +kernel
theorem dX8_check_80 : decode cX8_check 80 = .ok (.iload 4, 2) := by decide +kernel
theorem dX8_check_82 : decode cX8_check 82 = .ok (.ifCond .eq 7, 3) := by decide +kernel
theorem dX8_check_85 : decode cX8_check 85 = .ok (.iconst 1, 1) := by decide +kernel
theorem dX8_check_86 : decode cX8_check 86 = .ok (.goto 4, 3) := by decide +kernel
theorem dX8_check_89 : decode cX8_check 89 = .ok (.iconst 0, 1) := by decide +kernel
theorem dX8_check_90 : decode cX8_check 90 = .ok (.iadd, 1) := by decide +kernel
theorem dX8_check_91 : decode cX8_check 91 = .ok (.istore_n 3, 1) := by decide +kernel
theorem dX8_check_92 : decode cX8_check 92 = .ok (.goto (-53), 3) := by decide +kernel
theorem dX8_check_95 : decode cX8_check 95 = .ok (.aload_n 0, 1) := by decide +kernel
theorem dX8_check_96 : decode cX8_check 96 = .ok (.invokevirtual 259, 3) := by decide +kernel
theorem dX8_check_99 : decode cX8_check 99 = .ok (.iload 4, 2) := by decide +kernel
theorem dX8_check_101 : decode cX8_check 101 = .ok (.ifCond .eq 7, 3) := by decide +kernel
theorem dX8_check_104 : decode cX8_check 104 = .ok (.iconst 0, 1) := by decide +kernel
theorem dX8_check_105 : decode cX8_check 105 = .ok (.goto 6, 3) := by decide +kernel
theorem dX8_check_108 : decode cX8_check 108 = .ok (.iconst 1, 1) := by decide +kernel
theorem dX8_check_109 : decode cX8_check 109 = .ok (.iload_n 3, 1) := by decide +kernel
theorem dX8_check_110 : decode cX8_check 110 = .ok (.iadd, 1) := by decide +kernel
theorem dX8_check_111 : decode cX8_check 111 = .ok (.ireturn, 1) := by decide +kernel
theorem dX8_knownByAny_0 : decode cX8_knownByAny 0 = .ok (.iconst 0, 1) := by decide +kernel
theorem dX8_knownByAny_1 : decode cX8_knownByAny 1 = .ok (.istore_n 1, 1) := by decide +kernel
theorem dX8_knownByAny_2 : decode cX8_knownByAny 2 = .ok (.iconst 0, 1) := by decide +kernel
theorem dX8_knownByAny_3 : decode cX8_knownByAny 3 = .ok (.istore_n 2, 1) := by decide +kernel
theorem dX8_knownByAny_4 : decode cX8_knownByAny 4 = .ok (.iload_n 2, 1) := by decide +kernel
theorem dX8_knownByAny_5 : decode cX8_knownByAny 5 = .ok (.aload_n 0, 1) := by decide +kernel
theorem dX8_knownByAny_6 : decode cX8_knownByAny 6 = .ok (.getfield 7, 3) := by decide +kernel
theorem dX8_knownByAny_9 : decode cX8_knownByAny 9 = .ok (.iconst 0, 1) := by decide +kernel
theorem dX8_knownByAny_10 : decode cX8_knownByAny 10 = .ok (.iaload, 1) := by decide +kernel
theorem dX8_knownByAny_11 : decode cX8_knownByAny 11 = .ok (.if_icmp .ge 18, 3) := by decide +kernel
theorem dX8_knownByAny_14 : decode cX8_knownByAny 14 = .ok (.iload_n 1, 1) := by decide +kernel
theorem dX8_knownByAny_15 : decode cX8_knownByAny 15 = .ok (.aload_n 0, 1) := by decide +kernel
theorem dX8_knownByAny_16 : decode cX8_knownByAny 16 = .ok (.iload_n 2, 1) := by decide +kernel
theorem dX8_knownByAny_17 : decode cX8_knownByAny 17 = .ok (.iconst 3, 1) := by decide +kernel
theorem dX8_knownByAny_18 : decode cX8_knownByAny 18 = .ok (.invokevirtual 60, 3) := by decide +kernel
theorem dX8_knownByAny_21 : decode cX8_knownByAny 21 = .ok (.ior, 1) := by decide +kernel
theorem dX8_knownByAny_22 : decode cX8_knownByAny 22 = .ok (.istore_n 1, 1) := by decide +kernel
theorem dX8_knownByAny_23 : decode cX8_knownByAny 23 = .ok (.iinc 2 1, 3) := by decide +kernel
theorem dX8_knownByAny_26 : decode cX8_knownByAny 26 = .ok (.goto (-22), 3) := by decide +kernel
theorem dX8_knownByAny_29 : decode cX8_knownByAny 29 = .ok (.iload_n 1, 1) := by decide +kernel
theorem dX8_knownByAny_30 : decode cX8_knownByAny 30 = .ok (.ireturn, 1) := by decide +kernel
theorem dX8_count_0 : decode cX8_count 0 = .ok (.iload_n 1, 1) := by decide +kernel
theorem dX8_count_1 : decode cX8_count 1 = .ok (.tableswitch 114 0 10 #[59, 59, 59, 59, 66, 71, 78, 85, 93, 101, 106], 59) := by decide +kernel
theorem dX8_count_60 : decode cX8_count 60 = .ok (.aload_n 0, 1) := by decide +kernel
theorem dX8_count_61 : decode cX8_count 61 = .ok (.getfield 7, 3) := by decide +kernel
theorem dX8_count_64 : decode cX8_count 64 = .ok (.iload_n 1, 1) := by decide +kernel
theorem dX8_count_65 : decode cX8_count 65 = .ok (.iaload, 1) := by decide +kernel
theorem dX8_count_66 : decode cX8_count 66 = .ok (.ireturn, 1) := by decide +kernel
theorem dX8_count_67 : decode cX8_count 67 = .ok (.aload_n 0, 1) := by decide +kernel
theorem dX8_count_68 : decode cX8_count 68 = .ok (.invokevirtual 315, 3) := by decide +kernel
theorem dX8_count_71 : decode cX8_count 71 = .ok (.ireturn, 1) := by decide +kernel
theorem dX8_count_72 : decode cX8_count 72 = .ok (.aload_n 0, 1) := by decide +kernel
theorem dX8_count_73 : decode cX8_count 73 = .ok (.getfield 7, 3) := by decide +kernel
theorem dX8_count_76 : decode cX8_count 76 = .ok (.iconst 4, 1) := by decide +kernel
theorem dX8_count_77 : decode cX8_count 77 = .ok (.iaload, 1) := by decide +kernel
theorem dX8_count_78 : decode cX8_count 78 = .ok (.ireturn, 1) := by decide +kernel
theorem dX8_count_79 : decode cX8_count 79 = .ok (.aload_n 0, 1) := by decide +kernel
theorem dX8_count_80 : decode cX8_count 80 = .ok (.getfield 7, 3) := by decide +kernel
theorem dX8_count_83 : decode cX8_count 83 = .ok (.iconst 5, 1) := by decide +kernel
theorem dX8_count_84 : decode cX8_count 84 = .ok (.iaload, 1) := by decide +kernel
theorem dX8_count_85 : decode cX8_count 85 = .ok (.ireturn, 1) := by decide +kernel
theorem dX8_count_86 : decode cX8_count 86 = .ok (.aload_n 0, 1) := by decide +kernel
theorem dX8_count_87 : decode cX8_count 87 = .ok (.getfield 7, 3) := by decide +kernel
theorem dX8_count_90 : decode cX8_count 90 = .ok (.bipush 7, 2) := by decide +kernel
theorem dX8_count_92 : decode cX8_count 92 = .ok (.iaload, 1) := by decide +kernel
theorem dX8_count_93 : decode cX8_count 93 = .ok (.ireturn, 1) := by decide +kernel
theorem dX8_count_94 : decode cX8_count 94 = .ok (.aload_n 0, 1) := by decide +kernel
theorem dX8_count_95 : decode cX8_count 95 = .ok (.getfield 7, 3) := by decide +kernel
theorem dX8_count_98 : decode cX8_count 98 = .ok (.bipush 8, 2) := by decide +kernel
theorem dX8_count_100 : decode cX8_count 100 = .ok (.iaload, 1) := by decide +kernel
theorem dX8_count_101 : decode cX8_count 101 = .ok (.ireturn, 1) := by decide +kernel
theorem dX8_count_102 : decode cX8_count 102 = .ok (.aload_n 0, 1) := by decide +kernel
theorem dX8_count_103 : decode cX8_count 103 = .ok (.getfield 278, 3) := by decide +kernel
theorem dX8_count_106 : decode cX8_count 106 = .ok (.ireturn, 1) := by decide +kernel
theorem dX8_count_107 : decode cX8_count 107 = .ok (.aload_n 0, 1) := by decide +kernel
theorem dX8_count_108 : decode cX8_count 108 = .ok (.getfield 7, 3) := by decide +kernel
theorem dX8_count_111 : decode cX8_count 111 = .ok (.bipush 6, 2) := by decide +kernel
theorem dX8_count_113 : decode cX8_count 113 = .ok (.iaload, 1) := by decide +kernel
theorem dX8_count_114 : decode cX8_count 114 = .ok (.ireturn, 1) := by decide +kernel
theorem dX8_count_115 : decode cX8_count 115 = .ok (.aload_n 0, 1) := by decide +kernel
theorem dX8_count_116 : decode cX8_count 116 = .ok (.ldc 43, 2) := by decide +kernel
theorem dX8_count_118 : decode cX8_count 118 = .ok (.invokevirtual 84, 3) := by decide +kernel
theorem dX8_count_121 : decode cX8_count 121 = .ok (.ireturn, 1) := by decide +kernel
theorem dX8_told_0 : decode cX8_told 0 = .ok (.iload_n 1, 1) := by decide +kernel
theorem dX8_told_1 : decode cX8_told 1 = .ok (.i2l, 1) := by decide +kernel
theorem dX8_told_2 : decode cX8_told 2 = .ok (.lconst 1, 1) := by decide +kernel
theorem dX8_told_3 : decode cX8_told 3 = .ok (.ldc2_w 106, 3) := by decide +kernel
theorem dX8_told_6 : decode cX8_told 6 = .ok (.invokestatic 44, 3) := by decide +kernel
theorem dX8_told_9 : decode cX8_told 9 = .ok (.ifCond .eq 14, 3) := by decide +kernel
theorem dX8_told_12 : decode cX8_told 12 = .ok (.aload_n 0, 1) := by decide +kernel
theorem dX8_told_13 : decode cX8_told 13 = .ok (.getfield 19, 3) := by decide +kernel
theorem dX8_told_16 : decode cX8_told 16 = .ok (.iload_n 1, 1) := by decide +kernel
theorem dX8_told_17 : decode cX8_told 17 = .ok (.iconst 1, 1) := by decide +kernel
theorem dX8_told_18 : decode cX8_told 18 = .ok (.isub, 1) := by decide +kernel
theorem dX8_told_19 : decode cX8_told 19 = .ok (.iaload, 1) := by decide +kernel
theorem dX8_told_20 : decode cX8_told 20 = .ok (.goto 9, 3) := by decide +kernel
theorem dX8_told_23 : decode cX8_told 23 = .ok (.aload_n 0, 1) := by decide +kernel
theorem dX8_told_24 : decode cX8_told 24 = .ok (.ldc 43, 2) := by decide +kernel
theorem dX8_told_26 : decode cX8_told 26 = .ok (.invokevirtual 84, 3) := by decide +kernel
theorem dX8_told_29 : decode cX8_told 29 = .ok (.ireturn, 1) := by decide +kernel
end
section
/-! ===== THE ABSTRACT HEAP: all cells from a base on, by their offsets: ints, references, lengths, how many ===== -/
abbrev hp_T : Type := (Nat → Nat → Int32) × (Nat → Nat → Option Nat) × (Nat → Nat) × Nat
def hp_i (h : hp_T) (a k : Nat) : Int32 := h.1 a k
def hp_r (h : hp_T) (a k : Nat) : Option Nat := h.2.1 a k
def hp_l (h : hp_T) (a : Nat) : Nat := h.2.2.1 a
def hp_n (h : hp_T) : Nat := h.2.2.2
/-- an int is written -/
def hp_si (h : hp_T) (a k : Nat) (v : Int32) : hp_T := (fun b j => if b = a ∧ j = k then v else h.1 b j, h.2)
/-- a reference is written -/
def hp_sr (h : hp_T) (a k : Nat) (v : Option Nat) : hp_T := (h.1, fun b j => if b = a ∧ j = k then v else h.2.1 b j, h.2.2)
/-- a new object -/
def hp_no (h : hp_T) : hp_T := (fun b j => if b = h.2.2.2 then 0 else h.1 b j, fun b j => if b = h.2.2.2 then none else h.2.1 b j, h.2.2.1, h.2.2.2 + 1)
/-- a new array of n -/
def hp_na (h : hp_T) (n : Nat) : hp_T := (fun b j => if b = h.2.2.2 then 0 else h.1 b j, fun b j => if b = h.2.2.2 then none else h.2.1 b j, fun b => if b = h.2.2.2 then n else h.2.2.1 b, h.2.2.2 + 1)
/-- n ints of a, from i on, to b, from j on -/
def hp_cp (h : hp_T) (a i b j n : Nat) : hp_T := (fun c k => if c = b then va_cpy (h.1 a) (h.1 b) i j n k else h.1 c k, h.2)
/-- the kinds of the cells: 0 .. 8 the classes in the order of vwCl; 11 bytes; 12 .. 15 rows of references; from 16 on rows of ints, by what they are -/
def ab_ship : List Nat := [2, 12, 20, 21, 13, 11, 14, 22, 0, 23, 24, 0, 23, 24, 0, 23, 24, 0, 23, 24, 0, 23, 24, 0, 23, 24, 3, 3, 3, 3]
def ab_kinds : List Nat := [7] ++ ab_ship ++ ab_ship ++ ab_ship ++ [5, 26, 6, 27, 15, 28, 1, 25, 1, 25, 1, 25, 1, 25, 8, 30, 31, 32, 33, 34, 35, 36, 37, 38, 39, 40]
def ab_k (a : Nat) : Nat := if a < 117 then ab_kinds.getD a 99 else if a % 3 = 0 then 4 else if a % 3 = 1 then 16 else 17
def ab_fields : List Nat := [7, 3, 16, 4, 2, 7, 6, 8, 22]
def ab_nf (k : Nat) : Nat := ab_fields.getD k 0
def ab_refs : List (List Nat) := [[5, 6], [2], [0, 2, 3, 7, 11, 13, 14], [], [0, 1], [0, 4], [3], [0, 1, 2, 3, 4, 5, 6], [0, 1, 2, 3, 5, 11, 14, 18, 19, 20, 21]]
def ab_rf (k j : Nat) : Bool := (ab_refs.getD k []).contains j
/-- the world: base, class numbers and slots, array classes, where the two static rows lie -/
abbrev ab_G : Type := Nat × va_G × (Nat → ClassId) × Nat × Nat
def ab_v (G : ab_G) (h : hp_T) (a j : Nat) : Value := if ab_rf (ab_k a) j = true then va_rf ((hp_r h a j).map (fun q => G.1 + q)) else .int (hp_i h a j)
def ab_o (G : ab_G) (h : hp_T) (a : Nat) : List Value := (List.range (ab_nf (ab_k a))).map (ab_v G h a)
def ab_q (G : ab_G) (h : hp_T) (a : Nat) : Nat → Option Nat := fun j => (hp_r h a j).map (fun q => G.1 + q)
def ab_e (G : ab_G) (h : hp_T) (a : Nat) : va_E := if ab_k a < 9 then .inr (ab_k a, ab_o G h a) else if ab_k a < 12 then .inl (G.2.2.1 11, hp_l h a, .inl (hp_i h a)) else if ab_k a < 16 then .inl (G.2.2.1 (ab_k a), hp_l h a, .inr (.inr (.inr (.inr (ab_q G h a))))) else .inl (G.2.2.1 10, hp_l h a, .inl (hp_i h a))
def ab_P (G : ab_G) (h : hp_T) (H : Heap) : Prop := H.size = G.1 + hp_n h ∧ ∀ a, a < hp_n h → va_at G.2.1 vwCl (G.1 + a, ab_e G h a) H
theorem ab_o_get {G : ab_G} {h : hp_T} {a k c : Nat} (ht : ab_k a = c) (hk : k < ab_nf c) : (ab_o G h a)[k]? = some (ab_v G h a k) := by
  subst ht
  simp [ab_o, hk]
theorem ab_o_len {G : ab_G} {h : hp_T} {a : Nat} : (ab_o G h a).length = ab_nf (ab_k a) := by simp [ab_o]
theorem ab_e_o {G : ab_G} {h : hp_T} {a c : Nat} (ht : ab_k a = c) (hc : c < 9) : ab_e G h a = .inr (c, ab_o G h a) := by
  subst ht
  simp [ab_e, hc]
theorem ab_e_b {G : ab_G} {h : hp_T} {a : Nat} (ht : ab_k a = 11) : ab_e G h a = .inl (G.2.2.1 11, hp_l h a, .inl (hp_i h a)) := by
  simp [ab_e, ht]
theorem ab_e_i {G : ab_G} {h : hp_T} {a : Nat} (ht : 16 ≤ ab_k a) : ab_e G h a = .inl (G.2.2.1 10, hp_l h a, .inl (hp_i h a)) := by
  unfold ab_e
  rw [if_neg (by omega), if_neg (by omega), if_neg (by omega)]
theorem ab_e_q {G : ab_G} {h : hp_T} {a c : Nat} (ht : ab_k a = c) (h1 : 12 ≤ c) (h2 : c < 16) : ab_e G h a = .inl (G.2.2.1 c, hp_l h a, .inr (.inr (.inr (.inr (ab_q G h a))))) := by
  subst ht
  unfold ab_e
  rw [if_neg (by omega), if_neg (by omega), if_pos (by omega)]
theorem ab_at1 {D : va_G} {cl : List vw_C} {q : Nat × va_E} {H : Heap} (h : va_at D cl q H) : va_P D cl [q] H := by
  intro k x hx
  have hz : k < 1 := (List.getElem?_eq_some_iff.mp hx).1
  rw [show k = 0 by omega] at hx
  cases hx
  exact h
theorem ab_e_eq {G : ab_G} {h h1 : hp_T} {b : Nat} (hi : hp_i h1 b = hp_i h b) (hr : hp_r h1 b = hp_r h b) (hl : hp_l h1 b = hp_l h b) : ab_e G h1 b = ab_e G h b := by
  have ho : ab_o G h1 b = ab_o G h b := by
    unfold ab_o
    congr 1
    funext j
    unfold ab_v
    rw [hi, hr]
  have hq : ab_q G h1 b = ab_q G h b := by
    unfold ab_q
    rw [hr]
  unfold ab_e
  rw [ho, hq, hi, hl]
/-- one cell is written, the others stay -/
theorem ab_P.put {G : ab_G} {h h1 : hp_T} {H H1 : Heap} {a : Nat} (hP : ab_P G h H) (hn : hp_n h1 = hp_n h) (z : H1.size = H.size) (oq : ∀ q : Nat, q ≠ G.1 + a → H1[q]? = H[q]?) (he : va_at G.2.1 vwCl (G.1 + a, ab_e G h1 a) H1) (hs : ∀ b, b ≠ a → ab_e G h1 b = ab_e G h b) : ab_P G h1 H1 := by
  refine ⟨by rw [z, hP.1, hn], fun b hb => ?_⟩
  by_cases hba : b = a
  · subst hba
    exact he
  · rw [hs b hba]
    exact (hP.2 b (by rw [← hn]; exact hb)).kept (oq _ (by show G.1 + b ≠ G.1 + a; omega))
/-- one cell is new, the others stay -/
theorem ab_P.push {G : ab_G} {h h1 : hp_T} {H H1 : Heap} (hP : ab_P G h H) (hn : hp_n h1 = hp_n h + 1) (z : H1.size = H.size + 1) (oq : ∀ q : Nat, q < H.size → H1[q]? = H[q]?) (he : va_at G.2.1 vwCl (G.1 + hp_n h, ab_e G h1 (hp_n h)) H1) (hs : ∀ b, b ≠ hp_n h → ab_e G h1 b = ab_e G h b) : ab_P G h1 H1 := by
  refine ⟨by rw [z, hP.1, hn]; omega, fun b hb => ?_⟩
  by_cases hba : b = hp_n h
  · subst hba
    exact he
  · rw [hs b hba]
    have hb' : b < hp_n h := by omega
    exact (hP.2 b hb').kept (oq _ (by show G.1 + b < H.size; rw [hP.1]; omega))
theorem ab_si_n {h : hp_T} {a k : Nat} {v : Int32} : hp_n (hp_si h a k v) = hp_n h := rfl
theorem ab_sr_n {h : hp_T} {a k : Nat} {v : Option Nat} : hp_n (hp_sr h a k v) = hp_n h := rfl
theorem ab_cp_n {h : hp_T} {a i b j n : Nat} : hp_n (hp_cp h a i b j n) = hp_n h := rfl
theorem ab_no_n {h : hp_T} : hp_n (hp_no h) = hp_n h + 1 := rfl
theorem ab_na_n {h : hp_T} {n : Nat} : hp_n (hp_na h n) = hp_n h + 1 := rfl
theorem ab_si_o {G : ab_G} {h : hp_T} {a k c : Nat} {v : Int32} (ht : ab_k a = c) (hk : k < ab_nf c) (hr : ab_rf c k = false) : ab_o G (hp_si h a k v) a = (ab_o G h a).set k (.int v) := by
  subst ht
  apply List.ext_getElem?
  intro j
  by_cases hj : j < ab_nf (ab_k a)
  · rw [ab_o_get rfl hj]
    by_cases hjk : j = k
    · subst hjk
      rw [List.getElem?_set_self (by rw [ab_o_len]; exact hj)]
      simp [ab_v, hr, hp_si, hp_i]
    · rw [List.getElem?_set_ne (Ne.symm hjk), ab_o_get rfl hj]
      simp [ab_v, hp_si, hp_i, hp_r, hjk]
  · have h1 : (ab_o G (hp_si h a k v) a).length ≤ j := by rw [ab_o_len]; omega
    have h2 : ((ab_o G h a).set k (.int v)).length ≤ j := by rw [List.length_set, ab_o_len]; omega
    rw [List.getElem?_eq_none h1, List.getElem?_eq_none h2]
theorem ab_sr_o {G : ab_G} {h : hp_T} {a k c : Nat} {v : Option Nat} (ht : ab_k a = c) (hk : k < ab_nf c) (hr : ab_rf c k = true) : ab_o G (hp_sr h a k v) a = (ab_o G h a).set k (va_rf (v.map (fun q => G.1 + q))) := by
  subst ht
  apply List.ext_getElem?
  intro j
  by_cases hj : j < ab_nf (ab_k a)
  · rw [ab_o_get rfl hj]
    by_cases hjk : j = k
    · subst hjk
      rw [List.getElem?_set_self (by rw [ab_o_len]; exact hj)]
      simp [ab_v, hr, hp_sr, hp_r]
    · rw [List.getElem?_set_ne (Ne.symm hjk), ab_o_get rfl hj]
      simp [ab_v, hp_sr, hp_i, hp_r, hjk]
  · have h1 : (ab_o G (hp_sr h a k v) a).length ≤ j := by rw [ab_o_len]; omega
    have h2 : ((ab_o G h a).set k (va_rf (v.map (fun q => G.1 + q)))).length ≤ j := by rw [List.length_set, ab_o_len]; omega
    rw [List.getElem?_eq_none h1, List.getElem?_eq_none h2]
theorem ab_si_ne {G : ab_G} {h : hp_T} {a k b : Nat} {v : Int32} (hb : b ≠ a) : ab_e G (hp_si h a k v) b = ab_e G h b :=
  ab_e_eq (by funext j; simp [hp_si, hp_i, hb]) rfl rfl
theorem ab_sr_ne {G : ab_G} {h : hp_T} {a k b : Nat} {v : Option Nat} (hb : b ≠ a) : ab_e G (hp_sr h a k v) b = ab_e G h b :=
  ab_e_eq rfl (by funext j; simp [hp_sr, hp_r, hb]) rfl
theorem ab_cp_ne {G : ab_G} {h : hp_T} {a i b j n c : Nat} (hb : c ≠ b) : ab_e G (hp_cp h a i b j n) c = ab_e G h c :=
  ab_e_eq (by funext k; simp [hp_cp, hp_i, hb]) rfl rfl
theorem ab_no_ne {G : ab_G} {h : hp_T} {b : Nat} (hb : b ≠ hp_n h) : ab_e G (hp_no h) b = ab_e G h b :=
  ab_e_eq (by funext j; show (if b = h.2.2.2 then _ else _) = _; exact if_neg hb) (by funext j; show (if b = h.2.2.2 then _ else _) = _; exact if_neg hb) rfl
theorem ab_na_ne {G : ab_G} {h : hp_T} {b n : Nat} (hb : b ≠ hp_n h) : ab_e G (hp_na h n) b = ab_e G h b :=
  ab_e_eq (by funext j; show (if b = h.2.2.2 then _ else _) = _; exact if_neg hb) (by funext j; show (if b = h.2.2.2 then _ else _) = _; exact if_neg hb) (by show (if b = h.2.2.2 then _ else _) = _; exact if_neg hb)
/-! ===== THE WORDS: those of the tables that every call keeps ===== -/
def ab_ws : List Cond := lw_tbl.filter goodWord
theorem ab_w {w : Cond} (h : w ∈ lw_tbl) (hg : goodWord w = true) : w ∈ ab_ws := List.mem_filter.mpr ⟨h, hg⟩
theorem ab_good : ∀ w ∈ ab_ws, ((w.onTables && w.keeps) = true ∨ ∃ ty, w = .arrayClass ty) := fun w h => good_of_word (List.mem_filter.mp h).2
theorem ab_goodIn {c c' : Cond} (h : c' ∈ ab_ws) : GoodIn (c :: ab_ws) (c' :: ab_ws) := by
  intro w hw
  rcases List.mem_cons.mp hw with rfl | hw
  · exact ⟨List.mem_cons_of_mem _ h, ab_good _ h⟩
  · exact ⟨List.mem_cons_of_mem _ hw, ab_good _ hw⟩
theorem ab_goodIn0 {c' : Cond} (h : c' ∈ ab_ws) : GoodIn ab_ws (c' :: ab_ws) := by
  intro w hw
  rcases List.mem_cons.mp hw with rfl | hw
  · exact ⟨h, ab_good _ h⟩
  · exact ⟨hw, ab_good _ hw⟩
/-- a class, its fields, and which of them are references -/
def ab_cls (ci : Nat) (CN : String) (T : u_T) (N : Nat) (t0 : Nat → FieldType) : Prop := ci < 9 ∧ vwCl[ci]? = some (CN, T, N) ∧ (∀ w ∈ u_ws CN T N, w ∈ ab_ws) ∧ ab_nf ci = N ∧ (∀ k, k < N → parseFieldDescriptor (T k).2.2.1 = some (t0 k)) ∧ (∀ a, a < N → ∀ b, b < N → a ≠ b → (T a).2.1 ≠ (T b).2.1) ∧ ∀ k, k < N → defaultValue (t0 k) = if ab_rf ci k = true then .null else .int 0
/-- a field of a class, as a method of the class own names it -/
def ab_fld (own : String) (idx ci k : Nat) (ty : FieldType) (fin wr : Bool) : Prop := ∃ (CN : String) (T : u_T) (N : Nat) (t0 : Nat → FieldType), ab_cls ci CN T N t0 ∧ k < N ∧ Cond.fieldLink own idx (T k).1 (T k).2.1 (T k).2.2.1 ∈ ab_ws ∧ t0 k = ty ∧ (T k).2.2.2 = fin ∧ (wr = true → fin = true → (T k).1 = own)
end
section
/-! ===== THE JUDGEMENT over the abstract heap ===== -/
abbrev ab_F : Type := Program × Env × Room × State × MethodId × Array Value × List Frame × Method × Code
def ab_abv : Nat → Int32 := fun j => ([-1, 0, 0, 0, 1, 2, 0] : List Int32).getD j 0
def ab_bod : Nat → Int32 := fun j => ([10, 11, 12, 13, 20, 0, 0, 21, 0, 30, 0, 0, 0, 0, 40, 0, 50, 0, 51, 0, 0, 60, 0, 0, 70, 71, 0, 0] : List Int32).getD j 0
def ab_tys (G : ab_G) : List (ClassId × FieldType) := [(G.2.2.1 10, .int), (G.2.2.1 11, .byte), (G.2.2.1 12, .object "DailyRelief$Bunk"), (G.2.2.1 13, .object "DailyRelief$Task"), (G.2.2.1 14, .object "DailyRelief$Text"), (G.2.2.1 15, .object "DailyRelief$Sheet")]
/-- what the tables say that no call's words carry: private members of nest mates, rows of references -/
def ab_N (U : State) : Prop := va_Nw (.methodLinkNest RX2 50 yX0_init RX7) U ∧ va_Nw (.methodLinkNest RX2 51 yX3_init RX7) U ∧ va_Nw (.methodLinkNest RX7 24 yX5_init RX7) U ∧ va_Nw (.methodLinkNest RX7 31 yX6_init RX7) U ∧ va_Nw (.methodLinkNest RX7 46 yX1_init RX7) U ∧ va_Nw (.methodLinkNest RX0 48 yX7_isKnack RX7) U ∧ va_Nw (.fieldLinkNest RX0 52 RX7 "ABOVE" "[I" RX7) U ∧ va_Nw (.fieldLinkNest RX6 36 RX7 "ABOVE" "[I" RX7) U ∧ va_AO RX0 U ∧ va_AO RX1 U ∧ va_AO RX3 U ∧ va_AO RX4 U
def ab_K (G : ab_G) (U : State) : Prop := va_K G.2.1 vwCl (ab_tys G) U ∧ ab_N U
def ab_S (G : ab_G) (U : State) : Prop := (va_Z "DailyRelief" "ABOVE" "[I" (.ref G.2.2.2.1) (fun q => G.1 ≤ q) U U.heap ∧ va_T .int G.2.2.2.1 7 (fun j => .int (ab_abv j)) (fun q => G.1 ≤ q) U U.heap) ∧ va_Z "DailyRelief$Voices" "BODIES" "[I" (.ref G.2.2.2.2) (fun q => G.1 ≤ q) U U.heap ∧ va_T .int G.2.2.2.2 28 (fun j => .int (ab_bod j)) (fun q => G.1 ≤ q) U U.heap
def ab_U (G : ab_G) (U : State) : Prop := ab_K G U ∧ ab_S G U
theorem ab_N.moved {s U : State} (h : ab_N s) (hW : s.WarmedH U.vm) : ab_N U := by
  obtain ⟨h1, h2, h3, h4, h5, h6, h7, h8, h9, h10, h11, h12⟩ := h
  exact ⟨va_Nw.warmM hW h1, va_Nw.warmM hW h2, va_Nw.warmM hW h3, va_Nw.warmM hW h4, va_Nw.warmM hW h5, va_Nw.warmM hW h6, va_Nw.warmF hW h7, va_Nw.warmF hW h8, h9.moved hW.alike, h10.moved hW.alike, h11.moved hW.alike, h12.moved hW.alike⟩
theorem ab_U.moved {G : ab_G} {s U : State} (h : ab_U G s) (hq : ∀ q : Nat, q < s.heap.size → ¬ G.1 ≤ q → U.heap[q]? = s.heap[q]?) (hW : s.WarmedH U.vm) : ab_U G U := by
  obtain ⟨⟨h1, h2⟩, ⟨h3, h4⟩, h5, h6⟩ := h
  exact ⟨⟨va_K.moved hW.alike h1, h2.moved hW⟩, ⟨(h3.moved hW.alike).kept hq, (h4.moved hW.alike).kept hq⟩, (h5.moved hW.alike).kept hq, (h6.moved hW.alike).kept hq⟩
theorem ab_U.blind {G : ab_G} {U : State} (h : ab_U G U) (g : JFrame) (mk : MethodId) (a : Array Value) : ab_U G (U.calling g mk a) :=
  h.moved (fun _ _ _ => rfl) (State.WarmedH.refl U)
def ab_C (G : ab_G) (F : ab_F) (R : Room) (cc : ByteArray) (nL : Nat) (own : String) (ret : Option FieldType) (nm : String) : Prop := match F with
  | (p, _, R', s, m, args, _, meth, c) => R' = R ∧ p.tables.exec = Jvm.exec ∧ c.code = cc ∧ c.maxLocals = nL ∧ s.vm.findClass own = some m.cls ∧ (∀ w ∈ ab_ws, w.before args s = true) ∧ ab_U G s ∧ meth.sig.returnType = ret ∧ meth.locks = false ∧ meth.name = nm ∧ G.1 ≤ s.heap.size
def ab_W (l : Launch) (G : ab_G) (F : ab_F) (nL : Nat) (Q : State → Prop) (k n : Nat) (h : hp_T) (lv : List (Nat × Value)) (st : List Value) (pc : Nat) : Prop := match F with
  | (p, e, R, s, m, args, below, meth, c) => ∀ (H : Heap) (locs : List Loc) (ls : Array Slot), ab_P G h H → va_S (fun q => G.1 ≤ q) s.heap H locs → lv_has ls nL lv → W p l e R s m args below meth c H locs k n Q (F0 m pc ls st)
def ab_Q (G : ab_G) (post : Option Value → hp_T → Prop) : Array Value → State → Outcome → State → Prop := fun _ st oc t => (∃ (r : Option Value) (h1 : hp_T), oc = .returned r ∧ post r h1 ∧ ab_P G h1 t.heap) ∧ va_F (fun q => G.1 ≤ q) st t
def ab_MQ (G : ab_G) (F : ab_F) (post : Option Value → hp_T → Prop) (mc ms : Nat) : State → Prop := match F with
  | (_, _, _, s, _, args, below, _, _) => MQ below (ab_Q G post) args s mc ms (fun q => G.1 ≤ q)
/-- A METHOD'S CONTRACT: from the arguments av and the heap h it returns, and 'post' holds of its answer and the heap -/
def ab_M (l : Launch) (G : ab_G) (y : MethodName) (cc : ByteArray) (nL : Nat) (ret : Option FieldType) (rm : Room) (mc ms : Nat) (av : List Value) (h : hp_T) (post : Option Value → hp_T → Prop) : Prop :=
  Met l y (.code y cc nL ret :: ab_ws) rm (va_Pc av (fun U => ab_P G h U.heap ∧ ab_U G U)) (ab_Q G post) mc ms (fun q => G.1 ≤ q)
theorem ab_intro {l : Launch} {G : ab_G} {y : MethodName} {cc : ByteArray} {nL : Nat} {ret : Option FieldType} {rm : Room} {mc ms : Nat} {av : List Value} {h : hp_T} {post : Option Value → hp_T → Prop} (hy : plainName y.cls = true) {own nm : String} (hon : y.cls = own) (hnn : y.name = nm) (hav : (lg_sl av).length ≤ nL)
    (body : ∀ F : ab_F, ab_C G F rm cc nL own ret nm → ab_W l G F nL (ab_MQ G F post mc ms) 0 0 h (lv_args 0 av) [] 0) : ab_M l G y cc nL ret rm mc ms av h post := by
  subst hon
  subst hnn
  refine Met.ofW (cc := cc) (maxL := nL) (ret := ret) hy rfl ?_
  intro p e s m args below meth c s₁ B hml hv
  obtain ⟨rfl, hP, hU⟩ := hv
  have hts := atoms_spec (ws := Cond.code y cc nL ret :: ab_ws) B.pre
  have hl := lv_entry av (n := nL) hav
  rw [lg_entry_eq]
  exact body (p, e, _, s, m, av.toArray, below, meth, c) ⟨rfl, B.exec, B.bytes, hml, findClass_of_methodNamed B.named, fun w hw => hts w (List.mem_cons_of_mem _ hw), hU, B.returns, B.notSynchronized, (name_of_methodNamed B.named B.method).1, by rw [hP.1]; exact Nat.le_add_right _ _⟩ s.heap [] _ hP va_S.rf hl

section AB
variable {l : Launch} {G : ab_G} {F : ab_F} {R : Room} {cc : ByteArray} {nL : Nat} {own : String} {ret : Option FieldType} {nm : String} {Q : State → Prop} {k n : Nat} {h : hp_T} {lv : List (Nat × Value)} {st : List Value} {pc : Nat} {post : Option Value → hp_T → Prop}
theorem ab_iconst (C : ab_C G F R cc nL own ret nm) {z : Int} {v : Int32} (hd : decode cc pc = .ok (.iconst z, 1)) (hv : Int32.ofInt z = v) (kk : ab_W l G F nL Q k n h lv (.int v :: st) (pc + 1)) : ab_W l G F nL Q k n h lv (st) pc := by
  obtain ⟨p, e, R', s, m, args, below, meth, c⟩ := F
  obtain ⟨hR, hx, hb, hml, hown, hts, hU, hr, hlk, hnm, hB⟩ := C
  intro H locs ls hP hS hl
  exact lv_iconst hx hb hd hv (kk H locs ls hP hS hl)
theorem ab_bipush (C : ab_C G F R cc nL own ret nm) {z : Int} {v : Int32} (hd : decode cc pc = .ok (.bipush z, 2)) (hv : (Int8.ofInt z).toInt32 = v) (kk : ab_W l G F nL Q k n h lv (.int v :: st) (pc + 2)) : ab_W l G F nL Q k n h lv (st) pc := by
  obtain ⟨p, e, R', s, m, args, below, meth, c⟩ := F
  obtain ⟨hR, hx, hb, hml, hown, hts, hU, hr, hlk, hnm, hB⟩ := C
  intro H locs ls hP hS hl
  exact lv_bipush hx hb hd hv (kk H locs ls hP hS hl)
theorem ab_sipush (C : ab_C G F R cc nL own ret nm) {z : Int} {v : Int32} (hd : decode cc pc = .ok (.sipush z, 3)) (hv : (Int16.ofInt z).toInt32 = v) (kk : ab_W l G F nL Q k n h lv (.int v :: st) (pc + 3)) : ab_W l G F nL Q k n h lv (st) pc := by
  obtain ⟨p, e, R', s, m, args, below, meth, c⟩ := F
  obtain ⟨hR, hx, hb, hml, hown, hts, hU, hr, hlk, hnm, hB⟩ := C
  intro H locs ls hP hS hl
  exact lv_sipush hx hb hd hv (kk H locs ls hP hS hl)
theorem ab_lconst (C : ab_C G F R cc nL own ret nm) {z : Fin 2} {v : Int64} (hd : decode cc pc = .ok (.lconst z, 1)) (hv : Int64.ofNat (z : Nat) = v) (kk : ab_W l G F nL Q k n h lv (.long v :: st) (pc + 1)) : ab_W l G F nL Q k n h lv (st) pc := by
  obtain ⟨p, e, R', s, m, args, below, meth, c⟩ := F
  obtain ⟨hR, hx, hb, hml, hown, hts, hU, hr, hlk, hnm, hB⟩ := C
  intro H locs ls hP hS hl
  exact lv_lconst hx hb hd hv (kk H locs ls hP hS hl)
theorem ab_null (C : ab_C G F R cc nL own ret nm) (hd : decode cc pc = .ok (.aconst_null, 1)) (kk : ab_W l G F nL Q k n h lv (.null :: st) (pc + 1)) : ab_W l G F nL Q k n h lv (st) pc := by
  obtain ⟨p, e, R', s, m, args, below, meth, c⟩ := F
  obtain ⟨hR, hx, hb, hml, hown, hts, hU, hr, hlk, hnm, hB⟩ := C
  intro H locs ls hP hS hl
  exact lv_null hx hb hd (kk H locs ls hP hS hl)
theorem ab_iload_n (C : ab_C G F R cc nL own ret nm) {q : Fin 4} {i : Nat} (j : Nat) {x : Int32} (hd : decode cc pc = .ok (.iload_n q, 1)) (hi : (q : Nat) = i) (hj : lv[j]? = some (i, .int x)) (kk : ab_W l G F nL Q k n h lv (.int x :: st) (pc + 1)) : ab_W l G F nL Q k n h lv (st) pc := by
  obtain ⟨p, e, R', s, m, args, below, meth, c⟩ := F
  obtain ⟨hR, hx, hb, hml, hown, hts, hU, hr, hlk, hnm, hB⟩ := C
  intro H locs ls hP hS hl
  exact lv_iload_n hx hb hd hi (lv_at hl j hj) (kk H locs ls hP hS hl)
theorem ab_iload (C : ab_C G F R cc nL own ret nm) {i : Nat} (j : Nat) {x : Int32} (hd : decode cc pc = .ok (.iload i, 2)) (hj : lv[j]? = some (i, .int x)) (kk : ab_W l G F nL Q k n h lv (.int x :: st) (pc + 2)) : ab_W l G F nL Q k n h lv (st) pc := by
  obtain ⟨p, e, R', s, m, args, below, meth, c⟩ := F
  obtain ⟨hR, hx, hb, hml, hown, hts, hU, hr, hlk, hnm, hB⟩ := C
  intro H locs ls hP hS hl
  exact lv_iload hx hb hd (lv_at hl j hj) (kk H locs ls hP hS hl)
theorem ab_lload_n (C : ab_C G F R cc nL own ret nm) {q : Fin 4} {i : Nat} (j : Nat) {x : Int64} (hd : decode cc pc = .ok (.lload_n q, 1)) (hi : (q : Nat) = i) (hj : lv[j]? = some (i, .long x)) (kk : ab_W l G F nL Q k n h lv (.long x :: st) (pc + 1)) : ab_W l G F nL Q k n h lv (st) pc := by
  obtain ⟨p, e, R', s, m, args, below, meth, c⟩ := F
  obtain ⟨hR, hx, hb, hml, hown, hts, hU, hr, hlk, hnm, hB⟩ := C
  intro H locs ls hP hS hl
  exact lv_lload_n hx hb hd hi (lv_at hl j hj) (kk H locs ls hP hS hl)
theorem ab_lload (C : ab_C G F R cc nL own ret nm) {i : Nat} (j : Nat) {x : Int64} (hd : decode cc pc = .ok (.lload i, 2)) (hj : lv[j]? = some (i, .long x)) (kk : ab_W l G F nL Q k n h lv (.long x :: st) (pc + 2)) : ab_W l G F nL Q k n h lv (st) pc := by
  obtain ⟨p, e, R', s, m, args, below, meth, c⟩ := F
  obtain ⟨hR, hx, hb, hml, hown, hts, hU, hr, hlk, hnm, hB⟩ := C
  intro H locs ls hP hS hl
  exact lv_lload hx hb hd (lv_at hl j hj) (kk H locs ls hP hS hl)
theorem ab_aload_n (C : ab_C G F R cc nL own ret nm) {q : Fin 4} {i : Nat} (j : Nat) {x : Nat} (hd : decode cc pc = .ok (.aload_n q, 1)) (hi : (q : Nat) = i) (hj : lv[j]? = some (i, .ref x)) (kk : ab_W l G F nL Q k n h lv (.ref x :: st) (pc + 1)) : ab_W l G F nL Q k n h lv (st) pc := by
  obtain ⟨p, e, R', s, m, args, below, meth, c⟩ := F
  obtain ⟨hR, hx, hb, hml, hown, hts, hU, hr, hlk, hnm, hB⟩ := C
  intro H locs ls hP hS hl
  exact lv_aload_n hx hb hd hi (lv_at hl j hj) (kk H locs ls hP hS hl)
theorem ab_aload (C : ab_C G F R cc nL own ret nm) {i : Nat} (j : Nat) {x : Nat} (hd : decode cc pc = .ok (.aload i, 2)) (hj : lv[j]? = some (i, .ref x)) (kk : ab_W l G F nL Q k n h lv (.ref x :: st) (pc + 2)) : ab_W l G F nL Q k n h lv (st) pc := by
  obtain ⟨p, e, R', s, m, args, below, meth, c⟩ := F
  obtain ⟨hR, hx, hb, hml, hown, hts, hU, hr, hlk, hnm, hB⟩ := C
  intro H locs ls hP hS hl
  exact lv_aload hx hb hd (lv_at hl j hj) (kk H locs ls hP hS hl)
theorem ab_aload_nN (C : ab_C G F R cc nL own ret nm) {q : Fin 4} {i : Nat} (j : Nat) (hd : decode cc pc = .ok (.aload_n q, 1)) (hi : (q : Nat) = i) (hj : lv[j]? = some (i, .null)) (kk : ab_W l G F nL Q k n h lv (.null :: st) (pc + 1)) : ab_W l G F nL Q k n h lv (st) pc := by
  obtain ⟨p, e, R', s, m, args, below, meth, c⟩ := F
  obtain ⟨hR, hx, hb, hml, hown, hts, hU, hr, hlk, hnm, hB⟩ := C
  intro H locs ls hP hS hl
  exact lv_aload_nN hx hb hd hi (lv_at hl j hj) (kk H locs ls hP hS hl)
theorem ab_aloadN (C : ab_C G F R cc nL own ret nm) {i : Nat} (j : Nat) (hd : decode cc pc = .ok (.aload i, 2)) (hj : lv[j]? = some (i, .null)) (kk : ab_W l G F nL Q k n h lv (.null :: st) (pc + 2)) : ab_W l G F nL Q k n h lv (st) pc := by
  obtain ⟨p, e, R', s, m, args, below, meth, c⟩ := F
  obtain ⟨hR, hx, hb, hml, hown, hts, hU, hr, hlk, hnm, hB⟩ := C
  intro H locs ls hP hS hl
  exact lv_aloadN hx hb hd (lv_at hl j hj) (kk H locs ls hP hS hl)
theorem ab_istore_n (C : ab_C G F R cc nL own ret nm) {lv' : List (Nat × Value)} {q : Fin 4} {i : Nat} {x : Int32} (hd : decode cc pc = .ok (.istore_n q, 1)) (hi : (q : Nat) = i) (hn : i < nL) (hf : (i, Value.int x) :: lv.filter (fun q => !(q.1 == i) && !(q.1 + 1 == i && q.2.category == 2)) = lv') (kk : ab_W l G F nL Q k n h lv' st (pc + 1)) : ab_W l G F nL Q k n h lv (.int x :: st) pc := by
  obtain ⟨p, e, R', s, m, args, below, meth, c⟩ := F
  obtain ⟨hR, hx, hb, hml, hown, hts, hU, hr, hlk, hnm, hB⟩ := C
  intro H locs ls hP hS hl
  exact lv_istore_n hx hb hd hi hl hn hf (fun ls' h' => kk H locs ls' hP hS h')
theorem ab_istore (C : ab_C G F R cc nL own ret nm) {lv' : List (Nat × Value)} {i : Nat} {x : Int32} (hd : decode cc pc = .ok (.istore i, 2)) (hn : i < nL) (hf : (i, Value.int x) :: lv.filter (fun q => !(q.1 == i) && !(q.1 + 1 == i && q.2.category == 2)) = lv') (kk : ab_W l G F nL Q k n h lv' st (pc + 2)) : ab_W l G F nL Q k n h lv (.int x :: st) pc := by
  obtain ⟨p, e, R', s, m, args, below, meth, c⟩ := F
  obtain ⟨hR, hx, hb, hml, hown, hts, hU, hr, hlk, hnm, hB⟩ := C
  intro H locs ls hP hS hl
  exact lv_istore hx hb hd hl hn hf (fun ls' h' => kk H locs ls' hP hS h')
theorem ab_astore_n (C : ab_C G F R cc nL own ret nm) {lv' : List (Nat × Value)} {q : Fin 4} {i : Nat} {x : Nat} (hd : decode cc pc = .ok (.astore_n q, 1)) (hi : (q : Nat) = i) (hn : i < nL) (hf : (i, Value.ref x) :: lv.filter (fun q => !(q.1 == i) && !(q.1 + 1 == i && q.2.category == 2)) = lv') (kk : ab_W l G F nL Q k n h lv' st (pc + 1)) : ab_W l G F nL Q k n h lv (.ref x :: st) pc := by
  obtain ⟨p, e, R', s, m, args, below, meth, c⟩ := F
  obtain ⟨hR, hx, hb, hml, hown, hts, hU, hr, hlk, hnm, hB⟩ := C
  intro H locs ls hP hS hl
  exact lv_astore_n hx hb hd hi hl hn hf (fun ls' h' => kk H locs ls' hP hS h')
theorem ab_astore (C : ab_C G F R cc nL own ret nm) {lv' : List (Nat × Value)} {i : Nat} {x : Nat} (hd : decode cc pc = .ok (.astore i, 2)) (hn : i < nL) (hf : (i, Value.ref x) :: lv.filter (fun q => !(q.1 == i) && !(q.1 + 1 == i && q.2.category == 2)) = lv') (kk : ab_W l G F nL Q k n h lv' st (pc + 2)) : ab_W l G F nL Q k n h lv (.ref x :: st) pc := by
  obtain ⟨p, e, R', s, m, args, below, meth, c⟩ := F
  obtain ⟨hR, hx, hb, hml, hown, hts, hU, hr, hlk, hnm, hB⟩ := C
  intro H locs ls hP hS hl
  exact lv_astore hx hb hd hl hn hf (fun ls' h' => kk H locs ls' hP hS h')
theorem ab_lstore_n (C : ab_C G F R cc nL own ret nm) {lv' : List (Nat × Value)} {q : Fin 4} {i : Nat} {x : Int64} (hd : decode cc pc = .ok (.lstore_n q, 1)) (hi : (q : Nat) = i) (hn : i + 1 < nL) (hf : (i, Value.long x) :: lv.filter (fun q => !(q.1 == i) && (!(q.1 == i + 1) && !(q.1 + 1 == i && q.2.category == 2))) = lv') (kk : ab_W l G F nL Q k n h lv' st (pc + 1)) : ab_W l G F nL Q k n h lv (.long x :: st) pc := by
  obtain ⟨p, e, R', s, m, args, below, meth, c⟩ := F
  obtain ⟨hR, hx, hb, hml, hown, hts, hU, hr, hlk, hnm, hB⟩ := C
  intro H locs ls hP hS hl
  exact lv_lstore_n hx hb hd hi hl hn hf (fun ls' h' => kk H locs ls' hP hS h')
theorem ab_lstore (C : ab_C G F R cc nL own ret nm) {lv' : List (Nat × Value)} {i : Nat} {x : Int64} (hd : decode cc pc = .ok (.lstore i, 2)) (hn : i + 1 < nL) (hf : (i, Value.long x) :: lv.filter (fun q => !(q.1 == i) && (!(q.1 == i + 1) && !(q.1 + 1 == i && q.2.category == 2))) = lv') (kk : ab_W l G F nL Q k n h lv' st (pc + 2)) : ab_W l G F nL Q k n h lv (.long x :: st) pc := by
  obtain ⟨p, e, R', s, m, args, below, meth, c⟩ := F
  obtain ⟨hR, hx, hb, hml, hown, hts, hU, hr, hlk, hnm, hB⟩ := C
  intro H locs ls hP hS hl
  exact lv_lstore hx hb hd hl hn hf (fun ls' h' => kk H locs ls' hP hS h')
theorem ab_astore_nN (C : ab_C G F R cc nL own ret nm) {lv' : List (Nat × Value)} {q : Fin 4} {i : Nat} (hd : decode cc pc = .ok (.astore_n q, 1)) (hi : (q : Nat) = i) (hn : i < nL) (hf : (i, Value.null) :: lv.filter (fun q => !(q.1 == i) && !(q.1 + 1 == i && q.2.category == 2)) = lv') (kk : ab_W l G F nL Q k n h lv' st (pc + 1)) : ab_W l G F nL Q k n h lv (.null :: st) pc := by
  obtain ⟨p, e, R', s, m, args, below, meth, c⟩ := F
  obtain ⟨hR, hx, hb, hml, hown, hts, hU, hr, hlk, hnm, hB⟩ := C
  intro H locs ls hP hS hl
  exact lv_astore_nN hx hb hd hi hl hn hf (fun ls' h' => kk H locs ls' hP hS h')
theorem ab_astoreN (C : ab_C G F R cc nL own ret nm) {lv' : List (Nat × Value)} {i : Nat} (hd : decode cc pc = .ok (.astore i, 2)) (hn : i < nL) (hf : (i, Value.null) :: lv.filter (fun q => !(q.1 == i) && !(q.1 + 1 == i && q.2.category == 2)) = lv') (kk : ab_W l G F nL Q k n h lv' st (pc + 2)) : ab_W l G F nL Q k n h lv (.null :: st) pc := by
  obtain ⟨p, e, R', s, m, args, below, meth, c⟩ := F
  obtain ⟨hR, hx, hb, hml, hown, hts, hU, hr, hlk, hnm, hB⟩ := C
  intro H locs ls hP hS hl
  exact lv_astoreN hx hb hd hl hn hf (fun ls' h' => kk H locs ls' hP hS h')
theorem ab_iinc (C : ab_C G F R cc nL own ret nm) {lv' : List (Nat × Value)} {i : Nat} (j : Nat) {z : Int} {x v : Int32} (hd : decode cc pc = .ok (.iinc i z, 3)) (hj : lv[j]? = some (i, .int x)) (hv : x + Int32.ofInt z = v) (hn : i < nL) (hf : (i, Value.int v) :: lv.filter (fun q => !(q.1 == i) && !(q.1 + 1 == i && q.2.category == 2)) = lv') (kk : ab_W l G F nL Q k n h lv' st (pc + 3)) : ab_W l G F nL Q k n h lv (st) pc := by
  obtain ⟨p, e, R', s, m, args, below, meth, c⟩ := F
  obtain ⟨hR, hx, hb, hml, hown, hts, hU, hr, hlk, hnm, hB⟩ := C
  intro H locs ls hP hS hl
  exact lv_iinc hx hb hd hl hj hv hn hf (fun ls' h' => kk H locs ls' hP hS h')
theorem ab_iadd (C : ab_C G F R cc nL own ret nm) {x y : Int32} (hd : decode cc pc = .ok (.iadd, 1)) (kk : ab_W l G F nL Q k n h lv (.int (x + y) :: st) (pc + 1)) : ab_W l G F nL Q k n h lv (.int y :: .int x :: st) pc := by
  obtain ⟨p, e, R', s, m, args, below, meth, c⟩ := F
  obtain ⟨hR, hx, hb, hml, hown, hts, hU, hr, hlk, hnm, hB⟩ := C
  intro H locs ls hP hS hl
  exact lv_iadd hx hb hd (kk H locs ls hP hS hl)
theorem ab_isub (C : ab_C G F R cc nL own ret nm) {x y : Int32} (hd : decode cc pc = .ok (.isub, 1)) (kk : ab_W l G F nL Q k n h lv (.int (x - y) :: st) (pc + 1)) : ab_W l G F nL Q k n h lv (.int y :: .int x :: st) pc := by
  obtain ⟨p, e, R', s, m, args, below, meth, c⟩ := F
  obtain ⟨hR, hx, hb, hml, hown, hts, hU, hr, hlk, hnm, hB⟩ := C
  intro H locs ls hP hS hl
  exact lv_isub hx hb hd (kk H locs ls hP hS hl)
theorem ab_imul (C : ab_C G F R cc nL own ret nm) {x y : Int32} (hd : decode cc pc = .ok (.imul, 1)) (kk : ab_W l G F nL Q k n h lv (.int (x * y) :: st) (pc + 1)) : ab_W l G F nL Q k n h lv (.int y :: .int x :: st) pc := by
  obtain ⟨p, e, R', s, m, args, below, meth, c⟩ := F
  obtain ⟨hR, hx, hb, hml, hown, hts, hU, hr, hlk, hnm, hB⟩ := C
  intro H locs ls hP hS hl
  exact lv_imul hx hb hd (kk H locs ls hP hS hl)
theorem ab_iand (C : ab_C G F R cc nL own ret nm) {x y : Int32} (hd : decode cc pc = .ok (.iand, 1)) (kk : ab_W l G F nL Q k n h lv (.int (x &&& y) :: st) (pc + 1)) : ab_W l G F nL Q k n h lv (.int y :: .int x :: st) pc := by
  obtain ⟨p, e, R', s, m, args, below, meth, c⟩ := F
  obtain ⟨hR, hx, hb, hml, hown, hts, hU, hr, hlk, hnm, hB⟩ := C
  intro H locs ls hP hS hl
  exact lv_iand hx hb hd (kk H locs ls hP hS hl)
theorem ab_ior (C : ab_C G F R cc nL own ret nm) {x y : Int32} (hd : decode cc pc = .ok (.ior, 1)) (kk : ab_W l G F nL Q k n h lv (.int (x ||| y) :: st) (pc + 1)) : ab_W l G F nL Q k n h lv (.int y :: .int x :: st) pc := by
  obtain ⟨p, e, R', s, m, args, below, meth, c⟩ := F
  obtain ⟨hR, hx, hb, hml, hown, hts, hU, hr, hlk, hnm, hB⟩ := C
  intro H locs ls hP hS hl
  exact lv_ior hx hb hd (kk H locs ls hP hS hl)
theorem ab_ixor (C : ab_C G F R cc nL own ret nm) {x y : Int32} (hd : decode cc pc = .ok (.ixor, 1)) (kk : ab_W l G F nL Q k n h lv (.int (x ^^^ y) :: st) (pc + 1)) : ab_W l G F nL Q k n h lv (.int y :: .int x :: st) pc := by
  obtain ⟨p, e, R', s, m, args, below, meth, c⟩ := F
  obtain ⟨hR, hx, hb, hml, hown, hts, hU, hr, hlk, hnm, hB⟩ := C
  intro H locs ls hP hS hl
  exact lv_ixor hx hb hd (kk H locs ls hP hS hl)
theorem ab_ishl (C : ab_C G F R cc nL own ret nm) {x y : Int32} (hd : decode cc pc = .ok (.ishl, 1)) (kk : ab_W l G F nL Q k n h lv (.int (x <<< (y &&& 31)) :: st) (pc + 1)) : ab_W l G F nL Q k n h lv (.int y :: .int x :: st) pc := by
  obtain ⟨p, e, R', s, m, args, below, meth, c⟩ := F
  obtain ⟨hR, hx, hb, hml, hown, hts, hU, hr, hlk, hnm, hB⟩ := C
  intro H locs ls hP hS hl
  exact lv_ishl hx hb hd (kk H locs ls hP hS hl)
theorem ab_ishr (C : ab_C G F R cc nL own ret nm) {x y : Int32} (hd : decode cc pc = .ok (.ishr, 1)) (kk : ab_W l G F nL Q k n h lv (.int (x >>> (y &&& 31)) :: st) (pc + 1)) : ab_W l G F nL Q k n h lv (.int y :: .int x :: st) pc := by
  obtain ⟨p, e, R', s, m, args, below, meth, c⟩ := F
  obtain ⟨hR, hx, hb, hml, hown, hts, hU, hr, hlk, hnm, hB⟩ := C
  intro H locs ls hP hS hl
  exact lv_ishr hx hb hd (kk H locs ls hP hS hl)
theorem ab_idiv (C : ab_C G F R cc nL own ret nm) {x y : Int32} (hd : decode cc pc = .ok (.idiv, 1)) (hne : ¬ y = 0) (kk : ab_W l G F nL Q k n h lv (.int (x / y) :: st) (pc + 1)) : ab_W l G F nL Q k n h lv (.int y :: .int x :: st) pc := by
  obtain ⟨p, e, R', s, m, args, below, meth, c⟩ := F
  obtain ⟨hR, hx, hb, hml, hown, hts, hU, hr, hlk, hnm, hB⟩ := C
  intro H locs ls hP hS hl
  exact lv_idiv hx hb hd hne (kk H locs ls hP hS hl)
theorem ab_irem (C : ab_C G F R cc nL own ret nm) {x y : Int32} (hd : decode cc pc = .ok (.irem, 1)) (hne : ¬ y = 0) (kk : ab_W l G F nL Q k n h lv (.int (x - x / y * y) :: st) (pc + 1)) : ab_W l G F nL Q k n h lv (.int y :: .int x :: st) pc := by
  obtain ⟨p, e, R', s, m, args, below, meth, c⟩ := F
  obtain ⟨hR, hx, hb, hml, hown, hts, hU, hr, hlk, hnm, hB⟩ := C
  intro H locs ls hP hS hl
  exact lv_irem hx hb hd hne (kk H locs ls hP hS hl)
theorem ab_ineg (C : ab_C G F R cc nL own ret nm) {x : Int32} (hd : decode cc pc = .ok (.ineg, 1)) (kk : ab_W l G F nL Q k n h lv (.int (-x) :: st) (pc + 1)) : ab_W l G F nL Q k n h lv (.int x :: st) pc := by
  obtain ⟨p, e, R', s, m, args, below, meth, c⟩ := F
  obtain ⟨hR, hx, hb, hml, hown, hts, hU, hr, hlk, hnm, hB⟩ := C
  intro H locs ls hP hS hl
  exact lv_ineg hx hb hd (kk H locs ls hP hS hl)
theorem ab_ladd (C : ab_C G F R cc nL own ret nm) {x y : Int64} (hd : decode cc pc = .ok (.ladd, 1)) (kk : ab_W l G F nL Q k n h lv (.long (x + y) :: st) (pc + 1)) : ab_W l G F nL Q k n h lv (.long y :: .long x :: st) pc := by
  obtain ⟨p, e, R', s, m, args, below, meth, c⟩ := F
  obtain ⟨hR, hx, hb, hml, hown, hts, hU, hr, hlk, hnm, hB⟩ := C
  intro H locs ls hP hS hl
  exact lv_ladd hx hb hd (kk H locs ls hP hS hl)
theorem ab_land (C : ab_C G F R cc nL own ret nm) {x y : Int64} (hd : decode cc pc = .ok (.land, 1)) (kk : ab_W l G F nL Q k n h lv (.long (x &&& y) :: st) (pc + 1)) : ab_W l G F nL Q k n h lv (.long y :: .long x :: st) pc := by
  obtain ⟨p, e, R', s, m, args, below, meth, c⟩ := F
  obtain ⟨hR, hx, hb, hml, hown, hts, hU, hr, hlk, hnm, hB⟩ := C
  intro H locs ls hP hS hl
  exact lv_land hx hb hd (kk H locs ls hP hS hl)
theorem ab_lor (C : ab_C G F R cc nL own ret nm) {x y : Int64} (hd : decode cc pc = .ok (.lor, 1)) (kk : ab_W l G F nL Q k n h lv (.long (x ||| y) :: st) (pc + 1)) : ab_W l G F nL Q k n h lv (.long y :: .long x :: st) pc := by
  obtain ⟨p, e, R', s, m, args, below, meth, c⟩ := F
  obtain ⟨hR, hx, hb, hml, hown, hts, hU, hr, hlk, hnm, hB⟩ := C
  intro H locs ls hP hS hl
  exact lv_lor hx hb hd (kk H locs ls hP hS hl)
theorem ab_i2l (C : ab_C G F R cc nL own ret nm) {x : Int32} (hd : decode cc pc = .ok (.i2l, 1)) (kk : ab_W l G F nL Q k n h lv (.long x.toInt64 :: st) (pc + 1)) : ab_W l G F nL Q k n h lv (.int x :: st) pc := by
  obtain ⟨p, e, R', s, m, args, below, meth, c⟩ := F
  obtain ⟨hR, hx, hb, hml, hown, hts, hU, hr, hlk, hnm, hB⟩ := C
  intro H locs ls hP hS hl
  exact lv_i2l hx hb hd rfl (kk H locs ls hP hS hl)
theorem ab_l2i (C : ab_C G F R cc nL own ret nm) {x : Int64} (hd : decode cc pc = .ok (.l2i, 1)) (kk : ab_W l G F nL Q k n h lv (.int x.toInt32 :: st) (pc + 1)) : ab_W l G F nL Q k n h lv (.long x :: st) pc := by
  obtain ⟨p, e, R', s, m, args, below, meth, c⟩ := F
  obtain ⟨hR, hx, hb, hml, hown, hts, hU, hr, hlk, hnm, hB⟩ := C
  intro H locs ls hP hS hl
  exact lv_l2i hx hb hd rfl (kk H locs ls hP hS hl)
theorem ab_i2b (C : ab_C G F R cc nL own ret nm) {x : Int32} (hd : decode cc pc = .ok (.i2b, 1)) (kk : ab_W l G F nL Q k n h lv (.int x.toInt8.toInt32 :: st) (pc + 1)) : ab_W l G F nL Q k n h lv (.int x :: st) pc := by
  obtain ⟨p, e, R', s, m, args, below, meth, c⟩ := F
  obtain ⟨hR, hx, hb, hml, hown, hts, hU, hr, hlk, hnm, hB⟩ := C
  intro H locs ls hP hS hl
  exact lv_i2b hx hb hd rfl (kk H locs ls hP hS hl)
theorem ab_i2s (C : ab_C G F R cc nL own ret nm) {x : Int32} (hd : decode cc pc = .ok (.i2s, 1)) (kk : ab_W l G F nL Q k n h lv (.int x.toInt16.toInt32 :: st) (pc + 1)) : ab_W l G F nL Q k n h lv (.int x :: st) pc := by
  obtain ⟨p, e, R', s, m, args, below, meth, c⟩ := F
  obtain ⟨hR, hx, hb, hml, hown, hts, hU, hr, hlk, hnm, hB⟩ := C
  intro H locs ls hP hS hl
  exact lv_i2s hx hb hd rfl (kk H locs ls hP hS hl)
def ab_ush (x y : Int32) : Int32 := (x.toUInt32 >>> (y.toUInt32 &&& Int32.toUInt32 31)).toInt32
def ab_lush (x : Int64) (y : Int32) : Int64 := (x.toUInt64 >>> (y.toInt64.toUInt64 &&& Int64.toUInt64 63)).toInt64
theorem ab_iushr (C : ab_C G F R cc nL own ret nm) {x y : Int32} (hd : decode cc pc = .ok (.iushr, 1)) (kk : ab_W l G F nL Q k n h lv (.int (ab_ush x y) :: st) (pc + 1)) : ab_W l G F nL Q k n h lv (.int y :: .int x :: st) pc := by
  obtain ⟨p, e, R', s, m, args, below, meth, c⟩ := F
  obtain ⟨hR, hx, hb, hml, hown, hts, hU, hr, hlk, hnm, hB⟩ := C
  intro H locs ls hP hS hl
  exact lv_iushr hx hb hd rfl (kk H locs ls hP hS hl)
theorem ab_lushr (C : ab_C G F R cc nL own ret nm) {x : Int64} {y : Int32} (hd : decode cc pc = .ok (.lushr, 1)) (kk : ab_W l G F nL Q k n h lv (.long (ab_lush x y) :: st) (pc + 1)) : ab_W l G F nL Q k n h lv (.int y :: .long x :: st) pc := by
  obtain ⟨p, e, R', s, m, args, below, meth, c⟩ := F
  obtain ⟨hR, hx, hb, hml, hown, hts, hU, hr, hlk, hnm, hB⟩ := C
  intro H locs ls hP hS hl
  exact lv_lushr hx hb hd rfl (kk H locs ls hP hS hl)
theorem ab_lshl (C : ab_C G F R cc nL own ret nm) {x : Int64} {y : Int32} (hd : decode cc pc = .ok (.lshl, 1)) (kk : ab_W l G F nL Q k n h lv (.long (x <<< (y.toInt64 &&& 63)) :: st) (pc + 1)) : ab_W l G F nL Q k n h lv (.int y :: .long x :: st) pc := by
  obtain ⟨p, e, R', s, m, args, below, meth, c⟩ := F
  obtain ⟨hR, hx, hb, hml, hown, hts, hU, hr, hlk, hnm, hB⟩ := C
  intro H locs ls hP hS hl
  exact lv_lshl hx hb hd rfl (kk H locs ls hP hS hl)
theorem ab_lshr (C : ab_C G F R cc nL own ret nm) {x : Int64} {y : Int32} (hd : decode cc pc = .ok (.lshr, 1)) (kk : ab_W l G F nL Q k n h lv (.long (x >>> (y.toInt64 &&& 63)) :: st) (pc + 1)) : ab_W l G F nL Q k n h lv (.int y :: .long x :: st) pc := by
  obtain ⟨p, e, R', s, m, args, below, meth, c⟩ := F
  obtain ⟨hR, hx, hb, hml, hown, hts, hU, hr, hlk, hnm, hB⟩ := C
  intro H locs ls hP hS hl
  exact lv_lshr hx hb hd rfl (kk H locs ls hP hS hl)
theorem ab_lcmp (C : ab_C G F R cc nL own ret nm) {x y : Int64} (hd : decode cc pc = .ok (.lcmp, 1)) (kk : ab_W l G F nL Q k n h lv (.int (lg_cmp x y) :: st) (pc + 1)) : ab_W l G F nL Q k n h lv (.long y :: .long x :: st) pc := by
  obtain ⟨p, e, R', s, m, args, below, meth, c⟩ := F
  obtain ⟨hR, hx, hb, hml, hown, hts, hU, hr, hlk, hnm, hB⟩ := C
  intro H locs ls hP hS hl
  exact W.lcmp hx hb hd (kk H locs ls hP hS hl)
theorem ab_dup (C : ab_C G F R cc nL own ret nm) {va : Value} (hd : decode cc pc = .ok (.dup, 1)) (h1 : va.category = 1) (kk : ab_W l G F nL Q k n h lv (va :: va :: st) (pc + 1)) : ab_W l G F nL Q k n h lv (va :: st) pc := by
  obtain ⟨p, e, R', s, m, args, below, meth, c⟩ := F
  obtain ⟨hR, hx, hb, hml, hown, hts, hU, hr, hlk, hnm, hB⟩ := C
  intro H locs ls hP hS hl
  exact lv_dup hx hb hd h1 (kk H locs ls hP hS hl)
theorem ab_pop (C : ab_C G F R cc nL own ret nm) {va : Value} (hd : decode cc pc = .ok (.pop, 1)) (h1 : va.category = 1) (kk : ab_W l G F nL Q k n h lv (st) (pc + 1)) : ab_W l G F nL Q k n h lv (va :: st) pc := by
  obtain ⟨p, e, R', s, m, args, below, meth, c⟩ := F
  obtain ⟨hR, hx, hb, hml, hown, hts, hU, hr, hlk, hnm, hB⟩ := C
  intro H locs ls hP hS hl
  exact lv_pop hx hb hd h1 (kk H locs ls hP hS hl)
theorem ab_dup_x1 (C : ab_C G F R cc nL own ret nm) {va vb : Value} (hd : decode cc pc = .ok (.dup_x1, 1)) (h1 : va.category = 1) (h2 : vb.category = 1) (kk : ab_W l G F nL Q k n h lv (va :: vb :: va :: st) (pc + 1)) : ab_W l G F nL Q k n h lv (va :: vb :: st) pc := by
  obtain ⟨p, e, R', s, m, args, below, meth, c⟩ := F
  obtain ⟨hR, hx, hb, hml, hown, hts, hU, hr, hlk, hnm, hB⟩ := C
  intro H locs ls hP hS hl
  exact lv_dup_x1 hx hb hd h1 h2 (kk H locs ls hP hS hl)
theorem ab_dup_x2 (C : ab_C G F R cc nL own ret nm) {va vb vd : Value} (hd : decode cc pc = .ok (.dup_x2, 1)) (h1 : va.category = 1) (h2 : vb.category = 1) (h3 : vd.category = 1) (kk : ab_W l G F nL Q k n h lv (va :: vb :: vd :: va :: st) (pc + 1)) : ab_W l G F nL Q k n h lv (va :: vb :: vd :: st) pc := by
  obtain ⟨p, e, R', s, m, args, below, meth, c⟩ := F
  obtain ⟨hR, hx, hb, hml, hown, hts, hU, hr, hlk, hnm, hB⟩ := C
  intro H locs ls hP hS hl
  exact lv_dup_x2 hx hb hd h1 h2 h3 (kk H locs ls hP hS hl)
theorem ab_dup2 (C : ab_C G F R cc nL own ret nm) {va vb : Value} (hd : decode cc pc = .ok (.dup2, 1)) (h1 : va.category = 1) (h2 : vb.category = 1) (kk : ab_W l G F nL Q k n h lv (va :: vb :: va :: vb :: st) (pc + 1)) : ab_W l G F nL Q k n h lv (va :: vb :: st) pc := by
  obtain ⟨p, e, R', s, m, args, below, meth, c⟩ := F
  obtain ⟨hR, hx, hb, hml, hown, hts, hU, hr, hlk, hnm, hB⟩ := C
  intro H locs ls hP hS hl
  exact lv_dup2_11 hx hb hd h1 h2 (kk H locs ls hP hS hl)
theorem ab_if_eq (C : ab_C G F R cc nL own ret nm) {x : Int32} {off : Int} {tgt : Nat} (hd : decode cc pc = .ok (.ifCond .eq off, 3)) (ht : (pc : Int) + off = (tgt : Int)) (kt : x = 0 → ab_W l G F nL Q k n h lv st tgt) (kf : ¬ x = 0 → ab_W l G F nL Q k n h lv st (pc + 3)) : ab_W l G F nL Q k n h lv (.int x :: st) pc := by
  obtain ⟨p, e, R', s, m, args, below, meth, c⟩ := F
  obtain ⟨hR, hx, hb, hml, hown, hts, hU, hr, hlk, hnm, hB⟩ := C
  intro H locs ls hP hS hl
  exact lv_if_eq hx hb hd ht (fun z => kt z H locs ls hP hS hl) (fun z => kf z H locs ls hP hS hl)
theorem ab_icmp_eq (C : ab_C G F R cc nL own ret nm) {x y : Int32} {off : Int} {tgt : Nat} (hd : decode cc pc = .ok (.if_icmp .eq off, 3)) (ht : (pc : Int) + off = (tgt : Int)) (kt : x = y → ab_W l G F nL Q k n h lv st tgt) (kf : ¬ x = y → ab_W l G F nL Q k n h lv st (pc + 3)) : ab_W l G F nL Q k n h lv (.int y :: .int x :: st) pc := by
  obtain ⟨p, e, R', s, m, args, below, meth, c⟩ := F
  obtain ⟨hR, hx, hb, hml, hown, hts, hU, hr, hlk, hnm, hB⟩ := C
  intro H locs ls hP hS hl
  exact lv_icmp_eq hx hb hd ht (fun z => kt z H locs ls hP hS hl) (fun z => kf z H locs ls hP hS hl)
theorem ab_if_ne (C : ab_C G F R cc nL own ret nm) {x : Int32} {off : Int} {tgt : Nat} (hd : decode cc pc = .ok (.ifCond .ne off, 3)) (ht : (pc : Int) + off = (tgt : Int)) (kt : ¬ x = 0 → ab_W l G F nL Q k n h lv st tgt) (kf : x = 0 → ab_W l G F nL Q k n h lv st (pc + 3)) : ab_W l G F nL Q k n h lv (.int x :: st) pc := by
  obtain ⟨p, e, R', s, m, args, below, meth, c⟩ := F
  obtain ⟨hR, hx, hb, hml, hown, hts, hU, hr, hlk, hnm, hB⟩ := C
  intro H locs ls hP hS hl
  exact lv_if_ne hx hb hd ht (fun z => kt z H locs ls hP hS hl) (fun z => kf (by simpa using z) H locs ls hP hS hl)
theorem ab_icmp_ne (C : ab_C G F R cc nL own ret nm) {x y : Int32} {off : Int} {tgt : Nat} (hd : decode cc pc = .ok (.if_icmp .ne off, 3)) (ht : (pc : Int) + off = (tgt : Int)) (kt : ¬ x = y → ab_W l G F nL Q k n h lv st tgt) (kf : x = y → ab_W l G F nL Q k n h lv st (pc + 3)) : ab_W l G F nL Q k n h lv (.int y :: .int x :: st) pc := by
  obtain ⟨p, e, R', s, m, args, below, meth, c⟩ := F
  obtain ⟨hR, hx, hb, hml, hown, hts, hU, hr, hlk, hnm, hB⟩ := C
  intro H locs ls hP hS hl
  exact lv_icmp_ne hx hb hd ht (fun z => kt z H locs ls hP hS hl) (fun z => kf (by simpa using z) H locs ls hP hS hl)
theorem ab_if_lt (C : ab_C G F R cc nL own ret nm) {x : Int32} {off : Int} {tgt : Nat} (hd : decode cc pc = .ok (.ifCond .lt off, 3)) (ht : (pc : Int) + off = (tgt : Int)) (kt : x < 0 → ab_W l G F nL Q k n h lv st tgt) (kf : ¬ x < 0 → ab_W l G F nL Q k n h lv st (pc + 3)) : ab_W l G F nL Q k n h lv (.int x :: st) pc := by
  obtain ⟨p, e, R', s, m, args, below, meth, c⟩ := F
  obtain ⟨hR, hx, hb, hml, hown, hts, hU, hr, hlk, hnm, hB⟩ := C
  intro H locs ls hP hS hl
  exact lv_if_lt hx hb hd ht (fun z => kt z H locs ls hP hS hl) (fun z => kf z H locs ls hP hS hl)
theorem ab_icmp_lt (C : ab_C G F R cc nL own ret nm) {x y : Int32} {off : Int} {tgt : Nat} (hd : decode cc pc = .ok (.if_icmp .lt off, 3)) (ht : (pc : Int) + off = (tgt : Int)) (kt : x < y → ab_W l G F nL Q k n h lv st tgt) (kf : ¬ x < y → ab_W l G F nL Q k n h lv st (pc + 3)) : ab_W l G F nL Q k n h lv (.int y :: .int x :: st) pc := by
  obtain ⟨p, e, R', s, m, args, below, meth, c⟩ := F
  obtain ⟨hR, hx, hb, hml, hown, hts, hU, hr, hlk, hnm, hB⟩ := C
  intro H locs ls hP hS hl
  exact lv_icmp_lt hx hb hd ht (fun z => kt z H locs ls hP hS hl) (fun z => kf z H locs ls hP hS hl)
theorem ab_if_ge (C : ab_C G F R cc nL own ret nm) {x : Int32} {off : Int} {tgt : Nat} (hd : decode cc pc = .ok (.ifCond .ge off, 3)) (ht : (pc : Int) + off = (tgt : Int)) (kt : 0 ≤ x → ab_W l G F nL Q k n h lv st tgt) (kf : ¬ 0 ≤ x → ab_W l G F nL Q k n h lv st (pc + 3)) : ab_W l G F nL Q k n h lv (.int x :: st) pc := by
  obtain ⟨p, e, R', s, m, args, below, meth, c⟩ := F
  obtain ⟨hR, hx, hb, hml, hown, hts, hU, hr, hlk, hnm, hB⟩ := C
  intro H locs ls hP hS hl
  exact lv_if_ge hx hb hd ht (fun z => kt z H locs ls hP hS hl) (fun z => kf z H locs ls hP hS hl)
theorem ab_icmp_ge (C : ab_C G F R cc nL own ret nm) {x y : Int32} {off : Int} {tgt : Nat} (hd : decode cc pc = .ok (.if_icmp .ge off, 3)) (ht : (pc : Int) + off = (tgt : Int)) (kt : y ≤ x → ab_W l G F nL Q k n h lv st tgt) (kf : ¬ y ≤ x → ab_W l G F nL Q k n h lv st (pc + 3)) : ab_W l G F nL Q k n h lv (.int y :: .int x :: st) pc := by
  obtain ⟨p, e, R', s, m, args, below, meth, c⟩ := F
  obtain ⟨hR, hx, hb, hml, hown, hts, hU, hr, hlk, hnm, hB⟩ := C
  intro H locs ls hP hS hl
  exact lv_icmp_ge hx hb hd ht (fun z => kt z H locs ls hP hS hl) (fun z => kf z H locs ls hP hS hl)
theorem ab_if_gt (C : ab_C G F R cc nL own ret nm) {x : Int32} {off : Int} {tgt : Nat} (hd : decode cc pc = .ok (.ifCond .gt off, 3)) (ht : (pc : Int) + off = (tgt : Int)) (kt : 0 < x → ab_W l G F nL Q k n h lv st tgt) (kf : ¬ 0 < x → ab_W l G F nL Q k n h lv st (pc + 3)) : ab_W l G F nL Q k n h lv (.int x :: st) pc := by
  obtain ⟨p, e, R', s, m, args, below, meth, c⟩ := F
  obtain ⟨hR, hx, hb, hml, hown, hts, hU, hr, hlk, hnm, hB⟩ := C
  intro H locs ls hP hS hl
  exact lv_if_gt hx hb hd ht (fun z => kt z H locs ls hP hS hl) (fun z => kf z H locs ls hP hS hl)
theorem ab_icmp_gt (C : ab_C G F R cc nL own ret nm) {x y : Int32} {off : Int} {tgt : Nat} (hd : decode cc pc = .ok (.if_icmp .gt off, 3)) (ht : (pc : Int) + off = (tgt : Int)) (kt : y < x → ab_W l G F nL Q k n h lv st tgt) (kf : ¬ y < x → ab_W l G F nL Q k n h lv st (pc + 3)) : ab_W l G F nL Q k n h lv (.int y :: .int x :: st) pc := by
  obtain ⟨p, e, R', s, m, args, below, meth, c⟩ := F
  obtain ⟨hR, hx, hb, hml, hown, hts, hU, hr, hlk, hnm, hB⟩ := C
  intro H locs ls hP hS hl
  exact lv_icmp_gt hx hb hd ht (fun z => kt z H locs ls hP hS hl) (fun z => kf z H locs ls hP hS hl)
theorem ab_if_le (C : ab_C G F R cc nL own ret nm) {x : Int32} {off : Int} {tgt : Nat} (hd : decode cc pc = .ok (.ifCond .le off, 3)) (ht : (pc : Int) + off = (tgt : Int)) (kt : x ≤ 0 → ab_W l G F nL Q k n h lv st tgt) (kf : ¬ x ≤ 0 → ab_W l G F nL Q k n h lv st (pc + 3)) : ab_W l G F nL Q k n h lv (.int x :: st) pc := by
  obtain ⟨p, e, R', s, m, args, below, meth, c⟩ := F
  obtain ⟨hR, hx, hb, hml, hown, hts, hU, hr, hlk, hnm, hB⟩ := C
  intro H locs ls hP hS hl
  exact lv_if_le hx hb hd ht (fun z => kt z H locs ls hP hS hl) (fun z => kf z H locs ls hP hS hl)
theorem ab_icmp_le (C : ab_C G F R cc nL own ret nm) {x y : Int32} {off : Int} {tgt : Nat} (hd : decode cc pc = .ok (.if_icmp .le off, 3)) (ht : (pc : Int) + off = (tgt : Int)) (kt : x ≤ y → ab_W l G F nL Q k n h lv st tgt) (kf : ¬ x ≤ y → ab_W l G F nL Q k n h lv st (pc + 3)) : ab_W l G F nL Q k n h lv (.int y :: .int x :: st) pc := by
  obtain ⟨p, e, R', s, m, args, below, meth, c⟩ := F
  obtain ⟨hR, hx, hb, hml, hown, hts, hU, hr, hlk, hnm, hB⟩ := C
  intro H locs ls hP hS hl
  exact lv_icmp_le hx hb hd ht (fun z => kt z H locs ls hP hS hl) (fun z => kf z H locs ls hP hS hl)
theorem ab_goto (C : ab_C G F R cc nL own ret nm) {off : Int} {tgt : Nat} (hd : decode cc pc = .ok (.goto off, 3)) (ht : (pc : Int) + off = (tgt : Int)) (kk : ab_W l G F nL Q k n h lv st tgt) : ab_W l G F nL Q k n h lv st pc := by
  obtain ⟨p, e, R', s, m, args, below, meth, c⟩ := F
  obtain ⟨hR, hx, hb, hml, hown, hts, hU, hr, hlk, hnm, hB⟩ := C
  intro H locs ls hP hS hl
  exact lv_goto hx hb hd ht (kk H locs ls hP hS hl)
theorem ab_ifnullR (C : ab_C G F R cc nL own ret nm) {x : Nat} {off : Int} (hd : decode cc pc = .ok (.ifnull off, 3)) (kk : ab_W l G F nL Q k n h lv st (pc + 3)) : ab_W l G F nL Q k n h lv (.ref x :: st) pc := by
  obtain ⟨p, e, R', s, m, args, below, meth, c⟩ := F
  obtain ⟨hR, hx, hb, hml, hown, hts, hU, hr, hlk, hnm, hB⟩ := C
  intro H locs ls hP hS hl
  exact lv_ifnull hx hb hd (kk H locs ls hP hS hl)
theorem ab_ifnullN (C : ab_C G F R cc nL own ret nm) {off : Int} {tgt : Nat} (hd : decode cc pc = .ok (.ifnull off, 3)) (ht : (pc : Int) + off = (tgt : Int)) (kk : ab_W l G F nL Q k n h lv st tgt) : ab_W l G F nL Q k n h lv (.null :: st) pc := by
  obtain ⟨p, e, R', s, m, args, below, meth, c⟩ := F
  obtain ⟨hR, hx, hb, hml, hown, hts, hU, hr, hlk, hnm, hB⟩ := C
  intro H locs ls hP hS hl
  exact lv_ifnullN hx hb hd ht (kk H locs ls hP hS hl)
theorem ab_ifnonnullR (C : ab_C G F R cc nL own ret nm) {x : Nat} {off : Int} {tgt : Nat} (hd : decode cc pc = .ok (.ifnonnull off, 3)) (ht : (pc : Int) + off = (tgt : Int)) (kk : ab_W l G F nL Q k n h lv st tgt) : ab_W l G F nL Q k n h lv (.ref x :: st) pc := by
  obtain ⟨p, e, R', s, m, args, below, meth, c⟩ := F
  obtain ⟨hR, hx, hb, hml, hown, hts, hU, hr, hlk, hnm, hB⟩ := C
  intro H locs ls hP hS hl
  exact lv_ifnonnull hx hb hd ht (kk H locs ls hP hS hl)
theorem ab_ifnonnullN (C : ab_C G F R cc nL own ret nm) {off : Int} (hd : decode cc pc = .ok (.ifnonnull off, 3)) (kk : ab_W l G F nL Q k n h lv st (pc + 3)) : ab_W l G F nL Q k n h lv (.null :: st) pc := by
  obtain ⟨p, e, R', s, m, args, below, meth, c⟩ := F
  obtain ⟨hR, hx, hb, hml, hown, hts, hU, hr, hlk, hnm, hB⟩ := C
  intro H locs ls hP hS hl
  exact lv_ifnonnullN hx hb hd (kk H locs ls hP hS hl)
theorem ab_tabIn (C : ab_C G F R cc nL own ret nm) {dflt lo hi : Int} {offs : Array Int} {len : Nat} {x : Int32} {off : Int} {tgt : Nat} (hd : decode cc pc = .ok (.tableswitch dflt lo hi offs, len)) (h1 : ¬ x.toInt < lo) (h2 : ¬ hi < x.toInt) (ho : offs[(x.toInt - lo).toNat]? = some off) (ht : (pc : Int) + off = (tgt : Int)) (kk : ab_W l G F nL Q k n h lv st tgt) : ab_W l G F nL Q k n h lv (.int x :: st) pc := by
  obtain ⟨p, e, R', s, m, args, below, meth, c⟩ := F
  obtain ⟨hR, hx, hb, hml, hown, hts, hU, hr, hlk, hnm, hB⟩ := C
  intro H locs ls hP hS hl
  exact lv_tableIn hx hb hd h1 h2 ho ht (kk H locs ls hP hS hl)
theorem ab_tabOut (C : ab_C G F R cc nL own ret nm) {dflt lo hi : Int} {offs : Array Int} {len : Nat} {x : Int32} {tgt : Nat} (hd : decode cc pc = .ok (.tableswitch dflt lo hi offs, len)) (h1 : x.toInt < lo ∨ hi < x.toInt) (ht : (pc : Int) + dflt = (tgt : Int)) (kk : ab_W l G F nL Q k n h lv st tgt) : ab_W l G F nL Q k n h lv (.int x :: st) pc := by
  obtain ⟨p, e, R', s, m, args, below, meth, c⟩ := F
  obtain ⟨hR, hx, hb, hml, hown, hts, hU, hr, hlk, hnm, hB⟩ := C
  intro H locs ls hP hS hl
  exact lv_tableOut hx hb hd h1 ht (kk H locs ls hP hS hl)
theorem ab_lookup (C : ab_C G F R cc nL own ret nm) {dflt : Int} {ps : Array (Int × Int)} {len : Nat} {x : Int32} {off : Int} {tgt : Nat} (hd : decode cc pc = .ok (.lookupswitch dflt ps, len)) (hp : (ps.toList.zip (ps.toList.drop 1)).all (fun (a, next) => a.1 < next.1) = true) (ho : Op.lookupswitch.offset ps.toList dflt x.toInt = off) (ht : (pc : Int) + off = (tgt : Int)) (kk : ab_W l G F nL Q k n h lv st tgt) : ab_W l G F nL Q k n h lv (.int x :: st) pc := by
  obtain ⟨p, e, R', s, m, args, below, meth, c⟩ := F
  obtain ⟨hR, hx, hb, hml, hown, hts, hU, hr, hlk, hnm, hB⟩ := C
  intro H locs ls hP hS hl
  exact lv_lookup hx hb hd hp ho ht (kk H locs ls hP hS hl)
/-- the locals that go on, in another order -/
theorem ab_sub {lv' : List (Nat × Value)} (ks : List Nat) (hs : lv_pick lv ks = lv') (kk : ab_W l G F nL Q k n h lv' st pc) : ab_W l G F nL Q k n h lv st pc := by
  obtain ⟨p, e, R', s, m, args, below, meth, c⟩ := F
  intro H locs ls hP hS hl
  exact kk H locs ls hP hS (lv_sub hl ks hs)
theorem ab_widen {k' n' : Nat} (h1 : k ≤ k') (h2 : n ≤ n') (kk : ab_W l G F nL Q k' n' h lv st pc) : ab_W l G F nL Q k n h lv st pc := by
  obtain ⟨p, e, R', s, m, args, below, meth, c⟩ := F
  intro H locs ls hP hS hl
  exact W.widen h1 h2 (kk H locs ls hP hS hl)
theorem ab_ldc (C : ab_C G F R cc nL own ret nm) {idx : Nat} {v : Int32} (hw : Cond.constant own idx v ∈ ab_ws) (hd : decode cc pc = .ok (.ldc idx, 2)) (kk : ab_W l G F nL Q k n h lv (.int v :: st) (pc + 2)) : ab_W l G F nL Q k n h lv st pc := by
  obtain ⟨p, e, R', s, m, args, below, meth, c⟩ := F
  obtain ⟨hR, hx, hb, hml, hown, hts, hU, hr, hlk, hnm, hB⟩ := C
  intro H locs ls hP hS hl
  exact W.ldc hx hb hown (hts _ hw) rfl hd (kk H locs ls hP hS hl)
theorem ab_ldcw (C : ab_C G F R cc nL own ret nm) {idx : Nat} {v : Int32} (hw : Cond.constant own idx v ∈ ab_ws) (hd : decode cc pc = .ok (.ldc_w idx, 3)) (kk : ab_W l G F nL Q k n h lv (.int v :: st) (pc + 3)) : ab_W l G F nL Q k n h lv st pc := by
  obtain ⟨p, e, R', s, m, args, below, meth, c⟩ := F
  obtain ⟨hR, hx, hb, hml, hown, hts, hU, hr, hlk, hnm, hB⟩ := C
  intro H locs ls hP hS hl
  exact lv_ldcw hx hb hown (hts _ hw) hd (kk H locs ls hP hS hl)
theorem ab_ldc2 (C : ab_C G F R cc nL own ret nm) {idx : Nat} {v : Int64} (hw : Cond.constantLong own idx v ∈ ab_ws) (hd : decode cc pc = .ok (.ldc2_w idx, 3)) (kk : ab_W l G F nL Q k n h lv (.long v :: st) (pc + 3)) : ab_W l G F nL Q k n h lv st pc := by
  obtain ⟨p, e, R', s, m, args, below, meth, c⟩ := F
  obtain ⟨hR, hx, hb, hml, hown, hts, hU, hr, hlk, hnm, hB⟩ := C
  intro H locs ls hP hS hl
  exact W.ldc2 hx hb hown (hts _ hw) rfl hd (kk H locs ls hP hS hl)
theorem ab_iret (C : ab_C G F R cc nL own (some .int) nm) {v : Int32} (hd : decode cc pc = .ok (.ireturn, 1)) (hq : post (some (.int v)) h) : ab_W l G F nL (ab_MQ G F post k n) k n h lv [.int v] pc := by
  obtain ⟨p, e, R', s, m, args, below, meth, c⟩ := F
  obtain ⟨hR, hx, hb, hml, hown, hts, hU, hr, hlk, hnm, hB⟩ := C
  intro H locs ls hP hS hl
  exact W.iret hx hb hr (fun t ht hW => ⟨⟨_, h, rfl, hq, by rw [ht]; exact hP⟩, hS.F ht⟩) hS.2.2 hd hlk
theorem ab_zret (C : ab_C G F R cc nL own (some .boolean) nm) {v : Int32} (hd : decode cc pc = .ok (.ireturn, 1)) (hz : narrow .boolean (.int v) = .int v) (hq : post (some (.int v)) h) : ab_W l G F nL (ab_MQ G F post k n) k n h lv [.int v] pc := by
  obtain ⟨p, e, R', s, m, args, below, meth, c⟩ := F
  obtain ⟨hR, hx, hb, hml, hown, hts, hU, hr, hlk, hnm, hB⟩ := C
  intro H locs ls hP hS hl
  exact W.zret hx hb hr hz (fun t ht hW => ⟨⟨_, h, rfl, hq, by rw [ht]; exact hP⟩, hS.F ht⟩) hS.2.2 hd hlk
theorem ab_vret (C : ab_C G F R cc nL own none nm) (hd : decode cc pc = .ok (.return_, 1)) (hq : post none h) : ab_W l G F nL (ab_MQ G F post k n) k n h lv [] pc := by
  obtain ⟨p, e, R', s, m, args, below, meth, c⟩ := F
  obtain ⟨hR, hx, hb, hml, hown, hts, hU, hr, hlk, hnm, hB⟩ := C
  intro H locs ls hP hS hl
  exact W.vret hx hb hr (fun t ht hW => ⟨⟨_, h, rfl, hq, by rw [ht]; exact hP⟩, hS.F ht⟩) hS.2.2 hd hlk
theorem ab_aret {E : String} (C : ab_C G F R cc nL own (some (.object E)) nm) {v : Value} (hv : v = .null ∨ ∃ a, v = .ref a) (hd : decode cc pc = .ok (.areturn, 1)) (hq : post (some v) h) : ab_W l G F nL (ab_MQ G F post k n) k n h lv [v] pc := by
  obtain ⟨p, e, R', s, m, args, below, meth, c⟩ := F
  obtain ⟨hR, hx, hb, hml, hown, hts, hU, hr, hlk, hnm, hB⟩ := C
  intro H locs ls hP hS hl
  exact W.aret hx hb hr (Or.inl ⟨_, rfl⟩) hv (fun t ht hW => ⟨⟨_, h, rfl, hq, by rw [ht]; exact hP⟩, hS.F ht⟩) hS.2.2 hd hlk

end AB
end
section
/-! ===== fields, arrays, statics ===== -/
section AB
variable {l : Launch} {G : ab_G} {F : ab_F} {R : Room} {cc : ByteArray} {nL : Nat} {own : String} {ret : Option FieldType} {nm : String} {Q : State → Prop} {k n : Nat} {h : hp_T} {lv : List (Nat × Value)} {st : List Value} {pc : Nat} {post : Option Value → hp_T → Prop}
theorem ab_getV (C : ab_C G F R cc nL own ret nm) {a idx ci j : Nat} {ty : FieldType} {fin wr : Bool} (f : ab_fld own idx ci j ty fin wr) (ht : ab_k a = ci) (hn : a < hp_n h) (hd : decode cc pc = .ok (.getfield idx, 3)) (kk : ab_W l G F nL Q k n h lv (ab_v G h a j :: st) (pc + 3)) : ab_W l G F nL Q k n h lv (.ref (G.1 + a) :: st) pc := by
  obtain ⟨p, e, R', s, m, args, below, meth, c⟩ := F
  obtain ⟨hR, hx, hb, hml, hown, hts, hU, hr, hlk, hnm, hB⟩ := C
  intro H locs ls hP hS hl
  obtain ⟨CN, T, N, t0, ⟨hc9, hc, hin, hnf, hty, hnd, hdf⟩, hj, hw, hty0, hfin, hdc⟩ := f
  have hat := hP.2 a hn
  rw [ab_e_o ht hc9] at hat
  exact va_get hx hb hts hin hown hU.1.1 (ab_at1 hat) 0 rfl hc j hj (hts _ hw) (fun _ z => z) (ab_o_get ht (by rw [hnf]; exact hj)) hd (kk H locs ls hP hS hl)
theorem ab_getI (C : ab_C G F R cc nL own ret nm) {a idx ci j : Nat} {ty : FieldType} {fin wr : Bool} (f : ab_fld own idx ci j ty fin wr) (hr : ab_rf ci j = false) (ht : ab_k a = ci) (hn : a < hp_n h) (hd : decode cc pc = .ok (.getfield idx, 3)) (kk : ab_W l G F nL Q k n h lv (.int (hp_i h a j) :: st) (pc + 3)) : ab_W l G F nL Q k n h lv (.ref (G.1 + a) :: st) pc := by
  refine ab_getV C f ht hn hd ?_
  have e : ab_v G h a j = .int (hp_i h a j) := by simp [ab_v, ht, hr]
  rw [e]
  exact kk
theorem ab_getR (C : ab_C G F R cc nL own ret nm) {a idx ci j q : Nat} {ty : FieldType} {fin wr : Bool} (f : ab_fld own idx ci j ty fin wr) (hr : ab_rf ci j = true) (ht : ab_k a = ci) (hn : a < hp_n h) (hv : hp_r h a j = some q) (hd : decode cc pc = .ok (.getfield idx, 3)) (kk : ab_W l G F nL Q k n h lv (.ref (G.1 + q) :: st) (pc + 3)) : ab_W l G F nL Q k n h lv (.ref (G.1 + a) :: st) pc := by
  refine ab_getV C f ht hn hd ?_
  have e : ab_v G h a j = .ref (G.1 + q) := by simp [ab_v, ht, hr, hv, va_rf]
  rw [e]
  exact kk
theorem ab_putI (C : ab_C G F R cc nL own ret nm) {a idx ci j : Nat} {ty : FieldType} {v : Int32} (f : ab_fld own idx ci j ty false true) (hrf : ab_rf ci j = false) (ht : ab_k a = ci) (hn : a < hp_n h) (hnar : narrow ty (.int v) = .int v) (hfit : fits ty (.int v) = true) (hd : decode cc pc = .ok (.putfield idx, 3)) (kk : ∀ h1, h1 = hp_si h a j v → ab_W l G F nL Q k n h1 lv st (pc + 3)) : ab_W l G F nL Q k n h lv (.int v :: .ref (G.1 + a) :: st) pc := by
  obtain ⟨p, e, R', s, m, args, below, meth, c⟩ := F
  obtain ⟨hR, hx, hb, hml, hown, hts, hU, hr, hlk, hnm, hB⟩ := C
  intro H locs ls hP hS hl
  obtain ⟨CN, T, N, t0, ⟨hc9, hc, hin, hnf, hty, hnd, hdf⟩, hj, hw, hty0, hfin, hdc⟩ := f
  have hat := hP.2 a hn
  rw [ab_e_o ht hc9] at hat
  have hap := va_apart (own := own) hts hin t0 hty hnd hU.1.1 hc
  obtain ⟨r, h1, cell, q1, q2, q3, q4⟩ := hat
  have hr1 : r = (CN, T, N) := Option.some.inj (h1.symm.trans hc)
  subst hr1
  obtain ⟨hSl, hfc, kC, hkC, hkind⟩ := hU.1.1.1 ci _ hc
  obtain ⟨cf, kf, fi, fd, hi, hsl⟩ := hSl j hj
  have hlay := hts _ (hin _ (u_in_lay hj))
  unfold u_lay at hlay
  rw [if_neg (by rw [hfin]; decide)] at hlay
  have hst := (u_facts hfc hkC (u_lays hts hin hj) hi).1
  have h6 := u_store hfc hkC hkind hlay hi (by rw [hty j hj, hty0]) hnar hfit
  refine W.putK hx hb (f := fd) ⟨hown, hts _ hw, ⟨_, _, _, hi⟩, hst⟩ (by rw [q2]; exact h6) q1 q3 (by rw [hsl]; exact k2_hasslot (q4 j hj)) rfl rfl hd fun H' e1 e2 e3 => ?_
  rw [hsl] at e1 ⊢
  refine kk _ rfl H' _ ls (hP.put ab_si_n e2 e3 ?_ (fun b hb => ab_si_ne hb)) (hS.put e2 e3 (Nat.le_add_right _ _)) hl
  rw [ab_e_o ht hc9, ab_si_o ht (by rw [hnf]; exact hj) hrf]
  exact ⟨_, hc, t_OB.to (V := updV (vp_V (ab_o G h a)) j (.int v)) ⟨_, e1, q2, q3, t_set q4 hap hj _⟩ (fun x _ => vp_updV_set (by rw [ab_o_len, ht, hnf]; exact hj) _ x)⟩
theorem ab_putR (C : ab_C G F R cc nL own ret nm) {a idx ci j q : Nat} {ty : FieldType} {fin : Bool} (f : ab_fld own idx ci j ty fin true) (hrf : ab_rf ci j = true) (hi0 : fin = true → nm = "<init>") (ht : ab_k a = ci) (hn : a < hp_n h) (hnar : ∀ x : Nat, narrow ty (.ref x) = .ref x) (hfit : ∀ x : Nat, fits ty (.ref x) = true) (hd : decode cc pc = .ok (.putfield idx, 3)) (kk : ∀ h1, h1 = hp_sr h a j (some q) → ab_W l G F nL Q k n h1 lv st (pc + 3)) : ab_W l G F nL Q k n h lv (.ref (G.1 + q) :: .ref (G.1 + a) :: st) pc := by
  obtain ⟨p, e, R', s, m, args, below, meth, c⟩ := F
  obtain ⟨hR, hx, hb, hml, hown, hts, hU, hr, hlk, hnm, hB⟩ := C
  intro H locs ls hP hS hl
  obtain ⟨CN, T, N, t0, ⟨hc9, hc, hin, hnf, hty, hnd, hdf⟩, hj, hw, hty0, hfin, hdc⟩ := f
  have hat := hP.2 a hn
  rw [ab_e_o ht hc9] at hat
  have hap := va_apart (own := own) hts hin t0 hty hnd hU.1.1 hc
  obtain ⟨r, h1, cell, q1, q2, q3, q4⟩ := hat
  have hr1 : r = (CN, T, N) := Option.some.inj (h1.symm.trans hc)
  subst hr1
  obtain ⟨hSl, hfc, kC, hkC, hkind⟩ := hU.1.1.1 ci _ hc
  obtain ⟨cf, kf, fi, fd, hi, hsl⟩ := hSl j hj
  have hlay := hts _ (hin _ (u_in_lay hj))
  have hst := (u_facts hfc hkC (u_lays hts hin hj) hi).1
  have key : ∀ H' : Heap, H'[G.1 + a]? = some (cell.setSlot fd.slot (.ref (G.1 + q))) → H'.size = H.size → (∀ x, x ≠ G.1 + a → H'[x]? = H[x]?) → W p l e R' s m args below meth c H' (locs ++ [⟨G.1 + a, fd.slot⟩]) k n Q (F0 m (pc + 3) ls st) := by
    intro H' e1 e2 e3
    rw [hsl] at e1 ⊢
    refine kk _ rfl H' _ ls (hP.put ab_sr_n e2 e3 ?_ (fun b hb => ab_sr_ne hb)) (hS.put e2 e3 (Nat.le_add_right _ _)) hl
    rw [ab_e_o ht hc9, ab_sr_o ht (by rw [hnf]; exact hj) hrf]
    exact ⟨_, hc, t_OB.to (V := updV (vp_V (ab_o G h a)) j (.ref (G.1 + q))) ⟨_, e1, q2, q3, t_set q4 hap hj _⟩ (fun x _ => vp_updV_set (by rw [ab_o_len, ht, hnf]; exact hj) _ x)⟩
  unfold u_lay at hlay
  cases fin with
  | false =>
    rw [if_neg (by rw [hfin]; decide)] at hlay
    have h6 := u_store hfc hkC hkind hlay hi (by rw [hty j hj, hty0]) (hnar (G.1 + q)) (hfit (G.1 + q))
    exact W.putK hx hb (f := fd) ⟨hown, hts _ hw, ⟨_, _, _, hi⟩, hst⟩ (by rw [q2]; exact h6) q1 q3 (by rw [hsl]; exact k2_hasslot (q4 j hj)) rfl rfl hd key
  | true =>
    rw [if_pos hfin] at hlay
    have hcf : m.cls = cf := by
      obtain ⟨_, _, c', _, _, _, -, -, hf', -, -, -, hown2, -⟩ := Cond.laysFinal_spec hlay
      have e1 : c' = cf := by have := hi.symm.trans hf'; simp at this; exact this.1.symm
      rw [hdc rfl rfl] at hown2
      rw [← e1]; exact Option.some.inj (hown.symm.trans hown2)
    have h6 := u_fits hfc hkC hkind (Or.inr hlay) hi (by rw [hty j hj, hty0]) (hnar (G.1 + q)) (hfit (G.1 + q))
    exact W.putFinK hx hb hown (hts _ hw) hi hst hcf (by rw [hnm]; exact hi0 rfl) (by rw [q2]; exact h6) q1 q3 (by rw [hsl]; exact k2_hasslot (q4 j hj)) rfl rfl hd key
theorem ab_iald (C : ab_C G F R cc nL own ret nm) {a N : Nat} {i : Int32} (ht : 16 ≤ ab_k a) (hn : a < hp_n h) (hL : hp_l h a = N) (hin : vp_in i N) (hd : decode cc pc = .ok (.iaload, 1)) (kk : ab_W l G F nL Q k n h lv (.int (hp_i h a i.toNatClampNeg) :: st) (pc + 1)) : ab_W l G F nL Q k n h lv (.int i :: .ref (G.1 + a) :: st) pc := by
  obtain ⟨p, e, R', s, m, args, below, meth, c⟩ := F
  obtain ⟨hR, hx, hb, hml, hown, hts, hU, hr, hlk, hnm, hB⟩ := C
  intro H locs ls hP hS hl
  subst hL
  have hat := hP.2 a hn
  rw [ab_e_i ht] at hat
  exact va_iald hx hb hU.1.1 (ab_at1 hat) 0 0 rfl rfl hin hd (kk H locs ls hP hS hl)
theorem ab_bald (C : ab_C G F R cc nL own ret nm) {a N : Nat} {i : Int32} (ht : ab_k a = 11) (hn : a < hp_n h) (hL : hp_l h a = N) (hin : vp_in i N) (hd : decode cc pc = .ok (.baload, 1)) (kk : ab_W l G F nL Q k n h lv (.int (hp_i h a i.toNatClampNeg) :: st) (pc + 1)) : ab_W l G F nL Q k n h lv (.int i :: .ref (G.1 + a) :: st) pc := by
  obtain ⟨p, e, R', s, m, args, below, meth, c⟩ := F
  obtain ⟨hR, hx, hb, hml, hown, hts, hU, hr, hlk, hnm, hB⟩ := C
  intro H locs ls hP hS hl
  subst hL
  have hat := hP.2 a hn
  rw [ab_e_b ht] at hat
  exact va_bald hx hb hU.1.1 (ab_at1 hat) 0 1 rfl rfl hin hd (kk H locs ls hP hS hl)
theorem ab_aald (C : ab_C G F R cc nL own ret nm) {a N ca : Nat} {i : Int32} (ht : ab_k a = ca) (hca : ca = 12 ∨ ca = 13 ∨ ca = 14 ∨ ca = 15) (hn : a < hp_n h) (hL : hp_l h a = N) (hin : vp_in i N) (hd : decode cc pc = .ok (.aaload, 1)) (kk : ab_W l G F nL Q k n h lv (va_rf ((hp_r h a i.toNatClampNeg).map (fun q => G.1 + q)) :: st) (pc + 1)) : ab_W l G F nL Q k n h lv (.int i :: .ref (G.1 + a) :: st) pc := by
  obtain ⟨p, e, R', s, m, args, below, meth, c⟩ := F
  obtain ⟨hR, hx, hb, hml, hown, hts, hU, hr, hlk, hnm, hB⟩ := C
  intro H locs ls hP hS hl
  subst hL
  have hat := hP.2 a hn
  rcases hca with rfl | rfl | rfl | rfl
  · rw [ab_e_q ht (by decide) (by decide)] at hat
    exact va_aldq hx hb hU.1.1 (ab_at1 hat) 0 2 rfl rfl hin hd (kk H locs ls hP hS hl)
  · rw [ab_e_q ht (by decide) (by decide)] at hat
    exact va_aldq hx hb hU.1.1 (ab_at1 hat) 0 3 rfl rfl hin hd (kk H locs ls hP hS hl)
  · rw [ab_e_q ht (by decide) (by decide)] at hat
    exact va_aldq hx hb hU.1.1 (ab_at1 hat) 0 4 rfl rfl hin hd (kk H locs ls hP hS hl)
  · rw [ab_e_q ht (by decide) (by decide)] at hat
    exact va_aldq hx hb hU.1.1 (ab_at1 hat) 0 5 rfl rfl hin hd (kk H locs ls hP hS hl)
theorem ab_aaldR (C : ab_C G F R cc nL own ret nm) {a N ca q : Nat} {i : Int32} (ht : ab_k a = ca) (hca : ca = 12 ∨ ca = 13 ∨ ca = 14 ∨ ca = 15) (hn : a < hp_n h) (hL : hp_l h a = N) (hin : vp_in i N) (hv : hp_r h a i.toNatClampNeg = some q) (hd : decode cc pc = .ok (.aaload, 1)) (kk : ab_W l G F nL Q k n h lv (.ref (G.1 + q) :: st) (pc + 1)) : ab_W l G F nL Q k n h lv (.int i :: .ref (G.1 + a) :: st) pc :=
  ab_aald C ht hca hn hL hin hd (by rw [hv]; exact kk)
theorem ab_aaldQ (C : ab_C G F R cc nL own ret nm) {a N ca : Nat} {i : Int32} (ht : ab_k a = ca) (hca : ca = 12 ∨ ca = 13 ∨ ca = 14 ∨ ca = 15) (hn : a < hp_n h) (hL : hp_l h a = N) (hin : vp_in i N) (hd : decode cc pc = .ok (.aaload, 1)) (k0 : hp_r h a i.toNatClampNeg = none → ab_W l G F nL Q k n h lv (.null :: st) (pc + 1)) (k1 : ∀ q, hp_r h a i.toNatClampNeg = some q → ab_W l G F nL Q k n h lv (.ref (G.1 + q) :: st) (pc + 1)) : ab_W l G F nL Q k n h lv (.int i :: .ref (G.1 + a) :: st) pc := by
  refine ab_aald C ht hca hn hL hin hd ?_
  cases hv : hp_r h a i.toNatClampNeg with
  | none => exact k0 hv
  | some q => exact k1 q hv
theorem ab_alen (C : ab_C G F R cc nL own ret nm) {a N : Nat} (ht : 16 ≤ ab_k a ∨ ab_k a = 11) (hn : a < hp_n h) (hL : hp_l h a = N) (hd : decode cc pc = .ok (.arraylength, 1)) (kk : ab_W l G F nL Q k n h lv (.int (nI N) :: st) (pc + 1)) : ab_W l G F nL Q k n h lv (.ref (G.1 + a) :: st) pc := by
  obtain ⟨p, e, R', s, m, args, below, meth, c⟩ := F
  obtain ⟨hR, hx, hb, hml, hown, hts, hU, hr, hlk, hnm, hB⟩ := C
  intro H locs ls hP hS hl
  subst hL
  have hat := hP.2 a hn
  rcases ht with ht | ht
  · rw [ab_e_i ht] at hat
    exact va_alen hx hb hU.1.1 (ab_at1 hat) 0 0 rfl rfl rfl hd (kk H locs ls hP hS hl)
  · rw [ab_e_b ht] at hat
    exact va_alen hx hb hU.1.1 (ab_at1 hat) 0 1 rfl rfl rfl hd (kk H locs ls hP hS hl)
theorem ab_upd_eq (h : hp_T) (a i : Nat) (x : Int32) : (fun q => updV (fun j => .int (hp_i h a j)) i (.int x) q) = fun q => Value.int (hp_i (hp_si h a i x) a q) := by
  funext q
  by_cases hq : q = i
  · subst hq
    simp [updV, hp_si, hp_i]
  · simp [updV, hp_si, hp_i, hq]
theorem ab_iast (C : ab_C G F R cc nL own ret nm) {a N : Nat} {i x : Int32} (ht : 16 ≤ ab_k a) (hn : a < hp_n h) (hL : hp_l h a = N) (hin : vp_in i N) (hd : decode cc pc = .ok (.iastore, 1)) (kk : ∀ h1, h1 = hp_si h a i.toNatClampNeg x → ab_W l G F nL Q k n h1 lv st (pc + 1)) : ab_W l G F nL Q k n h lv (.int x :: .int i :: .ref (G.1 + a) :: st) pc := by
  obtain ⟨p, e, R', s, m, args, below, meth, c⟩ := F
  obtain ⟨hR, hx, hb, hml, hown, hts, hU, hr, hlk, hnm, hB⟩ := C
  intro H locs ls hP hS hl
  subst hL
  have hat := hP.2 a hn
  rw [ab_e_i ht] at hat
  refine W.iast hx hb hat ((hU.1.1.2 0 _ rfl).1 (hp_l h a) (fun j => .int (hp_i h a j))) (fun q => by cases q) (by show ¬ (i < 0 ∨ (arrV _ _ _).slots.size ≤ _); rw [arrV_size]; exact hin) rfl rfl hd fun H1 e1 z oq => ?_
  refine kk _ rfl H1 _ ls (hP.put ab_si_n z oq ?_ (fun b hb => ab_si_ne hb)) (hS.put z oq (Nat.le_add_right _ _)) hl
  rw [ab_e_i ht]
  show H1[G.1 + a]? = some (vp_cell _ _)
  rw [e1, vp_cell_i, vp_cell_i, arrV_store, ← ab_upd_eq]
  rfl
theorem ab_bast (C : ab_C G F R cc nL own ret nm) {a N : Nat} {i x : Int32} (ht : ab_k a = 11) (hn : a < hp_n h) (hL : hp_l h a = N) (hin : vp_in i N) (hd : decode cc pc = .ok (.bastore, 1)) (kk : ∀ h1, h1 = hp_si h a i.toNatClampNeg (vp_nar .byte x) → ab_W l G F nL Q k n h1 lv st (pc + 1)) : ab_W l G F nL Q k n h lv (.int x :: .int i :: .ref (G.1 + a) :: st) pc := by
  obtain ⟨p, e, R', s, m, args, below, meth, c⟩ := F
  obtain ⟨hR, hx, hb, hml, hown, hts, hU, hr, hlk, hnm, hB⟩ := C
  intro H locs ls hP hS hl
  subst hL
  have hat := hP.2 a hn
  rw [ab_e_b ht] at hat
  refine W.bast hx hb hat ((hU.1.1.2 1 _ rfl).1 (hp_l h a) (fun j => .int (hp_i h a j))) (fun q => by cases q) (by show ¬ (i < 0 ∨ (arrV _ _ _).slots.size ≤ _); rw [arrV_size]; exact hin) rfl rfl hd fun H1 e1 z oq => ?_
  refine kk _ rfl H1 _ ls (hP.put ab_si_n z oq ?_ (fun b hb => ab_si_ne hb)) (hS.put z oq (Nat.le_add_right _ _)) hl
  rw [ab_e_b ht]
  show H1[G.1 + a]? = some (vp_cell _ _)
  rw [e1, vp_cell_i, vp_cell_i, arrV_store, ← ab_upd_eq]
  rfl
/-- a reference into a row of references; null into one -/
theorem ab_updq_eq (G : ab_G) (h : hp_T) (a i : Nat) (x : Option Nat) : (fun q => updV (fun j => va_rf (ab_q G h a j)) i (va_rf (x.map (fun q => G.1 + q))) q) = fun q => va_rf (ab_q G (hp_sr h a i x) a q) := by
  funext q
  by_cases hq : q = i
  · subst hq
    simp [updV, hp_sr, ab_q, hp_r]
  · simp [updV, hp_sr, ab_q, hp_r, hq]
theorem ab_aast (C : ab_C G F R cc nL own ret nm) {a N ca ci t0 v : Nat} {CN : String} {T : u_T} {NF : Nat} {i : Int32} (ht : ab_k a = ca) (h1 : 12 ≤ ca) (h2 : ca < 16) (hty : ∀ G : ab_G, (ab_tys G)[t0]? = some (G.2.2.1 ca, .object CN)) (hc : vwCl[ci]? = some (CN, T, NF)) (hn : a < hp_n h) (hL : hp_l h a = N) (hin : vp_in i N) (hv : ab_k v = ci) (hci : ci < 9) (hvn : v < hp_n h) (hd : decode cc pc = .ok (.aastore, 1)) (kk : ∀ h1, h1 = hp_sr h a i.toNatClampNeg (some v) → ab_W l G F nL Q k n h1 lv st (pc + 1)) : ab_W l G F nL Q k n h lv (.ref (G.1 + v) :: .int i :: .ref (G.1 + a) :: st) pc := by
  obtain ⟨p, e, R', s, m, args, below, meth, c⟩ := F
  obtain ⟨hR, hx, hb, hml, hown, hts, hU, hr, hlk, hnm, hB⟩ := C
  intro H locs ls hP hS hl
  subst hL
  have hat := hP.2 a hn
  rw [ab_e_q ht h1 h2] at hat
  have hav := hP.2 v hvn
  rw [ab_e_o hv hci] at hav
  have hlt : i.toNatClampNeg < hp_l h a := Nat.not_le.mp fun q => hin (Or.inr q)
  have h0 : ¬ i < 0 := fun q => hin (Or.inl q)
  obtain ⟨r', hr', cellV, g1, g2, g3, -⟩ := hav
  have hcls := (hU.1.1.1 ci _ hc).2
  obtain ⟨kA, comp, k1, k2, k3, -⟩ := (hU.1.1.2 t0 _ (hty G)).2
  have hcomp : comp = G.2.1.1 ci := Option.some.inj (k3.symm.trans hcls.1)
  subst hcomp
  obtain ⟨kC, hkC, -⟩ := hcls.2
  refine W.aast hx hb hat (fun q h => by cases h) (fun h => by cases h) k1 k2 rfl hkC ⟨h0, by show _ < (arrV _ _ _).slots.size; rw [arrV_size]; exact hlt⟩ g1 (fun q h => by rw [g3] at h; cases h) (by rw [g2]; exact hkC) (by rw [g2]; exact va_assign hcls) rfl rfl hd fun H1 e1 z oq => ?_
  refine kk _ rfl H1 _ ls (hP.put ab_sr_n z oq ?_ (fun b hb => ab_sr_ne hb)) (hS.put z oq (Nat.le_add_right _ _)) hl
  rw [ab_e_q ht h1 h2]
  show H1[G.1 + a]? = some (vp_cell _ _)
  rw [e1, vp_cell_q, vp_cell_q, arrV_store, ← ab_updq_eq]
  rfl
theorem ab_aastN (C : ab_C G F R cc nL own ret nm) {a N ca t0 : Nat} {CN : String} {i : Int32} (ht : ab_k a = ca) (h1 : 12 ≤ ca) (h2 : ca < 16) (hty : ∀ G : ab_G, (ab_tys G)[t0]? = some (G.2.2.1 ca, .object CN)) (hn : a < hp_n h) (hL : hp_l h a = N) (hin : vp_in i N) (hd : decode cc pc = .ok (.aastore, 1)) (kk : ∀ h1, h1 = hp_sr h a i.toNatClampNeg none → ab_W l G F nL Q k n h1 lv st (pc + 1)) : ab_W l G F nL Q k n h lv (.null :: .int i :: .ref (G.1 + a) :: st) pc := by
  obtain ⟨p, e, R', s, m, args, below, meth, c⟩ := F
  obtain ⟨hR, hx, hb, hml, hown, hts, hU, hr, hlk, hnm, hB⟩ := C
  intro H locs ls hP hS hl
  subst hL
  have hat := hP.2 a hn
  rw [ab_e_q ht h1 h2] at hat
  refine va_WaastN (C := CN) hx hb hat ((hU.1.1.2 t0 _ (hty G)).1 (hp_l h a) (fun j => va_rf (ab_q G h a j))) (fun h => by cases h) (by show ¬ (i < 0 ∨ (arrV _ _ _).slots.size ≤ _); rw [arrV_size]; exact hin) rfl rfl hd fun H1 e1 z oq => ?_
  refine kk _ rfl H1 _ ls (hP.put ab_sr_n z oq ?_ (fun b hb => ab_sr_ne hb)) (hS.put z oq (Nat.le_add_right _ _)) hl
  rw [ab_e_q ht h1 h2]
  show H1[G.1 + a]? = some (vp_cell _ _)
  rw [e1, vp_cell_q, vp_cell_q, arrV_store, ← ab_updq_eq]
  rfl
/-! the two static rows -/
theorem ab_getsA (C : ab_C G F R cc nL own ret nm) {idx : Nat} (hw : ∀ U, ab_N U → va_Nw (.fieldLinkNest own idx RX7 "ABOVE" "[I" RX7) U) (hd : decode cc pc = .ok (.getstatic idx, 3)) (kk : ab_W l G F nL Q k n h lv (.ref G.2.2.2.1 :: st) (pc + 3)) : ab_W l G F nL Q k n h lv st pc := by
  obtain ⟨p, e, R', s, m, args, below, meth, c⟩ := F
  obtain ⟨hR, hx, hb, hml, hown, hts, hU, hr, hlk, hnm, hB⟩ := C
  intro H locs ls hP hS hl
  exact va_getsN hx hb (C := "DailyRelief") (n := "ABOVE") (d := "[I") (ref := RX7) hU.2.1.1 hS hown ((hw s hU.1.2).use rfl) (fun _ z => z) hd (kk H locs ls hP hS hl)
theorem ab_getsB (C : ab_C G F R cc nL own ret nm) {idx : Nat} (hw : Cond.fieldLink own idx "DailyRelief$Voices" "BODIES" "[I" ∈ ab_ws) (hd : decode cc pc = .ok (.getstatic idx, 3)) (kk : ab_W l G F nL Q k n h lv (.ref G.2.2.2.2 :: st) (pc + 3)) : ab_W l G F nL Q k n h lv st pc := by
  obtain ⟨p, e, R', s, m, args, below, meth, c⟩ := F
  obtain ⟨hR, hx, hb, hml, hown, hts, hU, hr, hlk, hnm, hB⟩ := C
  intro H locs ls hP hS hl
  exact va_gets hx hb (C := "DailyRelief$Voices") (n := "BODIES") (d := "[I") (ref := "DailyRelief$Voices") hU.2.2.1 hS hown (hts _ hw) (fun _ z => z) hd (kk H locs ls hP hS hl)
theorem ab_taldA (C : ab_C G F R cc nL own ret nm) {i : Int32} (hin : vp_in i 7) (hd : decode cc pc = .ok (.iaload, 1)) (kk : ab_W l G F nL Q k n h lv (.int (ab_abv i.toNatClampNeg) :: st) (pc + 1)) : ab_W l G F nL Q k n h lv (.int i :: .ref G.2.2.2.1 :: st) pc := by
  obtain ⟨p, e, R', s, m, args, below, meth, c⟩ := F
  obtain ⟨hR, hx, hb, hml, hown, hts, hU, hr, hlk, hnm, hB⟩ := C
  intro H locs ls hP hS hl
  exact va_ti hx hb hU.2.1.2 hS hin rfl hd (kk H locs ls hP hS hl)
theorem ab_taldB (C : ab_C G F R cc nL own ret nm) {i : Int32} (hin : vp_in i 28) (hd : decode cc pc = .ok (.iaload, 1)) (kk : ab_W l G F nL Q k n h lv (.int (ab_bod i.toNatClampNeg) :: st) (pc + 1)) : ab_W l G F nL Q k n h lv (.int i :: .ref G.2.2.2.2 :: st) pc := by
  obtain ⟨p, e, R', s, m, args, below, meth, c⟩ := F
  obtain ⟨hR, hx, hb, hml, hown, hts, hU, hr, hlk, hnm, hB⟩ := C
  intro H locs ls hP hS hl
  exact va_ti hx hb hU.2.2.2 hS hin rfl hd (kk H locs ls hP hS hl)
/-! new objects, new rows -/
theorem ab_new (C : ab_C G F R cc nL own ret nm) {idx ci : Nat} {CN : String} {T : u_T} {N : Nat} {t0 : Nat → FieldType} (hcl : ab_cls ci CN T N t0) (hw : Cond.classLink own idx CN ∈ ab_ws ∧ Cond.instantiable CN N ∈ ab_ws ∧ Cond.initialized CN ∈ ab_ws) (ht : ab_k (hp_n h) = ci) (hcells : k + 1 ≤ R.cells) (hslots : n + N ≤ R.slots) (hd : decode cc pc = .ok (.new idx, 3)) (kk : ∀ h1, h1 = hp_no h → ab_W l G F nL Q (k + 1) (n + N) h1 lv (.ref (G.1 + hp_n h) :: st) (pc + 3)) : ab_W l G F nL Q k n h lv st pc := by
  obtain ⟨p, e, R', s, m, args, below, meth, c⟩ := F
  obtain ⟨hR, hx, hb, hml, hown, hts, hU, hr, hlk, hnm, hB⟩ := C
  intro H locs ls hP hS hl
  obtain ⟨hc9, hc, hin, hnf, hty, hnd, hdf⟩ := hcl
  subst hR
  have hKn := hU.1.1.1 ci _ hc
  refine W.newcK hx hb hown (hts _ hw.1) (hts _ hw.2.1) (hts _ hw.2.2) rfl hd hcells hslots hKn.2.1 rfl fun H1 kC hkC e1 z1 o1 => ?_
  rw [hP.1]
  refine kk _ rfl H1 locs ls (hP.push ab_no_n z1 o1 ?_ (fun b hb => ab_no_ne hb)) ⟨Nat.le_trans hS.1 (by omega), fun x g1 g2 => (o1 x (Nat.lt_of_lt_of_le g1 hS.1)).trans (hS.2.1 x g1 g2), hS.2.2⟩ hl
  rw [ab_e_o ht hc9]
  rw [hP.1] at e1
  refine ⟨_, hc, (u_born t0 hts hin hKn hkC e1 hty).to ?_⟩
  intro j hj
  show _ = (ab_o G (hp_no h) (hp_n h)).getD j .null
  rw [List.getD_eq_getElem?_getD, ab_o_get ht (by rw [hnf]; exact hj), hdf j hj]
  simp only [ab_v, ht, Option.getD_some]
  have er : hp_r (hp_no h) (hp_n h) j = none := by exact if_pos rfl
  have ei : hp_i (hp_no h) (hp_n h) j = 0 := by exact if_pos rfl
  rw [er, ei]
  rfl
theorem ab_na_i (h : hp_T) (N j : Nat) : hp_i (hp_na h N) (hp_n h) j = 0 := by exact if_pos rfl
theorem ab_na_r (h : hp_T) (N j : Nat) : hp_r (hp_na h N) (hp_n h) j = none := by exact if_pos rfl
theorem ab_na_l (h : hp_T) (N : Nat) : hp_l (hp_na h N) (hp_n h) = N := by exact if_pos rfl
theorem ab_newI (C : ab_C G F R cc nL own ret nm) {i : Int32} {N : Nat} (hw : Cond.arrayClass .int ∈ ab_ws) (ht : 16 ≤ ab_k (hp_n h)) (hi : ¬ i < 0) (hN : i.toNatClampNeg = N) (hsm : N ≤ 1000) (hcells : k + 1 ≤ R.cells) (hslots : n + N ≤ R.slots) (hd : decode cc pc = .ok (.newarray .int, 2)) (kk : ∀ h1, h1 = hp_na h N → ab_W l G F nL Q (k + 1) (n + N) h1 lv (.ref (G.1 + hp_n h) :: st) (pc + 2)) : ab_W l G F nL Q k n h lv (.int i :: st) pc := by
  obtain ⟨p, e, R', s, m, args, below, meth, c⟩ := F
  obtain ⟨hR, hx, hb, hml, hown, hts, hU, hr, hlk, hnm, hB⟩ := C
  intro H locs ls hP hS hl
  subst hR
  refine va_newaK (atype := .int) hx hb (hts _ hw) rfl hd rfl hi hN (by show N * 4 ≤ 536870912; omega) hcells hslots rfl fun H1 cA e1 z1 o1 hAr hNm => ?_
  have hcA : cA = G.2.2.1 10 := Option.some.inj (hNm.symm.trans (hU.1.1.2 0 _ rfl).2)
  subst hcA
  rw [hP.1]
  refine kk _ rfl H1 locs ls (hP.push ab_na_n z1 o1 ?_ (fun b hb => ab_na_ne hb)) ⟨Nat.le_trans hS.1 (by omega), fun x g1 g2 => (o1 x (Nat.lt_of_lt_of_le g1 hS.1)).trans (hS.2.1 x g1 g2), hS.2.2⟩ hl
  rw [ab_e_i ht, ab_na_l]
  rw [hP.1] at e1
  show H1[_]? = some (vp_cell _ _)
  rw [e1, vp_cell_i, show hp_i (hp_na h N) (hp_n h) = fun _ => 0 from funext fun j => ab_na_i h N j]
  rfl
theorem ab_newB (C : ab_C G F R cc nL own ret nm) {i : Int32} {N : Nat} (hw : Cond.arrayClass .byte ∈ ab_ws) (ht : ab_k (hp_n h) = 11) (hi : ¬ i < 0) (hN : i.toNatClampNeg = N) (hsm : N ≤ 1000) (hcells : k + 1 ≤ R.cells) (hslots : n + N ≤ R.slots) (hd : decode cc pc = .ok (.newarray .byte, 2)) (kk : ∀ h1, h1 = hp_na h N → ab_W l G F nL Q (k + 1) (n + N) h1 lv (.ref (G.1 + hp_n h) :: st) (pc + 2)) : ab_W l G F nL Q k n h lv (.int i :: st) pc := by
  obtain ⟨p, e, R', s, m, args, below, meth, c⟩ := F
  obtain ⟨hR, hx, hb, hml, hown, hts, hU, hr, hlk, hnm, hB⟩ := C
  intro H locs ls hP hS hl
  subst hR
  refine va_newaK (atype := .byte) hx hb (hts _ hw) rfl hd rfl hi hN (by show N * 1 ≤ 536870912; omega) hcells hslots rfl fun H1 cA e1 z1 o1 hAr hNm => ?_
  have hcA : cA = G.2.2.1 11 := Option.some.inj (hNm.symm.trans (hU.1.1.2 1 _ rfl).2)
  subst hcA
  rw [hP.1]
  refine kk _ rfl H1 locs ls (hP.push ab_na_n z1 o1 ?_ (fun b hb => ab_na_ne hb)) ⟨Nat.le_trans hS.1 (by omega), fun x g1 g2 => (o1 x (Nat.lt_of_lt_of_le g1 hS.1)).trans (hS.2.1 x g1 g2), hS.2.2⟩ hl
  rw [ab_e_b ht, ab_na_l]
  rw [hP.1] at e1
  show H1[_]? = some (vp_cell _ _)
  rw [e1, vp_cell_i, show hp_i (hp_na h N) (hp_n h) = fun _ => 0 from funext fun j => ab_na_i h N j]
  rfl
theorem ab_newQ (C : ab_C G F R cc nL own ret nm) {idx ca t0 : Nat} {CN : String} {i : Int32} {N : Nat} (hw : Cond.classLink own idx CN ∈ ab_ws) (hover : ∀ U, ab_N U → va_AO CN U) (hty : ∀ G : ab_G, (ab_tys G)[t0]? = some (G.2.2.1 ca, .object CN)) (h1 : 12 ≤ ca) (h2 : ca < 16) (ht : ab_k (hp_n h) = ca) (hi : ¬ i < 0) (hN : i.toNatClampNeg = N) (hsm : N ≤ 1000) (hcells : k + 1 ≤ R.cells) (hslots : n + N ≤ R.slots) (hd : decode cc pc = .ok (.anewarray idx, 3)) (kk : ∀ h1, h1 = hp_na h N → ab_W l G F nL Q (k + 1) (n + N) h1 lv (.ref (G.1 + hp_n h) :: st) (pc + 3)) : ab_W l G F nL Q k n h lv (.int i :: st) pc := by
  obtain ⟨p, e, R', s, m, args, below, meth, c⟩ := F
  obtain ⟨hR, hx, hb, hml, hown, hts, hU, hr, hlk, hnm, hB⟩ := C
  intro H locs ls hP hS hl
  subst hR
  subst hN
  refine W.anew hx hb hown (hts _ hw) (va_AO.use (hover s hU.1.2)) rfl hd rfl hi (by omega) hcells hslots fun cA kA comp f1 f2 f3 f4 => ?_
  obtain ⟨kA', comp', k1, k2, k3, k4⟩ := (hU.1.1.2 t0 _ (hty G)).2
  have hcA : cA = G.2.2.1 ca := Option.some.inj (f1.symm.trans k4)
  subst hcA
  generalize hH1 : H.push ({ cls := G.2.2.1 ca, slots := Array.replicate i.toNatClampNeg .null, vm := .none } : Cell) = H1
  have z1 : H1.size = H.size + 1 := by rw [← hH1, Array.size_push]
  have e1 : H1[H.size]? = some (arrV (G.2.2.1 ca) i.toNatClampNeg (fun _ => .null)) := by rw [← hH1, Array.getElem?_push_size, ← arrV_new]
  have o1 : ∀ q : Nat, q < H.size → H1[q]? = H[q]? := fun q hq => by rw [← hH1, Array.getElem?_push, if_neg (Nat.ne_of_lt hq)]
  rw [hP.1]
  refine kk _ rfl H1 locs ls (hP.push ab_na_n z1 o1 ?_ (fun b hb => ab_na_ne hb)) ⟨Nat.le_trans hS.1 (by omega), fun x g1 g2 => (o1 x (Nat.lt_of_lt_of_le g1 hS.1)).trans (hS.2.1 x g1 g2), hS.2.2⟩ hl
  rw [ab_e_q ht h1 h2, ab_na_l]
  rw [hP.1] at e1
  show H1[_]? = some (vp_cell _ _)
  rw [e1, vp_cell_q, show ab_q G (hp_na h i.toNatClampNeg) (hp_n h) = fun _ => none from funext fun j => by unfold ab_q; rw [ab_na_r]; rfl]
  rfl
end AB
end
section
/-! ===== calls ===== -/
def ab_ok (y : MethodName) (n : Nat) : Prop := y.cls ≠ "java/lang/invoke/MethodHandle" ∧ y.cls ≠ "java/lang/invoke/VarHandle" ∧ (parseMethodDescriptor y.desc).map (fun d => d.parameters.length) = some n
/-- a static call, a static call of a nest mate's private method -/
def ab_LS (own : String) (idx : Nat) (y : MethodName) (cc : ByteArray) (nL : Nat) (ret : Option FieldType) (n : Nat) : Prop := Cond.methodLink own idx y ∈ ab_ws ∧ Cond.static y ∈ ab_ws ∧ Cond.initialized y.cls ∈ ab_ws ∧ Cond.code y cc nL ret ∈ ab_ws ∧ ab_ok y n
def ab_LN (own : String) (idx : Nat) (host : String) (y : MethodName) (cc : ByteArray) (nL : Nat) (ret : Option FieldType) (n : Nat) : Prop := (∀ U, ab_N U → va_Nw (.methodLinkNest own idx y host) U) ∧ Cond.static y ∈ ab_ws ∧ Cond.initialized y.cls ∈ ab_ws ∧ Cond.code y cc nL ret ∈ ab_ws ∧ ab_ok y n
/-- a virtual call -/
def ab_LV (own : String) (idx : Nat) (y : MethodName) (cc : ByteArray) (nL : Nat) (ret : Option FieldType) (n : Nat) : Prop := Cond.methodLink own idx y ∈ ab_ws ∧ Cond.instanceMethod y ∈ ab_ws ∧ Cond.selects y.cls y y ∈ ab_ws ∧ Cond.initialized y.cls ∈ ab_ws ∧ Cond.code y cc nL ret ∈ ab_ws ∧ ab_ok y n
/-- a constructor's call, that of a nest mate's private one -/
def ab_LI (own : String) (idx : Nat) (y : MethodName) (cc : ByteArray) (nL : Nat) (n : Nat) : Prop := Cond.methodLink own idx y ∈ ab_ws ∧ Cond.instanceMethod y ∈ ab_ws ∧ y.name = "<init>" ∧ Cond.initialized y.cls ∈ ab_ws ∧ Cond.code y cc nL none ∈ ab_ws ∧ ab_ok y n
def ab_LJ (own : String) (idx : Nat) (host : String) (y : MethodName) (cc : ByteArray) (nL : Nat) (n : Nat) : Prop := (∀ U, ab_N U → va_Nw (.methodLinkNest own idx y host) U) ∧ Cond.instanceMethod y ∈ ab_ws ∧ y.name = "<init>" ∧ Cond.initialized y.cls ∈ ab_ws ∧ Cond.code y cc nL none ∈ ab_ws ∧ ab_ok y n
/-- the callee's room within the caller's -/
def ab_fit (rm R : Room) (nL mc ms k n : Nat) : Prop := rm.cells = mc ∧ rm.slots = ms ∧ rm.frames + 1 ≤ R.frames ∧ 8 + (nL + 11) + rm.locals ≤ R.locals ∧ k + mc ≤ R.cells ∧ n + ms ≤ R.slots
theorem ab_blind (G : ab_G) (h : hp_T) (av : List Value) : FrameBlind (va_Pc av (fun U => ab_P G h U.heap ∧ ab_U G U)) := fun a U g mk q => ⟨q.1, q.2.1, q.2.2.blind g mk a⟩
theorem ab_pre {G : ab_G} {h : hp_T} {s : State} {H : Heap} {locs : List Loc} {av : List Value} (hU : ab_U G s) (hP : ab_P G h H) (hS : va_S (fun q => G.1 ≤ q) s.heap H locs) : ∀ U : State, U.heap = H → s.WarmedH U.vm → va_Pc av (fun U => ab_P G h U.heap ∧ ab_U G U) av.toArray U :=
  fun U hUH hW => ⟨rfl, by rw [hUH]; exact hP, hU.moved (fun q h1 h2 => by rw [hUH]; exact hS.2.1 q h1 h2) hW⟩
theorem ab_recv {G : ab_G} {h : hp_T} {s : State} {H : Heap} {b ci : Nat} {CN : String} {T : u_T} {N : Nat} (hU : ab_U G s) (hP : ab_P G h H) (hc : vwCl[ci]? = some (CN, T, N)) (hci : ci < 9) (ht : ab_k b = ci) (hn : b < hp_n h) : ∃ cell : Cell, H[G.1 + b]? = some cell ∧ cell.vm.isStatics = false ∧ s.vm.findClass CN = some cell.cls := by
  have hat := hP.2 b hn
  rw [ab_e_o ht hci] at hat
  exact va_recv hU.1.1 (ab_at1 hat) (ci := ci) (q0 := 0) hc rfl
section AB
variable {l : Launch} {G : ab_G} {F : ab_F} {R : Room} {cc : ByteArray} {nL : Nat} {own : String} {ret : Option FieldType} {nm : String} {Q : State → Prop} {k n : Nat} {h : hp_T} {lv : List (Nat × Value)} {st : List Value} {pc : Nat} {post : Option Value → hp_T → Prop}
theorem ab_run {p : Program} {e : Env} {s : State} {m : MethodId} {args : Array Value} {below : List Frame} {meth : Method} {c : Code} {H : Heap} {locs : List Loc} {ls : Array Slot} {mc ms : Nat} {rest st0 : List Value} {a : Array Value} (hr : va_Run p l e R s m args below meth c H locs k n mc ms (F0 m pc ls st0) rest (ab_Q G post a) (fun q => G.1 ≤ q)) (hS : va_S (fun q => G.1 ≤ q) s.heap H locs)
    (kk : ∀ (r : Option Value) (h1 : hp_T), post r h1 → ∀ (H1 : Heap) (locs1 : List Loc), ab_P G h1 H1 → va_S (fun q => G.1 ≤ q) s.heap H1 locs1 → W p l e R s m args below meth c H1 locs1 (k + mc) (n + ms) Q (F0 m (pc + 3) ls (r.toList ++ rest))) : W p l e R s m args below meth c H locs k n Q (F0 m pc ls st0) := by
  intro T hT X
  obtain ⟨v, st₀, t, T', L, h0, X', hL, e1, e2, ⟨⟨r, h1, hv, hp, hb⟩, hz, hk⟩, st⟩ := hr T hT X
  cases hv
  rw [h0] at hz hk
  obtain ⟨t2, a1, b1⟩ := kk v h1 hp T'.heap (locs ++ L) (by rw [e1]; exact hb)
    ⟨Nat.le_trans hS.1 (by rw [e1]; exact hz), fun q g1 g2 => by rw [e1, hk q (Nat.lt_of_lt_of_le g1 hS.1) g2]; exact hS.2.1 q g1 g2, fun q hq => by
      rcases List.mem_append.mp hq with g | g
      · exact hS.2.2 q g
      · exact hL q g⟩ T' rfl X'
  exact ⟨t2, st t2 a1, b1⟩
theorem ab_callS (C : ab_C G F R cc nL own ret nm) {idx : Nat} {y : MethodName} {cb : ByteArray} {nb nn mc ms : Nat} {rt : Option FieldType} {rm : Room} (As : List Value) (lk : ab_LS own idx y cb nb rt nn) (M : ab_M l G y cb nb rt rm mc ms As h post) (hfit : ab_fit rm R nb mc ms k n) (hlen : As.length = nn) {rest : List Value} (hst : st = As.reverse ++ rest) (hW : (rest.map fun v => v.category).sum ≤ 8) (hd : decode cc pc = .ok (.invokestatic idx, 3))
    (kk : ∀ (r : Option Value) (h1 : hp_T), post r h1 → ab_W l G F nL Q (k + mc) (n + ms) h1 lv (r.toList ++ rest) (pc + 3)) : ab_W l G F nL Q k n h lv st pc := by
  obtain ⟨p, e, R', s, m, args, below, meth, c⟩ := F
  obtain ⟨hR, hx, hb, hml, hown, hts, hU, hr, hlk, hnm, hB⟩ := C
  intro H locs ls hP hS hl
  subst hR
  obtain ⟨l1, l2, l3, l4, l5⟩ := lk
  obtain ⟨f1, f2, f3, f4, f5, f6⟩ := hfit
  exact ab_run (va_runS (Ts := ab_ws) (own := own) ⟨hx, hb, hml, hown, hts⟩ M ⟨callB_of nn hts (ab_goodIn0 l4) rfl f1 f2 (hts _ l3) (hts _ l1) l5 ⟨f3, f4⟩, hts _ l2⟩ ⟨ab_blind G h As, ab_pre hU hP hS⟩ rfl hlen hl.1 hst (lv_room hW) hd ⟨f5, f6⟩) hS (fun r h1 hq H1 locs1 hP1 hS1 => kk r h1 hq H1 locs1 ls hP1 hS1 hl)
theorem ab_callN (C : ab_C G F R cc nL own ret nm) {idx : Nat} {host : String} {y : MethodName} {cb : ByteArray} {nb nn mc ms : Nat} {rt : Option FieldType} {rm : Room} (As : List Value) (lk : ab_LN own idx host y cb nb rt nn) (M : ab_M l G y cb nb rt rm mc ms As h post) (hfit : ab_fit rm R nb mc ms k n) (hlen : As.length = nn) {rest : List Value} (hst : st = As.reverse ++ rest) (hW : (rest.map fun v => v.category).sum ≤ 8) (hd : decode cc pc = .ok (.invokestatic idx, 3))
    (kk : ∀ (r : Option Value) (h1 : hp_T), post r h1 → ab_W l G F nL Q (k + mc) (n + ms) h1 lv (r.toList ++ rest) (pc + 3)) : ab_W l G F nL Q k n h lv st pc := by
  obtain ⟨p, e, R', s, m, args, below, meth, c⟩ := F
  obtain ⟨hR, hx, hb, hml, hown, hts, hU, hr, hlk, hnm, hB⟩ := C
  intro H locs ls hP hS hl
  subst hR
  obtain ⟨l1, l2, l3, l4, l5⟩ := lk
  obtain ⟨f1, f2, f3, f4, f5, f6⟩ := hfit
  exact ab_run (va_runSN (Ts := ab_ws) (own := own) (host := host) ⟨hx, hb, hml, hown, hts⟩ M ⟨va_cnB nn hts (ab_goodIn0 l4) rfl f1 f2 (l1 s hU.1.2) (hts _ l3) l5 ⟨f3, f4⟩, hts _ l2, trivial⟩ ⟨ab_blind G h As, ab_pre hU hP hS⟩ rfl hlen hl.1 hst (lv_room hW) hd ⟨f5, f6⟩) hS (fun r h1 hq H1 locs1 hP1 hS1 => kk r h1 hq H1 locs1 ls hP1 hS1 hl)
theorem ab_callV (C : ab_C G F R cc nL own ret nm) {idx : Nat} {y : MethodName} {cb : ByteArray} {nb nn mc ms b ci : Nat} {T : u_T} {N : Nat} {rt : Option FieldType} {rm : Room} (As : List Value) (lk : ab_LV own idx y cb nb rt nn) (M : ab_M l G y cb nb rt rm mc ms (.ref (G.1 + b) :: As) h post) (hc : vwCl[ci]? = some (y.cls, T, N)) (hci : ci < 9) (ht : ab_k b = ci) (hn : b < hp_n h) (hfit : ab_fit rm R nb mc ms k n) (hlen : As.length = nn) {rest : List Value} (hst : st = As.reverse ++ .ref (G.1 + b) :: rest) (hW : (rest.map fun v => v.category).sum ≤ 8) (hd : decode cc pc = .ok (.invokevirtual idx, 3))
    (kk : ∀ (r : Option Value) (h1 : hp_T), post r h1 → ab_W l G F nL Q (k + mc) (n + ms) h1 lv (r.toList ++ rest) (pc + 3)) : ab_W l G F nL Q k n h lv st pc := by
  obtain ⟨p, e, R', s, m, args, below, meth, c⟩ := F
  obtain ⟨hR, hx, hb, hml, hown, hts, hU, hr, hlk, hnm, hB⟩ := C
  intro H locs ls hP hS hl
  subst hR
  obtain ⟨l1, l2, l3, l4, l5, l6⟩ := lk
  obtain ⟨f1, f2, f3, f4, f5, f6⟩ := hfit
  exact ab_run (va_runV (Ts := ab_ws) (own := own) (C := y.cls) ⟨hx, hb, hml, hown, hts⟩ M ⟨callB_of nn hts (ab_goodIn0 l5) rfl f1 f2 (hts _ l4) (hts _ l1) l6 ⟨f3, f4⟩, hts _ l2, hts _ l3⟩ ⟨ab_blind G h _, ab_recv hU hP hc hci ht hn, ab_pre hU hP hS⟩ rfl hlen hl.1 hst (lv_room hW) hd ⟨f5, f6⟩) hS (fun r h1 hq H1 locs1 hP1 hS1 => kk r h1 hq H1 locs1 ls hP1 hS1 hl)
theorem ab_callI (C : ab_C G F R cc nL own ret nm) {idx : Nat} {y : MethodName} {cb : ByteArray} {nb nn mc ms b : Nat} {rm : Room} (As : List Value) (lk : ab_LI own idx y cb nb nn) (M : ab_M l G y cb nb none rm mc ms (.ref (G.1 + b) :: As) h post) (hfit : ab_fit rm R nb mc ms k n) (hlen : As.length = nn) {rest : List Value} (hst : st = As.reverse ++ .ref (G.1 + b) :: rest) (hW : (rest.map fun v => v.category).sum ≤ 8) (hd : decode cc pc = .ok (.invokespecial idx, 3))
    (kk : ∀ (r : Option Value) (h1 : hp_T), post r h1 → ab_W l G F nL Q (k + mc) (n + ms) h1 lv (r.toList ++ rest) (pc + 3)) : ab_W l G F nL Q k n h lv st pc := by
  obtain ⟨p, e, R', s, m, args, below, meth, c⟩ := F
  obtain ⟨hR, hx, hb, hml, hown, hts, hU, hr, hlk, hnm, hB⟩ := C
  intro H locs ls hP hS hl
  subst hR
  obtain ⟨l1, l2, l3, l4, l5, l6⟩ := lk
  obtain ⟨f1, f2, f3, f4, f5, f6⟩ := hfit
  exact ab_run (va_runI (Ts := ab_ws) (own := own) ⟨hx, hb, hml, hown, hts⟩ M ⟨callB_of nn hts (ab_goodIn0 l5) rfl f1 f2 (hts _ l4) (hts _ l1) l6 ⟨f3, f4⟩, l3, hts _ l2⟩ ⟨ab_blind G h _, ab_pre hU hP hS⟩ rfl hlen hl.1 hst (lv_room hW) hd ⟨f5, f6⟩) hS (fun r h1 hq H1 locs1 hP1 hS1 => kk r h1 hq H1 locs1 ls hP1 hS1 hl)
theorem ab_callJ (C : ab_C G F R cc nL own ret nm) {idx : Nat} {host : String} {y : MethodName} {cb : ByteArray} {nb nn mc ms b : Nat} {rm : Room} (As : List Value) (lk : ab_LJ own idx host y cb nb nn) (M : ab_M l G y cb nb none rm mc ms (.ref (G.1 + b) :: As) h post) (hfit : ab_fit rm R nb mc ms k n) (hlen : As.length = nn) {rest : List Value} (hst : st = As.reverse ++ .ref (G.1 + b) :: rest) (hW : (rest.map fun v => v.category).sum ≤ 8) (hd : decode cc pc = .ok (.invokespecial idx, 3))
    (kk : ∀ (r : Option Value) (h1 : hp_T), post r h1 → ab_W l G F nL Q (k + mc) (n + ms) h1 lv (r.toList ++ rest) (pc + 3)) : ab_W l G F nL Q k n h lv st pc := by
  obtain ⟨p, e, R', s, m, args, below, meth, c⟩ := F
  obtain ⟨hR, hx, hb, hml, hown, hts, hU, hr, hlk, hnm, hB⟩ := C
  intro H locs ls hP hS hl
  subst hR
  obtain ⟨l1, l2, l3, l4, l5, l6⟩ := lk
  obtain ⟨f1, f2, f3, f4, f5, f6⟩ := hfit
  exact ab_run (va_runIN (Ts := ab_ws) (own := own) (host := host) ⟨hx, hb, hml, hown, hts⟩ M ⟨va_cnB nn hts (ab_goodIn0 l5) rfl f1 f2 (l1 s hU.1.2) (hts _ l4) l6 ⟨f3, f4⟩, l3, hts _ l2⟩ ⟨ab_blind G h _, ab_pre hU hP hS⟩ rfl hlen hl.1 hst (lv_room hW) hd ⟨f5, f6⟩) hS (fun r h1 hq H1 locs1 hP1 hS1 => kk r h1 hq H1 locs1 ls hP1 hS1 hl)
/-- Object's constructor -/
theorem ab_oinit (C : ab_C G F R cc nL own ret nm) {idx b : Nat} (hw : Cond.methodLink own idx objectInit ∈ ab_ws ∧ Cond.instanceMethod objectInit ∈ ab_ws ∧ Cond.code objectInit ⟨#[0xb1]⟩ 1 none ∈ ab_ws) (hf : 1 ≤ R.frames) (hlo : 30 ≤ R.locals) (hst : (st.map fun v => v.category).sum ≤ 8) (hd : decode cc pc = .ok (.invokespecial idx, 3)) (kk : ab_W l G F nL Q k n h lv st (pc + 3)) : ab_W l G F nL Q k n h lv (.ref (G.1 + b) :: st) pc := by
  obtain ⟨p, e, R', s, m, args, below, meth, c⟩ := F
  obtain ⟨hR, hx, hb, hml, hown, hts, hU, hr, hlk, hnm, hB⟩ := C
  intro H locs ls hP hS hl
  subst hR
  refine W.objInit hx hb hown (hts _ hw.1) (hts _ hw.2.1) (hts _ hw.2.2) rfl (by rw [hml]; exact hl.1) rfl hd hf (by show 2 * 0 + _ + 12 ≤ _; omega) ?_
  exact kk H locs ls hP hS hl
theorem ab_mmin (C : ab_C G F R cc nL own ret nm) {idx : Nat} {x y : Int32} (hw : Cond.methodLink own idx Lib.Math.min.name ∈ ab_ws ∧ Cond.static Lib.Math.min.name ∈ ab_ws ∧ Cond.initialized "java/lang/Math" ∈ ab_ws ∧ Cond.code Lib.Math.min.name Lib.Math.min.code 2 (some .int) ∈ ab_ws) (hf : 1 ≤ R.frames) (hlo : 30 ≤ R.locals) (hk : k ≤ R.cells) (hn : n ≤ R.slots) (hst : (st.map fun v => v.category).sum ≤ 8) (hd : decode cc pc = .ok (.invokestatic idx, 3)) (kk : ab_W l G F nL Q k n h lv (.int (if y < x then y else x) :: st) (pc + 3)) : ab_W l G F nL Q k n h lv (.int y :: .int x :: st) pc := by
  obtain ⟨p, e, R', s, m, args, below, meth, c⟩ := F
  obtain ⟨hR, hx, hb, hml, hown, hts, hU, hr, hlk, hnm, hB⟩ := C
  intro H locs ls hP hS hl
  subst hR
  exact va_mmin hx hb (hml.trans hl.1.symm) hown (hts _ hw.1) (hts _ hw.2.1) (hts _ hw.2.2.1) (hts _ hw.2.2.2) hf (by omega) hk hn hd (kk H locs ls hP hS hl)
theorem ab_mmax (C : ab_C G F R cc nL own ret nm) {idx : Nat} {x y : Int32} (hw : Cond.methodLink own idx Lib.Math.max.name ∈ ab_ws ∧ Cond.static Lib.Math.max.name ∈ ab_ws ∧ Cond.initialized "java/lang/Math" ∈ ab_ws ∧ Cond.code Lib.Math.max.name Lib.Math.max.code 2 (some .int) ∈ ab_ws) (hf : 1 ≤ R.frames) (hlo : 30 ≤ R.locals) (hk : k ≤ R.cells) (hn : n ≤ R.slots) (hst : (st.map fun v => v.category).sum ≤ 8) (hd : decode cc pc = .ok (.invokestatic idx, 3)) (kk : ab_W l G F nL Q k n h lv (.int (if x < y then y else x) :: st) (pc + 3)) : ab_W l G F nL Q k n h lv (.int y :: .int x :: st) pc := by
  obtain ⟨p, e, R', s, m, args, below, meth, c⟩ := F
  obtain ⟨hR, hx, hb, hml, hown, hts, hU, hr, hlk, hnm, hB⟩ := C
  intro H locs ls hP hS hl
  subst hR
  exact va_mmax hx hb (hml.trans hl.1.symm) hown (hts _ hw.1) (hts _ hw.2.1) (hts _ hw.2.2.1) (hts _ hw.2.2.2) hf (by omega) hk hn hd (kk H locs ls hP hS hl)
theorem ab_clamp {z : Int32} (hz : ¬ z < 0) : z.toInt = (z.toNatClampNeg : Int) := by
  have hz0 : (0 : Int) ≤ z.toInt := by
    have := Int32.not_lt.mp hz
    simpa using Int32.le_iff_toInt_le.mp this
  show z.toInt = ((z.toInt.toNat : Nat) : Int)
  omega
/-- System.arraycopy of ints, of bytes -/
def ab_row (a b t0 : Nat) (ty : FieldType) : Prop := (16 ≤ ab_k a ∧ 16 ≤ ab_k b ∧ t0 = 0 ∧ ty = .int) ∨ (ab_k a = 11 ∧ ab_k b = 11 ∧ t0 = 1 ∧ ty = .byte)
theorem ab_copy (C : ab_C G F R cc nL own ret nm) {idx a b Na Nb t0 : Nat} {ty : FieldType} {sp dp z : Int32} (hw : Cond.methodLink own idx arraycopyName ∈ ab_ws ∧ Cond.native arraycopyName ∈ ab_ws ∧ Cond.static arraycopyName ∈ ab_ws ∧ Cond.initialized "java/lang/System" ∈ ab_ws) (hab : ab_row a b t0 ty) (ha : a < hp_n h) (hbn : b < hp_n h) (hLa : hp_l h a = Na) (hLb : hp_l h b = Nb) (h1 : ¬ sp < 0) (h2 : ¬ dp < 0) (h3 : ¬ z < 0) (h4 : sp.toNatClampNeg + z.toNatClampNeg ≤ Na) (h5 : dp.toNatClampNeg + z.toNatClampNeg ≤ Nb) (hfit : ∀ i, i < z.toNatClampNeg → fits ty (.int (hp_i h a (sp.toNatClampNeg + i))) = true)
    (hf : 1 ≤ R.frames) (hlo : nativeFrameWords "java/lang/System" "arraycopy" 5 + 20 ≤ R.locals) (hst : (st.map fun v => v.category).sum ≤ 8) (hd : decode cc pc = .ok (.invokestatic idx, 3)) (kk : ∀ h1, h1 = hp_cp h a sp.toNatClampNeg b dp.toNatClampNeg z.toNatClampNeg → ab_W l G F nL Q k n h1 lv st (pc + 3)) : ab_W l G F nL Q k n h lv (.int z :: .int dp :: .ref (G.1 + b) :: .int sp :: .ref (G.1 + a) :: st) pc := by
  obtain ⟨p, e, R', s, m, args, below, meth, c⟩ := F
  obtain ⟨hR, hx, hb, hml, hown, hts, hU, hr, hlk, hnm, hB⟩ := C
  intro H locs ls hP hS hl
  subst hR
  subst hLa
  subst hLb
  have hd1 := hP.2 a ha
  have hd2 := hP.2 b hbn
  obtain ⟨cA, hty, hp, ea, eb, eb'⟩ : ∃ cA : ClassId, (ab_tys G)[t0]? = some (cA, ty) ∧ refKind ty = false ∧ ab_e G h a = .inl (cA, hp_l h a, .inl (hp_i h a)) ∧ ab_e G h b = .inl (cA, hp_l h b, .inl (hp_i h b)) ∧ ∀ h1, ab_e G h1 b = .inl (cA, hp_l h1 b, .inl (hp_i h1 b)) := by
    rcases hab with ⟨x1, x2, rfl, rfl⟩ | ⟨x1, x2, rfl, rfl⟩
    · exact ⟨_, rfl, rfl, ab_e_i x1, ab_e_i x2, fun _ => ab_e_i x2⟩
    · exact ⟨_, rfl, rfl, ab_e_b x1, ab_e_b x2, fun _ => ab_e_b x2⟩
  rw [ea] at hd1
  rw [eb] at hd2
  have hc0 : H[G.1 + a]? = some (vp_cell cA (hp_l h a, .inl (hp_i h a))) := hd1
  have hc1 : H[G.1 + b]? = some (vp_cell cA (hp_l h b, .inl (hp_i h b))) := hd2
  intro T hT X
  obtain ⟨-, k0, hk0, cm0, hkk0⟩ := (hU.1.1.2 t0 _ hty).1 (hp_l h a) (fun j => .int (hp_i h a j))
  obtain ⟨-, k1, hk1, cm1, hkk1⟩ := (hU.1.1.2 t0 _ hty).1 (hp_l h b) (fun j => .int (hp_i h b j))
  obtain ⟨vm', X', step⟩ := X.arraycopy hx hown (hts _ hw.1) (hts _ hw.2.1) (hts _ hw.2.2.1) (hts _ hw.2.2.2) (src := G.1 + a) (dst := G.1 + b) (cs := vp_cell cA (hp_l h a, .inl (hp_i h a))) (cd := vp_cell cA (hp_l h b, .inl (hp_i h b))) (srcPos := sp) (destPos := dp) (n := z) (by rw [hT]; exact hc0) (by rw [hT]; exact hc1)
    (fun _ g => by cases g) (fun _ g => by cases g) (fun g => by cases g) (fun g => by cases g) hk0 hk1 hkk0 hkk1 (by simp [hp]) h1 h2 h3
    (by rw [ab_clamp h1, ab_clamp h3]; show ¬ _ > ((arrV cA (hp_l h a) (fun j => .int (hp_i h a j))).slots.size : Int); rw [arrV_size]; omega)
    (by rw [ab_clamp h2, ab_clamp h3]; show ¬ _ > ((arrV cA (hp_l h b) (fun j => .int (hp_i h b j))).slots.size : Int); rw [arrV_size]; omega)
    (fun vm₁ _ i hi => by
      have e : (vp_cell cA (hp_l h a, .inl (hp_i h a))).slots.getD (sp.toNatClampNeg + i) .null = .int (hp_i h a (sp.toNatClampNeg + i)) := by
        show (arrV cA (hp_l h a) (fun j => .int (hp_i h a j))).slots.getD _ _ = _
        rw [Array.getD_eq_getD_getElem?, arrV_read _ _ (by omega)]
        rfl
      refine ⟨?_, ?_⟩
      · rw [e]
        exact hfit i hi
      · rw [e]
        exact trivial)
    (g := F0 m pc ls (.int z :: .int dp :: .ref (G.1 + b) :: .int sp :: .ref (G.1 + a) :: st)) rfl (by rw [hml]; exact hl.1) (rest := st) rfl (by rw [hb]; exact hd) hf (by show 2 * 0 + _ + _ ≤ _; omega)
  have e1 : copied (vp_cell cA (hp_l h a, .inl (hp_i h a))) (vp_cell cA (hp_l h b, .inl (hp_i h b))) sp dp z = vp_cell cA (hp_l h b, .inl (va_cpy (hp_i h a) (hp_i h b) sp.toNatClampNeg dp.toNatClampNeg z.toNatClampNeg)) := va_copied (fun z => .int z) cA cA (hp_i h a) (hp_i h b) h4
  rw [e1] at X' step
  have hlt : G.1 + b < H.size := (Array.getElem?_eq_some_iff.mp hc1).1
  have hheap : ((T.setVm vm').setCell (G.1 + b) (vp_cell cA (hp_l h b, .inl (va_cpy (hp_i h a) (hp_i h b) sp.toNatClampNeg dp.toNatClampNeg z.toNatClampNeg)))).heap = H.setIfInBounds (G.1 + b) (vp_cell cA (hp_l h b, .inl (va_cpy (hp_i h a) (hp_i h b) sp.toNatClampNeg dp.toNatClampNeg z.toNatClampNeg))) := by rw [← hT]; rfl
  have oq : ∀ q : Nat, q ≠ G.1 + b → (H.setIfInBounds (G.1 + b) (vp_cell cA (hp_l h b, .inl (va_cpy (hp_i h a) (hp_i h b) sp.toNatClampNeg dp.toNatClampNeg z.toNatClampNeg))))[q]? = H[q]? := fun q hq => by simp [Array.getElem?_setIfInBounds, Ne.symm hq]
  have eh : hp_i (hp_cp h a sp.toNatClampNeg b dp.toNatClampNeg z.toNatClampNeg) b = va_cpy (hp_i h a) (hp_i h b) sp.toNatClampNeg dp.toNatClampNeg z.toNatClampNeg := by
    funext x
    exact if_pos rfl
  obtain ⟨t, a1, b1⟩ := kk _ rfl _ _ ls (hP.put ab_cp_n (by simp) oq (by
      rw [eb', eh]
      show (H.setIfInBounds (G.1 + b) _)[G.1 + b]? = some _
      simp [Array.getElem?_setIfInBounds, hlt]
      rfl) (fun c hc => ab_cp_ne hc)) ⟨by simp; exact hS.1, fun q g1 g2 => by
      rw [oq q (fun e => g2 (by rw [e]; exact Nat.le_add_right _ _))]
      exact hS.2.1 q g1 g2, fun q hq => by
      rcases List.mem_append.mp hq with g | g
      · exact hS.2.2 q g
      · obtain ⟨y, -, hy⟩ := List.mem_map.mp g
        rw [← hy]
        exact Nat.le_add_right _ _⟩ hl _ hheap X'
  exact ⟨t, step t a1, b1⟩
end AB
end
