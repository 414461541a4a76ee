-- ===== PART A: goes FIRST, ahead of the names: the tables' words, and 'selects' of the private methods out of them =====
/-- a private method of a class that the tables say can be made, by its rows of tables_1 -/
def lw_okq (q : MethodName × Nat) : Prop := (q.1.cls ≠ "java/lang/invoke/MethodHandle" ∧ q.1.cls ≠ "java/lang/invoke/VarHandle") ∧ Cond.instantiable q.1.cls q.2 ∈ tables_1 ∧ Cond.privateMethod q.1 ∈ tables_1 ∧ Cond.instanceMethod q.1 ∈ tables_1
theorem lw_p0 : lw_okq (⟨"BirchLeaf", "find", "(I)I"⟩, 10) := ⟨⟨by decide +kernel, by decide +kernel⟩, List.mem_of_getElem? (i := 16) (by decide +kernel), List.mem_of_getElem? (i := 261) (by decide +kernel), List.mem_of_getElem? (i := 262) (by decide +kernel)⟩
theorem lw_p1 : lw_okq (⟨"BirchLeaf$Rows", "holds", "(III)Z"⟩, 3) := ⟨⟨by decide +kernel, by decide +kernel⟩, List.mem_of_getElem? (i := 24) (by decide +kernel), List.mem_of_getElem? (i := 282) (by decide +kernel), List.mem_of_getElem? (i := 283) (by decide +kernel)⟩
theorem lw_p2 : lw_okq (⟨"BirchLeaf$Tape", "readNight", "(LBirchLeaf$Hill;)V"⟩, 8) := ⟨⟨by decide +kernel, by decide +kernel⟩, List.mem_of_getElem? (i := 41) (by decide +kernel), List.mem_of_getElem? (i := 335) (by decide +kernel), List.mem_of_getElem? (i := 336) (by decide +kernel)⟩
theorem lw_p3 : lw_okq (⟨"BirchLeaf$Tape", "next", "()V"⟩, 8) := ⟨⟨by decide +kernel, by decide +kernel⟩, List.mem_of_getElem? (i := 41) (by decide +kernel), List.mem_of_getElem? (i := 339) (by decide +kernel), List.mem_of_getElem? (i := 340) (by decide +kernel)⟩
theorem lw_p4 : lw_okq (⟨"BirchLeaf$Tape", "isWord", "(Ljava/lang/String;)Z"⟩, 8) := ⟨⟨by decide +kernel, by decide +kernel⟩, List.mem_of_getElem? (i := 41) (by decide +kernel), List.mem_of_getElem? (i := 350) (by decide +kernel), List.mem_of_getElem? (i := 351) (by decide +kernel)⟩
theorem lw_p5 : lw_okq (⟨"BirchLeaf$Tape", "fail", "(I)V"⟩, 8) := ⟨⟨by decide +kernel, by decide +kernel⟩, List.mem_of_getElem? (i := 41) (by decide +kernel), List.mem_of_getElem? (i := 402) (by decide +kernel), List.mem_of_getElem? (i := 403) (by decide +kernel)⟩
theorem lw_p6 : lw_okq (⟨"BirchLeaf$Tape", "readNumber", "(II)I"⟩, 8) := ⟨⟨by decide +kernel, by decide +kernel⟩, List.mem_of_getElem? (i := 41) (by decide +kernel), List.mem_of_getElem? (i := 406) (by decide +kernel), List.mem_of_getElem? (i := 407) (by decide +kernel)⟩
theorem lw_p7 : lw_okq (⟨"BirchLeaf$Tape", "readSign", "()V"⟩, 8) := ⟨⟨by decide +kernel, by decide +kernel⟩, List.mem_of_getElem? (i := 41) (by decide +kernel), List.mem_of_getElem? (i := 410) (by decide +kernel), List.mem_of_getElem? (i := 411) (by decide +kernel)⟩
theorem lw_p8 : lw_okq (⟨"BirchLeaf$Tape", "readPart", "(LBirchLeaf$Hill;)Z"⟩, 8) := ⟨⟨by decide +kernel, by decide +kernel⟩, List.mem_of_getElem? (i := 41) (by decide +kernel), List.mem_of_getElem? (i := 414) (by decide +kernel), List.mem_of_getElem? (i := 415) (by decide +kernel)⟩
theorem lw_p9 : lw_okq (⟨"BirchLeaf$Tape", "readTrader", "(LBirchLeaf$Hill;)V"⟩, 8) := ⟨⟨by decide +kernel, by decide +kernel⟩, List.mem_of_getElem? (i := 41) (by decide +kernel), List.mem_of_getElem? (i := 419) (by decide +kernel), List.mem_of_getElem? (i := 420) (by decide +kernel)⟩
theorem lw_p10 : lw_okq (⟨"BirchLeaf$Tape", "readSort", "()I"⟩, 8) := ⟨⟨by decide +kernel, by decide +kernel⟩, List.mem_of_getElem? (i := 41) (by decide +kernel), List.mem_of_getElem? (i := 423) (by decide +kernel), List.mem_of_getElem? (i := 424) (by decide +kernel)⟩
theorem lw_p11 : lw_okq (⟨"BirchLeaf$Tape", "readWay", "(LBirchLeaf$Hill;)V"⟩, 8) := ⟨⟨by decide +kernel, by decide +kernel⟩, List.mem_of_getElem? (i := 41) (by decide +kernel), List.mem_of_getElem? (i := 437) (by decide +kernel), List.mem_of_getElem? (i := 438) (by decide +kernel)⟩
theorem lw_p12 : lw_okq (⟨"BirchLeaf$Acts", "keep", "(II)V"⟩, 8) := ⟨⟨by decide +kernel, by decide +kernel⟩, List.mem_of_getElem? (i := 142) (by decide +kernel), List.mem_of_getElem? (i := 494) (by decide +kernel), List.mem_of_getElem? (i := 495) (by decide +kernel)⟩
theorem lw_p13 : lw_okq (⟨"BirchLeaf$Acts", "pay", "(III)V"⟩, 8) := ⟨⟨by decide +kernel, by decide +kernel⟩, List.mem_of_getElem? (i := 142) (by decide +kernel), List.mem_of_getElem? (i := 499) (by decide +kernel), List.mem_of_getElem? (i := 500) (by decide +kernel)⟩
theorem lw_p14 : lw_okq (⟨"BirchLeaf$Foretold", "dearest", "(III)I"⟩, 7) := ⟨⟨by decide +kernel, by decide +kernel⟩, List.mem_of_getElem? (i := 174) (by decide +kernel), List.mem_of_getElem? (i := 558) (by decide +kernel), List.mem_of_getElem? (i := 559) (by decide +kernel)⟩
theorem lw_p15 : lw_okq (⟨"BirchLeaf$Foretold", "fillBest", "(IZ)V"⟩, 7) := ⟨⟨by decide +kernel, by decide +kernel⟩, List.mem_of_getElem? (i := 174) (by decide +kernel), List.mem_of_getElem? (i := 576) (by decide +kernel), List.mem_of_getElem? (i := 577) (by decide +kernel)⟩
def lw_privs_1 : List (MethodName × Nat) := [(⟨"BirchLeaf", "find", "(I)I"⟩, 10), (⟨"BirchLeaf$Rows", "holds", "(III)Z"⟩, 3), (⟨"BirchLeaf$Tape", "readNight", "(LBirchLeaf$Hill;)V"⟩, 8), (⟨"BirchLeaf$Tape", "next", "()V"⟩, 8), (⟨"BirchLeaf$Tape", "isWord", "(Ljava/lang/String;)Z"⟩, 8), (⟨"BirchLeaf$Tape", "fail", "(I)V"⟩, 8), (⟨"BirchLeaf$Tape", "readNumber", "(II)I"⟩, 8), (⟨"BirchLeaf$Tape", "readSign", "()V"⟩, 8), (⟨"BirchLeaf$Tape", "readPart", "(LBirchLeaf$Hill;)Z"⟩, 8), (⟨"BirchLeaf$Tape", "readTrader", "(LBirchLeaf$Hill;)V"⟩, 8), (⟨"BirchLeaf$Tape", "readSort", "()I"⟩, 8), (⟨"BirchLeaf$Tape", "readWay", "(LBirchLeaf$Hill;)V"⟩, 8), (⟨"BirchLeaf$Acts", "keep", "(II)V"⟩, 8), (⟨"BirchLeaf$Acts", "pay", "(III)V"⟩, 8), (⟨"BirchLeaf$Foretold", "dearest", "(III)I"⟩, 7), (⟨"BirchLeaf$Foretold", "fillBest", "(IZ)V"⟩, 7)]
theorem lw_r1 : ∀ q ∈ lw_privs_1, lw_okq q := List.forall_mem_cons.mpr ⟨lw_p0, List.forall_mem_cons.mpr ⟨lw_p1, List.forall_mem_cons.mpr ⟨lw_p2, List.forall_mem_cons.mpr ⟨lw_p3, List.forall_mem_cons.mpr ⟨lw_p4, List.forall_mem_cons.mpr ⟨lw_p5, List.forall_mem_cons.mpr ⟨lw_p6, List.forall_mem_cons.mpr ⟨lw_p7, List.forall_mem_cons.mpr ⟨lw_p8, List.forall_mem_cons.mpr ⟨lw_p9, List.forall_mem_cons.mpr ⟨lw_p10, List.forall_mem_cons.mpr ⟨lw_p11, List.forall_mem_cons.mpr ⟨lw_p12, List.forall_mem_cons.mpr ⟨lw_p13, List.forall_mem_cons.mpr ⟨lw_p14, List.forall_mem_cons.mpr ⟨lw_p15, fun _ h => absurd h List.not_mem_nil⟩⟩⟩⟩⟩⟩⟩⟩⟩⟩⟩⟩⟩⟩⟩⟩
theorem lw_p16 : lw_okq (⟨"BirchLeaf$Foretold", "bestOf", "(IIZ)I"⟩, 7) := ⟨⟨by decide +kernel, by decide +kernel⟩, List.mem_of_getElem? (i := 174) (by decide +kernel), List.mem_of_getElem? (i := 580) (by decide +kernel), List.mem_of_getElem? (i := 581) (by decide +kernel)⟩
theorem lw_p17 : lw_okq (⟨"BirchLeaf$Foretold", "fillCame", "()V"⟩, 7) := ⟨⟨by decide +kernel, by decide +kernel⟩, List.mem_of_getElem? (i := 174) (by decide +kernel), List.mem_of_getElem? (i := 636) (by decide +kernel), List.mem_of_getElem? (i := 637) (by decide +kernel)⟩
theorem lw_p18 : lw_okq (⟨"BirchLeaf$Foretold", "nextTold", "(I)I"⟩, 7) := ⟨⟨by decide +kernel, by decide +kernel⟩, List.mem_of_getElem? (i := 174) (by decide +kernel), List.mem_of_getElem? (i := 640) (by decide +kernel), List.mem_of_getElem? (i := 641) (by decide +kernel)⟩
theorem lw_p19 : lw_okq (⟨"BirchLeaf$Foretold", "goFrom", "(III)V"⟩, 7) := ⟨⟨by decide +kernel, by decide +kernel⟩, List.mem_of_getElem? (i := 174) (by decide +kernel), List.mem_of_getElem? (i := 645) (by decide +kernel), List.mem_of_getElem? (i := 646) (by decide +kernel)⟩
theorem lw_p20 : lw_okq (⟨"BirchLeaf$Foretold", "fillGoesOn", "()V"⟩, 7) := ⟨⟨by decide +kernel, by decide +kernel⟩, List.mem_of_getElem? (i := 174) (by decide +kernel), List.mem_of_getElem? (i := 649) (by decide +kernel), List.mem_of_getElem? (i := 650) (by decide +kernel)⟩
theorem lw_p21 : lw_okq (⟨"BirchLeaf$Foretold", "canGoOn", "(III)Z"⟩, 7) := ⟨⟨by decide +kernel, by decide +kernel⟩, List.mem_of_getElem? (i := 174) (by decide +kernel), List.mem_of_getElem? (i := 653) (by decide +kernel), List.mem_of_getElem? (i := 654) (by decide +kernel)⟩
theorem lw_p22 : lw_okq (⟨"BirchLeaf", "imageOf", "(I)LBirchLeaf$Hill;"⟩, 10) := ⟨⟨by decide +kernel, by decide +kernel⟩, List.mem_of_getElem? (i := 16) (by decide +kernel), List.mem_of_getElem? (i := 661) (by decide +kernel), List.mem_of_getElem? (i := 662) (by decide +kernel)⟩
theorem lw_p23 : lw_okq (⟨"BirchLeaf$Asks", "bakerSize", "(I)I"⟩, 3) := ⟨⟨by decide +kernel, by decide +kernel⟩, List.mem_of_getElem? (i := 204) (by decide +kernel), List.mem_of_getElem? (i := 693) (by decide +kernel), List.mem_of_getElem? (i := 694) (by decide +kernel)⟩
theorem lw_p24 : lw_okq (⟨"BirchLeaf$Asks", "enter", "(I)V"⟩, 3) := ⟨⟨by decide +kernel, by decide +kernel⟩, List.mem_of_getElem? (i := 204) (by decide +kernel), List.mem_of_getElem? (i := 697) (by decide +kernel), List.mem_of_getElem? (i := 698) (by decide +kernel)⟩
theorem lw_p25 : lw_okq (⟨"BirchLeaf$Asks", "bakerMark", "(I)I"⟩, 3) := ⟨⟨by decide +kernel, by decide +kernel⟩, List.mem_of_getElem? (i := 204) (by decide +kernel), List.mem_of_getElem? (i := 701) (by decide +kernel), List.mem_of_getElem? (i := 702) (by decide +kernel)⟩
theorem lw_p26 : lw_okq (⟨"BirchLeaf$Asks", "priestSize", "(I)I"⟩, 3) := ⟨⟨by decide +kernel, by decide +kernel⟩, List.mem_of_getElem? (i := 204) (by decide +kernel), List.mem_of_getElem? (i := 705) (by decide +kernel), List.mem_of_getElem? (i := 706) (by decide +kernel)⟩
theorem lw_p27 : lw_okq (⟨"BirchLeaf$Asks", "priestMark", "(I)I"⟩, 3) := ⟨⟨by decide +kernel, by decide +kernel⟩, List.mem_of_getElem? (i := 204) (by decide +kernel), List.mem_of_getElem? (i := 713) (by decide +kernel), List.mem_of_getElem? (i := 714) (by decide +kernel)⟩
theorem lw_p28 : lw_okq (⟨"BirchLeafModel", "finding", "(I)I"⟩, 30) := ⟨⟨by decide +kernel, by decide +kernel⟩, List.mem_of_getElem? (i := 733) (by decide +kernel), List.mem_of_getElem? (i := 844) (by decide +kernel), List.mem_of_getElem? (i := 845) (by decide +kernel)⟩
theorem lw_p29 : lw_okq (⟨"BirchLeafModel", "begin", "()V"⟩, 30) := ⟨⟨by decide +kernel, by decide +kernel⟩, List.mem_of_getElem? (i := 733) (by decide +kernel), List.mem_of_getElem? (i := 872) (by decide +kernel), List.mem_of_getElem? (i := 873) (by decide +kernel)⟩
theorem lw_p30 : lw_okq (⟨"BirchLeafModel", "next", "()V"⟩, 30) := ⟨⟨by decide +kernel, by decide +kernel⟩, List.mem_of_getElem? (i := 733) (by decide +kernel), List.mem_of_getElem? (i := 876) (by decide +kernel), List.mem_of_getElem? (i := 877) (by decide +kernel)⟩
theorem lw_p31 : lw_okq (⟨"BirchLeafModel", "byteAt", "(I)I"⟩, 30) := ⟨⟨by decide +kernel, by decide +kernel⟩, List.mem_of_getElem? (i := 733) (by decide +kernel), List.mem_of_getElem? (i := 880) (by decide +kernel), List.mem_of_getElem? (i := 881) (by decide +kernel)⟩
def lw_privs_2 : List (MethodName × Nat) := [(⟨"BirchLeaf$Foretold", "bestOf", "(IIZ)I"⟩, 7), (⟨"BirchLeaf$Foretold", "fillCame", "()V"⟩, 7), (⟨"BirchLeaf$Foretold", "nextTold", "(I)I"⟩, 7), (⟨"BirchLeaf$Foretold", "goFrom", "(III)V"⟩, 7), (⟨"BirchLeaf$Foretold", "fillGoesOn", "()V"⟩, 7), (⟨"BirchLeaf$Foretold", "canGoOn", "(III)Z"⟩, 7), (⟨"BirchLeaf", "imageOf", "(I)LBirchLeaf$Hill;"⟩, 10), (⟨"BirchLeaf$Asks", "bakerSize", "(I)I"⟩, 3), (⟨"BirchLeaf$Asks", "enter", "(I)V"⟩, 3), (⟨"BirchLeaf$Asks", "bakerMark", "(I)I"⟩, 3), (⟨"BirchLeaf$Asks", "priestSize", "(I)I"⟩, 3), (⟨"BirchLeaf$Asks", "priestMark", "(I)I"⟩, 3), (⟨"BirchLeafModel", "finding", "(I)I"⟩, 30), (⟨"BirchLeafModel", "begin", "()V"⟩, 30), (⟨"BirchLeafModel", "next", "()V"⟩, 30), (⟨"BirchLeafModel", "byteAt", "(I)I"⟩, 30)]
theorem lw_r2 : ∀ q ∈ lw_privs_2, lw_okq q := List.forall_mem_cons.mpr ⟨lw_p16, List.forall_mem_cons.mpr ⟨lw_p17, List.forall_mem_cons.mpr ⟨lw_p18, List.forall_mem_cons.mpr ⟨lw_p19, List.forall_mem_cons.mpr ⟨lw_p20, List.forall_mem_cons.mpr ⟨lw_p21, List.forall_mem_cons.mpr ⟨lw_p22, List.forall_mem_cons.mpr ⟨lw_p23, List.forall_mem_cons.mpr ⟨lw_p24, List.forall_mem_cons.mpr ⟨lw_p25, List.forall_mem_cons.mpr ⟨lw_p26, List.forall_mem_cons.mpr ⟨lw_p27, List.forall_mem_cons.mpr ⟨lw_p28, List.forall_mem_cons.mpr ⟨lw_p29, List.forall_mem_cons.mpr ⟨lw_p30, List.forall_mem_cons.mpr ⟨lw_p31, fun _ h => absurd h List.not_mem_nil⟩⟩⟩⟩⟩⟩⟩⟩⟩⟩⟩⟩⟩⟩⟩⟩
theorem lw_p32 : lw_okq (⟨"BirchLeafModel", "name", "()J"⟩, 30) := ⟨⟨by decide +kernel, by decide +kernel⟩, List.mem_of_getElem? (i := 733) (by decide +kernel), List.mem_of_getElem? (i := 891) (by decide +kernel), List.mem_of_getElem? (i := 892) (by decide +kernel)⟩
theorem lw_p33 : lw_okq (⟨"BirchLeafModel", "must", "(Z)V"⟩, 30) := ⟨⟨by decide +kernel, by decide +kernel⟩, List.mem_of_getElem? (i := 733) (by decide +kernel), List.mem_of_getElem? (i := 896) (by decide +kernel), List.mem_of_getElem? (i := 897) (by decide +kernel)⟩
theorem lw_p34 : lw_okq (⟨"BirchLeafModel", "bad", "(I)V"⟩, 30) := ⟨⟨by decide +kernel, by decide +kernel⟩, List.mem_of_getElem? (i := 733) (by decide +kernel), List.mem_of_getElem? (i := 900) (by decide +kernel), List.mem_of_getElem? (i := 901) (by decide +kernel)⟩
theorem lw_p35 : lw_okq (⟨"BirchLeafModel", "number", "(II)I"⟩, 30) := ⟨⟨by decide +kernel, by decide +kernel⟩, List.mem_of_getElem? (i := 733) (by decide +kernel), List.mem_of_getElem? (i := 904) (by decide +kernel), List.mem_of_getElem? (i := 905) (by decide +kernel)⟩
theorem lw_p36 : lw_okq (⟨"BirchLeafModel", "figures", "()I"⟩, 30) := ⟨⟨by decide +kernel, by decide +kernel⟩, List.mem_of_getElem? (i := 733) (by decide +kernel), List.mem_of_getElem? (i := 908) (by decide +kernel), List.mem_of_getElem? (i := 909) (by decide +kernel)⟩
theorem lw_p37 : lw_okq (⟨"BirchLeafModel", "mustEnd", "()V"⟩, 30) := ⟨⟨by decide +kernel, by decide +kernel⟩, List.mem_of_getElem? (i := 733) (by decide +kernel), List.mem_of_getElem? (i := 912) (by decide +kernel), List.mem_of_getElem? (i := 913) (by decide +kernel)⟩
theorem lw_p38 : lw_okq (⟨"BirchLeafModel", "readTrader", "()V"⟩, 30) := ⟨⟨by decide +kernel, by decide +kernel⟩, List.mem_of_getElem? (i := 733) (by decide +kernel), List.mem_of_getElem? (i := 917) (by decide +kernel), List.mem_of_getElem? (i := 918) (by decide +kernel)⟩
theorem lw_p39 : lw_okq (⟨"BirchLeafModel", "begins", "(II)V"⟩, 30) := ⟨⟨by decide +kernel, by decide +kernel⟩, List.mem_of_getElem? (i := 733) (by decide +kernel), List.mem_of_getElem? (i := 921) (by decide +kernel), List.mem_of_getElem? (i := 922) (by decide +kernel)⟩
theorem lw_p40 : lw_okq (⟨"BirchLeafModel", "readWay", "()V"⟩, 30) := ⟨⟨by decide +kernel, by decide +kernel⟩, List.mem_of_getElem? (i := 733) (by decide +kernel), List.mem_of_getElem? (i := 934) (by decide +kernel), List.mem_of_getElem? (i := 935) (by decide +kernel)⟩
theorem lw_p41 : lw_okq (⟨"BirchLeafModel", "isTrader", "(I)Z"⟩, 30) := ⟨⟨by decide +kernel, by decide +kernel⟩, List.mem_of_getElem? (i := 733) (by decide +kernel), List.mem_of_getElem? (i := 947) (by decide +kernel), List.mem_of_getElem? (i := 948) (by decide +kernel)⟩
theorem lw_p42 : lw_okq (⟨"BirchLeafModel", "passedIn", "(III)I"⟩, 30) := ⟨⟨by decide +kernel, by decide +kernel⟩, List.mem_of_getElem? (i := 733) (by decide +kernel), List.mem_of_getElem? (i := 951) (by decide +kernel), List.mem_of_getElem? (i := 952) (by decide +kernel)⟩
theorem lw_p43 : lw_okq (⟨"BirchLeafModel", "thereIn", "(III)I"⟩, 30) := ⟨⟨by decide +kernel, by decide +kernel⟩, List.mem_of_getElem? (i := 733) (by decide +kernel), List.mem_of_getElem? (i := 955) (by decide +kernel), List.mem_of_getElem? (i := 956) (by decide +kernel)⟩
theorem lw_p44 : lw_okq (⟨"BirchLeafModel", "isTaken", "(II)Z"⟩, 30) := ⟨⟨by decide +kernel, by decide +kernel⟩, List.mem_of_getElem? (i := 733) (by decide +kernel), List.mem_of_getElem? (i := 959) (by decide +kernel), List.mem_of_getElem? (i := 960) (by decide +kernel)⟩
theorem lw_p45 : lw_okq (⟨"BirchLeafModel", "of", "(II)I"⟩, 30) := ⟨⟨by decide +kernel, by decide +kernel⟩, List.mem_of_getElem? (i := 733) (by decide +kernel), List.mem_of_getElem? (i := 963) (by decide +kernel), List.mem_of_getElem? (i := 964) (by decide +kernel)⟩
theorem lw_p46 : lw_okq (⟨"BirchLeafModel", "keep", "()V"⟩, 30) := ⟨⟨by decide +kernel, by decide +kernel⟩, List.mem_of_getElem? (i := 733) (by decide +kernel), List.mem_of_getElem? (i := 968) (by decide +kernel), List.mem_of_getElem? (i := 969) (by decide +kernel)⟩
theorem lw_p47 : lw_okq (⟨"BirchLeafModel", "priceOf", "(I)I"⟩, 30) := ⟨⟨by decide +kernel, by decide +kernel⟩, List.mem_of_getElem? (i := 733) (by decide +kernel), List.mem_of_getElem? (i := 972) (by decide +kernel), List.mem_of_getElem? (i := 973) (by decide +kernel)⟩
def lw_privs_3 : List (MethodName × Nat) := [(⟨"BirchLeafModel", "name", "()J"⟩, 30), (⟨"BirchLeafModel", "must", "(Z)V"⟩, 30), (⟨"BirchLeafModel", "bad", "(I)V"⟩, 30), (⟨"BirchLeafModel", "number", "(II)I"⟩, 30), (⟨"BirchLeafModel", "figures", "()I"⟩, 30), (⟨"BirchLeafModel", "mustEnd", "()V"⟩, 30), (⟨"BirchLeafModel", "readTrader", "()V"⟩, 30), (⟨"BirchLeafModel", "begins", "(II)V"⟩, 30), (⟨"BirchLeafModel", "readWay", "()V"⟩, 30), (⟨"BirchLeafModel", "isTrader", "(I)Z"⟩, 30), (⟨"BirchLeafModel", "passedIn", "(III)I"⟩, 30), (⟨"BirchLeafModel", "thereIn", "(III)I"⟩, 30), (⟨"BirchLeafModel", "isTaken", "(II)Z"⟩, 30), (⟨"BirchLeafModel", "of", "(II)I"⟩, 30), (⟨"BirchLeafModel", "keep", "()V"⟩, 30), (⟨"BirchLeafModel", "priceOf", "(I)I"⟩, 30)]
theorem lw_r3 : ∀ q ∈ lw_privs_3, lw_okq q := List.forall_mem_cons.mpr ⟨lw_p32, List.forall_mem_cons.mpr ⟨lw_p33, List.forall_mem_cons.mpr ⟨lw_p34, List.forall_mem_cons.mpr ⟨lw_p35, List.forall_mem_cons.mpr ⟨lw_p36, List.forall_mem_cons.mpr ⟨lw_p37, List.forall_mem_cons.mpr ⟨lw_p38, List.forall_mem_cons.mpr ⟨lw_p39, List.forall_mem_cons.mpr ⟨lw_p40, List.forall_mem_cons.mpr ⟨lw_p41, List.forall_mem_cons.mpr ⟨lw_p42, List.forall_mem_cons.mpr ⟨lw_p43, List.forall_mem_cons.mpr ⟨lw_p44, List.forall_mem_cons.mpr ⟨lw_p45, List.forall_mem_cons.mpr ⟨lw_p46, List.forall_mem_cons.mpr ⟨lw_p47, fun _ h => absurd h List.not_mem_nil⟩⟩⟩⟩⟩⟩⟩⟩⟩⟩⟩⟩⟩⟩⟩⟩
theorem lw_p48 : lw_okq (⟨"BirchLeafModel", "isThere", "()Z"⟩, 30) := ⟨⟨by decide +kernel, by decide +kernel⟩, List.mem_of_getElem? (i := 733) (by decide +kernel), List.mem_of_getElem? (i := 980) (by decide +kernel), List.mem_of_getElem? (i := 981) (by decide +kernel)⟩
theorem lw_p49 : lw_okq (⟨"BirchLeafModel", "lastOne", "()I"⟩, 30) := ⟨⟨by decide +kernel, by decide +kernel⟩, List.mem_of_getElem? (i := 733) (by decide +kernel), List.mem_of_getElem? (i := 1025) (by decide +kernel), List.mem_of_getElem? (i := 1026) (by decide +kernel)⟩
theorem lw_p50 : lw_okq (⟨"BirchLeafModel", "layComes", "()V"⟩, 30) := ⟨⟨by decide +kernel, by decide +kernel⟩, List.mem_of_getElem? (i := 733) (by decide +kernel), List.mem_of_getElem? (i := 1038) (by decide +kernel), List.mem_of_getElem? (i := 1039) (by decide +kernel)⟩
theorem lw_p51 : lw_okq (⟨"BirchLeafModel", "isUnseen", "(III)Z"⟩, 30) := ⟨⟨by decide +kernel, by decide +kernel⟩, List.mem_of_getElem? (i := 733) (by decide +kernel), List.mem_of_getElem? (i := 1042) (by decide +kernel), List.mem_of_getElem? (i := 1043) (by decide +kernel)⟩
theorem lw_p52 : lw_okq (⟨"BirchLeafModel", "layGoesOn", "()V"⟩, 30) := ⟨⟨by decide +kernel, by decide +kernel⟩, List.mem_of_getElem? (i := 733) (by decide +kernel), List.mem_of_getElem? (i := 1046) (by decide +kernel), List.mem_of_getElem? (i := 1047) (by decide +kernel)⟩
theorem lw_p53 : lw_okq (⟨"BirchLeafModel", "sizeOf", "(I)I"⟩, 30) := ⟨⟨by decide +kernel, by decide +kernel⟩, List.mem_of_getElem? (i := 733) (by decide +kernel), List.mem_of_getElem? (i := 1074) (by decide +kernel), List.mem_of_getElem? (i := 1075) (by decide +kernel)⟩
theorem lw_p54 : lw_okq (⟨"BirchLeafModel", "priestSize", "(I)I"⟩, 30) := ⟨⟨by decide +kernel, by decide +kernel⟩, List.mem_of_getElem? (i := 733) (by decide +kernel), List.mem_of_getElem? (i := 1078) (by decide +kernel), List.mem_of_getElem? (i := 1079) (by decide +kernel)⟩
theorem lw_p55 : lw_okq (⟨"BirchLeafModel", "began", "(I)V"⟩, 30) := ⟨⟨by decide +kernel, by decide +kernel⟩, List.mem_of_getElem? (i := 733) (by decide +kernel), List.mem_of_getElem? (i := 1082) (by decide +kernel), List.mem_of_getElem? (i := 1083) (by decide +kernel)⟩
theorem lw_p56 : lw_okq (⟨"BirchLeafModel", "plainSize", "(I)I"⟩, 30) := ⟨⟨by decide +kernel, by decide +kernel⟩, List.mem_of_getElem? (i := 733) (by decide +kernel), List.mem_of_getElem? (i := 1086) (by decide +kernel), List.mem_of_getElem? (i := 1087) (by decide +kernel)⟩
theorem lw_p57 : lw_okq (⟨"BirchLeafModel", "markOf", "(I)I"⟩, 30) := ⟨⟨by decide +kernel, by decide +kernel⟩, List.mem_of_getElem? (i := 733) (by decide +kernel), List.mem_of_getElem? (i := 1090) (by decide +kernel), List.mem_of_getElem? (i := 1091) (by decide +kernel)⟩
def lw_privs_4 : List (MethodName × Nat) := [(⟨"BirchLeafModel", "isThere", "()Z"⟩, 30), (⟨"BirchLeafModel", "lastOne", "()I"⟩, 30), (⟨"BirchLeafModel", "layComes", "()V"⟩, 30), (⟨"BirchLeafModel", "isUnseen", "(III)Z"⟩, 30), (⟨"BirchLeafModel", "layGoesOn", "()V"⟩, 30), (⟨"BirchLeafModel", "sizeOf", "(I)I"⟩, 30), (⟨"BirchLeafModel", "priestSize", "(I)I"⟩, 30), (⟨"BirchLeafModel", "began", "(I)V"⟩, 30), (⟨"BirchLeafModel", "plainSize", "(I)I"⟩, 30), (⟨"BirchLeafModel", "markOf", "(I)I"⟩, 30)]
theorem lw_r4 : ∀ q ∈ lw_privs_4, lw_okq q := List.forall_mem_cons.mpr ⟨lw_p48, List.forall_mem_cons.mpr ⟨lw_p49, List.forall_mem_cons.mpr ⟨lw_p50, List.forall_mem_cons.mpr ⟨lw_p51, List.forall_mem_cons.mpr ⟨lw_p52, List.forall_mem_cons.mpr ⟨lw_p53, List.forall_mem_cons.mpr ⟨lw_p54, List.forall_mem_cons.mpr ⟨lw_p55, List.forall_mem_cons.mpr ⟨lw_p56, List.forall_mem_cons.mpr ⟨lw_p57, fun _ h => absurd h List.not_mem_nil⟩⟩⟩⟩⟩⟩⟩⟩⟩⟩
def lw_privs : List (MethodName × Nat) := lw_privs_1 ++ (lw_privs_2 ++ (lw_privs_3 ++ (lw_privs_4)))
def lw_tbl : List Cond := k2_sels lw_privs ++ tables_1
theorem lw_privs_ok : ∀ q ∈ lw_privs, lw_okq q := by
  show ∀ q ∈ lw_privs_1 ++ (lw_privs_2 ++ (lw_privs_3 ++ (lw_privs_4))), lw_okq q
  exact List.forall_mem_append.mpr ⟨lw_r1, List.forall_mem_append.mpr ⟨lw_r2, List.forall_mem_append.mpr ⟨lw_r3, lw_r4⟩⟩⟩
-- ===== end of PART A; then your names; then what follows =====
/-! ===== BEGIN printed: names, fields, word lists, decode rows ===== -/
def RX0 : String := "BirchLeaf$Acts"
def TX0 : u_T := fun k => match k with
  | 0 => ("BirchLeaf$Acts", "hill", "LBirchLeaf$Hill;", true)
  | 1 => ("BirchLeaf$Acts", "kept", "I", false)
  | 2 => ("BirchLeaf$Acts", "next", "I", false)
  | 3 => ("BirchLeaf$Acts", "minutes", "[I", true)
  | 4 => ("BirchLeaf$Acts", "dawns", "[I", true)
  | 5 => ("BirchLeaf$Acts", "givers", "[I", true)
  | 6 => ("BirchLeaf$Acts", "takers", "[I", true)
  | _ => ("BirchLeaf$Acts", "paid", "[I", true)
def tyX0 : Nat → FieldType := fun k => match k with
  | 0 => .object "BirchLeaf$Hill"
  | 1 => .int
  | 2 => .int
  | 3 => .array .int
  | 4 => .array .int
  | 5 => .array .int
  | 6 => .array .int
  | _ => .array .int
abbrev wsX00 : List Cond := u_ws RX0 TX0 8
theorem nmX0 : ∀ a, a < 8 → ∀ b, b < 8 → a ≠ b → (TX0 a).2.1 ≠ (TX0 b).2.1 := by decide +kernel
theorem tyX0_ok : ∀ k, k < 8 → parseFieldDescriptor (TX0 k).2.2.1 = some (tyX0 k) := by decide +kernel
abbrev cX0_init : ByteArray := prog_2_method_1_code
def yX0_init : MethodName := ⟨RX0, "<init>", "(LBirchLeaf$Hill;)V"⟩
abbrev cX0_forget : ByteArray := prog_2_method_2_code
def yX0_forget : MethodName := ⟨RX0, "forget", "()V"⟩
abbrev cX0_passTo : ByteArray := prog_2_method_3_code
def yX0_passTo : MethodName := ⟨RX0, "passTo", "(II)V"⟩
abbrev cX0_letPass : ByteArray := prog_2_method_4_code
def yX0_letPass : MethodName := ⟨RX0, "letPass", "(I)V"⟩
abbrev cX0_moveDawn : ByteArray := prog_2_method_5_code
def yX0_moveDawn : MethodName := ⟨RX0, "moveDawn", "(I)V"⟩
abbrev cX0_takeBack : ByteArray := prog_2_method_6_code
def yX0_takeBack : MethodName := ⟨RX0, "takeBack", "()Z"⟩
abbrev cX0_keep : ByteArray := prog_2_method_7_code
def yX0_keep : MethodName := ⟨RX0, "keep", "(II)V"⟩
abbrev cX0_pay : ByteArray := prog_2_method_8_code
def yX0_pay : MethodName := ⟨RX0, "pay", "(III)V"⟩
def RX1 : String := "BirchLeaf$Asks"
def TX1 : u_T := fun k => match k with
  | 0 => ("BirchLeaf$Asks", "hill", "LBirchLeaf$Hill;", true)
  | 1 => ("BirchLeaf$Asks", "bodies", "[I", true)
  | _ => ("BirchLeaf$Asks", "length", "I", false)
def tyX1 : Nat → FieldType := fun k => match k with
  | 0 => .object "BirchLeaf$Hill"
  | 1 => .array .int
  | _ => .int
abbrev wsX10 : List Cond := u_ws RX1 TX1 3
theorem nmX1 : ∀ a, a < 3 → ∀ b, b < 3 → a ≠ b → (TX1 a).2.1 ≠ (TX1 b).2.1 := by decide +kernel
theorem tyX1_ok : ∀ k, k < 3 → parseFieldDescriptor (TX1 k).2.2.1 = some (tyX1 k) := by decide +kernel
abbrev cX1_init : ByteArray := prog_3_method_1_code
def yX1_init : MethodName := ⟨RX1, "<init>", "(LBirchLeaf$Hill;)V"⟩
abbrev cX1_begin : ByteArray := prog_3_method_2_code
def yX1_begin : MethodName := ⟨RX1, "begin", "()V"⟩
abbrev cX1_enter : ByteArray := prog_3_method_3_code
def yX1_enter : MethodName := ⟨RX1, "enter", "(I)V"⟩
abbrev cX1_size : ByteArray := prog_3_method_4_code
def yX1_size : MethodName := ⟨RX1, "size", "(I)I"⟩
abbrev cX1_mark : ByteArray := prog_3_method_5_code
def yX1_mark : MethodName := ⟨RX1, "mark", "(I)I"⟩
abbrev cX1_bakerSize : ByteArray := prog_3_method_6_code
def yX1_bakerSize : MethodName := ⟨RX1, "bakerSize", "(I)I"⟩
abbrev cX1_bakerMark : ByteArray := prog_3_method_7_code
def yX1_bakerMark : MethodName := ⟨RX1, "bakerMark", "(I)I"⟩
abbrev cX1_priestSize : ByteArray := prog_3_method_8_code
def yX1_priestSize : MethodName := ⟨RX1, "priestSize", "(I)I"⟩
abbrev cX1_priestMark : ByteArray := prog_3_method_9_code
def yX1_priestMark : MethodName := ⟨RX1, "priestMark", "(I)I"⟩
def RX2 : String := "BirchLeaf$Foretold"
def TX2 : u_T := fun k => match k with
  | 0 => ("BirchLeaf$Foretold", "hill", "LBirchLeaf$Hill;", true)
  | 1 => ("BirchLeaf$Foretold", "lastHolder", "I", false)
  | 2 => ("BirchLeaf$Foretold", "lastMinute", "I", false)
  | 3 => ("BirchLeaf$Foretold", "best", "[I", true)
  | 4 => ("BirchLeaf$Foretold", "told", "[I", true)
  | 5 => ("BirchLeaf$Foretold", "came", "[I", true)
  | _ => ("BirchLeaf$Foretold", "goesOn", "[I", true)
def tyX2 : Nat → FieldType := fun k => match k with
  | 0 => .object "BirchLeaf$Hill"
  | 1 => .int
  | 2 => .int
  | 3 => .array .int
  | 4 => .array .int
  | 5 => .array .int
  | _ => .array .int
abbrev wsX20 : List Cond := u_ws RX2 TX2 7
theorem nmX2 : ∀ a, a < 7 → ∀ b, b < 7 → a ≠ b → (TX2 a).2.1 ≠ (TX2 b).2.1 := by decide +kernel
theorem tyX2_ok : ∀ k, k < 7 → parseFieldDescriptor (TX2 k).2.2.1 = some (tyX2 k) := by decide +kernel
abbrev cX2_init : ByteArray := prog_4_method_1_code
def yX2_init : MethodName := ⟨RX2, "<init>", "(LBirchLeaf$Hill;)V"⟩
abbrev cX2_dearestFrom : ByteArray := prog_4_method_2_code
def yX2_dearestFrom : MethodName := ⟨RX2, "dearestFrom", "(II)I"⟩
abbrev cX2_surelyFrom : ByteArray := prog_4_method_3_code
def yX2_surelyFrom : MethodName := ⟨RX2, "surelyFrom", "(II)I"⟩
abbrev cX2_sumFrom : ByteArray := prog_4_method_4_code
def yX2_sumFrom : MethodName := ⟨RX2, "sumFrom", "(II)I"⟩
abbrev cX2_timesFrom : ByteArray := prog_4_method_5_code
def yX2_timesFrom : MethodName := ⟨RX2, "timesFrom", "(II)I"⟩
abbrev cX2_coins : ByteArray := prog_4_method_6_code
def yX2_coins : MethodName := ⟨RX2, "coins", "(I)I"⟩
abbrev cX2_fillBest : ByteArray := prog_4_method_7_code
def yX2_fillBest : MethodName := ⟨RX2, "fillBest", "(IZ)V"⟩
abbrev cX2_bestOf : ByteArray := prog_4_method_8_code
def yX2_bestOf : MethodName := ⟨RX2, "bestOf", "(IIZ)I"⟩
abbrev cX2_dearest : ByteArray := prog_4_method_9_code
def yX2_dearest : MethodName := ⟨RX2, "dearest", "(III)I"⟩
abbrev cX2_runOut : ByteArray := prog_4_method_10_code
def yX2_runOut : MethodName := ⟨RX2, "runOut", "(I)V"⟩
abbrev cX2_dawnFor : ByteArray := prog_4_method_11_code
def yX2_dawnFor : MethodName := ⟨RX2, "dawnFor", "(I)I"⟩
abbrev cX2_forgetSeen : ByteArray := prog_4_method_12_code
def yX2_forgetSeen : MethodName := ⟨RX2, "forgetSeen", "()V"⟩
abbrev cX2_noteSeen : ByteArray := prog_4_method_13_code
def yX2_noteSeen : MethodName := ⟨RX2, "noteSeen", "(II)V"⟩
abbrev cX2_withWhom : ByteArray := prog_4_method_14_code
def yX2_withWhom : MethodName := ⟨RX2, "withWhom", "(I)I"⟩
abbrev cX2_fillCame : ByteArray := prog_4_method_15_code
def yX2_fillCame : MethodName := ⟨RX2, "fillCame", "()V"⟩
abbrev cX2_goFrom : ByteArray := prog_4_method_16_code
def yX2_goFrom : MethodName := ⟨RX2, "goFrom", "(III)V"⟩
abbrev cX2_fillGoesOn : ByteArray := prog_4_method_17_code
def yX2_fillGoesOn : MethodName := ⟨RX2, "fillGoesOn", "()V"⟩
abbrev cX2_canGoOn : ByteArray := prog_4_method_18_code
def yX2_canGoOn : MethodName := ⟨RX2, "canGoOn", "(III)Z"⟩
abbrev cX2_nextTold : ByteArray := prog_4_method_19_code
def yX2_nextTold : MethodName := ⟨RX2, "nextTold", "(I)I"⟩
def RX3 : String := "BirchLeaf$Hill"
def TX3 : u_T := fun k => match k with
  | 0 => ("BirchLeaf$Hill", "traders", "I", false)
  | 1 => ("BirchLeaf$Hill", "ways", "I", false)
  | 2 => ("BirchLeaf$Hill", "dawn", "I", false)
  | 3 => ("BirchLeaf$Hill", "water", "I", false)
  | 4 => ("BirchLeaf$Hill", "minute", "I", false)
  | 5 => ("BirchLeaf$Hill", "holder", "I", false)
  | 6 => ("BirchLeaf$Hill", "kinds", "[I", true)
  | 7 => ("BirchLeaf$Hill", "gives", "[I", true)
  | 8 => ("BirchLeaf$Hill", "tills", "[I", true)
  | 9 => ("BirchLeaf$Hill", "wins", "[I", true)
  | 10 => ("BirchLeaf$Hill", "dry", "[I", true)
  | _ => ("BirchLeaf$Hill", "wet", "[I", true)
def tyX3 : Nat → FieldType := fun k => match k with
  | 0 => .int
  | 1 => .int
  | 2 => .int
  | 3 => .int
  | 4 => .int
  | 5 => .int
  | 6 => .array .int
  | 7 => .array .int
  | 8 => .array .int
  | 9 => .array .int
  | 10 => .array .int
  | _ => .array .int
abbrev wsX30 : List Cond := u_ws RX3 TX3 12
theorem nmX3 : ∀ a, a < 12 → ∀ b, b < 12 → a ≠ b → (TX3 a).2.1 ≠ (TX3 b).2.1 := by decide +kernel
theorem tyX3_ok : ∀ k, k < 12 → parseFieldDescriptor (TX3 k).2.2.1 = some (tyX3 k) := by decide +kernel
abbrev cX3_init : ByteArray := prog_5_method_1_code
def yX3_init : MethodName := ⟨RX3, "<init>", "()V"⟩
abbrev cX3_isNone : ByteArray := prog_5_method_2_code
def yX3_isNone : MethodName := ⟨RX3, "isNone", "()Z"⟩
abbrev cX3_has : ByteArray := prog_5_method_3_code
def yX3_has : MethodName := ⟨RX3, "has", "(I)Z"⟩
abbrev cX3_clear : ByteArray := prog_5_method_4_code
def yX3_clear : MethodName := ⟨RX3, "clear", "()V"⟩
abbrev cX3_addTrader : ByteArray := prog_5_method_5_code
def yX3_addTrader : MethodName := ⟨RX3, "addTrader", "(III)V"⟩
abbrev cX3_addWay : ByteArray := prog_5_method_6_code
def yX3_addWay : MethodName := ⟨RX3, "addWay", "(IIIZ)V"⟩
abbrev cX3_become : ByteArray := prog_5_method_7_code
def yX3_become : MethodName := ⟨RX3, "become", "(LBirchLeaf$Hill;)V"⟩
abbrev cX3_price : ByteArray := prog_5_method_8_code
def yX3_price : MethodName := ⟨RX3, "price", "(I)I"⟩
abbrev cX3_accepts : ByteArray := prog_5_method_9_code
def yX3_accepts : MethodName := ⟨RX3, "accepts", "(III)Z"⟩
abbrev cX3_arrival : ByteArray := prog_5_method_10_code
def yX3_arrival : MethodName := ⟨RX3, "arrival", "(III)I"⟩
abbrev cX3_handed : ByteArray := prog_5_method_11_code
def yX3_handed : MethodName := ⟨RX3, "handed", "(IIII)I"⟩
def RX4 : String := "BirchLeaf$Rows"
def TX4 : u_T := fun k => match k with
  | 0 => ("BirchLeaf$Rows", "stores", "[I", true)
  | 1 => ("BirchLeaf$Rows", "sizes", "[I", true)
  | _ => ("BirchLeaf$Rows", "items", "[I", true)
def tyX4 : Nat → FieldType := fun k => match k with
  | 0 => .array .int
  | 1 => .array .int
  | _ => .array .int
abbrev wsX40 : List Cond := u_ws RX4 TX4 3
theorem nmX4 : ∀ a, a < 3 → ∀ b, b < 3 → a ≠ b → (TX4 a).2.1 ≠ (TX4 b).2.1 := by decide +kernel
theorem tyX4_ok : ∀ k, k < 3 → parseFieldDescriptor (TX4 k).2.2.1 = some (tyX4 k) := by decide +kernel
abbrev cX4_init : ByteArray := prog_6_method_1_code
def yX4_init : MethodName := ⟨RX4, "<init>", "()V"⟩
abbrev cX4_isMissing : ByteArray := prog_6_method_2_code
def yX4_isMissing : MethodName := ⟨RX4, "isMissing", "(I)Z"⟩
abbrev cX4_present : ByteArray := prog_6_method_3_code
def yX4_present : MethodName := ⟨RX4, "present", "()I"⟩
abbrev cX4_make : ByteArray := prog_6_method_4_code
def yX4_make : MethodName := ⟨RX4, "make", "(III)V"⟩
abbrev cX4_remove : ByteArray := prog_6_method_5_code
def yX4_remove : MethodName := ⟨RX4, "remove", "(I)I"⟩
abbrev cX4_lapse : ByteArray := prog_6_method_6_code
def yX4_lapse : MethodName := ⟨RX4, "lapse", "(III)I"⟩
abbrev cX4_lapseOfTwo : ByteArray := prog_6_method_7_code
def yX4_lapseOfTwo : MethodName := ⟨RX4, "lapseOfTwo", "(IIIII)I"⟩
abbrev cX4_holds : ByteArray := prog_6_method_8_code
def yX4_holds : MethodName := ⟨RX4, "holds", "(III)Z"⟩
abbrev cX4_item : ByteArray := prog_6_method_9_code
def yX4_item : MethodName := ⟨RX4, "item", "(II)I"⟩
abbrev cX4_put : ByteArray := prog_6_method_10_code
def yX4_put : MethodName := ⟨RX4, "put", "(III)I"⟩
abbrev cX4_move : ByteArray := prog_6_method_11_code
def yX4_move : MethodName := ⟨RX4, "move", "(IIIII)V"⟩
def RX5 : String := "BirchLeaf$Tape"
def TX5 : u_T := fun k => match k with
  | 0 => ("BirchLeaf$Tape", "bytes", "[B", true)
  | 1 => ("BirchLeaf$Tape", "length", "I", false)
  | 2 => ("BirchLeaf$Tape", "start", "I", false)
  | 3 => ("BirchLeaf$Tape", "end", "I", false)
  | 4 => ("BirchLeaf$Tape", "token", "I", false)
  | 5 => ("BirchLeaf$Tape", "value", "I", false)
  | 6 => ("BirchLeaf$Tape", "place", "I", false)
  | _ => ("BirchLeaf$Tape", "latestFault", "I", false)
def tyX5 : Nat → FieldType := fun k => match k with
  | 0 => .array .byte
  | 1 => .int
  | 2 => .int
  | 3 => .int
  | 4 => .int
  | 5 => .int
  | 6 => .int
  | _ => .int
abbrev wsX50 : List Cond := u_ws RX5 TX5 8
theorem nmX5 : ∀ a, a < 8 → ∀ b, b < 8 → a ≠ b → (TX5 a).2.1 ≠ (TX5 b).2.1 := by decide +kernel
theorem tyX5_ok : ∀ k, k < 8 → parseFieldDescriptor (TX5 k).2.2.1 = some (tyX5 k) := by decide +kernel
abbrev cX5_init : ByteArray := prog_7_method_1_code
def yX5_init : MethodName := ⟨RX5, "<init>", "()V"⟩
abbrev cX5_append : ByteArray := prog_7_method_2_code
def yX5_append : MethodName := ⟨RX5, "append", "(JI)I"⟩
abbrev cX5_readOnto : ByteArray := prog_7_method_3_code
def yX5_readOnto : MethodName := ⟨RX5, "readOnto", "(LBirchLeaf$Hill;)I"⟩
abbrev cX5_readNight : ByteArray := prog_7_method_4_code
def yX5_readNight : MethodName := ⟨RX5, "readNight", "(LBirchLeaf$Hill;)V"⟩
abbrev cX5_readPart : ByteArray := prog_7_method_5_code
def yX5_readPart : MethodName := ⟨RX5, "readPart", "(LBirchLeaf$Hill;)Z"⟩
abbrev cX5_readTrader : ByteArray := prog_7_method_6_code
def yX5_readTrader : MethodName := ⟨RX5, "readTrader", "(LBirchLeaf$Hill;)V"⟩
abbrev cX5_readWay : ByteArray := prog_7_method_7_code
def yX5_readWay : MethodName := ⟨RX5, "readWay", "(LBirchLeaf$Hill;)V"⟩
abbrev cX5_readSort : ByteArray := prog_7_method_8_code
def yX5_readSort : MethodName := ⟨RX5, "readSort", "()I"⟩
abbrev cX5_readNumber : ByteArray := prog_7_method_9_code
def yX5_readNumber : MethodName := ⟨RX5, "readNumber", "(II)I"⟩
abbrev cX5_readSign : ByteArray := prog_7_method_10_code
def yX5_readSign : MethodName := ⟨RX5, "readSign", "()V"⟩
abbrev cX5_fail : ByteArray := prog_7_method_11_code
def yX5_fail : MethodName := ⟨RX5, "fail", "(I)V"⟩
abbrev cX5_isWord : ByteArray := prog_7_method_12_code
def yX5_isWord : MethodName := ⟨RX5, "isWord", "(Ljava/lang/String;)Z"⟩
abbrev cX5_next : ByteArray := prog_7_method_13_code
def yX5_next : MethodName := ⟨RX5, "next", "()V"⟩
abbrev cX5_isLetter : ByteArray := prog_7_method_14_code
def yX5_isLetter : MethodName := ⟨RX5, "isLetter", "(I)Z"⟩
abbrev cX5_isFigure : ByteArray := prog_7_method_15_code
def yX5_isFigure : MethodName := ⟨RX5, "isFigure", "(I)Z"⟩
def RX6 : String := "BirchLeaf"
def TX6 : u_T := fun k => match k with
  | 0 => ("BirchLeaf", "rows", "LBirchLeaf$Rows;", true)
  | 1 => ("BirchLeaf", "tape", "LBirchLeaf$Tape;", true)
  | 2 => ("BirchLeaf", "hill", "LBirchLeaf$Hill;", true)
  | 3 => ("BirchLeaf", "draft", "LBirchLeaf$Hill;", true)
  | 4 => ("BirchLeaf", "firstImage", "LBirchLeaf$Hill;", true)
  | 5 => ("BirchLeaf", "secondImage", "LBirchLeaf$Hill;", true)
  | 6 => ("BirchLeaf", "acts", "LBirchLeaf$Acts;", true)
  | 7 => ("BirchLeaf", "foretold", "LBirchLeaf$Foretold;", true)
  | 8 => ("BirchLeaf", "asks", "LBirchLeaf$Asks;", true)
  | _ => ("BirchLeaf", "finding", "I", false)
def tyX6 : Nat → FieldType := fun k => match k with
  | 0 => .object "BirchLeaf$Rows"
  | 1 => .object "BirchLeaf$Tape"
  | 2 => .object "BirchLeaf$Hill"
  | 3 => .object "BirchLeaf$Hill"
  | 4 => .object "BirchLeaf$Hill"
  | 5 => .object "BirchLeaf$Hill"
  | 6 => .object "BirchLeaf$Acts"
  | 7 => .object "BirchLeaf$Foretold"
  | 8 => .object "BirchLeaf$Asks"
  | _ => .int
abbrev wsX60 : List Cond := u_ws RX6 TX6 10
theorem nmX6 : ∀ a, a < 10 → ∀ b, b < 10 → a ≠ b → (TX6 a).2.1 ≠ (TX6 b).2.1 := by decide +kernel
theorem tyX6_ok : ∀ k, k < 10 → parseFieldDescriptor (TX6 k).2.2.1 = some (tyX6 k) := by decide +kernel
abbrev cX6_init : ByteArray := prog_1_method_1_code
def yX6_init : MethodName := ⟨RX6, "<init>", "()V"⟩
abbrev cX6_row : ByteArray := prog_1_method_2_code
def yX6_row : MethodName := ⟨RX6, "row", "(III)I"⟩
abbrev cX6_set : ByteArray := prog_1_method_3_code
def yX6_set : MethodName := ⟨RX6, "set", "(III)I"⟩
abbrev cX6_copy : ByteArray := prog_1_method_4_code
def yX6_copy : MethodName := ⟨RX6, "copy", "(IIIII)I"⟩
abbrev cX6_drop : ByteArray := prog_1_method_5_code
def yX6_drop : MethodName := ⟨RX6, "drop", "(I)I"⟩
abbrev cX6_feed : ByteArray := prog_1_method_6_code
def yX6_feed : MethodName := ⟨RX6, "feed", "(JI)I"⟩
abbrev cX6_hill : ByteArray := prog_1_method_7_code
def yX6_hill : MethodName := ⟨RX6, "hill", "()I"⟩
abbrev cX6_fault : ByteArray := prog_1_method_8_code
def yX6_fault : MethodName := ⟨RX6, "fault", "()I"⟩
abbrev cX6_pass : ByteArray := prog_1_method_9_code
def yX6_pass : MethodName := ⟨RX6, "pass", "(I)I"⟩
abbrev cX6_waits : ByteArray := prog_1_method_10_code
def yX6_waits : MethodName := ⟨RX6, "waits", "(I)I"⟩
abbrev cX6_bribe : ByteArray := prog_1_method_11_code
def yX6_bribe : MethodName := ⟨RX6, "bribe", "(I)I"⟩
abbrev cX6_undo : ByteArray := prog_1_method_12_code
def yX6_undo : MethodName := ⟨RX6, "undo", "()I"⟩
abbrev cX6_trader : ByteArray := prog_1_method_13_code
def yX6_trader : MethodName := ⟨RX6, "trader", "(II)I"⟩
abbrev cX6_takes : ByteArray := prog_1_method_14_code
def yX6_takes : MethodName := ⟨RX6, "takes", "(II)I"⟩
abbrev cX6_there : ByteArray := prog_1_method_15_code
def yX6_there : MethodName := ⟨RX6, "there", "(III)I"⟩
abbrev cX6_worth : ByteArray := prog_1_method_16_code
def yX6_worth : MethodName := ⟨RX6, "worth", "(II)I"⟩
abbrev cX6_sure : ByteArray := prog_1_method_17_code
def yX6_sure : MethodName := ⟨RX6, "sure", "(II)I"⟩
abbrev cX6_most : ByteArray := prog_1_method_18_code
def yX6_most : MethodName := ⟨RX6, "most", "(III)I"⟩
abbrev cX6_last : ByteArray := prog_1_method_19_code
def yX6_last : MethodName := ⟨RX6, "last", "(I)I"⟩
abbrev cX6_crow : ByteArray := prog_1_method_20_code
def yX6_crow : MethodName := ⟨RX6, "crow", "(I)I"⟩
abbrev cX6_where : ByteArray := prog_1_method_21_code
def yX6_where : MethodName := ⟨RX6, "where", "(IIII)I"⟩
abbrev cX6_image : ByteArray := prog_1_method_22_code
def yX6_image : MethodName := ⟨RX6, "image", "(I)I"⟩
abbrev cX6_restore : ByteArray := prog_1_method_23_code
def yX6_restore : MethodName := ⟨RX6, "restore", "(I)I"⟩
abbrev cX6_kind : ByteArray := prog_1_method_24_code
def yX6_kind : MethodName := ⟨RX6, "kind", "(I)I"⟩
abbrev cX6_as : ByteArray := prog_1_method_25_code
def yX6_as : MethodName := ⟨RX6, "as", "(II)I"⟩
abbrev cX6_ask : ByteArray := prog_1_method_26_code
def yX6_ask : MethodName := ⟨RX6, "ask", "(II)I"⟩
abbrev cX6_trace : ByteArray := prog_1_method_27_code
def yX6_trace : MethodName := ⟨RX6, "trace", "(I)I"⟩
abbrev cX6_count : ByteArray := prog_1_method_28_code
def yX6_count : MethodName := ⟨RX6, "count", "(I)I"⟩
abbrev cX6_status : ByteArray := prog_1_method_29_code
def yX6_status : MethodName := ⟨RX6, "status", "()I"⟩
abbrev cX6_find : ByteArray := prog_1_method_30_code
def yX6_find : MethodName := ⟨RX6, "find", "(I)I"⟩
abbrev cX6_imageOf : ByteArray := prog_1_method_31_code
def yX6_imageOf : MethodName := ⟨RX6, "imageOf", "(I)LBirchLeaf$Hill;"⟩
abbrev cX6_isRow : ByteArray := prog_1_method_32_code
def yX6_isRow : MethodName := ⟨RX6, "isRow", "(I)Z"⟩
abbrev cX6_isMinute : ByteArray := prog_1_method_33_code
def yX6_isMinute : MethodName := ⟨RX6, "isMinute", "(I)Z"⟩
abbrev cX6_isOne : ByteArray := prog_1_method_34_code
def yX6_isOne : MethodName := ⟨RX6, "isOne", "(II)Z"⟩
def RX7 : String := "BirchLeafModel"
def TX7 : u_T := fun k => match k with
  | 0 => ("BirchLeafModel", "thrown", "I", false)
  | 1 => ("BirchLeafModel", "status", "I", false)
  | 2 => ("BirchLeafModel", "lane", "[I", true)
  | 3 => ("BirchLeafModel", "many", "[I", true)
  | 4 => ("BirchLeafModel", "item", "[I", true)
  | 5 => ("BirchLeafModel", "hill", "[I", true)
  | 6 => ("BirchLeafModel", "fresh", "[I", true)
  | 7 => ("BirchLeafModel", "was", "[I", true)
  | 8 => ("BirchLeafModel", "acts", "I", false)
  | 9 => ("BirchLeafModel", "tape", "[I", true)
  | 10 => ("BirchLeafModel", "taped", "I", false)
  | 11 => ("BirchLeafModel", "latest", "I", false)
  | 12 => ("BirchLeafModel", "length", "I", false)
  | 13 => ("BirchLeafModel", "cursor", "I", false)
  | 14 => ("BirchLeafModel", "token", "I", false)
  | 15 => ("BirchLeafModel", "start", "I", false)
  | 16 => ("BirchLeafModel", "till", "I", false)
  | 17 => ("BirchLeafModel", "fault", "I", false)
  | 18 => ("BirchLeafModel", "faultAt", "I", false)
  | 19 => ("BirchLeafModel", "surely", "[I", true)
  | 20 => ("BirchLeafModel", "sum", "[I", true)
  | 21 => ("BirchLeafModel", "times", "[I", true)
  | 22 => ("BirchLeafModel", "since", "I", false)
  | 23 => ("BirchLeafModel", "seen", "[I", true)
  | 24 => ("BirchLeafModel", "comes", "[Z", true)
  | 25 => ("BirchLeafModel", "goesOn", "[Z", true)
  | 26 => ("BirchLeafModel", "isKept", "[Z", true)
  | 27 => ("BirchLeafModel", "kept", "[I", true)
  | 28 => ("BirchLeafModel", "trace", "[I", true)
  | _ => ("BirchLeafModel", "traced", "I", false)
def tyX7 : Nat → FieldType := fun k => match k with
  | 0 => .int
  | 1 => .int
  | 2 => .array .int
  | 3 => .array .int
  | 4 => .array .int
  | 5 => .array .int
  | 6 => .array .int
  | 7 => .array .int
  | 8 => .int
  | 9 => .array .int
  | 10 => .int
  | 11 => .int
  | 12 => .int
  | 13 => .int
  | 14 => .int
  | 15 => .int
  | 16 => .int
  | 17 => .int
  | 18 => .int
  | 19 => .array .int
  | 20 => .array .int
  | 21 => .array .int
  | 22 => .int
  | 23 => .array .int
  | 24 => .array .boolean
  | 25 => .array .boolean
  | 26 => .array .boolean
  | 27 => .array .int
  | 28 => .array .int
  | _ => .int
abbrev wsX70 : List Cond := u_ws RX7 TX7 30
theorem nmX7 : ∀ a, a < 30 → ∀ b, b < 30 → a ≠ b → (TX7 a).2.1 ≠ (TX7 b).2.1 := by decide +kernel
theorem tyX7_ok : ∀ k, k < 30 → parseFieldDescriptor (TX7 k).2.2.1 = some (tyX7 k) := by decide +kernel
abbrev cX7_init : ByteArray := prog_9_method_1_code
def yX7_init : MethodName := ⟨RX7, "<init>", "()V"⟩
abbrev cX7_in : ByteArray := prog_9_method_3_code
def yX7_in : MethodName := ⟨RX7, "in", "(JJJ)Z"⟩
abbrev cX7_finding : ByteArray := prog_9_method_4_code
def yX7_finding : MethodName := ⟨RX7, "finding", "(I)I"⟩
abbrev cX7_isRow : ByteArray := prog_9_method_5_code
def yX7_isRow : MethodName := ⟨RX7, "isRow", "(I)Z"⟩
abbrev cX7_row : ByteArray := prog_9_method_6_code
def yX7_row : MethodName := ⟨RX7, "row", "(III)I"⟩
abbrev cX7_set : ByteArray := prog_9_method_7_code
def yX7_set : MethodName := ⟨RX7, "set", "(III)I"⟩
abbrev cX7_copy : ByteArray := prog_9_method_8_code
def yX7_copy : MethodName := ⟨RX7, "copy", "(IIIII)I"⟩
abbrev cX7_drop : ByteArray := prog_9_method_9_code
def yX7_drop : MethodName := ⟨RX7, "drop", "(I)I"⟩
abbrev cX7_feed : ByteArray := prog_9_method_10_code
def yX7_feed : MethodName := ⟨RX7, "feed", "(JI)I"⟩
abbrev cX7_byteAt : ByteArray := prog_9_method_11_code
def yX7_byteAt : MethodName := ⟨RX7, "byteAt", "(I)I"⟩
abbrev cX7_isLetter : ByteArray := prog_9_method_12_code
def yX7_isLetter : MethodName := ⟨RX7, "isLetter", "(I)Z"⟩
abbrev cX7_isFigure : ByteArray := prog_9_method_13_code
def yX7_isFigure : MethodName := ⟨RX7, "isFigure", "(I)Z"⟩
abbrev cX7_next : ByteArray := prog_9_method_14_code
def yX7_next : MethodName := ⟨RX7, "next", "()V"⟩
abbrev cX7_begin : ByteArray := prog_9_method_15_code
def yX7_begin : MethodName := ⟨RX7, "begin", "()V"⟩
abbrev cX7_bad : ByteArray := prog_9_method_16_code
def yX7_bad : MethodName := ⟨RX7, "bad", "(I)V"⟩
abbrev cX7_must : ByteArray := prog_9_method_17_code
def yX7_must : MethodName := ⟨RX7, "must", "(Z)V"⟩
abbrev cX7_name : ByteArray := prog_9_method_18_code
def yX7_name : MethodName := ⟨RX7, "name", "()J"⟩
abbrev cX7_figures : ByteArray := prog_9_method_19_code
def yX7_figures : MethodName := ⟨RX7, "figures", "()I"⟩
abbrev cX7_number : ByteArray := prog_9_method_20_code
def yX7_number : MethodName := ⟨RX7, "number", "(II)I"⟩
abbrev cX7_kindBy : ByteArray := prog_9_method_21_code
def yX7_kindBy : MethodName := ⟨RX7, "kindBy", "(J)I"⟩
abbrev cX7_mustEnd : ByteArray := prog_9_method_22_code
def yX7_mustEnd : MethodName := ⟨RX7, "mustEnd", "()V"⟩
abbrev cX7_begins : ByteArray := prog_9_method_23_code
def yX7_begins : MethodName := ⟨RX7, "begins", "(II)V"⟩
abbrev cX7_readTrader : ByteArray := prog_9_method_24_code
def yX7_readTrader : MethodName := ⟨RX7, "readTrader", "()V"⟩
abbrev cX7_readWay : ByteArray := prog_9_method_25_code
def yX7_readWay : MethodName := ⟨RX7, "readWay", "()V"⟩
abbrev cX7_hill : ByteArray := prog_9_method_26_code
def yX7_hill : MethodName := ⟨RX7, "hill", "()I"⟩
abbrev cX7_fault : ByteArray := prog_9_method_27_code
def yX7_fault : MethodName := ⟨RX7, "fault", "()I"⟩
abbrev cX7_isThere : ByteArray := prog_9_method_28_code
def yX7_isThere : MethodName := ⟨RX7, "isThere", "()Z"⟩
abbrev cX7_isTrader : ByteArray := prog_9_method_29_code
def yX7_isTrader : MethodName := ⟨RX7, "isTrader", "(I)Z"⟩
abbrev cX7_isMinute : ByteArray := prog_9_method_30_code
def yX7_isMinute : MethodName := ⟨RX7, "isMinute", "(I)Z"⟩
abbrev cX7_of : ByteArray := prog_9_method_31_code
def yX7_of : MethodName := ⟨RX7, "of", "(II)I"⟩
abbrev cX7_priceOf : ByteArray := prog_9_method_32_code
def yX7_priceOf : MethodName := ⟨RX7, "priceOf", "(I)I"⟩
abbrev cX7_isTaken : ByteArray := prog_9_method_33_code
def yX7_isTaken : MethodName := ⟨RX7, "isTaken", "(II)Z"⟩
abbrev cX7_thereIn : ByteArray := prog_9_method_34_code
def yX7_thereIn : MethodName := ⟨RX7, "thereIn", "(III)I"⟩
abbrev cX7_passedIn : ByteArray := prog_9_method_35_code
def yX7_passedIn : MethodName := ⟨RX7, "passedIn", "(III)I"⟩
abbrev cX7_keep : ByteArray := prog_9_method_36_code
def yX7_keep : MethodName := ⟨RX7, "keep", "()V"⟩
abbrev cX7_pass : ByteArray := prog_9_method_37_code
def yX7_pass : MethodName := ⟨RX7, "pass", "(I)I"⟩
abbrev cX7_waits : ByteArray := prog_9_method_38_code
def yX7_waits : MethodName := ⟨RX7, "waits", "(I)I"⟩
abbrev cX7_bribe : ByteArray := prog_9_method_39_code
def yX7_bribe : MethodName := ⟨RX7, "bribe", "(I)I"⟩
abbrev cX7_undo : ByteArray := prog_9_method_40_code
def yX7_undo : MethodName := ⟨RX7, "undo", "()I"⟩
abbrev cX7_trader : ByteArray := prog_9_method_41_code
def yX7_trader : MethodName := ⟨RX7, "trader", "(II)I"⟩
abbrev cX7_takes : ByteArray := prog_9_method_42_code
def yX7_takes : MethodName := ⟨RX7, "takes", "(II)I"⟩
abbrev cX7_there : ByteArray := prog_9_method_43_code
def yX7_there : MethodName := ⟨RX7, "there", "(III)I"⟩
abbrev cX7_worth : ByteArray := prog_9_method_44_code
def yX7_worth : MethodName := ⟨RX7, "worth", "(II)I"⟩
abbrev cX7_sure : ByteArray := prog_9_method_45_code
def yX7_sure : MethodName := ⟨RX7, "sure", "(II)I"⟩
abbrev cX7_most : ByteArray := prog_9_method_46_code
def yX7_most : MethodName := ⟨RX7, "most", "(III)I"⟩
abbrev cX7_lastOne : ByteArray := prog_9_method_47_code
def yX7_lastOne : MethodName := ⟨RX7, "lastOne", "()I"⟩
abbrev cX7_last : ByteArray := prog_9_method_48_code
def yX7_last : MethodName := ⟨RX7, "last", "(I)I"⟩
abbrev cX7_crow : ByteArray := prog_9_method_49_code
def yX7_crow : MethodName := ⟨RX7, "crow", "(I)I"⟩
abbrev cX7_isUnseen : ByteArray := prog_9_method_50_code
def yX7_isUnseen : MethodName := ⟨RX7, "isUnseen", "(III)Z"⟩
abbrev cX7_layComes : ByteArray := prog_9_method_51_code
def yX7_layComes : MethodName := ⟨RX7, "layComes", "()V"⟩
abbrev cX7_layGoesOn : ByteArray := prog_9_method_52_code
def yX7_layGoesOn : MethodName := ⟨RX7, "layGoesOn", "()V"⟩
abbrev cX7_where : ByteArray := prog_9_method_53_code
def yX7_where : MethodName := ⟨RX7, "where", "(IIII)I"⟩
abbrev cX7_image : ByteArray := prog_9_method_54_code
def yX7_image : MethodName := ⟨RX7, "image", "(I)I"⟩
abbrev cX7_restore : ByteArray := prog_9_method_55_code
def yX7_restore : MethodName := ⟨RX7, "restore", "(I)I"⟩
abbrev cX7_isOf : ByteArray := prog_9_method_56_code
def yX7_isOf : MethodName := ⟨RX7, "isOf", "(II)Z"⟩
abbrev cX7_kind : ByteArray := prog_9_method_57_code
def yX7_kind : MethodName := ⟨RX7, "kind", "(I)I"⟩
abbrev cX7_as : ByteArray := prog_9_method_58_code
def yX7_as : MethodName := ⟨RX7, "as", "(II)I"⟩
abbrev cX7_began : ByteArray := prog_9_method_59_code
def yX7_began : MethodName := ⟨RX7, "began", "(I)V"⟩
abbrev cX7_plainSize : ByteArray := prog_9_method_60_code
def yX7_plainSize : MethodName := ⟨RX7, "plainSize", "(I)I"⟩
abbrev cX7_priestSize : ByteArray := prog_9_method_61_code
def yX7_priestSize : MethodName := ⟨RX7, "priestSize", "(I)I"⟩
abbrev cX7_markOf : ByteArray := prog_9_method_62_code
def yX7_markOf : MethodName := ⟨RX7, "markOf", "(I)I"⟩
abbrev cX7_sizeOf : ByteArray := prog_9_method_63_code
def yX7_sizeOf : MethodName := ⟨RX7, "sizeOf", "(I)I"⟩
abbrev cX7_ask : ByteArray := prog_9_method_64_code
def yX7_ask : MethodName := ⟨RX7, "ask", "(II)I"⟩
abbrev cX7_trace : ByteArray := prog_9_method_65_code
def yX7_trace : MethodName := ⟨RX7, "trace", "(I)I"⟩
abbrev cX7_count : ByteArray := prog_9_method_66_code
def yX7_count : MethodName := ⟨RX7, "count", "(I)I"⟩
abbrev cX7_status : ByteArray := prog_9_method_67_code
def yX7_status : MethodName := ⟨RX7, "status", "()I"⟩
def RJ9 : String := "java/lang/Math"
def TJ9 : u_T := fun k => match k with
  | _ => ("", "", "", false)
def tyJ9 : Nat → FieldType := fun k => match k with
  | _ => .int
abbrev wsJ90 : List Cond := u_ws RJ9 TJ9 0
theorem nmJ9 : ∀ a, a < 0 → ∀ b, b < 0 → a ≠ b → (TJ9 a).2.1 ≠ (TJ9 b).2.1 := by decide +kernel
theorem tyJ9_ok : ∀ k, k < 0 → parseFieldDescriptor (TJ9 k).2.2.1 = some (tyJ9 k) := by decide +kernel
abbrev cJ9_max_7cf53 : ByteArray := prog_10_method_65_code
def yJ9_max_7cf53 : MethodName := ⟨RJ9, "max", "(II)I"⟩
abbrev cJ9_min_7cf53 : ByteArray := prog_10_method_69_code
def yJ9_min_7cf53 : MethodName := ⟨RJ9, "min", "(II)I"⟩
def RJ0 : String := "java/lang/String"
def TJ0 : u_T := fun k => match k with
  | _ => ("", "", "", false)
def tyJ0 : Nat → FieldType := fun k => match k with
  | _ => .int
abbrev wsJ00 : List Cond := u_ws RJ0 TJ0 0
theorem nmJ0 : ∀ a, a < 0 → ∀ b, b < 0 → a ≠ b → (TJ0 a).2.1 ≠ (TJ0 b).2.1 := by decide +kernel
theorem tyJ0_ok : ∀ k, k < 0 → parseFieldDescriptor (TJ0 k).2.2.1 = some (tyJ0 k) := by decide +kernel
abbrev cJ0_length_8abf5 : ByteArray := prog_11_method_54_code
def yJ0_length_8abf5 : MethodName := ⟨RJ0, "length", "()I"⟩
abbrev cJ0_charAt_5068e : ByteArray := prog_11_method_56_code
def yJ0_charAt_5068e : MethodName := ⟨RJ0, "charAt", "(I)C"⟩
abbrev cJ0_coder_7d493 : ByteArray := prog_11_method_152_code
def yJ0_coder_7d493 : MethodName := ⟨RJ0, "coder", "()B"⟩
abbrev cJ0_isLatin1_aae02 : ByteArray := prog_11_method_154_code
def yJ0_isLatin1_aae02 : MethodName := ⟨RJ0, "isLatin1", "()Z"⟩
abbrev cJ0_checkIndex_df160 : ByteArray := prog_11_method_155_code
def yJ0_checkIndex_df160 : MethodName := ⟨RJ0, "checkIndex", "(II)V"⟩
def RJ1 : String := "java/lang/StringLatin1"
def TJ1 : u_T := fun k => match k with
  | _ => ("", "", "", false)
def tyJ1 : Nat → FieldType := fun k => match k with
  | _ => .int
abbrev wsJ10 : List Cond := u_ws RJ1 TJ1 0
theorem nmJ1 : ∀ a, a < 0 → ∀ b, b < 0 → a ≠ b → (TJ1 a).2.1 ≠ (TJ1 b).2.1 := by decide +kernel
theorem tyJ1_ok : ∀ k, k < 0 → parseFieldDescriptor (TJ1 k).2.2.1 = some (tyJ1 k) := by decide +kernel
abbrev cJ1_charAt_3b067 : ByteArray := prog_12_method_2_code
def yJ1_charAt_3b067 : MethodName := ⟨RJ1, "charAt", "([BI)C"⟩
def RJ2 : String := "java/lang/StringUTF16"
def TJ2 : u_T := fun k => match k with
  | _ => ("", "", "", false)
def tyJ2 : Nat → FieldType := fun k => match k with
  | _ => .int
abbrev wsJ20 : List Cond := u_ws RJ2 TJ2 0
theorem nmJ2 : ∀ a, a < 0 → ∀ b, b < 0 → a ≠ b → (TJ2 a).2.1 ≠ (TJ2 b).2.1 := by decide +kernel
theorem tyJ2_ok : ∀ k, k < 0 → parseFieldDescriptor (TJ2 k).2.2.1 = some (tyJ2 k) := by decide +kernel
abbrev cJ2_getChar_3b067 : ByteArray := prog_13_method_5_code
def yJ2_getChar_3b067 : MethodName := ⟨RJ2, "getChar", "([BI)C"⟩
abbrev cJ2_length_9d52b : ByteArray := prog_13_method_6_code
def yJ2_length_9d52b : MethodName := ⟨RJ2, "length", "([B)I"⟩
abbrev cJ2_charAt_3b067 : ByteArray := prog_13_method_83_code
def yJ2_charAt_3b067 : MethodName := ⟨RJ2, "charAt", "([BI)C"⟩
abbrev cJ2_checkIndex_2214a : ByteArray := prog_13_method_91_code
def yJ2_checkIndex_2214a : MethodName := ⟨RJ2, "checkIndex", "(I[B)V"⟩
def RJ10 : String := "java/lang/System"
def TJ10 : u_T := fun k => match k with
  | _ => ("", "", "", false)
def tyJ10 : Nat → FieldType := fun k => match k with
  | _ => .int
abbrev wsJ100 : List Cond := u_ws RJ10 TJ10 0
theorem nmJ10 : ∀ a, a < 0 → ∀ b, b < 0 → a ≠ b → (TJ10 a).2.1 ≠ (TJ10 b).2.1 := by decide +kernel
theorem tyJ10_ok : ∀ k, k < 0 → parseFieldDescriptor (TJ10 k).2.2.1 = some (tyJ10 k) := by decide +kernel
def RJ3 : String := "jdk/internal/util/Preconditions"
def TJ3 : u_T := fun k => match k with
  | _ => ("", "", "", false)
def tyJ3 : Nat → FieldType := fun k => match k with
  | _ => .int
abbrev wsJ30 : List Cond := u_ws RJ3 TJ3 0
theorem nmJ3 : ∀ a, a < 0 → ∀ b, b < 0 → a ≠ b → (TJ3 a).2.1 ≠ (TJ3 b).2.1 := by decide +kernel
theorem tyJ3_ok : ∀ k, k < 0 → parseFieldDescriptor (TJ3 k).2.2.1 = some (tyJ3 k) := by decide +kernel
abbrev cJ3_checkIndex_8e157 : ByteArray := prog_15_method_11_code
def yJ3_checkIndex_8e157 : MethodName := ⟨RJ3, "checkIndex", "(IILjava/util/function/BiFunction;)I"⟩
def RL : String := "BirchLeafLaw"
abbrev cL_law : ByteArray := code
def yL_law : MethodName := ⟨RL, "law", "([I)Z"⟩
abbrev vwCl : List vw_C := [(RX0, TX0, 8), (RX1, TX1, 3), (RX2, TX2, 7), (RX3, TX3, 12), (RX4, TX4, 3), (RX5, TX5, 8), (RX6, TX6, 10), (RX7, TX7, 30)]
