section
-- ===== PART A: goes FIRST, ahead of the names: the tables' words, and 'selects' of the private methods out of them =====
/-- a private method of a class that the tables say can be made, by its rows of tables_1 -/
def lw_okq (q : MethodName × Nat) : Prop := (q.1.cls ≠ "java/lang/invoke/MethodHandle" ∧ q.1.cls ≠ "java/lang/invoke/VarHandle") ∧ Cond.instantiable q.1.cls q.2 ∈ tables_1 ∧ Cond.privateMethod q.1 ∈ tables_1 ∧ Cond.instanceMethod q.1 ∈ tables_1
theorem lw_p0 : lw_okq (⟨"BirchLeaf", "find", "(I)I"⟩, 10) := ⟨⟨by decide +kernel, by decide +kernel⟩, List.mem_of_getElem? (i := 16) (by decide +kernel), List.mem_of_getElem? (i := 261) (by decide +kernel), List.mem_of_getElem? (i := 262) (by decide +kernel)⟩
theorem lw_p1 : lw_okq (⟨"BirchLeaf$Rows", "holds", "(III)Z"⟩, 3) := ⟨⟨by decide +kernel, by decide +kernel⟩, List.mem_of_getElem? (i := 24) (by decide +kernel), List.mem_of_getElem? (i := 282) (by decide +kernel), List.mem_of_getElem? (i := 283) (by decide +kernel)⟩
theorem lw_p2 : lw_okq (⟨"BirchLeaf$Tape", "readNight", "(LBirchLeaf$Hill;)V"⟩, 8) := ⟨⟨by decide +kernel, by decide +kernel⟩, List.mem_of_getElem? (i := 41) (by decide +kernel), List.mem_of_getElem? (i := 335) (by decide +kernel), List.mem_of_getElem? (i := 336) (by decide +kernel)⟩
theorem lw_p3 : lw_okq (⟨"BirchLeaf$Tape", "next", "()V"⟩, 8) := ⟨⟨by decide +kernel, by decide +kernel⟩, List.mem_of_getElem? (i := 41) (by decide +kernel), List.mem_of_getElem? (i := 339) (by decide +kernel), List.mem_of_getElem? (i := 340) (by decide +kernel)⟩
theorem lw_p4 : lw_okq (⟨"BirchLeaf$Tape", "isWord", "(Ljava/lang/String;)Z"⟩, 8) := ⟨⟨by decide +kernel, by decide +kernel⟩, List.mem_of_getElem? (i := 41) (by decide +kernel), List.mem_of_getElem? (i := 350) (by decide +kernel), List.mem_of_getElem? (i := 351) (by decide +kernel)⟩
theorem lw_p5 : lw_okq (⟨"BirchLeaf$Tape", "fail", "(I)V"⟩, 8) := ⟨⟨by decide +kernel, by decide +kernel⟩, List.mem_of_getElem? (i := 41) (by decide +kernel), List.mem_of_getElem? (i := 402) (by decide +kernel), List.mem_of_getElem? (i := 403) (by decide +kernel)⟩
theorem lw_p6 : lw_okq (⟨"BirchLeaf$Tape", "readNumber", "(II)I"⟩, 8) := ⟨⟨by decide +kernel, by decide +kernel⟩, List.mem_of_getElem? (i := 41) (by decide +kernel), List.mem_of_getElem? (i := 406) (by decide +kernel), List.mem_of_getElem? (i := 407) (by decide +kernel)⟩
theorem lw_p7 : lw_okq (⟨"BirchLeaf$Tape", "readSign", "()V"⟩, 8) := ⟨⟨by decide +kernel, by decide +kernel⟩, List.mem_of_getElem? (i := 41) (by decide +kernel), List.mem_of_getElem? (i := 410) (by decide +kernel), List.mem_of_getElem? (i := 411) (by decide +kernel)⟩
theorem lw_p8 : lw_okq (⟨"BirchLeaf$Tape", "readPart", "(LBirchLeaf$Hill;)Z"⟩, 8) := ⟨⟨by decide +kernel, by decide +kernel⟩, List.mem_of_getElem? (i := 41) (by decide +kernel), List.mem_of_getElem? (i := 414) (by decide +kernel), List.mem_of_getElem? (i := 415) (by decide +kernel)⟩
theorem lw_p9 : lw_okq (⟨"BirchLeaf$Tape", "readTrader", "(LBirchLeaf$Hill;)V"⟩, 8) := ⟨⟨by decide +kernel, by decide +kernel⟩, List.mem_of_getElem? (i := 41) (by decide +kernel), List.mem_of_getElem? (i := 419) (by decide +kernel), List.mem_of_getElem? (i := 420) (by decide +kernel)⟩
theorem lw_p10 : lw_okq (⟨"BirchLeaf$Tape", "readSort", "()I"⟩, 8) := ⟨⟨by decide +kernel, by decide +kernel⟩, List.mem_of_getElem? (i := 41) (by decide +kernel), List.mem_of_getElem? (i := 423) (by decide +kernel), List.mem_of_getElem? (i := 424) (by decide +kernel)⟩
theorem lw_p11 : lw_okq (⟨"BirchLeaf$Tape", "readWay", "(LBirchLeaf$Hill;)V"⟩, 8) := ⟨⟨by decide +kernel, by decide +kernel⟩, List.mem_of_getElem? (i := 41) (by decide +kernel), List.mem_of_getElem? (i := 437) (by decide +kernel), List.mem_of_getElem? (i := 438) (by decide +kernel)⟩
theorem lw_p12 : lw_okq (⟨"BirchLeaf$Acts", "keep", "(II)V"⟩, 8) := ⟨⟨by decide +kernel, by decide +kernel⟩, List.mem_of_getElem? (i := 142) (by decide +kernel), List.mem_of_getElem? (i := 494) (by decide +kernel), List.mem_of_getElem? (i := 495) (by decide +kernel)⟩
theorem lw_p13 : lw_okq (⟨"BirchLeaf$Acts", "pay", "(III)V"⟩, 8) := ⟨⟨by decide +kernel, by decide +kernel⟩, List.mem_of_getElem? (i := 142) (by decide +kernel), List.mem_of_getElem? (i := 499) (by decide +kernel), List.mem_of_getElem? (i := 500) (by decide +kernel)⟩
theorem lw_p14 : lw_okq (⟨"BirchLeaf$Foretold", "dearest", "(III)I"⟩, 7) := ⟨⟨by decide +kernel, by decide +kernel⟩, List.mem_of_getElem? (i := 174) (by decide +kernel), List.mem_of_getElem? (i := 558) (by decide +kernel), List.mem_of_getElem? (i := 559) (by decide +kernel)⟩
theorem lw_p15 : lw_okq (⟨"BirchLeaf$Foretold", "fillBest", "(IZ)V"⟩, 7) := ⟨⟨by decide +kernel, by decide +kernel⟩, List.mem_of_getElem? (i := 174) (by decide +kernel), List.mem_of_getElem? (i := 576) (by decide +kernel), List.mem_of_getElem? (i := 577) (by decide +kernel)⟩
def lw_privs_1 : List (MethodName × Nat) := [(⟨"BirchLeaf", "find", "(I)I"⟩, 10), (⟨"BirchLeaf$Rows", "holds", "(III)Z"⟩, 3), (⟨"BirchLeaf$Tape", "readNight", "(LBirchLeaf$Hill;)V"⟩, 8), (⟨"BirchLeaf$Tape", "next", "()V"⟩, 8), (⟨"BirchLeaf$Tape", "isWord", "(Ljava/lang/String;)Z"⟩, 8), (⟨"BirchLeaf$Tape", "fail", "(I)V"⟩, 8), (⟨"BirchLeaf$Tape", "readNumber", "(II)I"⟩, 8), (⟨"BirchLeaf$Tape", "readSign", "()V"⟩, 8), (⟨"BirchLeaf$Tape", "readPart", "(LBirchLeaf$Hill;)Z"⟩, 8), (⟨"BirchLeaf$Tape", "readTrader", "(LBirchLeaf$Hill;)V"⟩, 8), (⟨"BirchLeaf$Tape", "readSort", "()I"⟩, 8), (⟨"BirchLeaf$Tape", "readWay", "(LBirchLeaf$Hill;)V"⟩, 8), (⟨"BirchLeaf$Acts", "keep", "(II)V"⟩, 8), (⟨"BirchLeaf$Acts", "pay", "(III)V"⟩, 8), (⟨"BirchLeaf$Foretold", "dearest", "(III)I"⟩, 7), (⟨"BirchLeaf$Foretold", "fillBest", "(IZ)V"⟩, 7)]
theorem lw_r1 : ∀ q ∈ lw_privs_1, lw_okq q := List.forall_mem_cons.mpr ⟨lw_p0, List.forall_mem_cons.mpr ⟨lw_p1, List.forall_mem_cons.mpr ⟨lw_p2, List.forall_mem_cons.mpr ⟨lw_p3, List.forall_mem_cons.mpr ⟨lw_p4, List.forall_mem_cons.mpr ⟨lw_p5, List.forall_mem_cons.mpr ⟨lw_p6, List.forall_mem_cons.mpr ⟨lw_p7, List.forall_mem_cons.mpr ⟨lw_p8, List.forall_mem_cons.mpr ⟨lw_p9, List.forall_mem_cons.mpr ⟨lw_p10, List.forall_mem_cons.mpr ⟨lw_p11, List.forall_mem_cons.mpr ⟨lw_p12, List.forall_mem_cons.mpr ⟨lw_p13, List.forall_mem_cons.mpr ⟨lw_p14, List.forall_mem_cons.mpr ⟨lw_p15, fun _ h => absurd h List.not_mem_nil⟩⟩⟩⟩⟩⟩⟩⟩⟩⟩⟩⟩⟩⟩⟩⟩
theorem lw_p16 : lw_okq (⟨"BirchLeaf$Foretold", "bestOf", "(IIZ)I"⟩, 7) := ⟨⟨by decide +kernel, by decide +kernel⟩, List.mem_of_getElem? (i := 174) (by decide +kernel), List.mem_of_getElem? (i := 580) (by decide +kernel), List.mem_of_getElem? (i := 581) (by decide +kernel)⟩
theorem lw_p17 : lw_okq (⟨"BirchLeaf$Foretold", "fillCame", "()V"⟩, 7) := ⟨⟨by decide +kernel, by decide +kernel⟩, List.mem_of_getElem? (i := 174) (by decide +kernel), List.mem_of_getElem? (i := 636) (by decide +kernel), List.mem_of_getElem? (i := 637) (by decide +kernel)⟩
theorem lw_p18 : lw_okq (⟨"BirchLeaf$Foretold", "nextTold", "(I)I"⟩, 7) := ⟨⟨by decide +kernel, by decide +kernel⟩, List.mem_of_getElem? (i := 174) (by decide +kernel), List.mem_of_getElem? (i := 640) (by decide +kernel), List.mem_of_getElem? (i := 641) (by decide +kernel)⟩
theorem lw_p19 : lw_okq (⟨"BirchLeaf$Foretold", "goFrom", "(III)V"⟩, 7) := ⟨⟨by decide +kernel, by decide +kernel⟩, List.mem_of_getElem? (i := 174) (by decide +kernel), List.mem_of_getElem? (i := 645) (by decide +kernel), List.mem_of_getElem? (i := 646) (by decide +kernel)⟩
theorem lw_p20 : lw_okq (⟨"BirchLeaf$Foretold", "fillGoesOn", "()V"⟩, 7) := ⟨⟨by decide +kernel, by decide +kernel⟩, List.mem_of_getElem? (i := 174) (by decide +kernel), List.mem_of_getElem? (i := 649) (by decide +kernel), List.mem_of_getElem? (i := 650) (by decide +kernel)⟩
theorem lw_p21 : lw_okq (⟨"BirchLeaf$Foretold", "canGoOn", "(III)Z"⟩, 7) := ⟨⟨by decide +kernel, by decide +kernel⟩, List.mem_of_getElem? (i := 174) (by decide +kernel), List.mem_of_getElem? (i := 653) (by decide +kernel), List.mem_of_getElem? (i := 654) (by decide +kernel)⟩
theorem lw_p22 : lw_okq (⟨"BirchLeaf", "imageOf", "(I)LBirchLeaf$Hill;"⟩, 10) := ⟨⟨by decide +kernel, by decide +kernel⟩, List.mem_of_getElem? (i := 16) (by decide +kernel), List.mem_of_getElem? (i := 661) (by decide +kernel), List.mem_of_getElem? (i := 662) (by decide +kernel)⟩
theorem lw_p23 : lw_okq (⟨"BirchLeaf$Asks", "bakerSize", "(I)I"⟩, 3) := ⟨⟨by decide +kernel, by decide +kernel⟩, List.mem_of_getElem? (i := 204) (by decide +kernel), List.mem_of_getElem? (i := 693) (by decide +kernel), List.mem_of_getElem? (i := 694) (by decide +kernel)⟩
theorem lw_p24 : lw_okq (⟨"BirchLeaf$Asks", "enter", "(I)V"⟩, 3) := ⟨⟨by decide +kernel, by decide +kernel⟩, List.mem_of_getElem? (i := 204) (by decide +kernel), List.mem_of_getElem? (i := 697) (by decide +kernel), List.mem_of_getElem? (i := 698) (by decide +kernel)⟩
theorem lw_p25 : lw_okq (⟨"BirchLeaf$Asks", "bakerMark", "(I)I"⟩, 3) := ⟨⟨by decide +kernel, by decide +kernel⟩, List.mem_of_getElem? (i := 204) (by decide +kernel), List.mem_of_getElem? (i := 701) (by decide +kernel), List.mem_of_getElem? (i := 702) (by decide +kernel)⟩
theorem lw_p26 : lw_okq (⟨"BirchLeaf$Asks", "priestSize", "(I)I"⟩, 3) := ⟨⟨by decide +kernel, by decide +kernel⟩, List.mem_of_getElem? (i := 204) (by decide +kernel), List.mem_of_getElem? (i := 705) (by decide +kernel), List.mem_of_getElem? (i := 706) (by decide +kernel)⟩
theorem lw_p27 : lw_okq (⟨"BirchLeaf$Asks", "priestMark", "(I)I"⟩, 3) := ⟨⟨by decide +kernel, by decide +kernel⟩, List.mem_of_getElem? (i := 204) (by decide +kernel), List.mem_of_getElem? (i := 713) (by decide +kernel), List.mem_of_getElem? (i := 714) (by decide +kernel)⟩
theorem lw_p28 : lw_okq (⟨"BirchLeafModel", "finding", "(I)I"⟩, 30) := ⟨⟨by decide +kernel, by decide +kernel⟩, List.mem_of_getElem? (i := 733) (by decide +kernel), List.mem_of_getElem? (i := 844) (by decide +kernel), List.mem_of_getElem? (i := 845) (by decide +kernel)⟩
theorem lw_p29 : lw_okq (⟨"BirchLeafModel", "begin", "()V"⟩, 30) := ⟨⟨by decide +kernel, by decide +kernel⟩, List.mem_of_getElem? (i := 733) (by decide +kernel), List.mem_of_getElem? (i := 872) (by decide +kernel), List.mem_of_getElem? (i := 873) (by decide +kernel)⟩
theorem lw_p30 : lw_okq (⟨"BirchLeafModel", "next", "()V"⟩, 30) := ⟨⟨by decide +kernel, by decide +kernel⟩, List.mem_of_getElem? (i := 733) (by decide +kernel), List.mem_of_getElem? (i := 876) (by decide +kernel), List.mem_of_getElem? (i := 877) (by decide +kernel)⟩
theorem lw_p31 : lw_okq (⟨"BirchLeafModel", "byteAt", "(I)I"⟩, 30) := ⟨⟨by decide +kernel, by decide +kernel⟩, List.mem_of_getElem? (i := 733) (by decide +kernel), List.mem_of_getElem? (i := 880) (by decide +kernel), List.mem_of_getElem? (i := 881) (by decide +kernel)⟩
def lw_privs_2 : List (MethodName × Nat) := [(⟨"BirchLeaf$Foretold", "bestOf", "(IIZ)I"⟩, 7), (⟨"BirchLeaf$Foretold", "fillCame", "()V"⟩, 7), (⟨"BirchLeaf$Foretold", "nextTold", "(I)I"⟩, 7), (⟨"BirchLeaf$Foretold", "goFrom", "(III)V"⟩, 7), (⟨"BirchLeaf$Foretold", "fillGoesOn", "()V"⟩, 7), (⟨"BirchLeaf$Foretold", "canGoOn", "(III)Z"⟩, 7), (⟨"BirchLeaf", "imageOf", "(I)LBirchLeaf$Hill;"⟩, 10), (⟨"BirchLeaf$Asks", "bakerSize", "(I)I"⟩, 3), (⟨"BirchLeaf$Asks", "enter", "(I)V"⟩, 3), (⟨"BirchLeaf$Asks", "bakerMark", "(I)I"⟩, 3), (⟨"BirchLeaf$Asks", "priestSize", "(I)I"⟩, 3), (⟨"BirchLeaf$Asks", "priestMark", "(I)I"⟩, 3), (⟨"BirchLeafModel", "finding", "(I)I"⟩, 30), (⟨"BirchLeafModel", "begin", "()V"⟩, 30), (⟨"BirchLeafModel", "next", "()V"⟩, 30), (⟨"BirchLeafModel", "byteAt", "(I)I"⟩, 30)]
theorem lw_r2 : ∀ q ∈ lw_privs_2, lw_okq q := List.forall_mem_cons.mpr ⟨lw_p16, List.forall_mem_cons.mpr ⟨lw_p17, List.forall_mem_cons.mpr ⟨lw_p18, List.forall_mem_cons.mpr ⟨lw_p19, List.forall_mem_cons.mpr ⟨lw_p20, List.forall_mem_cons.mpr ⟨lw_p21, List.forall_mem_cons.mpr ⟨lw_p22, List.forall_mem_cons.mpr ⟨lw_p23, List.forall_mem_cons.mpr ⟨lw_p24, List.forall_mem_cons.mpr ⟨lw_p25, List.forall_mem_cons.mpr ⟨lw_p26, List.forall_mem_cons.mpr ⟨lw_p27, List.forall_mem_cons.mpr ⟨lw_p28, List.forall_mem_cons.mpr ⟨lw_p29, List.forall_mem_cons.mpr ⟨lw_p30, List.forall_mem_cons.mpr ⟨lw_p31, fun _ h => absurd h List.not_mem_nil⟩⟩⟩⟩⟩⟩⟩⟩⟩⟩⟩⟩⟩⟩⟩⟩
theorem lw_p32 : lw_okq (⟨"BirchLeafModel", "name", "()J"⟩, 30) := ⟨⟨by decide +kernel, by decide +kernel⟩, List.mem_of_getElem? (i := 733) (by decide +kernel), List.mem_of_getElem? (i := 891) (by decide +kernel), List.mem_of_getElem? (i := 892) (by decide +kernel)⟩
theorem lw_p33 : lw_okq (⟨"BirchLeafModel", "must", "(Z)V"⟩, 30) := ⟨⟨by decide +kernel, by decide +kernel⟩, List.mem_of_getElem? (i := 733) (by decide +kernel), List.mem_of_getElem? (i := 896) (by decide +kernel), List.mem_of_getElem? (i := 897) (by decide +kernel)⟩
theorem lw_p34 : lw_okq (⟨"BirchLeafModel", "bad", "(I)V"⟩, 30) := ⟨⟨by decide +kernel, by decide +kernel⟩, List.mem_of_getElem? (i := 733) (by decide +kernel), List.mem_of_getElem? (i := 900) (by decide +kernel), List.mem_of_getElem? (i := 901) (by decide +kernel)⟩
theorem lw_p35 : lw_okq (⟨"BirchLeafModel", "number", "(II)I"⟩, 30) := ⟨⟨by decide +kernel, by decide +kernel⟩, List.mem_of_getElem? (i := 733) (by decide +kernel), List.mem_of_getElem? (i := 904) (by decide +kernel), List.mem_of_getElem? (i := 905) (by decide +kernel)⟩
theorem lw_p36 : lw_okq (⟨"BirchLeafModel", "figures", "()I"⟩, 30) := ⟨⟨by decide +kernel, by decide +kernel⟩, List.mem_of_getElem? (i := 733) (by decide +kernel), List.mem_of_getElem? (i := 908) (by decide +kernel), List.mem_of_getElem? (i := 909) (by decide +kernel)⟩
theorem lw_p37 : lw_okq (⟨"BirchLeafModel", "mustEnd", "()V"⟩, 30) := ⟨⟨by decide +kernel, by decide +kernel⟩, List.mem_of_getElem? (i := 733) (by decide +kernel), List.mem_of_getElem? (i := 912) (by decide +kernel), List.mem_of_getElem? (i := 913) (by decide +kernel)⟩
theorem lw_p38 : lw_okq (⟨"BirchLeafModel", "readTrader", "()V"⟩, 30) := ⟨⟨by decide +kernel, by decide +kernel⟩, List.mem_of_getElem? (i := 733) (by decide +kernel), List.mem_of_getElem? (i := 917) (by decide +kernel), List.mem_of_getElem? (i := 918) (by decide +kernel)⟩
theorem lw_p39 : lw_okq (⟨"BirchLeafModel", "begins", "(II)V"⟩, 30) := ⟨⟨by decide +kernel, by decide +kernel⟩, List.mem_of_getElem? (i := 733) (by decide +kernel), List.mem_of_getElem? (i := 921) (by decide +kernel), List.mem_of_getElem? (i := 922) (by decide +kernel)⟩
theorem lw_p40 : lw_okq (⟨"BirchLeafModel", "readWay", "()V"⟩, 30) := ⟨⟨by decide +kernel, by decide +kernel⟩, List.mem_of_getElem? (i := 733) (by decide +kernel), List.mem_of_getElem? (i := 934) (by decide +kernel), List.mem_of_getElem? (i := 935) (by decide +kernel)⟩
theorem lw_p41 : lw_okq (⟨"BirchLeafModel", "isTrader", "(I)Z"⟩, 30) := ⟨⟨by decide +kernel, by decide +kernel⟩, List.mem_of_getElem? (i := 733) (by decide +kernel), List.mem_of_getElem? (i := 947) (by decide +kernel), List.mem_of_getElem? (i := 948) (by decide +kernel)⟩
theorem lw_p42 : lw_okq (⟨"BirchLeafModel", "passedIn", "(III)I"⟩, 30) := ⟨⟨by decide +kernel, by decide +kernel⟩, List.mem_of_getElem? (i := 733) (by decide +kernel), List.mem_of_getElem? (i := 951) (by decide +kernel), List.mem_of_getElem? (i := 952) (by decide +kernel)⟩
theorem lw_p43 : lw_okq (⟨"BirchLeafModel", "thereIn", "(III)I"⟩, 30) := ⟨⟨by decide +kernel, by decide +kernel⟩, List.mem_of_getElem? (i := 733) (by decide +kernel), List.mem_of_getElem? (i := 955) (by decide +kernel), List.mem_of_getElem? (i := 956) (by decide +kernel)⟩
theorem lw_p44 : lw_okq (⟨"BirchLeafModel", "isTaken", "(II)Z"⟩, 30) := ⟨⟨by decide +kernel, by decide +kernel⟩, List.mem_of_getElem? (i := 733) (by decide +kernel), List.mem_of_getElem? (i := 959) (by decide +kernel), List.mem_of_getElem? (i := 960) (by decide +kernel)⟩
theorem lw_p45 : lw_okq (⟨"BirchLeafModel", "of", "(II)I"⟩, 30) := ⟨⟨by decide +kernel, by decide +kernel⟩, List.mem_of_getElem? (i := 733) (by decide +kernel), List.mem_of_getElem? (i := 963) (by decide +kernel), List.mem_of_getElem? (i := 964) (by decide +kernel)⟩
theorem lw_p46 : lw_okq (⟨"BirchLeafModel", "keep", "()V"⟩, 30) := ⟨⟨by decide +kernel, by decide +kernel⟩, List.mem_of_getElem? (i := 733) (by decide +kernel), List.mem_of_getElem? (i := 968) (by decide +kernel), List.mem_of_getElem? (i := 969) (by decide +kernel)⟩
theorem lw_p47 : lw_okq (⟨"BirchLeafModel", "priceOf", "(I)I"⟩, 30) := ⟨⟨by decide +kernel, by decide +kernel⟩, List.mem_of_getElem? (i := 733) (by decide +kernel), List.mem_of_getElem? (i := 972) (by decide +kernel), List.mem_of_getElem? (i := 973) (by decide +kernel)⟩
def lw_privs_3 : List (MethodName × Nat) := [(⟨"BirchLeafModel", "name", "()J"⟩, 30), (⟨"BirchLeafModel", "must", "(Z)V"⟩, 30), (⟨"BirchLeafModel", "bad", "(I)V"⟩, 30), (⟨"BirchLeafModel", "number", "(II)I"⟩, 30), (⟨"BirchLeafModel", "figures", "()I"⟩, 30), (⟨"BirchLeafModel", "mustEnd", "()V"⟩, 30), (⟨"BirchLeafModel", "readTrader", "()V"⟩, 30), (⟨"BirchLeafModel", "begins", "(II)V"⟩, 30), (⟨"BirchLeafModel", "readWay", "()V"⟩, 30), (⟨"BirchLeafModel", "isTrader", "(I)Z"⟩, 30), (⟨"BirchLeafModel", "passedIn", "(III)I"⟩, 30), (⟨"BirchLeafModel", "thereIn", "(III)I"⟩, 30), (⟨"BirchLeafModel", "isTaken", "(II)Z"⟩, 30), (⟨"BirchLeafModel", "of", "(II)I"⟩, 30), (⟨"BirchLeafModel", "keep", "()V"⟩, 30), (⟨"BirchLeafModel", "priceOf", "(I)I"⟩, 30)]
theorem lw_r3 : ∀ q ∈ lw_privs_3, lw_okq q := List.forall_mem_cons.mpr ⟨lw_p32, List.forall_mem_cons.mpr ⟨lw_p33, List.forall_mem_cons.mpr ⟨lw_p34, List.forall_mem_cons.mpr ⟨lw_p35, List.forall_mem_cons.mpr ⟨lw_p36, List.forall_mem_cons.mpr ⟨lw_p37, List.forall_mem_cons.mpr ⟨lw_p38, List.forall_mem_cons.mpr ⟨lw_p39, List.forall_mem_cons.mpr ⟨lw_p40, List.forall_mem_cons.mpr ⟨lw_p41, List.forall_mem_cons.mpr ⟨lw_p42, List.forall_mem_cons.mpr ⟨lw_p43, List.forall_mem_cons.mpr ⟨lw_p44, List.forall_mem_cons.mpr ⟨lw_p45, List.forall_mem_cons.mpr ⟨lw_p46, List.forall_mem_cons.mpr ⟨lw_p47, fun _ h => absurd h List.not_mem_nil⟩⟩⟩⟩⟩⟩⟩⟩⟩⟩⟩⟩⟩⟩⟩⟩
theorem lw_p48 : lw_okq (⟨"BirchLeafModel", "isThere", "()Z"⟩, 30) := ⟨⟨by decide +kernel, by decide +kernel⟩, List.mem_of_getElem? (i := 733) (by decide +kernel), List.mem_of_getElem? (i := 980) (by decide +kernel), List.mem_of_getElem? (i := 981) (by decide +kernel)⟩
theorem lw_p49 : lw_okq (⟨"BirchLeafModel", "lastOne", "()I"⟩, 30) := ⟨⟨by decide +kernel, by decide +kernel⟩, List.mem_of_getElem? (i := 733) (by decide +kernel), List.mem_of_getElem? (i := 1025) (by decide +kernel), List.mem_of_getElem? (i := 1026) (by decide +kernel)⟩
theorem lw_p50 : lw_okq (⟨"BirchLeafModel", "layComes", "()V"⟩, 30) := ⟨⟨by decide +kernel, by decide +kernel⟩, List.mem_of_getElem? (i := 733) (by decide +kernel), List.mem_of_getElem? (i := 1038) (by decide +kernel), List.mem_of_getElem? (i := 1039) (by decide +kernel)⟩
theorem lw_p51 : lw_okq (⟨"BirchLeafModel", "isUnseen", "(III)Z"⟩, 30) := ⟨⟨by decide +kernel, by decide +kernel⟩, List.mem_of_getElem? (i := 733) (by decide +kernel), List.mem_of_getElem? (i := 1042) (by decide +kernel), List.mem_of_getElem? (i := 1043) (by decide +kernel)⟩
theorem lw_p52 : lw_okq (⟨"BirchLeafModel", "layGoesOn", "()V"⟩, 30) := ⟨⟨by decide +kernel, by decide +kernel⟩, List.mem_of_getElem? (i := 733) (by decide +kernel), List.mem_of_getElem? (i := 1046) (by decide +kernel), List.mem_of_getElem? (i := 1047) (by decide +kernel)⟩
theorem lw_p53 : lw_okq (⟨"BirchLeafModel", "sizeOf", "(I)I"⟩, 30) := ⟨⟨by decide +kernel, by decide +kernel⟩, List.mem_of_getElem? (i := 733) (by decide +kernel), List.mem_of_getElem? (i := 1074) (by decide +kernel), List.mem_of_getElem? (i := 1075) (by decide +kernel)⟩
theorem lw_p54 : lw_okq (⟨"BirchLeafModel", "priestSize", "(I)I"⟩, 30) := ⟨⟨by decide +kernel, by decide +kernel⟩, List.mem_of_getElem? (i := 733) (by decide +kernel), List.mem_of_getElem? (i := 1078) (by decide +kernel), List.mem_of_getElem? (i := 1079) (by decide +kernel)⟩
theorem lw_p55 : lw_okq (⟨"BirchLeafModel", "began", "(I)V"⟩, 30) := ⟨⟨by decide +kernel, by decide +kernel⟩, List.mem_of_getElem? (i := 733) (by decide +kernel), List.mem_of_getElem? (i := 1082) (by decide +kernel), List.mem_of_getElem? (i := 1083) (by decide +kernel)⟩
theorem lw_p56 : lw_okq (⟨"BirchLeafModel", "plainSize", "(I)I"⟩, 30) := ⟨⟨by decide +kernel, by decide +kernel⟩, List.mem_of_getElem? (i := 733) (by decide +kernel), List.mem_of_getElem? (i := 1086) (by decide +kernel), List.mem_of_getElem? (i := 1087) (by decide +kernel)⟩
theorem lw_p57 : lw_okq (⟨"BirchLeafModel", "markOf", "(I)I"⟩, 30) := ⟨⟨by decide +kernel, by decide +kernel⟩, List.mem_of_getElem? (i := 733) (by decide +kernel), List.mem_of_getElem? (i := 1090) (by decide +kernel), List.mem_of_getElem? (i := 1091) (by decide +kernel)⟩
def lw_privs_4 : List (MethodName × Nat) := [(⟨"BirchLeafModel", "isThere", "()Z"⟩, 30), (⟨"BirchLeafModel", "lastOne", "()I"⟩, 30), (⟨"BirchLeafModel", "layComes", "()V"⟩, 30), (⟨"BirchLeafModel", "isUnseen", "(III)Z"⟩, 30), (⟨"BirchLeafModel", "layGoesOn", "()V"⟩, 30), (⟨"BirchLeafModel", "sizeOf", "(I)I"⟩, 30), (⟨"BirchLeafModel", "priestSize", "(I)I"⟩, 30), (⟨"BirchLeafModel", "began", "(I)V"⟩, 30), (⟨"BirchLeafModel", "plainSize", "(I)I"⟩, 30), (⟨"BirchLeafModel", "markOf", "(I)I"⟩, 30)]
theorem lw_r4 : ∀ q ∈ lw_privs_4, lw_okq q := List.forall_mem_cons.mpr ⟨lw_p48, List.forall_mem_cons.mpr ⟨lw_p49, List.forall_mem_cons.mpr ⟨lw_p50, List.forall_mem_cons.mpr ⟨lw_p51, List.forall_mem_cons.mpr ⟨lw_p52, List.forall_mem_cons.mpr ⟨lw_p53, List.forall_mem_cons.mpr ⟨lw_p54, List.forall_mem_cons.mpr ⟨lw_p55, List.forall_mem_cons.mpr ⟨lw_p56, List.forall_mem_cons.mpr ⟨lw_p57, fun _ h => absurd h List.not_mem_nil⟩⟩⟩⟩⟩⟩⟩⟩⟩⟩
def lw_privs : List (MethodName × Nat) := lw_privs_1 ++ (lw_privs_2 ++ (lw_privs_3 ++ (lw_privs_4)))
def lw_tbl : List Cond := k2_sels lw_privs ++ tables_1
theorem lw_privs_ok : ∀ q ∈ lw_privs, lw_okq q := by
  show ∀ q ∈ lw_privs_1 ++ (lw_privs_2 ++ (lw_privs_3 ++ (lw_privs_4))), lw_okq q
  exact List.forall_mem_append.mpr ⟨lw_r1, List.forall_mem_append.mpr ⟨lw_r2, List.forall_mem_append.mpr ⟨lw_r3, lw_r4⟩⟩⟩
-- ===== end of PART A; then your names; then what follows =====
/-! ===== BEGIN printed: names, fields, word lists, decode rows ===== -/
def RX0 : String := "BirchLeaf$Acts"
def TX0 : u_T := fun k => match k with
  | 0 => ("BirchLeaf$Acts", "hill", "LBirchLeaf$Hill;", true)
  | 1 => ("BirchLeaf$Acts", "kept", "I", false)
  | 2 => ("BirchLeaf$Acts", "next", "I", false)
  | 3 => ("BirchLeaf$Acts", "minutes", "[I", true)
  | 4 => ("BirchLeaf$Acts", "dawns", "[I", true)
  | 5 => ("BirchLeaf$Acts", "givers", "[I", true)
  | 6 => ("BirchLeaf$Acts", "takers", "[I", true)
  | _ => ("BirchLeaf$Acts", "paid", "[I", true)
def tyX0 : Nat → FieldType := fun k => match k with
  | 0 => .object "BirchLeaf$Hill"
  | 1 => .int
  | 2 => .int
  | 3 => .array .int
  | 4 => .array .int
  | 5 => .array .int
  | 6 => .array .int
  | _ => .array .int
abbrev wsX00 : List Cond := u_ws RX0 TX0 8
theorem nmX0 : ∀ a, a < 8 → ∀ b, b < 8 → a ≠ b → (TX0 a).2.1 ≠ (TX0 b).2.1 := by decide +kernel
theorem tyX0_ok : ∀ k, k < 8 → parseFieldDescriptor (TX0 k).2.2.1 = some (tyX0 k) := by decide +kernel
abbrev cX0_init : ByteArray := prog_2_method_1_code
def yX0_init : MethodName := ⟨RX0, "<init>", "(LBirchLeaf$Hill;)V"⟩
abbrev cX0_forget : ByteArray := prog_2_method_2_code
def yX0_forget : MethodName := ⟨RX0, "forget", "()V"⟩
abbrev cX0_passTo : ByteArray := prog_2_method_3_code
def yX0_passTo : MethodName := ⟨RX0, "passTo", "(II)V"⟩
abbrev cX0_letPass : ByteArray := prog_2_method_4_code
def yX0_letPass : MethodName := ⟨RX0, "letPass", "(I)V"⟩
abbrev cX0_moveDawn : ByteArray := prog_2_method_5_code
def yX0_moveDawn : MethodName := ⟨RX0, "moveDawn", "(I)V"⟩
abbrev cX0_takeBack : ByteArray := prog_2_method_6_code
def yX0_takeBack : MethodName := ⟨RX0, "takeBack", "()Z"⟩
abbrev cX0_keep : ByteArray := prog_2_method_7_code
def yX0_keep : MethodName := ⟨RX0, "keep", "(II)V"⟩
abbrev cX0_pay : ByteArray := prog_2_method_8_code
def yX0_pay : MethodName := ⟨RX0, "pay", "(III)V"⟩
def RX1 : String := "BirchLeaf$Asks"
def TX1 : u_T := fun k => match k with
  | 0 => ("BirchLeaf$Asks", "hill", "LBirchLeaf$Hill;", true)
  | 1 => ("BirchLeaf$Asks", "bodies", "[I", true)
  | _ => ("BirchLeaf$Asks", "length", "I", false)
def tyX1 : Nat → FieldType := fun k => match k with
  | 0 => .object "BirchLeaf$Hill"
  | 1 => .array .int
  | _ => .int
abbrev wsX10 : List Cond := u_ws RX1 TX1 3
theorem nmX1 : ∀ a, a < 3 → ∀ b, b < 3 → a ≠ b → (TX1 a).2.1 ≠ (TX1 b).2.1 := by decide +kernel
theorem tyX1_ok : ∀ k, k < 3 → parseFieldDescriptor (TX1 k).2.2.1 = some (tyX1 k) := by decide +kernel
abbrev cX1_init : ByteArray := prog_3_method_1_code
def yX1_init : MethodName := ⟨RX1, "<init>", "(LBirchLeaf$Hill;)V"⟩
abbrev cX1_begin : ByteArray := prog_3_method_2_code
def yX1_begin : MethodName := ⟨RX1, "begin", "()V"⟩
abbrev cX1_enter : ByteArray := prog_3_method_3_code
def yX1_enter : MethodName := ⟨RX1, "enter", "(I)V"⟩
abbrev cX1_size : ByteArray := prog_3_method_4_code
def yX1_size : MethodName := ⟨RX1, "size", "(I)I"⟩
abbrev cX1_mark : ByteArray := prog_3_method_5_code
def yX1_mark : MethodName := ⟨RX1, "mark", "(I)I"⟩
abbrev cX1_bakerSize : ByteArray := prog_3_method_6_code
def yX1_bakerSize : MethodName := ⟨RX1, "bakerSize", "(I)I"⟩
abbrev cX1_bakerMark : ByteArray := prog_3_method_7_code
def yX1_bakerMark : MethodName := ⟨RX1, "bakerMark", "(I)I"⟩
abbrev cX1_priestSize : ByteArray := prog_3_method_8_code
def yX1_priestSize : MethodName := ⟨RX1, "priestSize", "(I)I"⟩
abbrev cX1_priestMark : ByteArray := prog_3_method_9_code
def yX1_priestMark : MethodName := ⟨RX1, "priestMark", "(I)I"⟩
def RX2 : String := "BirchLeaf$Foretold"
def TX2 : u_T := fun k => match k with
  | 0 => ("BirchLeaf$Foretold", "hill", "LBirchLeaf$Hill;", true)
  | 1 => ("BirchLeaf$Foretold", "lastHolder", "I", false)
  | 2 => ("BirchLeaf$Foretold", "lastMinute", "I", false)
  | 3 => ("BirchLeaf$Foretold", "best", "[I", true)
  | 4 => ("BirchLeaf$Foretold", "told", "[I", true)
  | 5 => ("BirchLeaf$Foretold", "came", "[I", true)
  | _ => ("BirchLeaf$Foretold", "goesOn", "[I", true)
def tyX2 : Nat → FieldType := fun k => match k with
  | 0 => .object "BirchLeaf$Hill"
  | 1 => .int
  | 2 => .int
  | 3 => .array .int
  | 4 => .array .int
  | 5 => .array .int
  | _ => .array .int
abbrev wsX20 : List Cond := u_ws RX2 TX2 7
theorem nmX2 : ∀ a, a < 7 → ∀ b, b < 7 → a ≠ b → (TX2 a).2.1 ≠ (TX2 b).2.1 := by decide +kernel
theorem tyX2_ok : ∀ k, k < 7 → parseFieldDescriptor (TX2 k).2.2.1 = some (tyX2 k) := by decide +kernel
abbrev cX2_init : ByteArray := prog_4_method_1_code
def yX2_init : MethodName := ⟨RX2, "<init>", "(LBirchLeaf$Hill;)V"⟩
abbrev cX2_dearestFrom : ByteArray := prog_4_method_2_code
def yX2_dearestFrom : MethodName := ⟨RX2, "dearestFrom", "(II)I"⟩
abbrev cX2_surelyFrom : ByteArray := prog_4_method_3_code
def yX2_surelyFrom : MethodName := ⟨RX2, "surelyFrom", "(II)I"⟩
abbrev cX2_sumFrom : ByteArray := prog_4_method_4_code
def yX2_sumFrom : MethodName := ⟨RX2, "sumFrom", "(II)I"⟩
abbrev cX2_timesFrom : ByteArray := prog_4_method_5_code
def yX2_timesFrom : MethodName := ⟨RX2, "timesFrom", "(II)I"⟩
abbrev cX2_coins : ByteArray := prog_4_method_6_code
def yX2_coins : MethodName := ⟨RX2, "coins", "(I)I"⟩
abbrev cX2_fillBest : ByteArray := prog_4_method_7_code
def yX2_fillBest : MethodName := ⟨RX2, "fillBest", "(IZ)V"⟩
abbrev cX2_bestOf : ByteArray := prog_4_method_8_code
def yX2_bestOf : MethodName := ⟨RX2, "bestOf", "(IIZ)I"⟩
abbrev cX2_dearest : ByteArray := prog_4_method_9_code
def yX2_dearest : MethodName := ⟨RX2, "dearest", "(III)I"⟩
abbrev cX2_runOut : ByteArray := prog_4_method_10_code
def yX2_runOut : MethodName := ⟨RX2, "runOut", "(I)V"⟩
abbrev cX2_dawnFor : ByteArray := prog_4_method_11_code
def yX2_dawnFor : MethodName := ⟨RX2, "dawnFor", "(I)I"⟩
abbrev cX2_forgetSeen : ByteArray := prog_4_method_12_code
def yX2_forgetSeen : MethodName := ⟨RX2, "forgetSeen", "()V"⟩
abbrev cX2_noteSeen : ByteArray := prog_4_method_13_code
def yX2_noteSeen : MethodName := ⟨RX2, "noteSeen", "(II)V"⟩
abbrev cX2_withWhom : ByteArray := prog_4_method_14_code
def yX2_withWhom : MethodName := ⟨RX2, "withWhom", "(I)I"⟩
abbrev cX2_fillCame : ByteArray := prog_4_method_15_code
def yX2_fillCame : MethodName := ⟨RX2, "fillCame", "()V"⟩
abbrev cX2_goFrom : ByteArray := prog_4_method_16_code
def yX2_goFrom : MethodName := ⟨RX2, "goFrom", "(III)V"⟩
abbrev cX2_fillGoesOn : ByteArray := prog_4_method_17_code
def yX2_fillGoesOn : MethodName := ⟨RX2, "fillGoesOn", "()V"⟩
abbrev cX2_canGoOn : ByteArray := prog_4_method_18_code
def yX2_canGoOn : MethodName := ⟨RX2, "canGoOn", "(III)Z"⟩
abbrev cX2_nextTold : ByteArray := prog_4_method_19_code
def yX2_nextTold : MethodName := ⟨RX2, "nextTold", "(I)I"⟩
def RX3 : String := "BirchLeaf$Hill"
def TX3 : u_T := fun k => match k with
  | 0 => ("BirchLeaf$Hill", "traders", "I", false)
  | 1 => ("BirchLeaf$Hill", "ways", "I", false)
  | 2 => ("BirchLeaf$Hill", "dawn", "I", false)
  | 3 => ("BirchLeaf$Hill", "water", "I", false)
  | 4 => ("BirchLeaf$Hill", "minute", "I", false)
  | 5 => ("BirchLeaf$Hill", "holder", "I", false)
  | 6 => ("BirchLeaf$Hill", "kinds", "[I", true)
  | 7 => ("BirchLeaf$Hill", "gives", "[I", true)
  | 8 => ("BirchLeaf$Hill", "tills", "[I", true)
  | 9 => ("BirchLeaf$Hill", "wins", "[I", true)
  | 10 => ("BirchLeaf$Hill", "dry", "[I", true)
  | _ => ("BirchLeaf$Hill", "wet", "[I", true)
def tyX3 : Nat → FieldType := fun k => match k with
  | 0 => .int
  | 1 => .int
  | 2 => .int
  | 3 => .int
  | 4 => .int
  | 5 => .int
  | 6 => .array .int
  | 7 => .array .int
  | 8 => .array .int
  | 9 => .array .int
  | 10 => .array .int
  | _ => .array .int
abbrev wsX30 : List Cond := u_ws RX3 TX3 12
theorem nmX3 : ∀ a, a < 12 → ∀ b, b < 12 → a ≠ b → (TX3 a).2.1 ≠ (TX3 b).2.1 := by decide +kernel
theorem tyX3_ok : ∀ k, k < 12 → parseFieldDescriptor (TX3 k).2.2.1 = some (tyX3 k) := by decide +kernel
abbrev cX3_init : ByteArray := prog_5_method_1_code
def yX3_init : MethodName := ⟨RX3, "<init>", "()V"⟩
abbrev cX3_isNone : ByteArray := prog_5_method_2_code
def yX3_isNone : MethodName := ⟨RX3, "isNone", "()Z"⟩
abbrev cX3_has : ByteArray := prog_5_method_3_code
def yX3_has : MethodName := ⟨RX3, "has", "(I)Z"⟩
abbrev cX3_clear : ByteArray := prog_5_method_4_code
def yX3_clear : MethodName := ⟨RX3, "clear", "()V"⟩
abbrev cX3_addTrader : ByteArray := prog_5_method_5_code
def yX3_addTrader : MethodName := ⟨RX3, "addTrader", "(III)V"⟩
abbrev cX3_addWay : ByteArray := prog_5_method_6_code
def yX3_addWay : MethodName := ⟨RX3, "addWay", "(IIIZ)V"⟩
abbrev cX3_become : ByteArray := prog_5_method_7_code
def yX3_become : MethodName := ⟨RX3, "become", "(LBirchLeaf$Hill;)V"⟩
abbrev cX3_price : ByteArray := prog_5_method_8_code
def yX3_price : MethodName := ⟨RX3, "price", "(I)I"⟩
abbrev cX3_accepts : ByteArray := prog_5_method_9_code
def yX3_accepts : MethodName := ⟨RX3, "accepts", "(III)Z"⟩
abbrev cX3_arrival : ByteArray := prog_5_method_10_code
def yX3_arrival : MethodName := ⟨RX3, "arrival", "(III)I"⟩
abbrev cX3_handed : ByteArray := prog_5_method_11_code
def yX3_handed : MethodName := ⟨RX3, "handed", "(IIII)I"⟩
def RX4 : String := "BirchLeaf$Rows"
def TX4 : u_T := fun k => match k with
  | 0 => ("BirchLeaf$Rows", "stores", "[I", true)
  | 1 => ("BirchLeaf$Rows", "sizes", "[I", true)
  | _ => ("BirchLeaf$Rows", "items", "[I", true)
def tyX4 : Nat → FieldType := fun k => match k with
  | 0 => .array .int
  | 1 => .array .int
  | _ => .array .int
abbrev wsX40 : List Cond := u_ws RX4 TX4 3
theorem nmX4 : ∀ a, a < 3 → ∀ b, b < 3 → a ≠ b → (TX4 a).2.1 ≠ (TX4 b).2.1 := by decide +kernel
theorem tyX4_ok : ∀ k, k < 3 → parseFieldDescriptor (TX4 k).2.2.1 = some (tyX4 k) := by decide +kernel
abbrev cX4_init : ByteArray := prog_6_method_1_code
def yX4_init : MethodName := ⟨RX4, "<init>", "()V"⟩
abbrev cX4_isMissing : ByteArray := prog_6_method_2_code
def yX4_isMissing : MethodName := ⟨RX4, "isMissing", "(I)Z"⟩
abbrev cX4_present : ByteArray := prog_6_method_3_code
def yX4_present : MethodName := ⟨RX4, "present", "()I"⟩
abbrev cX4_make : ByteArray := prog_6_method_4_code
def yX4_make : MethodName := ⟨RX4, "make", "(III)V"⟩
abbrev cX4_remove : ByteArray := prog_6_method_5_code
def yX4_remove : MethodName := ⟨RX4, "remove", "(I)I"⟩
abbrev cX4_lapse : ByteArray := prog_6_method_6_code
def yX4_lapse : MethodName := ⟨RX4, "lapse", "(III)I"⟩
abbrev cX4_lapseOfTwo : ByteArray := prog_6_method_7_code
def yX4_lapseOfTwo : MethodName := ⟨RX4, "lapseOfTwo", "(IIIII)I"⟩
abbrev cX4_holds : ByteArray := prog_6_method_8_code
def yX4_holds : MethodName := ⟨RX4, "holds", "(III)Z"⟩
abbrev cX4_item : ByteArray := prog_6_method_9_code
def yX4_item : MethodName := ⟨RX4, "item", "(II)I"⟩
abbrev cX4_put : ByteArray := prog_6_method_10_code
def yX4_put : MethodName := ⟨RX4, "put", "(III)I"⟩
abbrev cX4_move : ByteArray := prog_6_method_11_code
def yX4_move : MethodName := ⟨RX4, "move", "(IIIII)V"⟩
def RX5 : String := "BirchLeaf$Tape"
def TX5 : u_T := fun k => match k with
  | 0 => ("BirchLeaf$Tape", "bytes", "[B", true)
  | 1 => ("BirchLeaf$Tape", "length", "I", false)
  | 2 => ("BirchLeaf$Tape", "start", "I", false)
  | 3 => ("BirchLeaf$Tape", "end", "I", false)
  | 4 => ("BirchLeaf$Tape", "token", "I", false)
  | 5 => ("BirchLeaf$Tape", "value", "I", false)
  | 6 => ("BirchLeaf$Tape", "place", "I", false)
  | _ => ("BirchLeaf$Tape", "latestFault", "I", false)
def tyX5 : Nat → FieldType := fun k => match k with
  | 0 => .array .byte
  | 1 => .int
  | 2 => .int
  | 3 => .int
  | 4 => .int
  | 5 => .int
  | 6 => .int
  | _ => .int
abbrev wsX50 : List Cond := u_ws RX5 TX5 8
theorem nmX5 : ∀ a, a < 8 → ∀ b, b < 8 → a ≠ b → (TX5 a).2.1 ≠ (TX5 b).2.1 := by decide +kernel
theorem tyX5_ok : ∀ k, k < 8 → parseFieldDescriptor (TX5 k).2.2.1 = some (tyX5 k) := by decide +kernel
abbrev cX5_init : ByteArray := prog_7_method_1_code
def yX5_init : MethodName := ⟨RX5, "<init>", "()V"⟩
abbrev cX5_append : ByteArray := prog_7_method_2_code
def yX5_append : MethodName := ⟨RX5, "append", "(JI)I"⟩
abbrev cX5_readOnto : ByteArray := prog_7_method_3_code
def yX5_readOnto : MethodName := ⟨RX5, "readOnto", "(LBirchLeaf$Hill;)I"⟩
abbrev cX5_readNight : ByteArray := prog_7_method_4_code
def yX5_readNight : MethodName := ⟨RX5, "readNight", "(LBirchLeaf$Hill;)V"⟩
abbrev cX5_readPart : ByteArray := prog_7_method_5_code
def yX5_readPart : MethodName := ⟨RX5, "readPart", "(LBirchLeaf$Hill;)Z"⟩
abbrev cX5_readTrader : ByteArray := prog_7_method_6_code
def yX5_readTrader : MethodName := ⟨RX5, "readTrader", "(LBirchLeaf$Hill;)V"⟩
abbrev cX5_readWay : ByteArray := prog_7_method_7_code
def yX5_readWay : MethodName := ⟨RX5, "readWay", "(LBirchLeaf$Hill;)V"⟩
abbrev cX5_readSort : ByteArray := prog_7_method_8_code
def yX5_readSort : MethodName := ⟨RX5, "readSort", "()I"⟩
abbrev cX5_readNumber : ByteArray := prog_7_method_9_code
def yX5_readNumber : MethodName := ⟨RX5, "readNumber", "(II)I"⟩
abbrev cX5_readSign : ByteArray := prog_7_method_10_code
def yX5_readSign : MethodName := ⟨RX5, "readSign", "()V"⟩
abbrev cX5_fail : ByteArray := prog_7_method_11_code
def yX5_fail : MethodName := ⟨RX5, "fail", "(I)V"⟩
abbrev cX5_isWord : ByteArray := prog_7_method_12_code
def yX5_isWord : MethodName := ⟨RX5, "isWord", "(Ljava/lang/String;)Z"⟩
abbrev cX5_next : ByteArray := prog_7_method_13_code
def yX5_next : MethodName := ⟨RX5, "next", "()V"⟩
abbrev cX5_isLetter : ByteArray := prog_7_method_14_code
def yX5_isLetter : MethodName := ⟨RX5, "isLetter", "(I)Z"⟩
abbrev cX5_isFigure : ByteArray := prog_7_method_15_code
def yX5_isFigure : MethodName := ⟨RX5, "isFigure", "(I)Z"⟩
def RX6 : String := "BirchLeaf"
def TX6 : u_T := fun k => match k with
  | 0 => ("BirchLeaf", "rows", "LBirchLeaf$Rows;", true)
  | 1 => ("BirchLeaf", "tape", "LBirchLeaf$Tape;", true)
  | 2 => ("BirchLeaf", "hill", "LBirchLeaf$Hill;", true)
  | 3 => ("BirchLeaf", "draft", "LBirchLeaf$Hill;", true)
  | 4 => ("BirchLeaf", "firstImage", "LBirchLeaf$Hill;", true)
  | 5 => ("BirchLeaf", "secondImage", "LBirchLeaf$Hill;", true)
  | 6 => ("BirchLeaf", "acts", "LBirchLeaf$Acts;", true)
  | 7 => ("BirchLeaf", "foretold", "LBirchLeaf$Foretold;", true)
  | 8 => ("BirchLeaf", "asks", "LBirchLeaf$Asks;", true)
  | _ => ("BirchLeaf", "finding", "I", false)
def tyX6 : Nat → FieldType := fun k => match k with
  | 0 => .object "BirchLeaf$Rows"
  | 1 => .object "BirchLeaf$Tape"
  | 2 => .object "BirchLeaf$Hill"
  | 3 => .object "BirchLeaf$Hill"
  | 4 => .object "BirchLeaf$Hill"
  | 5 => .object "BirchLeaf$Hill"
  | 6 => .object "BirchLeaf$Acts"
  | 7 => .object "BirchLeaf$Foretold"
  | 8 => .object "BirchLeaf$Asks"
  | _ => .int
abbrev wsX60 : List Cond := u_ws RX6 TX6 10
theorem nmX6 : ∀ a, a < 10 → ∀ b, b < 10 → a ≠ b → (TX6 a).2.1 ≠ (TX6 b).2.1 := by decide +kernel
theorem tyX6_ok : ∀ k, k < 10 → parseFieldDescriptor (TX6 k).2.2.1 = some (tyX6 k) := by decide +kernel
abbrev cX6_init : ByteArray := prog_1_method_1_code
def yX6_init : MethodName := ⟨RX6, "<init>", "()V"⟩
abbrev cX6_row : ByteArray := prog_1_method_2_code
def yX6_row : MethodName := ⟨RX6, "row", "(III)I"⟩
abbrev cX6_set : ByteArray := prog_1_method_3_code
def yX6_set : MethodName := ⟨RX6, "set", "(III)I"⟩
abbrev cX6_copy : ByteArray := prog_1_method_4_code
def yX6_copy : MethodName := ⟨RX6, "copy", "(IIIII)I"⟩
abbrev cX6_drop : ByteArray := prog_1_method_5_code
def yX6_drop : MethodName := ⟨RX6, "drop", "(I)I"⟩
abbrev cX6_feed : ByteArray := prog_1_method_6_code
def yX6_feed : MethodName := ⟨RX6, "feed", "(JI)I"⟩
abbrev cX6_hill : ByteArray := prog_1_method_7_code
def yX6_hill : MethodName := ⟨RX6, "hill", "()I"⟩
abbrev cX6_fault : ByteArray := prog_1_method_8_code
def yX6_fault : MethodName := ⟨RX6, "fault", "()I"⟩
abbrev cX6_pass : ByteArray := prog_1_method_9_code
def yX6_pass : MethodName := ⟨RX6, "pass", "(I)I"⟩
abbrev cX6_waits : ByteArray := prog_1_method_10_code
def yX6_waits : MethodName := ⟨RX6, "waits", "(I)I"⟩
abbrev cX6_bribe : ByteArray := prog_1_method_11_code
def yX6_bribe : MethodName := ⟨RX6, "bribe", "(I)I"⟩
abbrev cX6_undo : ByteArray := prog_1_method_12_code
def yX6_undo : MethodName := ⟨RX6, "undo", "()I"⟩
abbrev cX6_trader : ByteArray := prog_1_method_13_code
def yX6_trader : MethodName := ⟨RX6, "trader", "(II)I"⟩
abbrev cX6_takes : ByteArray := prog_1_method_14_code
def yX6_takes : MethodName := ⟨RX6, "takes", "(II)I"⟩
abbrev cX6_there : ByteArray := prog_1_method_15_code
def yX6_there : MethodName := ⟨RX6, "there", "(III)I"⟩
abbrev cX6_worth : ByteArray := prog_1_method_16_code
def yX6_worth : MethodName := ⟨RX6, "worth", "(II)I"⟩
abbrev cX6_sure : ByteArray := prog_1_method_17_code
def yX6_sure : MethodName := ⟨RX6, "sure", "(II)I"⟩
abbrev cX6_most : ByteArray := prog_1_method_18_code
def yX6_most : MethodName := ⟨RX6, "most", "(III)I"⟩
abbrev cX6_last : ByteArray := prog_1_method_19_code
def yX6_last : MethodName := ⟨RX6, "last", "(I)I"⟩
abbrev cX6_crow : ByteArray := prog_1_method_20_code
def yX6_crow : MethodName := ⟨RX6, "crow", "(I)I"⟩
abbrev cX6_where : ByteArray := prog_1_method_21_code
def yX6_where : MethodName := ⟨RX6, "where", "(IIII)I"⟩
abbrev cX6_image : ByteArray := prog_1_method_22_code
def yX6_image : MethodName := ⟨RX6, "image", "(I)I"⟩
abbrev cX6_restore : ByteArray := prog_1_method_23_code
def yX6_restore : MethodName := ⟨RX6, "restore", "(I)I"⟩
abbrev cX6_kind : ByteArray := prog_1_method_24_code
def yX6_kind : MethodName := ⟨RX6, "kind", "(I)I"⟩
abbrev cX6_as : ByteArray := prog_1_method_25_code
def yX6_as : MethodName := ⟨RX6, "as", "(II)I"⟩
abbrev cX6_ask : ByteArray := prog_1_method_26_code
def yX6_ask : MethodName := ⟨RX6, "ask", "(II)I"⟩
abbrev cX6_trace : ByteArray := prog_1_method_27_code
def yX6_trace : MethodName := ⟨RX6, "trace", "(I)I"⟩
abbrev cX6_count : ByteArray := prog_1_method_28_code
def yX6_count : MethodName := ⟨RX6, "count", "(I)I"⟩
abbrev cX6_status : ByteArray := prog_1_method_29_code
def yX6_status : MethodName := ⟨RX6, "status", "()I"⟩
abbrev cX6_find : ByteArray := prog_1_method_30_code
def yX6_find : MethodName := ⟨RX6, "find", "(I)I"⟩
abbrev cX6_imageOf : ByteArray := prog_1_method_31_code
def yX6_imageOf : MethodName := ⟨RX6, "imageOf", "(I)LBirchLeaf$Hill;"⟩
abbrev cX6_isRow : ByteArray := prog_1_method_32_code
def yX6_isRow : MethodName := ⟨RX6, "isRow", "(I)Z"⟩
abbrev cX6_isMinute : ByteArray := prog_1_method_33_code
def yX6_isMinute : MethodName := ⟨RX6, "isMinute", "(I)Z"⟩
abbrev cX6_isOne : ByteArray := prog_1_method_34_code
def yX6_isOne : MethodName := ⟨RX6, "isOne", "(II)Z"⟩
def RX7 : String := "BirchLeafModel"
def TX7 : u_T := fun k => match k with
  | 0 => ("BirchLeafModel", "thrown", "I", false)
  | 1 => ("BirchLeafModel", "status", "I", false)
  | 2 => ("BirchLeafModel", "lane", "[I", true)
  | 3 => ("BirchLeafModel", "many", "[I", true)
  | 4 => ("BirchLeafModel", "item", "[I", true)
  | 5 => ("BirchLeafModel", "hill", "[I", true)
  | 6 => ("BirchLeafModel", "fresh", "[I", true)
  | 7 => ("BirchLeafModel", "was", "[I", true)
  | 8 => ("BirchLeafModel", "acts", "I", false)
  | 9 => ("BirchLeafModel", "tape", "[I", true)
  | 10 => ("BirchLeafModel", "taped", "I", false)
  | 11 => ("BirchLeafModel", "latest", "I", false)
  | 12 => ("BirchLeafModel", "length", "I", false)
  | 13 => ("BirchLeafModel", "cursor", "I", false)
  | 14 => ("BirchLeafModel", "token", "I", false)
  | 15 => ("BirchLeafModel", "start", "I", false)
  | 16 => ("BirchLeafModel", "till", "I", false)
  | 17 => ("BirchLeafModel", "fault", "I", false)
  | 18 => ("BirchLeafModel", "faultAt", "I", false)
  | 19 => ("BirchLeafModel", "surely", "[I", true)
  | 20 => ("BirchLeafModel", "sum", "[I", true)
  | 21 => ("BirchLeafModel", "times", "[I", true)
  | 22 => ("BirchLeafModel", "since", "I", false)
  | 23 => ("BirchLeafModel", "seen", "[I", true)
  | 24 => ("BirchLeafModel", "comes", "[Z", true)
  | 25 => ("BirchLeafModel", "goesOn", "[Z", true)
  | 26 => ("BirchLeafModel", "isKept", "[Z", true)
  | 27 => ("BirchLeafModel", "kept", "[I", true)
  | 28 => ("BirchLeafModel", "trace", "[I", true)
  | _ => ("BirchLeafModel", "traced", "I", false)
def tyX7 : Nat → FieldType := fun k => match k with
  | 0 => .int
  | 1 => .int
  | 2 => .array .int
  | 3 => .array .int
  | 4 => .array .int
  | 5 => .array .int
  | 6 => .array .int
  | 7 => .array .int
  | 8 => .int
  | 9 => .array .int
  | 10 => .int
  | 11 => .int
  | 12 => .int
  | 13 => .int
  | 14 => .int
  | 15 => .int
  | 16 => .int
  | 17 => .int
  | 18 => .int
  | 19 => .array .int
  | 20 => .array .int
  | 21 => .array .int
  | 22 => .int
  | 23 => .array .int
  | 24 => .array .boolean
  | 25 => .array .boolean
  | 26 => .array .boolean
  | 27 => .array .int
  | 28 => .array .int
  | _ => .int
abbrev wsX70 : List Cond := u_ws RX7 TX7 30
theorem nmX7 : ∀ a, a < 30 → ∀ b, b < 30 → a ≠ b → (TX7 a).2.1 ≠ (TX7 b).2.1 := by decide +kernel
theorem tyX7_ok : ∀ k, k < 30 → parseFieldDescriptor (TX7 k).2.2.1 = some (tyX7 k) := by decide +kernel
abbrev cX7_init : ByteArray := prog_9_method_1_code
def yX7_init : MethodName := ⟨RX7, "<init>", "()V"⟩
abbrev cX7_in : ByteArray := prog_9_method_3_code
def yX7_in : MethodName := ⟨RX7, "in", "(JJJ)Z"⟩
abbrev cX7_finding : ByteArray := prog_9_method_4_code
def yX7_finding : MethodName := ⟨RX7, "finding", "(I)I"⟩
abbrev cX7_isRow : ByteArray := prog_9_method_5_code
def yX7_isRow : MethodName := ⟨RX7, "isRow", "(I)Z"⟩
abbrev cX7_row : ByteArray := prog_9_method_6_code
def yX7_row : MethodName := ⟨RX7, "row", "(III)I"⟩
abbrev cX7_set : ByteArray := prog_9_method_7_code
def yX7_set : MethodName := ⟨RX7, "set", "(III)I"⟩
abbrev cX7_copy : ByteArray := prog_9_method_8_code
def yX7_copy : MethodName := ⟨RX7, "copy", "(IIIII)I"⟩
abbrev cX7_drop : ByteArray := prog_9_method_9_code
def yX7_drop : MethodName := ⟨RX7, "drop", "(I)I"⟩
abbrev cX7_feed : ByteArray := prog_9_method_10_code
def yX7_feed : MethodName := ⟨RX7, "feed", "(JI)I"⟩
abbrev cX7_byteAt : ByteArray := prog_9_method_11_code
def yX7_byteAt : MethodName := ⟨RX7, "byteAt", "(I)I"⟩
abbrev cX7_isLetter : ByteArray := prog_9_method_12_code
def yX7_isLetter : MethodName := ⟨RX7, "isLetter", "(I)Z"⟩
abbrev cX7_isFigure : ByteArray := prog_9_method_13_code
def yX7_isFigure : MethodName := ⟨RX7, "isFigure", "(I)Z"⟩
abbrev cX7_next : ByteArray := prog_9_method_14_code
def yX7_next : MethodName := ⟨RX7, "next", "()V"⟩
abbrev cX7_begin : ByteArray := prog_9_method_15_code
def yX7_begin : MethodName := ⟨RX7, "begin", "()V"⟩
abbrev cX7_bad : ByteArray := prog_9_method_16_code
def yX7_bad : MethodName := ⟨RX7, "bad", "(I)V"⟩
abbrev cX7_must : ByteArray := prog_9_method_17_code
def yX7_must : MethodName := ⟨RX7, "must", "(Z)V"⟩
abbrev cX7_name : ByteArray := prog_9_method_18_code
def yX7_name : MethodName := ⟨RX7, "name", "()J"⟩
abbrev cX7_figures : ByteArray := prog_9_method_19_code
def yX7_figures : MethodName := ⟨RX7, "figures", "()I"⟩
abbrev cX7_number : ByteArray := prog_9_method_20_code
def yX7_number : MethodName := ⟨RX7, "number", "(II)I"⟩
abbrev cX7_kindBy : ByteArray := prog_9_method_21_code
def yX7_kindBy : MethodName := ⟨RX7, "kindBy", "(J)I"⟩
abbrev cX7_mustEnd : ByteArray := prog_9_method_22_code
def yX7_mustEnd : MethodName := ⟨RX7, "mustEnd", "()V"⟩
abbrev cX7_begins : ByteArray := prog_9_method_23_code
def yX7_begins : MethodName := ⟨RX7, "begins", "(II)V"⟩
abbrev cX7_readTrader : ByteArray := prog_9_method_24_code
def yX7_readTrader : MethodName := ⟨RX7, "readTrader", "()V"⟩
abbrev cX7_readWay : ByteArray := prog_9_method_25_code
def yX7_readWay : MethodName := ⟨RX7, "readWay", "()V"⟩
abbrev cX7_hill : ByteArray := prog_9_method_26_code
def yX7_hill : MethodName := ⟨RX7, "hill", "()I"⟩
abbrev cX7_fault : ByteArray := prog_9_method_27_code
def yX7_fault : MethodName := ⟨RX7, "fault", "()I"⟩
abbrev cX7_isThere : ByteArray := prog_9_method_28_code
def yX7_isThere : MethodName := ⟨RX7, "isThere", "()Z"⟩
abbrev cX7_isTrader : ByteArray := prog_9_method_29_code
def yX7_isTrader : MethodName := ⟨RX7, "isTrader", "(I)Z"⟩
abbrev cX7_isMinute : ByteArray := prog_9_method_30_code
def yX7_isMinute : MethodName := ⟨RX7, "isMinute", "(I)Z"⟩
abbrev cX7_of : ByteArray := prog_9_method_31_code
def yX7_of : MethodName := ⟨RX7, "of", "(II)I"⟩
abbrev cX7_priceOf : ByteArray := prog_9_method_32_code
def yX7_priceOf : MethodName := ⟨RX7, "priceOf", "(I)I"⟩
abbrev cX7_isTaken : ByteArray := prog_9_method_33_code
def yX7_isTaken : MethodName := ⟨RX7, "isTaken", "(II)Z"⟩
abbrev cX7_thereIn : ByteArray := prog_9_method_34_code
def yX7_thereIn : MethodName := ⟨RX7, "thereIn", "(III)I"⟩
abbrev cX7_passedIn : ByteArray := prog_9_method_35_code
def yX7_passedIn : MethodName := ⟨RX7, "passedIn", "(III)I"⟩
abbrev cX7_keep : ByteArray := prog_9_method_36_code
def yX7_keep : MethodName := ⟨RX7, "keep", "()V"⟩
abbrev cX7_pass : ByteArray := prog_9_method_37_code
def yX7_pass : MethodName := ⟨RX7, "pass", "(I)I"⟩
abbrev cX7_waits : ByteArray := prog_9_method_38_code
def yX7_waits : MethodName := ⟨RX7, "waits", "(I)I"⟩
abbrev cX7_bribe : ByteArray := prog_9_method_39_code
def yX7_bribe : MethodName := ⟨RX7, "bribe", "(I)I"⟩
abbrev cX7_undo : ByteArray := prog_9_method_40_code
def yX7_undo : MethodName := ⟨RX7, "undo", "()I"⟩
abbrev cX7_trader : ByteArray := prog_9_method_41_code
def yX7_trader : MethodName := ⟨RX7, "trader", "(II)I"⟩
abbrev cX7_takes : ByteArray := prog_9_method_42_code
def yX7_takes : MethodName := ⟨RX7, "takes", "(II)I"⟩
abbrev cX7_there : ByteArray := prog_9_method_43_code
def yX7_there : MethodName := ⟨RX7, "there", "(III)I"⟩
abbrev cX7_worth : ByteArray := prog_9_method_44_code
def yX7_worth : MethodName := ⟨RX7, "worth", "(II)I"⟩
abbrev cX7_sure : ByteArray := prog_9_method_45_code
def yX7_sure : MethodName := ⟨RX7, "sure", "(II)I"⟩
abbrev cX7_most : ByteArray := prog_9_method_46_code
def yX7_most : MethodName := ⟨RX7, "most", "(III)I"⟩
abbrev cX7_lastOne : ByteArray := prog_9_method_47_code
def yX7_lastOne : MethodName := ⟨RX7, "lastOne", "()I"⟩
abbrev cX7_last : ByteArray := prog_9_method_48_code
def yX7_last : MethodName := ⟨RX7, "last", "(I)I"⟩
abbrev cX7_crow : ByteArray := prog_9_method_49_code
def yX7_crow : MethodName := ⟨RX7, "crow", "(I)I"⟩
abbrev cX7_isUnseen : ByteArray := prog_9_method_50_code
def yX7_isUnseen : MethodName := ⟨RX7, "isUnseen", "(III)Z"⟩
abbrev cX7_layComes : ByteArray := prog_9_method_51_code
def yX7_layComes : MethodName := ⟨RX7, "layComes", "()V"⟩
abbrev cX7_layGoesOn : ByteArray := prog_9_method_52_code
def yX7_layGoesOn : MethodName := ⟨RX7, "layGoesOn", "()V"⟩
abbrev cX7_where : ByteArray := prog_9_method_53_code
def yX7_where : MethodName := ⟨RX7, "where", "(IIII)I"⟩
abbrev cX7_image : ByteArray := prog_9_method_54_code
def yX7_image : MethodName := ⟨RX7, "image", "(I)I"⟩
abbrev cX7_restore : ByteArray := prog_9_method_55_code
def yX7_restore : MethodName := ⟨RX7, "restore", "(I)I"⟩
abbrev cX7_isOf : ByteArray := prog_9_method_56_code
def yX7_isOf : MethodName := ⟨RX7, "isOf", "(II)Z"⟩
abbrev cX7_kind : ByteArray := prog_9_method_57_code
def yX7_kind : MethodName := ⟨RX7, "kind", "(I)I"⟩
abbrev cX7_as : ByteArray := prog_9_method_58_code
def yX7_as : MethodName := ⟨RX7, "as", "(II)I"⟩
abbrev cX7_began : ByteArray := prog_9_method_59_code
def yX7_began : MethodName := ⟨RX7, "began", "(I)V"⟩
abbrev cX7_plainSize : ByteArray := prog_9_method_60_code
def yX7_plainSize : MethodName := ⟨RX7, "plainSize", "(I)I"⟩
abbrev cX7_priestSize : ByteArray := prog_9_method_61_code
def yX7_priestSize : MethodName := ⟨RX7, "priestSize", "(I)I"⟩
abbrev cX7_markOf : ByteArray := prog_9_method_62_code
def yX7_markOf : MethodName := ⟨RX7, "markOf", "(I)I"⟩
abbrev cX7_sizeOf : ByteArray := prog_9_method_63_code
def yX7_sizeOf : MethodName := ⟨RX7, "sizeOf", "(I)I"⟩
abbrev cX7_ask : ByteArray := prog_9_method_64_code
def yX7_ask : MethodName := ⟨RX7, "ask", "(II)I"⟩
abbrev cX7_trace : ByteArray := prog_9_method_65_code
def yX7_trace : MethodName := ⟨RX7, "trace", "(I)I"⟩
abbrev cX7_count : ByteArray := prog_9_method_66_code
def yX7_count : MethodName := ⟨RX7, "count", "(I)I"⟩
abbrev cX7_status : ByteArray := prog_9_method_67_code
def yX7_status : MethodName := ⟨RX7, "status", "()I"⟩
def RJ9 : String := "java/lang/Math"
def TJ9 : u_T := fun k => match k with
  | _ => ("", "", "", false)
def tyJ9 : Nat → FieldType := fun k => match k with
  | _ => .int
abbrev wsJ90 : List Cond := u_ws RJ9 TJ9 0
theorem nmJ9 : ∀ a, a < 0 → ∀ b, b < 0 → a ≠ b → (TJ9 a).2.1 ≠ (TJ9 b).2.1 := by decide +kernel
theorem tyJ9_ok : ∀ k, k < 0 → parseFieldDescriptor (TJ9 k).2.2.1 = some (tyJ9 k) := by decide +kernel
abbrev cJ9_max_7cf53 : ByteArray := prog_10_method_65_code
def yJ9_max_7cf53 : MethodName := ⟨RJ9, "max", "(II)I"⟩
abbrev cJ9_min_7cf53 : ByteArray := prog_10_method_69_code
def yJ9_min_7cf53 : MethodName := ⟨RJ9, "min", "(II)I"⟩
def RJ0 : String := "java/lang/String"
def TJ0 : u_T := fun k => match k with
  | _ => ("", "", "", false)
def tyJ0 : Nat → FieldType := fun k => match k with
  | _ => .int
abbrev wsJ00 : List Cond := u_ws RJ0 TJ0 0
theorem nmJ0 : ∀ a, a < 0 → ∀ b, b < 0 → a ≠ b → (TJ0 a).2.1 ≠ (TJ0 b).2.1 := by decide +kernel
theorem tyJ0_ok : ∀ k, k < 0 → parseFieldDescriptor (TJ0 k).2.2.1 = some (tyJ0 k) := by decide +kernel
abbrev cJ0_length_8abf5 : ByteArray := prog_11_method_54_code
def yJ0_length_8abf5 : MethodName := ⟨RJ0, "length", "()I"⟩
abbrev cJ0_charAt_5068e : ByteArray := prog_11_method_56_code
def yJ0_charAt_5068e : MethodName := ⟨RJ0, "charAt", "(I)C"⟩
abbrev cJ0_coder_7d493 : ByteArray := prog_11_method_152_code
def yJ0_coder_7d493 : MethodName := ⟨RJ0, "coder", "()B"⟩
abbrev cJ0_isLatin1_aae02 : ByteArray := prog_11_method_154_code
def yJ0_isLatin1_aae02 : MethodName := ⟨RJ0, "isLatin1", "()Z"⟩
abbrev cJ0_checkIndex_df160 : ByteArray := prog_11_method_155_code
def yJ0_checkIndex_df160 : MethodName := ⟨RJ0, "checkIndex", "(II)V"⟩
def RJ1 : String := "java/lang/StringLatin1"
def TJ1 : u_T := fun k => match k with
  | _ => ("", "", "", false)
def tyJ1 : Nat → FieldType := fun k => match k with
  | _ => .int
abbrev wsJ10 : List Cond := u_ws RJ1 TJ1 0
theorem nmJ1 : ∀ a, a < 0 → ∀ b, b < 0 → a ≠ b → (TJ1 a).2.1 ≠ (TJ1 b).2.1 := by decide +kernel
theorem tyJ1_ok : ∀ k, k < 0 → parseFieldDescriptor (TJ1 k).2.2.1 = some (tyJ1 k) := by decide +kernel
abbrev cJ1_charAt_3b067 : ByteArray := prog_12_method_2_code
def yJ1_charAt_3b067 : MethodName := ⟨RJ1, "charAt", "([BI)C"⟩
def RJ2 : String := "java/lang/StringUTF16"
def TJ2 : u_T := fun k => match k with
  | _ => ("", "", "", false)
def tyJ2 : Nat → FieldType := fun k => match k with
  | _ => .int
abbrev wsJ20 : List Cond := u_ws RJ2 TJ2 0
theorem nmJ2 : ∀ a, a < 0 → ∀ b, b < 0 → a ≠ b → (TJ2 a).2.1 ≠ (TJ2 b).2.1 := by decide +kernel
theorem tyJ2_ok : ∀ k, k < 0 → parseFieldDescriptor (TJ2 k).2.2.1 = some (tyJ2 k) := by decide +kernel
abbrev cJ2_getChar_3b067 : ByteArray := prog_13_method_5_code
def yJ2_getChar_3b067 : MethodName := ⟨RJ2, "getChar", "([BI)C"⟩
abbrev cJ2_length_9d52b : ByteArray := prog_13_method_6_code
def yJ2_length_9d52b : MethodName := ⟨RJ2, "length", "([B)I"⟩
abbrev cJ2_charAt_3b067 : ByteArray := prog_13_method_83_code
def yJ2_charAt_3b067 : MethodName := ⟨RJ2, "charAt", "([BI)C"⟩
abbrev cJ2_checkIndex_2214a : ByteArray := prog_13_method_91_code
def yJ2_checkIndex_2214a : MethodName := ⟨RJ2, "checkIndex", "(I[B)V"⟩
def RJ10 : String := "java/lang/System"
def TJ10 : u_T := fun k => match k with
  | _ => ("", "", "", false)
def tyJ10 : Nat → FieldType := fun k => match k with
  | _ => .int
abbrev wsJ100 : List Cond := u_ws RJ10 TJ10 0
theorem nmJ10 : ∀ a, a < 0 → ∀ b, b < 0 → a ≠ b → (TJ10 a).2.1 ≠ (TJ10 b).2.1 := by decide +kernel
theorem tyJ10_ok : ∀ k, k < 0 → parseFieldDescriptor (TJ10 k).2.2.1 = some (tyJ10 k) := by decide +kernel
def RJ3 : String := "jdk/internal/util/Preconditions"
def TJ3 : u_T := fun k => match k with
  | _ => ("", "", "", false)
def tyJ3 : Nat → FieldType := fun k => match k with
  | _ => .int
abbrev wsJ30 : List Cond := u_ws RJ3 TJ3 0
theorem nmJ3 : ∀ a, a < 0 → ∀ b, b < 0 → a ≠ b → (TJ3 a).2.1 ≠ (TJ3 b).2.1 := by decide +kernel
theorem tyJ3_ok : ∀ k, k < 0 → parseFieldDescriptor (TJ3 k).2.2.1 = some (tyJ3 k) := by decide +kernel
abbrev cJ3_checkIndex_8e157 : ByteArray := prog_15_method_11_code
def yJ3_checkIndex_8e157 : MethodName := ⟨RJ3, "checkIndex", "(IILjava/util/function/BiFunction;)I"⟩
def RL : String := "BirchLeafLaw"
abbrev cL_law : ByteArray := code
def yL_law : MethodName := ⟨RL, "law", "([I)Z"⟩
abbrev vwCl : List vw_C := [(RX0, TX0, 8), (RX1, TX1, 3), (RX2, TX2, 7), (RX3, TX3, 12), (RX4, TX4, 3), (RX5, TX5, 8), (RX6, TX6, 10), (RX7, TX7, 30)]
end
section
/-! THE PROGRAM AS DATA (by wip/whole/emit.py out of the claim's own printed names): methods by number, pre-decoded instructions with resolved operands -/
abbrev vm_En : Type := Nat × Instr × Nat × Nat × Nat × Nat × Nat × Int
/-- BirchLeaf$Acts.<init>(LBirchLeaf$Hill;)V -/
def vm_p0 : List vm_En := [(0, .aload_n 0, 1, 0, 0, 0, 0, 0), (1, .invokespecial 3, 3, 1001, 0, 146, 0, 0), (4, .aload_n 0, 1, 0, 0, 0, 0, 0), (5, .bipush 24, 2, 0, 0, 0, 0, 0), (7, .newarray .int, 2, 0, 0, 0, 0, 0), (9, .putfield 9, 3, 0, 3, 151, 2, 0), (12, .aload_n 0, 1, 0, 0, 0, 0, 0), (13, .bipush 24, 2, 0, 0, 0, 0, 0), (15, .newarray .int, 2, 0, 0, 0, 0, 0), (17, .putfield 15, 3, 0, 4, 152, 2, 0), (20, .aload_n 0, 1, 0, 0, 0, 0, 0), (21, .bipush 24, 2, 0, 0, 0, 0, 0), (23, .newarray .int, 2, 0, 0, 0, 0, 0), (25, .putfield 18, 3, 0, 5, 153, 2, 0), (28, .aload_n 0, 1, 0, 0, 0, 0, 0), (29, .bipush 24, 2, 0, 0, 0, 0, 0), (31, .newarray .int, 2, 0, 0, 0, 0, 0), (33, .putfield 21, 3, 0, 6, 154, 2, 0), (36, .aload_n 0, 1, 0, 0, 0, 0, 0), (37, .bipush 24, 2, 0, 0, 0, 0, 0), (39, .newarray .int, 2, 0, 0, 0, 0, 0), (41, .putfield 24, 3, 0, 7, 155, 2, 0), (44, .aload_n 0, 1, 0, 0, 0, 0, 0), (45, .aload_n 1, 1, 0, 0, 0, 0, 0), (46, .putfield 27, 3, 0, 0, 147, 2, 0), (49, .return_, 1, 0, 0, 0, 0, 0)]
/-- BirchLeaf$Acts.forget()V -/
def vm_p1 : List vm_En := [(0, .aload_n 0, 1, 0, 0, 0, 0, 0), (1, .iconst 0, 1, 0, 0, 0, 0, 0), (2, .putfield 31, 3, 0, 1, 148, 0, 0), (5, .return_, 1, 0, 0, 0, 0, 0)]
/-- BirchLeaf$Acts.passTo(II)V -/
def vm_p2 : List vm_En := [(0, .aload_n 0, 1, 0, 0, 0, 0, 0), (1, .getfield 27, 3, 0, 0, 147, 0, 0), (4, .iload_n 1, 1, 0, 0, 0, 0, 0), (5, .invokevirtual 35, 3, 43, 0, 489, 0, 0), (8, .istore_n 3, 1, 0, 0, 0, 0, 0), (9, .aload_n 0, 1, 0, 0, 0, 0, 0), (10, .iload_n 1, 1, 0, 0, 0, 0, 0), (11, .iload_n 3, 1, 0, 0, 0, 0, 0), (12, .invokevirtual 41, 3, 6, 0, 493, 0, 0), (15, .aload_n 0, 1, 0, 0, 0, 0, 0), (16, .iload_n 1, 1, 0, 0, 0, 0, 0), (17, .aload_n 0, 1, 0, 0, 0, 0, 0), (18, .getfield 27, 3, 0, 0, 147, 0, 0), (21, .getfield 45, 3, 3, 5, 98, 1, 0), (24, .iload_n 3, 1, 0, 0, 0, 0, 0), (25, .invokevirtual 48, 3, 7, 0, 498, 0, 0), (28, .aload_n 0, 1, 0, 0, 0, 0, 0), (29, .getfield 27, 3, 0, 0, 147, 0, 0), (32, .iload_n 1, 1, 0, 0, 0, 0, 0), (33, .putfield 45, 3, 3, 5, 98, 1, 0), (36, .aload_n 0, 1, 0, 0, 0, 0, 0), (37, .getfield 27, 3, 0, 0, 147, 0, 0), (40, .iload_n 2, 1, 0, 0, 0, 0, 0), (41, .putfield 52, 3, 3, 4, 94, 1, 0), (44, .return_, 1, 0, 0, 0, 0, 0)]
/-- BirchLeaf$Acts.letPass(I)V -/
def vm_p3 : List vm_En := [(0, .aload_n 0, 1, 0, 0, 0, 0, 0), (1, .aload_n 0, 1, 0, 0, 0, 0, 0), (2, .getfield 27, 3, 0, 0, 147, 0, 0), (5, .getfield 45, 3, 3, 5, 98, 1, 0), (8, .iconst 0, 1, 0, 0, 0, 0, 0), (9, .invokevirtual 41, 3, 6, 0, 493, 0, 0), (12, .aload_n 0, 1, 0, 0, 0, 0, 0), (13, .getfield 27, 3, 0, 0, 147, 0, 0), (16, .dup, 1, 0, 0, 0, 0, 0), (17, .getfield 52, 3, 3, 4, 94, 1, 0), (20, .iload_n 1, 1, 0, 0, 0, 0, 0), (21, .iadd, 1, 0, 0, 0, 0, 0), (22, .putfield 52, 3, 3, 4, 94, 1, 0), (25, .return_, 1, 0, 0, 0, 0, 0)]
/-- BirchLeaf$Acts.moveDawn(I)V -/
def vm_p4 : List vm_En := [(0, .aload_n 0, 1, 0, 0, 0, 0, 0), (1, .aload_n 0, 1, 0, 0, 0, 0, 0), (2, .getfield 27, 3, 0, 0, 147, 0, 0), (5, .getfield 45, 3, 3, 5, 98, 1, 0), (8, .iconst 0, 1, 0, 0, 0, 0, 0), (9, .invokevirtual 41, 3, 6, 0, 493, 0, 0), (12, .aload_n 0, 1, 0, 0, 0, 0, 0), (13, .getfield 27, 3, 0, 0, 147, 0, 0), (16, .iload_n 1, 1, 0, 0, 0, 0, 0), (17, .putfield 55, 3, 3, 2, 90, 1, 0), (20, .return_, 1, 0, 0, 0, 0, 0)]
/-- BirchLeaf$Acts.takeBack()Z -/
def vm_p5 : List vm_En := [(0, .aload_n 0, 1, 0, 0, 0, 0, 0), (1, .getfield 31, 3, 0, 1, 148, 0, 0), (4, .ifCond .ne 5, 3, 9, 0, 0, 0, 0), (7, .iconst 0, 1, 0, 0, 0, 0, 0), (8, .ireturn, 1, 0, 0, 0, 0, 0), (9, .aload_n 0, 1, 0, 0, 0, 0, 0), (10, .dup, 1, 0, 0, 0, 0, 0), (11, .getfield 31, 3, 0, 1, 148, 0, 0), (14, .iconst 1, 1, 0, 0, 0, 0, 0), (15, .isub, 1, 0, 0, 0, 0, 0), (16, .putfield 31, 3, 0, 1, 148, 0, 0), (19, .aload_n 0, 1, 0, 0, 0, 0, 0), (20, .aload_n 0, 1, 0, 0, 0, 0, 0), (21, .getfield 58, 3, 0, 2, 150, 0, 0), (24, .ifCond .le 12, 3, 36, 0, 0, 0, 0), (27, .aload_n 0, 1, 0, 0, 0, 0, 0), (28, .getfield 58, 3, 0, 2, 150, 0, 0), (31, .iconst 1, 1, 0, 0, 0, 0, 0), (32, .isub, 1, 0, 0, 0, 0, 0), (33, .goto 5, 3, 38, 0, 0, 0, 0), (36, .bipush 23, 2, 0, 0, 0, 0, 0), (38, .putfield 58, 3, 0, 2, 150, 0, 0), (41, .aload_n 0, 1, 0, 0, 0, 0, 0), (42, .aload_n 0, 1, 0, 0, 0, 0, 0), (43, .getfield 18, 3, 0, 5, 153, 0, 0), (46, .aload_n 0, 1, 0, 0, 0, 0, 0), (47, .getfield 58, 3, 0, 2, 150, 0, 0), (50, .iaload, 1, 0, 0, 0, 0, 0), (51, .aload_n 0, 1, 0, 0, 0, 0, 0), (52, .getfield 21, 3, 0, 6, 154, 0, 0), (55, .aload_n 0, 1, 0, 0, 0, 0, 0), (56, .getfield 58, 3, 0, 2, 150, 0, 0), (59, .iaload, 1, 0, 0, 0, 0, 0), (60, .aload_n 0, 1, 0, 0, 0, 0, 0), (61, .getfield 24, 3, 0, 7, 155, 0, 0), (64, .aload_n 0, 1, 0, 0, 0, 0, 0), (65, .getfield 58, 3, 0, 2, 150, 0, 0), (68, .iaload, 1, 0, 0, 0, 0, 0), (69, .invokevirtual 48, 3, 7, 0, 498, 0, 0), (72, .aload_n 0, 1, 0, 0, 0, 0, 0), (73, .getfield 27, 3, 0, 0, 147, 0, 0), (76, .aload_n 0, 1, 0, 0, 0, 0, 0), (77, .getfield 9, 3, 0, 3, 151, 0, 0), (80, .aload_n 0, 1, 0, 0, 0, 0, 0), (81, .getfield 58, 3, 0, 2, 150, 0, 0), (84, .iaload, 1, 0, 0, 0, 0, 0), (85, .putfield 52, 3, 3, 4, 94, 1, 0), (88, .aload_n 0, 1, 0, 0, 0, 0, 0), (89, .getfield 27, 3, 0, 0, 147, 0, 0), (92, .aload_n 0, 1, 0, 0, 0, 0, 0), (93, .getfield 15, 3, 0, 4, 152, 0, 0), (96, .aload_n 0, 1, 0, 0, 0, 0, 0), (97, .getfield 58, 3, 0, 2, 150, 0, 0), (100, .iaload, 1, 0, 0, 0, 0, 0), (101, .putfield 55, 3, 3, 2, 90, 1, 0), (104, .aload_n 0, 1, 0, 0, 0, 0, 0), (105, .getfield 27, 3, 0, 0, 147, 0, 0), (108, .aload_n 0, 1, 0, 0, 0, 0, 0), (109, .getfield 18, 3, 0, 5, 153, 0, 0), (112, .aload_n 0, 1, 0, 0, 0, 0, 0), (113, .getfield 58, 3, 0, 2, 150, 0, 0), (116, .iaload, 1, 0, 0, 0, 0, 0), (117, .putfield 45, 3, 3, 5, 98, 1, 0), (120, .iconst 1, 1, 0, 0, 0, 0, 0), (121, .ireturn, 1, 0, 0, 0, 0, 0)]
/-- BirchLeaf$Acts.keep(II)V -/
def vm_p6 : List vm_En := [(0, .aload_n 0, 1, 0, 0, 0, 0, 0), (1, .getfield 9, 3, 0, 3, 151, 0, 0), (4, .aload_n 0, 1, 0, 0, 0, 0, 0), (5, .getfield 58, 3, 0, 2, 150, 0, 0), (8, .aload_n 0, 1, 0, 0, 0, 0, 0), (9, .getfield 27, 3, 0, 0, 147, 0, 0), (12, .getfield 52, 3, 3, 4, 94, 1, 0), (15, .iastore, 1, 0, 0, 0, 0, 0), (16, .aload_n 0, 1, 0, 0, 0, 0, 0), (17, .getfield 15, 3, 0, 4, 152, 0, 0), (20, .aload_n 0, 1, 0, 0, 0, 0, 0), (21, .getfield 58, 3, 0, 2, 150, 0, 0), (24, .aload_n 0, 1, 0, 0, 0, 0, 0), (25, .getfield 27, 3, 0, 0, 147, 0, 0), (28, .getfield 55, 3, 3, 2, 90, 1, 0), (31, .iastore, 1, 0, 0, 0, 0, 0), (32, .aload_n 0, 1, 0, 0, 0, 0, 0), (33, .getfield 18, 3, 0, 5, 153, 0, 0), (36, .aload_n 0, 1, 0, 0, 0, 0, 0), (37, .getfield 58, 3, 0, 2, 150, 0, 0), (40, .aload_n 0, 1, 0, 0, 0, 0, 0), (41, .getfield 27, 3, 0, 0, 147, 0, 0), (44, .getfield 45, 3, 3, 5, 98, 1, 0), (47, .iastore, 1, 0, 0, 0, 0, 0), (48, .aload_n 0, 1, 0, 0, 0, 0, 0), (49, .getfield 21, 3, 0, 6, 154, 0, 0), (52, .aload_n 0, 1, 0, 0, 0, 0, 0), (53, .getfield 58, 3, 0, 2, 150, 0, 0), (56, .iload_n 1, 1, 0, 0, 0, 0, 0), (57, .iastore, 1, 0, 0, 0, 0, 0), (58, .aload_n 0, 1, 0, 0, 0, 0, 0), (59, .getfield 24, 3, 0, 7, 155, 0, 0), (62, .aload_n 0, 1, 0, 0, 0, 0, 0), (63, .getfield 58, 3, 0, 2, 150, 0, 0), (66, .iload_n 2, 1, 0, 0, 0, 0, 0), (67, .iastore, 1, 0, 0, 0, 0, 0), (68, .aload_n 0, 1, 0, 0, 0, 0, 0), (69, .aload_n 0, 1, 0, 0, 0, 0, 0), (70, .getfield 58, 3, 0, 2, 150, 0, 0), (73, .bipush 23, 2, 0, 0, 0, 0, 0), (75, .if_icmp .ge 12, 3, 87, 0, 0, 0, 0), (78, .aload_n 0, 1, 0, 0, 0, 0, 0), (79, .getfield 58, 3, 0, 2, 150, 0, 0), (82, .iconst 1, 1, 0, 0, 0, 0, 0), (83, .iadd, 1, 0, 0, 0, 0, 0), (84, .goto 4, 3, 88, 0, 0, 0, 0), (87, .iconst 0, 1, 0, 0, 0, 0, 0), (88, .putfield 58, 3, 0, 2, 150, 0, 0), (91, .aload_n 0, 1, 0, 0, 0, 0, 0), (92, .aload_n 0, 1, 0, 0, 0, 0, 0), (93, .getfield 31, 3, 0, 1, 148, 0, 0), (96, .iconst 1, 1, 0, 0, 0, 0, 0), (97, .iadd, 1, 0, 0, 0, 0, 0), (98, .bipush 24, 2, 0, 0, 0, 0, 0), (100, .invokestatic 61, 3, 1003, 0, 497, 0, 0), (103, .putfield 31, 3, 0, 1, 148, 0, 0), (106, .return_, 1, 0, 0, 0, 0, 0)]
/-- BirchLeaf$Acts.pay(III)V -/
def vm_p7 : List vm_En := [(0, .aload_n 0, 1, 0, 0, 0, 0, 0), (1, .getfield 27, 3, 0, 0, 147, 0, 0), (4, .getfield 67, 3, 3, 9, 112, 1, 0), (7, .iload_n 1, 1, 0, 0, 0, 0, 0), (8, .dup2, 1, 0, 0, 0, 0, 0), (9, .iaload, 1, 0, 0, 0, 0, 0), (10, .iload_n 3, 1, 0, 0, 0, 0, 0), (11, .isub, 1, 0, 0, 0, 0, 0), (12, .iastore, 1, 0, 0, 0, 0, 0), (13, .aload_n 0, 1, 0, 0, 0, 0, 0), (14, .getfield 27, 3, 0, 0, 147, 0, 0), (17, .getfield 67, 3, 3, 9, 112, 1, 0), (20, .iload_n 2, 1, 0, 0, 0, 0, 0), (21, .dup2, 1, 0, 0, 0, 0, 0), (22, .iaload, 1, 0, 0, 0, 0, 0), (23, .iload_n 3, 1, 0, 0, 0, 0, 0), (24, .iadd, 1, 0, 0, 0, 0, 0), (25, .iastore, 1, 0, 0, 0, 0, 0), (26, .return_, 1, 0, 0, 0, 0, 0)]
/-- BirchLeaf$Asks.<init>(LBirchLeaf$Hill;)V -/
def vm_p8 : List vm_En := [(0, .aload_n 0, 1, 0, 0, 0, 0, 0), (1, .invokespecial 3, 3, 1001, 0, 208, 0, 0), (4, .aload_n 0, 1, 0, 0, 0, 0, 0), (5, .bipush 16, 2, 0, 0, 0, 0, 0), (7, .newarray .int, 2, 0, 0, 0, 0, 0), (9, .putfield 9, 3, 1, 1, 210, 2, 0), (12, .aload_n 0, 1, 0, 0, 0, 0, 0), (13, .aload_n 1, 1, 0, 0, 0, 0, 0), (14, .putfield 15, 3, 1, 0, 209, 2, 0), (17, .return_, 1, 0, 0, 0, 0, 0)]
/-- BirchLeaf$Asks.begin()V -/
def vm_p9 : List vm_En := [(0, .aload_n 0, 1, 0, 0, 0, 0, 0), (1, .iconst 0, 1, 0, 0, 0, 0, 0), (2, .putfield 19, 3, 1, 2, 212, 0, 0), (5, .return_, 1, 0, 0, 0, 0, 0)]
/-- BirchLeaf$Asks.enter(I)V -/
def vm_p10 : List vm_En := [(0, .aload_n 0, 1, 0, 0, 0, 0, 0), (1, .getfield 19, 3, 1, 2, 212, 0, 0), (4, .bipush 16, 2, 0, 0, 0, 0, 0), (6, .if_icmp .ge 23, 3, 29, 0, 0, 0, 0), (9, .aload_n 0, 1, 0, 0, 0, 0, 0), (10, .getfield 9, 3, 1, 1, 210, 0, 0), (13, .aload_n 0, 1, 0, 0, 0, 0, 0), (14, .getfield 19, 3, 1, 2, 212, 0, 0), (17, .iload_n 1, 1, 0, 0, 0, 0, 0), (18, .iastore, 1, 0, 0, 0, 0, 0), (19, .aload_n 0, 1, 0, 0, 0, 0, 0), (20, .dup, 1, 0, 0, 0, 0, 0), (21, .getfield 19, 3, 1, 2, 212, 0, 0), (24, .iconst 1, 1, 0, 0, 0, 0, 0), (25, .iadd, 1, 0, 0, 0, 0, 0), (26, .putfield 19, 3, 1, 2, 212, 0, 0), (29, .return_, 1, 0, 0, 0, 0, 0)]
/-- BirchLeaf$Asks.size(I)I -/
def vm_p11 : List vm_En := [(0, .aload_n 0, 1, 0, 0, 0, 0, 0), (1, .getfield 15, 3, 1, 0, 209, 0, 0), (4, .getfield 23, 3, 3, 6, 103, 1, 0), (7, .iload_n 1, 1, 0, 0, 0, 0, 0), (8, .iaload, 1, 0, 0, 0, 0, 0), (9, .iconst 1, 1, 0, 0, 0, 0, 0), (10, .invokestatic 28, 3, 106, 0, 691, 1, 0), (13, .ifCond .eq 11, 3, 24, 0, 0, 0, 0), (16, .aload_n 0, 1, 0, 0, 0, 0, 0), (17, .iload_n 1, 1, 0, 0, 0, 0, 0), (18, .invokevirtual 32, 3, 13, 0, 692, 0, 0), (21, .goto 8, 3, 29, 0, 0, 0, 0), (24, .aload_n 0, 1, 0, 0, 0, 0, 0), (25, .iload_n 1, 1, 0, 0, 0, 0, 0), (26, .invokevirtual 36, 3, 15, 0, 704, 0, 0), (29, .ireturn, 1, 0, 0, 0, 0, 0)]
/-- BirchLeaf$Asks.mark(I)I -/
def vm_p12 : List vm_En := [(0, .aload_n 0, 1, 0, 0, 0, 0, 0), (1, .getfield 15, 3, 1, 0, 209, 0, 0), (4, .getfield 23, 3, 3, 6, 103, 1, 0), (7, .iload_n 1, 1, 0, 0, 0, 0, 0), (8, .iaload, 1, 0, 0, 0, 0, 0), (9, .iconst 1, 1, 0, 0, 0, 0, 0), (10, .invokestatic 28, 3, 106, 0, 691, 1, 0), (13, .ifCond .eq 11, 3, 24, 0, 0, 0, 0), (16, .aload_n 0, 1, 0, 0, 0, 0, 0), (17, .iload_n 1, 1, 0, 0, 0, 0, 0), (18, .invokevirtual 39, 3, 14, 0, 700, 0, 0), (21, .goto 8, 3, 29, 0, 0, 0, 0), (24, .aload_n 0, 1, 0, 0, 0, 0, 0), (25, .iload_n 1, 1, 0, 0, 0, 0, 0), (26, .invokevirtual 42, 3, 16, 0, 712, 0, 0), (29, .ireturn, 1, 0, 0, 0, 0, 0)]
/-- BirchLeaf$Asks.bakerSize(I)I -/
def vm_p13 : List vm_En := [(0, .aload_n 0, 1, 0, 0, 0, 0, 0), (1, .getfield 15, 3, 1, 0, 209, 0, 0), (4, .getfield 23, 3, 3, 6, 103, 1, 0), (7, .iload_n 1, 1, 0, 0, 0, 0, 0), (8, .iaload, 1, 0, 0, 0, 0, 0), (9, .iconst 2, 1, 0, 0, 0, 0, 0), (10, .if_icmp .ne 7, 3, 17, 0, 0, 0, 0), (13, .iconst 1, 1, 0, 0, 0, 0, 0), (14, .goto 4, 3, 18, 0, 0, 0, 0), (17, .iconst 0, 1, 0, 0, 0, 0, 0), (18, .istore_n 2, 1, 0, 0, 0, 0, 0), (19, .iload_n 2, 1, 0, 0, 0, 0, 0), (20, .ifCond .eq 9, 3, 29, 0, 0, 0, 0), (23, .aload_n 0, 1, 0, 0, 0, 0, 0), (24, .bipush 12, 2, 0, 0, 0, 0, 0), (26, .invokevirtual 45, 3, 10, 0, 696, 0, 0), (29, .aload_n 0, 1, 0, 0, 0, 0, 0), (30, .bipush 11, 2, 0, 0, 0, 0, 0), (32, .invokevirtual 45, 3, 10, 0, 696, 0, 0), (35, .aload_n 0, 1, 0, 0, 0, 0, 0), (36, .bipush 10, 2, 0, 0, 0, 0, 0), (38, .invokevirtual 45, 3, 10, 0, 696, 0, 0), (41, .aload_n 0, 1, 0, 0, 0, 0, 0), (42, .getfield 15, 3, 1, 0, 209, 0, 0), (45, .getfield 49, 3, 3, 7, 106, 1, 0), (48, .iload_n 1, 1, 0, 0, 0, 0, 0), (49, .iaload, 1, 0, 0, 0, 0, 0), (50, .aload_n 0, 1, 0, 0, 0, 0, 0), (51, .iload_n 1, 1, 0, 0, 0, 0, 0), (52, .invokevirtual 39, 3, 14, 0, 700, 0, 0), (55, .iadd, 1, 0, 0, 0, 0, 0), (56, .istore_n 3, 1, 0, 0, 0, 0, 0), (57, .iload_n 2, 1, 0, 0, 0, 0, 0), (58, .ifCond .eq 9, 3, 67, 0, 0, 0, 0), (61, .iconst 0, 1, 0, 0, 0, 0, 0), (62, .iload_n 3, 1, 0, 0, 0, 0, 0), (63, .isub, 1, 0, 0, 0, 0, 0), (64, .goto 4, 3, 68, 0, 0, 0, 0), (67, .iload_n 3, 1, 0, 0, 0, 0, 0), (68, .ireturn, 1, 0, 0, 0, 0, 0)]
/-- BirchLeaf$Asks.bakerMark(I)I -/
def vm_p14 : List vm_En := [(0, .aload_n 0, 1, 0, 0, 0, 0, 0), (1, .getfield 15, 3, 1, 0, 209, 0, 0), (4, .getfield 23, 3, 3, 6, 103, 1, 0), (7, .iload_n 1, 1, 0, 0, 0, 0, 0), (8, .iaload, 1, 0, 0, 0, 0, 0), (9, .iconst 2, 1, 0, 0, 0, 0, 0), (10, .if_icmp .ne 7, 3, 17, 0, 0, 0, 0), (13, .iconst 1, 1, 0, 0, 0, 0, 0), (14, .goto 4, 3, 18, 0, 0, 0, 0), (17, .iconst 0, 1, 0, 0, 0, 0, 0), (18, .istore_n 2, 1, 0, 0, 0, 0, 0), (19, .aload_n 0, 1, 0, 0, 0, 0, 0), (20, .getfield 15, 3, 1, 0, 209, 0, 0), (23, .getfield 23, 3, 3, 6, 103, 1, 0), (26, .iload_n 1, 1, 0, 0, 0, 0, 0), (27, .iaload, 1, 0, 0, 0, 0, 0), (28, .iconst 3, 1, 0, 0, 0, 0, 0), (29, .if_icmp .ne 7, 3, 36, 0, 0, 0, 0), (32, .iconst 1, 1, 0, 0, 0, 0, 0), (33, .goto 4, 3, 37, 0, 0, 0, 0), (36, .iconst 0, 1, 0, 0, 0, 0, 0), (37, .istore_n 3, 1, 0, 0, 0, 0, 0), (38, .iload_n 2, 1, 0, 0, 0, 0, 0), (39, .ifCond .ne 7, 3, 46, 0, 0, 0, 0), (42, .iload_n 3, 1, 0, 0, 0, 0, 0), (43, .ifCond .eq 18, 3, 61, 0, 0, 0, 0), (46, .aload_n 0, 1, 0, 0, 0, 0, 0), (47, .iload_n 2, 1, 0, 0, 0, 0, 0), (48, .ifCond .eq 8, 3, 56, 0, 0, 0, 0), (51, .bipush 24, 2, 0, 0, 0, 0, 0), (53, .goto 5, 3, 58, 0, 0, 0, 0), (56, .bipush 22, 2, 0, 0, 0, 0, 0), (58, .invokevirtual 45, 3, 10, 0, 696, 0, 0), (61, .aload_n 0, 1, 0, 0, 0, 0, 0), (62, .bipush 21, 2, 0, 0, 0, 0, 0), (64, .invokevirtual 45, 3, 10, 0, 696, 0, 0), (67, .aload_n 0, 1, 0, 0, 0, 0, 0), (68, .bipush 20, 2, 0, 0, 0, 0, 0), (70, .invokevirtual 45, 3, 10, 0, 696, 0, 0), (73, .iload_n 1, 1, 0, 0, 0, 0, 0), (74, .aload_n 0, 1, 0, 0, 0, 0, 0), (75, .getfield 15, 3, 1, 0, 209, 0, 0), (78, .getfield 52, 3, 3, 9, 111, 1, 0), (81, .iload_n 1, 1, 0, 0, 0, 0, 0), (82, .iaload, 1, 0, 0, 0, 0, 0), (83, .iadd, 1, 0, 0, 0, 0, 0), (84, .istore 4, 2, 0, 0, 0, 0, 0), (86, .iload_n 2, 1, 0, 0, 0, 0, 0), (87, .ifCond .eq 10, 3, 97, 0, 0, 0, 0), (90, .iconst 2, 1, 0, 0, 0, 0, 0), (91, .iload 4, 2, 0, 0, 0, 0, 0), (93, .imul, 1, 0, 0, 0, 0, 0), (94, .goto 18, 3, 112, 0, 0, 0, 0), (97, .iload_n 3, 1, 0, 0, 0, 0, 0), (98, .ifCond .eq 12, 3, 110, 0, 0, 0, 0), (101, .iload 4, 2, 0, 0, 0, 0, 0), (103, .sipush 1000, 3, 0, 0, 0, 0, 0), (106, .isub, 1, 0, 0, 0, 0, 0), (107, .goto 5, 3, 112, 0, 0, 0, 0), (110, .iload 4, 2, 0, 0, 0, 0, 0), (112, .ireturn, 1, 0, 0, 0, 0, 0)]
/-- BirchLeaf$Asks.priestSize(I)I -/
def vm_p15 : List vm_En := [(0, .aload_n 0, 1, 0, 0, 0, 0, 0), (1, .getfield 15, 3, 1, 0, 209, 0, 0), (4, .getfield 23, 3, 3, 6, 103, 1, 0), (7, .iload_n 1, 1, 0, 0, 0, 0, 0), (8, .iaload, 1, 0, 0, 0, 0, 0), (9, .iconst 5, 1, 0, 0, 0, 0, 0), (10, .if_icmp .ne 7, 3, 17, 0, 0, 0, 0), (13, .iconst 1, 1, 0, 0, 0, 0, 0), (14, .goto 4, 3, 18, 0, 0, 0, 0), (17, .iconst 0, 1, 0, 0, 0, 0, 0), (18, .istore_n 2, 1, 0, 0, 0, 0, 0), (19, .iload_n 2, 1, 0, 0, 0, 0, 0), (20, .ifCond .eq 9, 3, 29, 0, 0, 0, 0), (23, .aload_n 0, 1, 0, 0, 0, 0, 0), (24, .bipush 14, 2, 0, 0, 0, 0, 0), (26, .invokevirtual 45, 3, 10, 0, 696, 0, 0), (29, .aload_n 0, 1, 0, 0, 0, 0, 0), (30, .bipush 13, 2, 0, 0, 0, 0, 0), (32, .invokevirtual 45, 3, 10, 0, 696, 0, 0), (35, .aload_n 0, 1, 0, 0, 0, 0, 0), (36, .bipush 10, 2, 0, 0, 0, 0, 0), (38, .invokevirtual 45, 3, 10, 0, 696, 0, 0), (41, .aload_n 0, 1, 0, 0, 0, 0, 0), (42, .getfield 15, 3, 1, 0, 209, 0, 0), (45, .getfield 49, 3, 3, 7, 106, 1, 0), (48, .iload_n 1, 1, 0, 0, 0, 0, 0), (49, .iaload, 1, 0, 0, 0, 0, 0), (50, .bipush 100, 2, 0, 0, 0, 0, 0), (52, .isub, 1, 0, 0, 0, 0, 0), (53, .istore_n 3, 1, 0, 0, 0, 0, 0), (54, .iload_n 2, 1, 0, 0, 0, 0, 0), (55, .ifCond .eq 9, 3, 64, 0, 0, 0, 0), (58, .iconst 2, 1, 0, 0, 0, 0, 0), (59, .iload_n 3, 1, 0, 0, 0, 0, 0), (60, .imul, 1, 0, 0, 0, 0, 0), (61, .goto 4, 3, 65, 0, 0, 0, 0), (64, .iload_n 3, 1, 0, 0, 0, 0, 0), (65, .ireturn, 1, 0, 0, 0, 0, 0)]
/-- BirchLeaf$Asks.priestMark(I)I -/
def vm_p16 : List vm_En := [(0, .aload_n 0, 1, 0, 0, 0, 0, 0), (1, .bipush 23, 2, 0, 0, 0, 0, 0), (3, .invokevirtual 45, 3, 10, 0, 696, 0, 0), (6, .aload_n 0, 1, 0, 0, 0, 0, 0), (7, .bipush 20, 2, 0, 0, 0, 0, 0), (9, .invokevirtual 45, 3, 10, 0, 696, 0, 0), (12, .iload_n 1, 1, 0, 0, 0, 0, 0), (13, .aload_n 0, 1, 0, 0, 0, 0, 0), (14, .iload_n 1, 1, 0, 0, 0, 0, 0), (15, .invokevirtual 36, 3, 15, 0, 704, 0, 0), (18, .isub, 1, 0, 0, 0, 0, 0), (19, .ireturn, 1, 0, 0, 0, 0, 0)]
/-- BirchLeaf$Foretold.<init>(LBirchLeaf$Hill;)V -/
def vm_p17 : List vm_En := [(0, .aload_n 0, 1, 0, 0, 0, 0, 0), (1, .invokespecial 3, 3, 1001, 0, 178, 0, 0), (4, .aload_n 0, 1, 0, 0, 0, 0, 0), (5, .sipush 366, 3, 0, 0, 0, 0, 0), (8, .newarray .int, 2, 0, 0, 0, 0, 0), (10, .putfield 9, 3, 2, 3, 184, 2, 0), (13, .aload_n 0, 1, 0, 0, 0, 0, 0), (14, .bipush 61, 2, 0, 0, 0, 0, 0), (16, .newarray .int, 2, 0, 0, 0, 0, 0), (18, .putfield 15, 3, 2, 4, 185, 2, 0), (21, .aload_n 0, 1, 0, 0, 0, 0, 0), (22, .bipush 61, 2, 0, 0, 0, 0, 0), (24, .newarray .int, 2, 0, 0, 0, 0, 0), (26, .putfield 18, 3, 2, 5, 186, 2, 0), (29, .aload_n 0, 1, 0, 0, 0, 0, 0), (30, .bipush 61, 2, 0, 0, 0, 0, 0), (32, .newarray .int, 2, 0, 0, 0, 0, 0), (34, .putfield 21, 3, 2, 6, 187, 2, 0), (37, .aload_n 0, 1, 0, 0, 0, 0, 0), (38, .aload_n 1, 1, 0, 0, 0, 0, 0), (39, .putfield 24, 3, 2, 0, 179, 2, 0), (42, .return_, 1, 0, 0, 0, 0, 0)]
/-- BirchLeaf$Foretold.dearestFrom(II)I -/
def vm_p18 : List vm_En := [(0, .iconst 0, 1, 0, 0, 0, 0, 0), (1, .istore_n 3, 1, 0, 0, 0, 0, 0), (2, .iload_n 2, 1, 0, 0, 0, 0, 0), (3, .istore 4, 2, 0, 0, 0, 0, 0), (5, .iload 4, 2, 0, 0, 0, 0, 0), (7, .bipush 60, 2, 0, 0, 0, 0, 0), (9, .if_icmp .gt 50, 3, 59, 0, 0, 0, 0), (12, .aload_n 0, 1, 0, 0, 0, 0, 0), (13, .iload_n 1, 1, 0, 0, 0, 0, 0), (14, .iload 4, 2, 0, 0, 0, 0, 0), (16, .aload_n 0, 1, 0, 0, 0, 0, 0), (17, .getfield 24, 3, 2, 0, 179, 0, 0), (20, .getfield 28, 3, 3, 2, 87, 1, 0), (23, .invokevirtual 34, 3, 25, 0, 557, 0, 0), (26, .istore 5, 2, 0, 0, 0, 0, 0), (28, .iload 5, 2, 0, 0, 0, 0, 0), (30, .ldc 38, 2, 0, 0, 561, 0, -1000000), (32, .if_icmp .ne 7, 3, 39, 0, 0, 0, 0), (35, .iload_n 3, 1, 0, 0, 0, 0, 0), (36, .goto 16, 3, 52, 0, 0, 0, 0), (39, .iload_n 3, 1, 0, 0, 0, 0, 0), (40, .aload_n 0, 1, 0, 0, 0, 0, 0), (41, .getfield 24, 3, 2, 0, 179, 0, 0), (44, .iload 5, 2, 0, 0, 0, 0, 0), (46, .invokevirtual 39, 3, 43, 0, 562, 0, 0), (49, .invokestatic 43, 3, 1002, 0, 564, 0, 0), (52, .istore_n 3, 1, 0, 0, 0, 0, 0), (53, .iinc 4 1, 3, 0, 0, 0, 0, 0), (56, .goto (-51), 3, 5, 0, 0, 0, 0), (59, .iload_n 3, 1, 0, 0, 0, 0, 0), (60, .ireturn, 1, 0, 0, 0, 0, 0)]
/-- BirchLeaf$Foretold.surelyFrom(II)I -/
def vm_p19 : List vm_En := [(0, .aload_n 0, 1, 0, 0, 0, 0, 0), (1, .iload_n 2, 1, 0, 0, 0, 0, 0), (2, .iconst 1, 1, 0, 0, 0, 0, 0), (3, .invokevirtual 49, 3, 23, 0, 575, 0, 0), (6, .aload_n 0, 1, 0, 0, 0, 0, 0), (7, .getfield 9, 3, 2, 3, 184, 0, 0), (10, .iload_n 2, 1, 0, 0, 0, 0, 0), (11, .bipush 6, 2, 0, 0, 0, 0, 0), (13, .imul, 1, 0, 0, 0, 0, 0), (14, .iload_n 1, 1, 0, 0, 0, 0, 0), (15, .iadd, 1, 0, 0, 0, 0, 0), (16, .iaload, 1, 0, 0, 0, 0, 0), (17, .ireturn, 1, 0, 0, 0, 0, 0)]
/-- BirchLeaf$Foretold.sumFrom(II)I -/
def vm_p20 : List vm_En := [(0, .aload_n 0, 1, 0, 0, 0, 0, 0), (1, .iload_n 2, 1, 0, 0, 0, 0, 0), (2, .iconst 0, 1, 0, 0, 0, 0, 0), (3, .invokevirtual 49, 3, 23, 0, 575, 0, 0), (6, .aload_n 0, 1, 0, 0, 0, 0, 0), (7, .getfield 9, 3, 2, 3, 184, 0, 0), (10, .iload_n 2, 1, 0, 0, 0, 0, 0), (11, .bipush 6, 2, 0, 0, 0, 0, 0), (13, .imul, 1, 0, 0, 0, 0, 0), (14, .iload_n 1, 1, 0, 0, 0, 0, 0), (15, .iadd, 1, 0, 0, 0, 0, 0), (16, .iaload, 1, 0, 0, 0, 0, 0), (17, .invokestatic 53, 3, 22, 0, 591, 0, 0), (20, .ireturn, 1, 0, 0, 0, 0, 0)]
/-- BirchLeaf$Foretold.timesFrom(II)I -/
def vm_p21 : List vm_En := [(0, .aload_n 0, 1, 0, 0, 0, 0, 0), (1, .iload_n 2, 1, 0, 0, 0, 0, 0), (2, .iconst 0, 1, 0, 0, 0, 0, 0), (3, .invokevirtual 49, 3, 23, 0, 575, 0, 0), (6, .aload_n 0, 1, 0, 0, 0, 0, 0), (7, .getfield 9, 3, 2, 3, 184, 0, 0), (10, .iload_n 2, 1, 0, 0, 0, 0, 0), (11, .bipush 6, 2, 0, 0, 0, 0, 0), (13, .imul, 1, 0, 0, 0, 0, 0), (14, .iload_n 1, 1, 0, 0, 0, 0, 0), (15, .iadd, 1, 0, 0, 0, 0, 0), (16, .iaload, 1, 0, 0, 0, 0, 0), (17, .istore_n 3, 1, 0, 0, 0, 0, 0), (18, .iload_n 3, 1, 0, 0, 0, 0, 0), (19, .invokestatic 53, 3, 22, 0, 591, 0, 0), (22, .bipush 64, 2, 0, 0, 0, 0, 0), (24, .imul, 1, 0, 0, 0, 0, 0), (25, .iload_n 3, 1, 0, 0, 0, 0, 0), (26, .isub, 1, 0, 0, 0, 0, 0), (27, .ireturn, 1, 0, 0, 0, 0, 0)]
/-- BirchLeaf$Foretold.coins(I)I -/
def vm_p22 : List vm_En := [(0, .iload_n 0, 1, 0, 0, 0, 0, 0), (1, .bipush 64, 2, 0, 0, 0, 0, 0), (3, .iadd, 1, 0, 0, 0, 0, 0), (4, .iconst 1, 1, 0, 0, 0, 0, 0), (5, .isub, 1, 0, 0, 0, 0, 0), (6, .bipush 64, 2, 0, 0, 0, 0, 0), (8, .idiv, 1, 0, 0, 0, 0, 0), (9, .ireturn, 1, 0, 0, 0, 0, 0)]
/-- BirchLeaf$Foretold.fillBest(IZ)V -/
def vm_p23 : List vm_En := [(0, .bipush 60, 2, 0, 0, 0, 0, 0), (2, .istore_n 3, 1, 0, 0, 0, 0, 0), (3, .iload_n 3, 1, 0, 0, 0, 0, 0), (4, .iload_n 1, 1, 0, 0, 0, 0, 0), (5, .if_icmp .lt 50, 3, 55, 0, 0, 0, 0), (8, .iconst 0, 1, 0, 0, 0, 0, 0), (9, .istore 4, 2, 0, 0, 0, 0, 0), (11, .iload 4, 2, 0, 0, 0, 0, 0), (13, .aload_n 0, 1, 0, 0, 0, 0, 0), (14, .getfield 24, 3, 2, 0, 179, 0, 0), (17, .getfield 56, 3, 3, 0, 82, 1, 0), (20, .if_icmp .ge 29, 3, 49, 0, 0, 0, 0), (23, .aload_n 0, 1, 0, 0, 0, 0, 0), (24, .getfield 9, 3, 2, 3, 184, 0, 0), (27, .iload_n 3, 1, 0, 0, 0, 0, 0), (28, .bipush 6, 2, 0, 0, 0, 0, 0), (30, .imul, 1, 0, 0, 0, 0, 0), (31, .iload 4, 2, 0, 0, 0, 0, 0), (33, .iadd, 1, 0, 0, 0, 0, 0), (34, .aload_n 0, 1, 0, 0, 0, 0, 0), (35, .iload 4, 2, 0, 0, 0, 0, 0), (37, .iload_n 3, 1, 0, 0, 0, 0, 0), (38, .iload_n 2, 1, 0, 0, 0, 0, 0), (39, .invokevirtual 59, 3, 24, 0, 579, 0, 0), (42, .iastore, 1, 0, 0, 0, 0, 0), (43, .iinc 4 1, 3, 0, 0, 0, 0, 0), (46, .goto (-35), 3, 11, 0, 0, 0, 0), (49, .iinc 3 (-1), 3, 0, 0, 0, 0, 0), (52, .goto (-49), 3, 3, 0, 0, 0, 0), (55, .return_, 1, 0, 0, 0, 0, 0)]
/-- BirchLeaf$Foretold.bestOf(IIZ)I -/
def vm_p24 : List vm_En := [(0, .iload_n 2, 1, 0, 0, 0, 0, 0), (1, .bipush 60, 2, 0, 0, 0, 0, 0), (3, .if_icmp .ge 19, 3, 22, 0, 0, 0, 0), (6, .aload_n 0, 1, 0, 0, 0, 0, 0), (7, .getfield 9, 3, 2, 3, 184, 0, 0), (10, .iload_n 2, 1, 0, 0, 0, 0, 0), (11, .iconst 1, 1, 0, 0, 0, 0, 0), (12, .iadd, 1, 0, 0, 0, 0, 0), (13, .bipush 6, 2, 0, 0, 0, 0, 0), (15, .imul, 1, 0, 0, 0, 0, 0), (16, .iload_n 1, 1, 0, 0, 0, 0, 0), (17, .iadd, 1, 0, 0, 0, 0, 0), (18, .iaload, 1, 0, 0, 0, 0, 0), (19, .goto 4, 3, 23, 0, 0, 0, 0), (22, .iconst 0, 1, 0, 0, 0, 0, 0), (23, .istore 4, 2, 0, 0, 0, 0, 0), (25, .iconst 0, 1, 0, 0, 0, 0, 0), (26, .istore 5, 2, 0, 0, 0, 0, 0), (28, .iload 5, 2, 0, 0, 0, 0, 0), (30, .aload_n 0, 1, 0, 0, 0, 0, 0), (31, .getfield 24, 3, 2, 0, 179, 0, 0), (34, .getfield 56, 3, 3, 0, 82, 1, 0), (37, .if_icmp .ge 109, 3, 146, 0, 0, 0, 0), (40, .aload_n 0, 1, 0, 0, 0, 0, 0), (41, .getfield 24, 3, 2, 0, 179, 0, 0), (44, .iload_n 1, 1, 0, 0, 0, 0, 0), (45, .iload 5, 2, 0, 0, 0, 0, 0), (47, .iload_n 2, 1, 0, 0, 0, 0, 0), (48, .aload_n 0, 1, 0, 0, 0, 0, 0), (49, .getfield 24, 3, 2, 0, 179, 0, 0), (52, .getfield 28, 3, 3, 2, 87, 1, 0), (55, .invokevirtual 63, 3, 46, 0, 563, 0, 0), (58, .istore 6, 2, 0, 0, 0, 0, 0), (60, .iload 6, 2, 0, 0, 0, 0, 0), (62, .iload_n 2, 1, 0, 0, 0, 0, 0), (63, .if_icmp .le 77, 3, 140, 0, 0, 0, 0), (66, .iload 6, 2, 0, 0, 0, 0, 0), (68, .bipush 60, 2, 0, 0, 0, 0, 0), (70, .if_icmp .gt 70, 3, 140, 0, 0, 0, 0), (73, .aload_n 0, 1, 0, 0, 0, 0, 0), (74, .getfield 9, 3, 2, 3, 184, 0, 0), (77, .iload 6, 2, 0, 0, 0, 0, 0), (79, .bipush 6, 2, 0, 0, 0, 0, 0), (81, .imul, 1, 0, 0, 0, 0, 0), (82, .iload 5, 2, 0, 0, 0, 0, 0), (84, .iadd, 1, 0, 0, 0, 0, 0), (85, .iaload, 1, 0, 0, 0, 0, 0), (86, .istore 7, 2, 0, 0, 0, 0, 0), (88, .aload_n 0, 1, 0, 0, 0, 0, 0), (89, .getfield 24, 3, 2, 0, 179, 0, 0), (92, .iload 5, 2, 0, 0, 0, 0, 0), (94, .invokevirtual 39, 3, 43, 0, 562, 0, 0), (97, .istore 8, 2, 0, 0, 0, 0, 0), (99, .iload_n 3, 1, 0, 0, 0, 0, 0), (100, .ifCond .ne 16, 3, 116, 0, 0, 0, 0), (103, .iload 8, 2, 0, 0, 0, 0, 0), (105, .bipush 64, 2, 0, 0, 0, 0, 0), (107, .imul, 1, 0, 0, 0, 0, 0), (108, .iconst 1, 1, 0, 0, 0, 0, 0), (109, .isub, 1, 0, 0, 0, 0, 0), (110, .iload 7, 2, 0, 0, 0, 0, 0), (112, .iadd, 1, 0, 0, 0, 0, 0), (113, .goto 16, 3, 129, 0, 0, 0, 0), (116, .iload 7, 2, 0, 0, 0, 0, 0), (118, .iload 8, 2, 0, 0, 0, 0, 0), (120, .if_icmp .lt 8, 3, 128, 0, 0, 0, 0), (123, .iload 8, 2, 0, 0, 0, 0, 0), (125, .goto 4, 3, 129, 0, 0, 0, 0), (128, .iconst 0, 1, 0, 0, 0, 0, 0), (129, .istore 9, 2, 0, 0, 0, 0, 0), (131, .iload 4, 2, 0, 0, 0, 0, 0), (133, .iload 9, 2, 0, 0, 0, 0, 0), (135, .invokestatic 43, 3, 1002, 0, 564, 0, 0), (138, .istore 4, 2, 0, 0, 0, 0, 0), (140, .iinc 5 1, 3, 0, 0, 0, 0, 0), (143, .goto (-115), 3, 28, 0, 0, 0, 0), (146, .iload 4, 2, 0, 0, 0, 0, 0), (148, .ireturn, 1, 0, 0, 0, 0, 0)]
/-- BirchLeaf$Foretold.dearest(III)I -/
def vm_p25 : List vm_En := [(0, .ldc 38, 2, 0, 0, 561, 0, -1000000), (2, .istore 4, 2, 0, 0, 0, 0, 0), (4, .iconst 0, 1, 0, 0, 0, 0, 0), (5, .istore 5, 2, 0, 0, 0, 0, 0), (7, .iload 5, 2, 0, 0, 0, 0, 0), (9, .aload_n 0, 1, 0, 0, 0, 0, 0), (10, .getfield 24, 3, 2, 0, 179, 0, 0), (13, .getfield 56, 3, 3, 0, 82, 1, 0), (16, .if_icmp .ge 70, 3, 86, 0, 0, 0, 0), (19, .iload 4, 2, 0, 0, 0, 0, 0), (21, .ldc 38, 2, 0, 0, 561, 0, -1000000), (23, .if_icmp .eq 24, 3, 47, 0, 0, 0, 0), (26, .aload_n 0, 1, 0, 0, 0, 0, 0), (27, .getfield 24, 3, 2, 0, 179, 0, 0), (30, .iload 5, 2, 0, 0, 0, 0, 0), (32, .invokevirtual 39, 3, 43, 0, 562, 0, 0), (35, .aload_n 0, 1, 0, 0, 0, 0, 0), (36, .getfield 24, 3, 2, 0, 179, 0, 0), (39, .iload 4, 2, 0, 0, 0, 0, 0), (41, .invokevirtual 39, 3, 43, 0, 562, 0, 0), (44, .if_icmp .le 7, 3, 51, 0, 0, 0, 0), (47, .iconst 1, 1, 0, 0, 0, 0, 0), (48, .goto 4, 3, 52, 0, 0, 0, 0), (51, .iconst 0, 1, 0, 0, 0, 0, 0), (52, .istore 6, 2, 0, 0, 0, 0, 0), (54, .iload 6, 2, 0, 0, 0, 0, 0), (56, .ifCond .eq 24, 3, 80, 0, 0, 0, 0), (59, .aload_n 0, 1, 0, 0, 0, 0, 0), (60, .getfield 24, 3, 2, 0, 179, 0, 0), (63, .iload_n 1, 1, 0, 0, 0, 0, 0), (64, .iload 5, 2, 0, 0, 0, 0, 0), (66, .iload_n 2, 1, 0, 0, 0, 0, 0), (67, .iload_n 3, 1, 0, 0, 0, 0, 0), (68, .invokevirtual 63, 3, 46, 0, 563, 0, 0), (71, .ldc 38, 2, 0, 0, 561, 0, -1000000), (73, .if_icmp .eq 7, 3, 80, 0, 0, 0, 0), (76, .iload 5, 2, 0, 0, 0, 0, 0), (78, .istore 4, 2, 0, 0, 0, 0, 0), (80, .iinc 5 1, 3, 0, 0, 0, 0, 0), (83, .goto (-76), 3, 7, 0, 0, 0, 0), (86, .iload 4, 2, 0, 0, 0, 0, 0), (88, .ireturn, 1, 0, 0, 0, 0, 0)]
/-- BirchLeaf$Foretold.runOut(I)V -/
def vm_p26 : List vm_En := [(0, .aload_n 0, 1, 0, 0, 0, 0, 0), (1, .aload_n 0, 1, 0, 0, 0, 0, 0), (2, .getfield 24, 3, 2, 0, 179, 0, 0), (5, .getfield 67, 3, 3, 5, 101, 1, 0), (8, .putfield 70, 3, 2, 1, 180, 0, 0), (11, .aload_n 0, 1, 0, 0, 0, 0, 0), (12, .aload_n 0, 1, 0, 0, 0, 0, 0), (13, .getfield 24, 3, 2, 0, 179, 0, 0), (16, .getfield 73, 3, 3, 4, 97, 1, 0), (19, .putfield 76, 3, 2, 2, 182, 0, 0), (22, .iconst 0, 1, 0, 0, 0, 0, 0), (23, .istore_n 2, 1, 0, 0, 0, 0, 0), (24, .iload_n 2, 1, 0, 0, 0, 0, 0), (25, .bipush 60, 2, 0, 0, 0, 0, 0), (27, .if_icmp .ge 56, 3, 83, 0, 0, 0, 0), (30, .aload_n 0, 1, 0, 0, 0, 0, 0), (31, .aload_n 0, 1, 0, 0, 0, 0, 0), (32, .getfield 70, 3, 2, 1, 180, 0, 0), (35, .aload_n 0, 1, 0, 0, 0, 0, 0), (36, .getfield 76, 3, 2, 2, 182, 0, 0), (39, .iload_n 1, 1, 0, 0, 0, 0, 0), (40, .invokevirtual 34, 3, 25, 0, 557, 0, 0), (43, .istore_n 3, 1, 0, 0, 0, 0, 0), (44, .iload_n 3, 1, 0, 0, 0, 0, 0), (45, .ldc 38, 2, 0, 0, 561, 0, -1000000), (47, .if_icmp .ne 4, 3, 51, 0, 0, 0, 0), (50, .return_, 1, 0, 0, 0, 0, 0), (51, .aload_n 0, 1, 0, 0, 0, 0, 0), (52, .aload_n 0, 1, 0, 0, 0, 0, 0), (53, .getfield 24, 3, 2, 0, 179, 0, 0), (56, .aload_n 0, 1, 0, 0, 0, 0, 0), (57, .getfield 70, 3, 2, 1, 180, 0, 0), (60, .iload_n 3, 1, 0, 0, 0, 0, 0), (61, .aload_n 0, 1, 0, 0, 0, 0, 0), (62, .getfield 76, 3, 2, 2, 182, 0, 0), (65, .iload_n 1, 1, 0, 0, 0, 0, 0), (66, .invokevirtual 63, 3, 46, 0, 563, 0, 0), (69, .putfield 76, 3, 2, 2, 182, 0, 0), (72, .aload_n 0, 1, 0, 0, 0, 0, 0), (73, .iload_n 3, 1, 0, 0, 0, 0, 0), (74, .putfield 70, 3, 2, 1, 180, 0, 0), (77, .iinc 2 1, 3, 0, 0, 0, 0, 0), (80, .goto (-56), 3, 24, 0, 0, 0, 0), (83, .return_, 1, 0, 0, 0, 0, 0)]
/-- BirchLeaf$Foretold.dawnFor(I)I -/
def vm_p27 : List vm_En := [(0, .iconst 1, 1, 0, 0, 0, 0, 0), (1, .istore_n 2, 1, 0, 0, 0, 0, 0), (2, .iload_n 2, 1, 0, 0, 0, 0, 0), (3, .bipush 60, 2, 0, 0, 0, 0, 0), (5, .if_icmp .gt 24, 3, 29, 0, 0, 0, 0), (8, .aload_n 0, 1, 0, 0, 0, 0, 0), (9, .iload_n 2, 1, 0, 0, 0, 0, 0), (10, .invokevirtual 79, 3, 26, 0, 614, 0, 0), (13, .aload_n 0, 1, 0, 0, 0, 0, 0), (14, .getfield 70, 3, 2, 1, 180, 0, 0), (17, .iload_n 1, 1, 0, 0, 0, 0, 0), (18, .if_icmp .ne 5, 3, 23, 0, 0, 0, 0), (21, .iload_n 2, 1, 0, 0, 0, 0, 0), (22, .ireturn, 1, 0, 0, 0, 0, 0), (23, .iinc 2 1, 3, 0, 0, 0, 0, 0), (26, .goto (-24), 3, 2, 0, 0, 0, 0), (29, .ldc 38, 2, 0, 0, 561, 0, -1000000), (31, .ireturn, 1, 0, 0, 0, 0, 0)]
/-- BirchLeaf$Foretold.forgetSeen()V -/
def vm_p28 : List vm_En := [(0, .iconst 0, 1, 0, 0, 0, 0, 0), (1, .istore_n 1, 1, 0, 0, 0, 0, 0), (2, .iload_n 1, 1, 0, 0, 0, 0, 0), (3, .bipush 60, 2, 0, 0, 0, 0, 0), (5, .if_icmp .gt 17, 3, 22, 0, 0, 0, 0), (8, .aload_n 0, 1, 0, 0, 0, 0, 0), (9, .getfield 15, 3, 2, 4, 185, 0, 0), (12, .iload_n 1, 1, 0, 0, 0, 0, 0), (13, .bipush 63, 2, 0, 0, 0, 0, 0), (15, .iastore, 1, 0, 0, 0, 0, 0), (16, .iinc 1 1, 3, 0, 0, 0, 0, 0), (19, .goto (-17), 3, 2, 0, 0, 0, 0), (22, .return_, 1, 0, 0, 0, 0, 0)]
/-- BirchLeaf$Foretold.noteSeen(II)V -/
def vm_p29 : List vm_En := [(0, .aload_n 0, 1, 0, 0, 0, 0, 0), (1, .getfield 15, 3, 2, 4, 185, 0, 0), (4, .iload_n 2, 1, 0, 0, 0, 0, 0), (5, .dup2, 1, 0, 0, 0, 0, 0), (6, .iaload, 1, 0, 0, 0, 0, 0), (7, .iconst 1, 1, 0, 0, 0, 0, 0), (8, .iload_n 1, 1, 0, 0, 0, 0, 0), (9, .ishl, 1, 0, 0, 0, 0, 0), (10, .iand, 1, 0, 0, 0, 0, 0), (11, .iastore, 1, 0, 0, 0, 0, 0), (12, .return_, 1, 0, 0, 0, 0, 0)]
/-- BirchLeaf$Foretold.withWhom(I)I -/
def vm_p30 : List vm_En := [(0, .aload_n 0, 1, 0, 0, 0, 0, 0), (1, .invokevirtual 83, 3, 31, 0, 635, 0, 0), (4, .aload_n 0, 1, 0, 0, 0, 0, 0), (5, .invokevirtual 86, 3, 33, 0, 648, 0, 0), (8, .aload_n 0, 1, 0, 0, 0, 0, 0), (9, .getfield 18, 3, 2, 5, 186, 0, 0), (12, .iload_n 1, 1, 0, 0, 0, 0, 0), (13, .iaload, 1, 0, 0, 0, 0, 0), (14, .aload_n 0, 1, 0, 0, 0, 0, 0), (15, .getfield 21, 3, 2, 6, 187, 0, 0), (18, .iload_n 1, 1, 0, 0, 0, 0, 0), (19, .iaload, 1, 0, 0, 0, 0, 0), (20, .iand, 1, 0, 0, 0, 0, 0), (21, .ireturn, 1, 0, 0, 0, 0, 0)]
/-- BirchLeaf$Foretold.fillCame()V -/
def vm_p31 : List vm_En := [(0, .iconst 1, 1, 0, 0, 0, 0, 0), (1, .istore_n 1, 1, 0, 0, 0, 0, 0), (2, .iload_n 1, 1, 0, 0, 0, 0, 0), (3, .bipush 60, 2, 0, 0, 0, 0, 0), (5, .if_icmp .gt 16, 3, 21, 0, 0, 0, 0), (8, .aload_n 0, 1, 0, 0, 0, 0, 0), (9, .getfield 18, 3, 2, 5, 186, 0, 0), (12, .iload_n 1, 1, 0, 0, 0, 0, 0), (13, .iconst 0, 1, 0, 0, 0, 0, 0), (14, .iastore, 1, 0, 0, 0, 0, 0), (15, .iinc 1 1, 3, 0, 0, 0, 0, 0), (18, .goto (-16), 3, 2, 0, 0, 0, 0), (21, .aload_n 0, 1, 0, 0, 0, 0, 0), (22, .getfield 18, 3, 2, 5, 186, 0, 0), (25, .iconst 0, 1, 0, 0, 0, 0, 0), (26, .iconst 1, 1, 0, 0, 0, 0, 0), (27, .iastore, 1, 0, 0, 0, 0, 0), (28, .iconst 0, 1, 0, 0, 0, 0, 0), (29, .istore_n 1, 1, 0, 0, 0, 0, 0), (30, .iload_n 1, 1, 0, 0, 0, 0, 0), (31, .bipush 60, 2, 0, 0, 0, 0, 0), (33, .if_icmp .gt 69, 3, 102, 0, 0, 0, 0), (36, .aload_n 0, 1, 0, 0, 0, 0, 0), (37, .getfield 18, 3, 2, 5, 186, 0, 0), (40, .iload_n 1, 1, 0, 0, 0, 0, 0), (41, .dup2, 1, 0, 0, 0, 0, 0), (42, .iaload, 1, 0, 0, 0, 0, 0), (43, .aload_n 0, 1, 0, 0, 0, 0, 0), (44, .getfield 15, 3, 2, 4, 185, 0, 0), (47, .iload_n 1, 1, 0, 0, 0, 0, 0), (48, .iaload, 1, 0, 0, 0, 0, 0), (49, .iand, 1, 0, 0, 0, 0, 0), (50, .iastore, 1, 0, 0, 0, 0, 0), (51, .aload_n 0, 1, 0, 0, 0, 0, 0), (52, .iload_n 1, 1, 0, 0, 0, 0, 0), (53, .invokevirtual 89, 3, 35, 0, 639, 0, 0), (56, .istore_n 2, 1, 0, 0, 0, 0, 0), (57, .iconst 0, 1, 0, 0, 0, 0, 0), (58, .istore_n 3, 1, 0, 0, 0, 0, 0), (59, .iload_n 3, 1, 0, 0, 0, 0, 0), (60, .aload_n 0, 1, 0, 0, 0, 0, 0), (61, .getfield 24, 3, 2, 0, 179, 0, 0), (64, .getfield 56, 3, 3, 0, 82, 1, 0), (67, .if_icmp .ge 29, 3, 96, 0, 0, 0, 0), (70, .aload_n 0, 1, 0, 0, 0, 0, 0), (71, .getfield 18, 3, 2, 5, 186, 0, 0), (74, .iload_n 1, 1, 0, 0, 0, 0, 0), (75, .iaload, 1, 0, 0, 0, 0, 0), (76, .iload_n 3, 1, 0, 0, 0, 0, 0), (77, .ishr, 1, 0, 0, 0, 0, 0), (78, .iconst 1, 1, 0, 0, 0, 0, 0), (79, .iand, 1, 0, 0, 0, 0, 0), (80, .ifCond .eq 10, 3, 90, 0, 0, 0, 0), (83, .aload_n 0, 1, 0, 0, 0, 0, 0), (84, .iload_n 3, 1, 0, 0, 0, 0, 0), (85, .iload_n 1, 1, 0, 0, 0, 0, 0), (86, .iload_n 2, 1, 0, 0, 0, 0, 0), (87, .invokevirtual 92, 3, 32, 0, 644, 0, 0), (90, .iinc 3 1, 3, 0, 0, 0, 0, 0), (93, .goto (-34), 3, 59, 0, 0, 0, 0), (96, .iinc 1 1, 3, 0, 0, 0, 0, 0), (99, .goto (-69), 3, 30, 0, 0, 0, 0), (102, .return_, 1, 0, 0, 0, 0, 0)]
/-- BirchLeaf$Foretold.goFrom(III)V -/
def vm_p32 : List vm_En := [(0, .iload_n 2, 1, 0, 0, 0, 0, 0), (1, .bipush 60, 2, 0, 0, 0, 0, 0), (3, .if_icmp .ge 17, 3, 20, 0, 0, 0, 0), (6, .aload_n 0, 1, 0, 0, 0, 0, 0), (7, .getfield 18, 3, 2, 5, 186, 0, 0), (10, .iload_n 2, 1, 0, 0, 0, 0, 0), (11, .iconst 1, 1, 0, 0, 0, 0, 0), (12, .iadd, 1, 0, 0, 0, 0, 0), (13, .dup2, 1, 0, 0, 0, 0, 0), (14, .iaload, 1, 0, 0, 0, 0, 0), (15, .iconst 1, 1, 0, 0, 0, 0, 0), (16, .iload_n 1, 1, 0, 0, 0, 0, 0), (17, .ishl, 1, 0, 0, 0, 0, 0), (18, .ior, 1, 0, 0, 0, 0, 0), (19, .iastore, 1, 0, 0, 0, 0, 0), (20, .iconst 0, 1, 0, 0, 0, 0, 0), (21, .istore 4, 2, 0, 0, 0, 0, 0), (23, .iload 4, 2, 0, 0, 0, 0, 0), (25, .aload_n 0, 1, 0, 0, 0, 0, 0), (26, .getfield 24, 3, 2, 0, 179, 0, 0), (29, .getfield 56, 3, 3, 0, 82, 1, 0), (32, .if_icmp .ge 55, 3, 87, 0, 0, 0, 0), (35, .aload_n 0, 1, 0, 0, 0, 0, 0), (36, .getfield 24, 3, 2, 0, 179, 0, 0), (39, .iload_n 1, 1, 0, 0, 0, 0, 0), (40, .iload 4, 2, 0, 0, 0, 0, 0), (42, .iload_n 2, 1, 0, 0, 0, 0, 0), (43, .aload_n 0, 1, 0, 0, 0, 0, 0), (44, .getfield 24, 3, 2, 0, 179, 0, 0), (47, .getfield 28, 3, 3, 2, 87, 1, 0), (50, .invokevirtual 63, 3, 46, 0, 563, 0, 0), (53, .istore 5, 2, 0, 0, 0, 0, 0), (55, .iload 5, 2, 0, 0, 0, 0, 0), (57, .iload_n 2, 1, 0, 0, 0, 0, 0), (58, .if_icmp .le 23, 3, 81, 0, 0, 0, 0), (61, .iload 5, 2, 0, 0, 0, 0, 0), (63, .iload_n 3, 1, 0, 0, 0, 0, 0), (64, .if_icmp .gt 17, 3, 81, 0, 0, 0, 0), (67, .aload_n 0, 1, 0, 0, 0, 0, 0), (68, .getfield 18, 3, 2, 5, 186, 0, 0), (71, .iload 5, 2, 0, 0, 0, 0, 0), (73, .dup2, 1, 0, 0, 0, 0, 0), (74, .iaload, 1, 0, 0, 0, 0, 0), (75, .iconst 1, 1, 0, 0, 0, 0, 0), (76, .iload 4, 2, 0, 0, 0, 0, 0), (78, .ishl, 1, 0, 0, 0, 0, 0), (79, .ior, 1, 0, 0, 0, 0, 0), (80, .iastore, 1, 0, 0, 0, 0, 0), (81, .iinc 4 1, 3, 0, 0, 0, 0, 0), (84, .goto (-61), 3, 23, 0, 0, 0, 0), (87, .return_, 1, 0, 0, 0, 0, 0)]
/-- BirchLeaf$Foretold.fillGoesOn()V -/
def vm_p33 : List vm_En := [(0, .bipush 60, 2, 0, 0, 0, 0, 0), (2, .istore_n 1, 1, 0, 0, 0, 0, 0), (3, .iload_n 1, 1, 0, 0, 0, 0, 0), (4, .ifCond .lt 88, 3, 92, 0, 0, 0, 0), (7, .iload_n 1, 1, 0, 0, 0, 0, 0), (8, .bipush 60, 2, 0, 0, 0, 0, 0), (10, .if_icmp .ge 14, 3, 24, 0, 0, 0, 0), (13, .aload_n 0, 1, 0, 0, 0, 0, 0), (14, .getfield 21, 3, 2, 6, 187, 0, 0), (17, .iload_n 1, 1, 0, 0, 0, 0, 0), (18, .iconst 1, 1, 0, 0, 0, 0, 0), (19, .iadd, 1, 0, 0, 0, 0, 0), (20, .iaload, 1, 0, 0, 0, 0, 0), (21, .goto 5, 3, 26, 0, 0, 0, 0), (24, .bipush 63, 2, 0, 0, 0, 0, 0), (26, .istore_n 2, 1, 0, 0, 0, 0, 0), (27, .aload_n 0, 1, 0, 0, 0, 0, 0), (28, .iload_n 1, 1, 0, 0, 0, 0, 0), (29, .invokevirtual 89, 3, 35, 0, 639, 0, 0), (32, .istore_n 3, 1, 0, 0, 0, 0, 0), (33, .iconst 0, 1, 0, 0, 0, 0, 0), (34, .istore 4, 2, 0, 0, 0, 0, 0), (36, .iload 4, 2, 0, 0, 0, 0, 0), (38, .aload_n 0, 1, 0, 0, 0, 0, 0), (39, .getfield 24, 3, 2, 0, 179, 0, 0), (42, .getfield 56, 3, 3, 0, 82, 1, 0), (45, .if_icmp .ge 27, 3, 72, 0, 0, 0, 0), (48, .aload_n 0, 1, 0, 0, 0, 0, 0), (49, .iload 4, 2, 0, 0, 0, 0, 0), (51, .iload_n 1, 1, 0, 0, 0, 0, 0), (52, .iload_n 3, 1, 0, 0, 0, 0, 0), (53, .invokevirtual 96, 3, 34, 0, 652, 0, 0), (56, .ifCond .eq 10, 3, 66, 0, 0, 0, 0), (59, .iload_n 2, 1, 0, 0, 0, 0, 0), (60, .iconst 1, 1, 0, 0, 0, 0, 0), (61, .iload 4, 2, 0, 0, 0, 0, 0), (63, .ishl, 1, 0, 0, 0, 0, 0), (64, .ior, 1, 0, 0, 0, 0, 0), (65, .istore_n 2, 1, 0, 0, 0, 0, 0), (66, .iinc 4 1, 3, 0, 0, 0, 0, 0), (69, .goto (-33), 3, 36, 0, 0, 0, 0), (72, .aload_n 0, 1, 0, 0, 0, 0, 0), (73, .getfield 21, 3, 2, 6, 187, 0, 0), (76, .iload_n 1, 1, 0, 0, 0, 0, 0), (77, .iload_n 2, 1, 0, 0, 0, 0, 0), (78, .aload_n 0, 1, 0, 0, 0, 0, 0), (79, .getfield 15, 3, 2, 4, 185, 0, 0), (82, .iload_n 1, 1, 0, 0, 0, 0, 0), (83, .iaload, 1, 0, 0, 0, 0, 0), (84, .iand, 1, 0, 0, 0, 0, 0), (85, .iastore, 1, 0, 0, 0, 0, 0), (86, .iinc 1 (-1), 3, 0, 0, 0, 0, 0), (89, .goto (-86), 3, 3, 0, 0, 0, 0), (92, .return_, 1, 0, 0, 0, 0, 0)]
/-- BirchLeaf$Foretold.canGoOn(III)Z -/
def vm_p34 : List vm_En := [(0, .iconst 0, 1, 0, 0, 0, 0, 0), (1, .istore 4, 2, 0, 0, 0, 0, 0), (3, .iload 4, 2, 0, 0, 0, 0, 0), (5, .aload_n 0, 1, 0, 0, 0, 0, 0), (6, .getfield 24, 3, 2, 0, 179, 0, 0), (9, .getfield 56, 3, 3, 0, 82, 1, 0), (12, .if_icmp .ge 58, 3, 70, 0, 0, 0, 0), (15, .aload_n 0, 1, 0, 0, 0, 0, 0), (16, .getfield 24, 3, 2, 0, 179, 0, 0), (19, .iload_n 1, 1, 0, 0, 0, 0, 0), (20, .iload 4, 2, 0, 0, 0, 0, 0), (22, .iload_n 2, 1, 0, 0, 0, 0, 0), (23, .aload_n 0, 1, 0, 0, 0, 0, 0), (24, .getfield 24, 3, 2, 0, 179, 0, 0), (27, .getfield 28, 3, 3, 2, 87, 1, 0), (30, .invokevirtual 63, 3, 46, 0, 563, 0, 0), (33, .istore 5, 2, 0, 0, 0, 0, 0), (35, .iload 5, 2, 0, 0, 0, 0, 0), (37, .iload_n 2, 1, 0, 0, 0, 0, 0), (38, .if_icmp .le 26, 3, 64, 0, 0, 0, 0), (41, .iload 5, 2, 0, 0, 0, 0, 0), (43, .iload_n 3, 1, 0, 0, 0, 0, 0), (44, .if_icmp .gt 20, 3, 64, 0, 0, 0, 0), (47, .aload_n 0, 1, 0, 0, 0, 0, 0), (48, .getfield 21, 3, 2, 6, 187, 0, 0), (51, .iload 5, 2, 0, 0, 0, 0, 0), (53, .iaload, 1, 0, 0, 0, 0, 0), (54, .iload 4, 2, 0, 0, 0, 0, 0), (56, .ishr, 1, 0, 0, 0, 0, 0), (57, .iconst 1, 1, 0, 0, 0, 0, 0), (58, .iand, 1, 0, 0, 0, 0, 0), (59, .ifCond .eq 5, 3, 64, 0, 0, 0, 0), (62, .iconst 1, 1, 0, 0, 0, 0, 0), (63, .ireturn, 1, 0, 0, 0, 0, 0), (64, .iinc 4 1, 3, 0, 0, 0, 0, 0), (67, .goto (-64), 3, 3, 0, 0, 0, 0), (70, .iconst 0, 1, 0, 0, 0, 0, 0), (71, .ireturn, 1, 0, 0, 0, 0, 0)]
/-- BirchLeaf$Foretold.nextTold(I)I -/
def vm_p35 : List vm_En := [(0, .iload_n 1, 1, 0, 0, 0, 0, 0), (1, .iconst 1, 1, 0, 0, 0, 0, 0), (2, .iadd, 1, 0, 0, 0, 0, 0), (3, .istore_n 2, 1, 0, 0, 0, 0, 0), (4, .iload_n 2, 1, 0, 0, 0, 0, 0), (5, .bipush 60, 2, 0, 0, 0, 0, 0), (7, .if_icmp .ge 20, 3, 27, 0, 0, 0, 0), (10, .aload_n 0, 1, 0, 0, 0, 0, 0), (11, .getfield 15, 3, 2, 4, 185, 0, 0), (14, .iload_n 2, 1, 0, 0, 0, 0, 0), (15, .iaload, 1, 0, 0, 0, 0, 0), (16, .bipush 63, 2, 0, 0, 0, 0, 0), (18, .if_icmp .ne 9, 3, 27, 0, 0, 0, 0), (21, .iinc 2 1, 3, 0, 0, 0, 0, 0), (24, .goto (-20), 3, 4, 0, 0, 0, 0), (27, .iload_n 2, 1, 0, 0, 0, 0, 0), (28, .bipush 60, 2, 0, 0, 0, 0, 0), (30, .invokestatic 100, 3, 1003, 0, 643, 0, 0), (33, .ireturn, 1, 0, 0, 0, 0, 0)]
/-- BirchLeaf$Hill.<init>()V -/
def vm_p36 : List vm_En := [(0, .aload_n 0, 1, 0, 0, 0, 0, 0), (1, .invokespecial 3, 3, 1001, 0, 79, 0, 0), (4, .aload_n 0, 1, 0, 0, 0, 0, 0), (5, .bipush 6, 2, 0, 0, 0, 0, 0), (7, .newarray .int, 2, 0, 0, 0, 0, 0), (9, .putfield 9, 3, 3, 6, 102, 2, 0), (12, .aload_n 0, 1, 0, 0, 0, 0, 0), (13, .bipush 6, 2, 0, 0, 0, 0, 0), (15, .newarray .int, 2, 0, 0, 0, 0, 0), (17, .putfield 15, 3, 3, 7, 105, 2, 0), (20, .aload_n 0, 1, 0, 0, 0, 0, 0), (21, .bipush 6, 2, 0, 0, 0, 0, 0), (23, .newarray .int, 2, 0, 0, 0, 0, 0), (25, .putfield 18, 3, 3, 8, 108, 2, 0), (28, .aload_n 0, 1, 0, 0, 0, 0, 0), (29, .bipush 6, 2, 0, 0, 0, 0, 0), (31, .newarray .int, 2, 0, 0, 0, 0, 0), (33, .putfield 21, 3, 3, 9, 110, 2, 0), (36, .aload_n 0, 1, 0, 0, 0, 0, 0), (37, .bipush 36, 2, 0, 0, 0, 0, 0), (39, .newarray .int, 2, 0, 0, 0, 0, 0), (41, .putfield 24, 3, 3, 10, 114, 2, 0), (44, .aload_n 0, 1, 0, 0, 0, 0, 0), (45, .bipush 36, 2, 0, 0, 0, 0, 0), (47, .newarray .int, 2, 0, 0, 0, 0, 0), (49, .putfield 27, 3, 3, 11, 115, 2, 0), (52, .return_, 1, 0, 0, 0, 0, 0)]
/-- BirchLeaf$Hill.isNone()Z -/
def vm_p37 : List vm_En := [(0, .aload_n 0, 1, 0, 0, 0, 0, 0), (1, .getfield 30, 3, 3, 0, 80, 0, 0), (4, .ifCond .ne 7, 3, 11, 0, 0, 0, 0), (7, .iconst 1, 1, 0, 0, 0, 0, 0), (8, .goto 4, 3, 12, 0, 0, 0, 0), (11, .iconst 0, 1, 0, 0, 0, 0, 0), (12, .ireturn, 1, 0, 0, 0, 0, 0)]
/-- BirchLeaf$Hill.has(I)Z -/
def vm_p38 : List vm_En := [(0, .iload_n 1, 1, 0, 0, 0, 0, 0), (1, .ifCond .lt 15, 3, 16, 0, 0, 0, 0), (4, .iload_n 1, 1, 0, 0, 0, 0, 0), (5, .aload_n 0, 1, 0, 0, 0, 0, 0), (6, .getfield 30, 3, 3, 0, 80, 0, 0), (9, .if_icmp .ge 7, 3, 16, 0, 0, 0, 0), (12, .iconst 1, 1, 0, 0, 0, 0, 0), (13, .goto 4, 3, 17, 0, 0, 0, 0), (16, .iconst 0, 1, 0, 0, 0, 0, 0), (17, .ireturn, 1, 0, 0, 0, 0, 0)]
/-- BirchLeaf$Hill.clear()V -/
def vm_p39 : List vm_En := [(0, .aload_n 0, 1, 0, 0, 0, 0, 0), (1, .iconst 0, 1, 0, 0, 0, 0, 0), (2, .putfield 30, 3, 3, 0, 80, 0, 0), (5, .aload_n 0, 1, 0, 0, 0, 0, 0), (6, .iconst 0, 1, 0, 0, 0, 0, 0), (7, .putfield 34, 3, 3, 1, 84, 0, 0), (10, .aload_n 0, 1, 0, 0, 0, 0, 0), (11, .iconst 0, 1, 0, 0, 0, 0, 0), (12, .putfield 37, 3, 3, 2, 88, 0, 0), (15, .aload_n 0, 1, 0, 0, 0, 0, 0), (16, .iconst 0, 1, 0, 0, 0, 0, 0), (17, .putfield 40, 3, 3, 3, 92, 0, 0), (20, .aload_n 0, 1, 0, 0, 0, 0, 0), (21, .iconst 0, 1, 0, 0, 0, 0, 0), (22, .putfield 43, 3, 3, 4, 95, 0, 0), (25, .aload_n 0, 1, 0, 0, 0, 0, 0), (26, .iconst 0, 1, 0, 0, 0, 0, 0), (27, .putfield 46, 3, 3, 5, 99, 0, 0), (30, .iconst 0, 1, 0, 0, 0, 0, 0), (31, .istore_n 1, 1, 0, 0, 0, 0, 0), (32, .iload_n 1, 1, 0, 0, 0, 0, 0), (33, .bipush 36, 2, 0, 0, 0, 0, 0), (35, .if_icmp .ge 23, 3, 58, 0, 0, 0, 0), (38, .aload_n 0, 1, 0, 0, 0, 0, 0), (39, .getfield 24, 3, 3, 10, 114, 0, 0), (42, .iload_n 1, 1, 0, 0, 0, 0, 0), (43, .iconst 0, 1, 0, 0, 0, 0, 0), (44, .iastore, 1, 0, 0, 0, 0, 0), (45, .aload_n 0, 1, 0, 0, 0, 0, 0), (46, .getfield 27, 3, 3, 11, 115, 0, 0), (49, .iload_n 1, 1, 0, 0, 0, 0, 0), (50, .iconst 0, 1, 0, 0, 0, 0, 0), (51, .iastore, 1, 0, 0, 0, 0, 0), (52, .iinc 1 1, 3, 0, 0, 0, 0, 0), (55, .goto (-23), 3, 32, 0, 0, 0, 0), (58, .return_, 1, 0, 0, 0, 0, 0)]
/-- BirchLeaf$Hill.addTrader(III)V -/
def vm_p40 : List vm_En := [(0, .aload_n 0, 1, 0, 0, 0, 0, 0), (1, .getfield 30, 3, 3, 0, 80, 0, 0), (4, .bipush 6, 2, 0, 0, 0, 0, 0), (6, .if_icmp .ge 53, 3, 59, 0, 0, 0, 0), (9, .aload_n 0, 1, 0, 0, 0, 0, 0), (10, .getfield 9, 3, 3, 6, 102, 0, 0), (13, .aload_n 0, 1, 0, 0, 0, 0, 0), (14, .getfield 30, 3, 3, 0, 80, 0, 0), (17, .iload_n 1, 1, 0, 0, 0, 0, 0), (18, .iastore, 1, 0, 0, 0, 0, 0), (19, .aload_n 0, 1, 0, 0, 0, 0, 0), (20, .getfield 15, 3, 3, 7, 105, 0, 0), (23, .aload_n 0, 1, 0, 0, 0, 0, 0), (24, .getfield 30, 3, 3, 0, 80, 0, 0), (27, .iload_n 2, 1, 0, 0, 0, 0, 0), (28, .iastore, 1, 0, 0, 0, 0, 0), (29, .aload_n 0, 1, 0, 0, 0, 0, 0), (30, .getfield 18, 3, 3, 8, 108, 0, 0), (33, .aload_n 0, 1, 0, 0, 0, 0, 0), (34, .getfield 30, 3, 3, 0, 80, 0, 0), (37, .iload_n 3, 1, 0, 0, 0, 0, 0), (38, .iastore, 1, 0, 0, 0, 0, 0), (39, .aload_n 0, 1, 0, 0, 0, 0, 0), (40, .getfield 21, 3, 3, 9, 110, 0, 0), (43, .aload_n 0, 1, 0, 0, 0, 0, 0), (44, .getfield 30, 3, 3, 0, 80, 0, 0), (47, .iconst 0, 1, 0, 0, 0, 0, 0), (48, .iastore, 1, 0, 0, 0, 0, 0), (49, .aload_n 0, 1, 0, 0, 0, 0, 0), (50, .dup, 1, 0, 0, 0, 0, 0), (51, .getfield 30, 3, 3, 0, 80, 0, 0), (54, .iconst 1, 1, 0, 0, 0, 0, 0), (55, .iadd, 1, 0, 0, 0, 0, 0), (56, .putfield 30, 3, 3, 0, 80, 0, 0), (59, .return_, 1, 0, 0, 0, 0, 0)]
/-- BirchLeaf$Hill.addWay(IIIZ)V -/
def vm_p41 : List vm_En := [(0, .aload_n 0, 1, 0, 0, 0, 0, 0), (1, .iload_n 1, 1, 0, 0, 0, 0, 0), (2, .invokevirtual 49, 3, 38, 0, 444, 0, 0), (5, .ifCond .eq 89, 3, 94, 0, 0, 0, 0), (8, .aload_n 0, 1, 0, 0, 0, 0, 0), (9, .iload_n 2, 1, 0, 0, 0, 0, 0), (10, .invokevirtual 49, 3, 38, 0, 444, 0, 0), (13, .ifCond .eq 81, 3, 94, 0, 0, 0, 0), (16, .iload 4, 2, 0, 0, 0, 0, 0), (18, .ifCond .eq 10, 3, 28, 0, 0, 0, 0), (21, .aload_n 0, 1, 0, 0, 0, 0, 0), (22, .getfield 27, 3, 3, 11, 115, 0, 0), (25, .goto 7, 3, 32, 0, 0, 0, 0), (28, .aload_n 0, 1, 0, 0, 0, 0, 0), (29, .getfield 24, 3, 3, 10, 114, 0, 0), (32, .astore 5, 2, 0, 0, 0, 0, 0), (34, .aload 5, 2, 0, 0, 0, 0, 0), (36, .iload_n 1, 1, 0, 0, 0, 0, 0), (37, .bipush 6, 2, 0, 0, 0, 0, 0), (39, .imul, 1, 0, 0, 0, 0, 0), (40, .iload_n 2, 1, 0, 0, 0, 0, 0), (41, .iadd, 1, 0, 0, 0, 0, 0), (42, .iaload, 1, 0, 0, 0, 0, 0), (43, .istore 6, 2, 0, 0, 0, 0, 0), (45, .iload 6, 2, 0, 0, 0, 0, 0), (47, .ifCond .ne 7, 3, 54, 0, 0, 0, 0), (50, .iload_n 3, 1, 0, 0, 0, 0, 0), (51, .goto 9, 3, 60, 0, 0, 0, 0), (54, .iload 6, 2, 0, 0, 0, 0, 0), (56, .iload_n 3, 1, 0, 0, 0, 0, 0), (57, .invokestatic 53, 3, 1003, 0, 448, 0, 0), (60, .istore 7, 2, 0, 0, 0, 0, 0), (62, .aload 5, 2, 0, 0, 0, 0, 0), (64, .iload_n 1, 1, 0, 0, 0, 0, 0), (65, .bipush 6, 2, 0, 0, 0, 0, 0), (67, .imul, 1, 0, 0, 0, 0, 0), (68, .iload_n 2, 1, 0, 0, 0, 0, 0), (69, .iadd, 1, 0, 0, 0, 0, 0), (70, .iload 7, 2, 0, 0, 0, 0, 0), (72, .iastore, 1, 0, 0, 0, 0, 0), (73, .aload 5, 2, 0, 0, 0, 0, 0), (75, .iload_n 2, 1, 0, 0, 0, 0, 0), (76, .bipush 6, 2, 0, 0, 0, 0, 0), (78, .imul, 1, 0, 0, 0, 0, 0), (79, .iload_n 1, 1, 0, 0, 0, 0, 0), (80, .iadd, 1, 0, 0, 0, 0, 0), (81, .iload 7, 2, 0, 0, 0, 0, 0), (83, .iastore, 1, 0, 0, 0, 0, 0), (84, .aload_n 0, 1, 0, 0, 0, 0, 0), (85, .dup, 1, 0, 0, 0, 0, 0), (86, .getfield 34, 3, 3, 1, 84, 0, 0), (89, .iconst 1, 1, 0, 0, 0, 0, 0), (90, .iadd, 1, 0, 0, 0, 0, 0), (91, .putfield 34, 3, 3, 1, 84, 0, 0), (94, .return_, 1, 0, 0, 0, 0, 0)]
/-- BirchLeaf$Hill.become(LBirchLeaf$Hill;)V -/
def vm_p42 : List vm_En := [(0, .aload_n 0, 1, 0, 0, 0, 0, 0), (1, .aload_n 1, 1, 0, 0, 0, 0, 0), (2, .getfield 30, 3, 3, 0, 80, 0, 0), (5, .putfield 30, 3, 3, 0, 80, 0, 0), (8, .aload_n 0, 1, 0, 0, 0, 0, 0), (9, .aload_n 1, 1, 0, 0, 0, 0, 0), (10, .getfield 34, 3, 3, 1, 84, 0, 0), (13, .putfield 34, 3, 3, 1, 84, 0, 0), (16, .aload_n 0, 1, 0, 0, 0, 0, 0), (17, .aload_n 1, 1, 0, 0, 0, 0, 0), (18, .getfield 37, 3, 3, 2, 88, 0, 0), (21, .putfield 37, 3, 3, 2, 88, 0, 0), (24, .aload_n 0, 1, 0, 0, 0, 0, 0), (25, .aload_n 1, 1, 0, 0, 0, 0, 0), (26, .getfield 40, 3, 3, 3, 92, 0, 0), (29, .putfield 40, 3, 3, 3, 92, 0, 0), (32, .aload_n 0, 1, 0, 0, 0, 0, 0), (33, .aload_n 1, 1, 0, 0, 0, 0, 0), (34, .getfield 43, 3, 3, 4, 95, 0, 0), (37, .putfield 43, 3, 3, 4, 95, 0, 0), (40, .aload_n 0, 1, 0, 0, 0, 0, 0), (41, .aload_n 1, 1, 0, 0, 0, 0, 0), (42, .getfield 46, 3, 3, 5, 99, 0, 0), (45, .putfield 46, 3, 3, 5, 99, 0, 0), (48, .aload_n 1, 1, 0, 0, 0, 0, 0), (49, .getfield 9, 3, 3, 6, 102, 0, 0), (52, .iconst 0, 1, 0, 0, 0, 0, 0), (53, .aload_n 0, 1, 0, 0, 0, 0, 0), (54, .getfield 9, 3, 3, 6, 102, 0, 0), (57, .iconst 0, 1, 0, 0, 0, 0, 0), (58, .bipush 6, 2, 0, 0, 0, 0, 0), (60, .invokestatic 59, 3, 1000, 0, 456, 0, 0), (63, .aload_n 1, 1, 0, 0, 0, 0, 0), (64, .getfield 15, 3, 3, 7, 105, 0, 0), (67, .iconst 0, 1, 0, 0, 0, 0, 0), (68, .aload_n 0, 1, 0, 0, 0, 0, 0), (69, .getfield 15, 3, 3, 7, 105, 0, 0), (72, .iconst 0, 1, 0, 0, 0, 0, 0), (73, .bipush 6, 2, 0, 0, 0, 0, 0), (75, .invokestatic 59, 3, 1000, 0, 456, 0, 0), (78, .aload_n 1, 1, 0, 0, 0, 0, 0), (79, .getfield 18, 3, 3, 8, 108, 0, 0), (82, .iconst 0, 1, 0, 0, 0, 0, 0), (83, .aload_n 0, 1, 0, 0, 0, 0, 0), (84, .getfield 18, 3, 3, 8, 108, 0, 0), (87, .iconst 0, 1, 0, 0, 0, 0, 0), (88, .bipush 6, 2, 0, 0, 0, 0, 0), (90, .invokestatic 59, 3, 1000, 0, 456, 0, 0), (93, .aload_n 1, 1, 0, 0, 0, 0, 0), (94, .getfield 21, 3, 3, 9, 110, 0, 0), (97, .iconst 0, 1, 0, 0, 0, 0, 0), (98, .aload_n 0, 1, 0, 0, 0, 0, 0), (99, .getfield 21, 3, 3, 9, 110, 0, 0), (102, .iconst 0, 1, 0, 0, 0, 0, 0), (103, .bipush 6, 2, 0, 0, 0, 0, 0), (105, .invokestatic 59, 3, 1000, 0, 456, 0, 0), (108, .aload_n 1, 1, 0, 0, 0, 0, 0), (109, .getfield 24, 3, 3, 10, 114, 0, 0), (112, .iconst 0, 1, 0, 0, 0, 0, 0), (113, .aload_n 0, 1, 0, 0, 0, 0, 0), (114, .getfield 24, 3, 3, 10, 114, 0, 0), (117, .iconst 0, 1, 0, 0, 0, 0, 0), (118, .bipush 36, 2, 0, 0, 0, 0, 0), (120, .invokestatic 59, 3, 1000, 0, 456, 0, 0), (123, .aload_n 1, 1, 0, 0, 0, 0, 0), (124, .getfield 27, 3, 3, 11, 115, 0, 0), (127, .iconst 0, 1, 0, 0, 0, 0, 0), (128, .aload_n 0, 1, 0, 0, 0, 0, 0), (129, .getfield 27, 3, 3, 11, 115, 0, 0), (132, .iconst 0, 1, 0, 0, 0, 0, 0), (133, .bipush 36, 2, 0, 0, 0, 0, 0), (135, .invokestatic 59, 3, 1000, 0, 456, 0, 0), (138, .return_, 1, 0, 0, 0, 0, 0)]
/-- BirchLeaf$Hill.price(I)I -/
def vm_p43 : List vm_En := [(0, .aload_n 0, 1, 0, 0, 0, 0, 0), (1, .getfield 9, 3, 3, 6, 102, 0, 0), (4, .iload_n 1, 1, 0, 0, 0, 0, 0), (5, .iaload, 1, 0, 0, 0, 0, 0), (6, .iconst 2, 1, 0, 0, 0, 0, 0), (7, .if_icmp .ne 14, 3, 21, 0, 0, 0, 0), (10, .aload_n 0, 1, 0, 0, 0, 0, 0), (11, .getfield 15, 3, 3, 7, 105, 0, 0), (14, .iload_n 1, 1, 0, 0, 0, 0, 0), (15, .iaload, 1, 0, 0, 0, 0, 0), (16, .iconst 2, 1, 0, 0, 0, 0, 0), (17, .idiv, 1, 0, 0, 0, 0, 0), (18, .goto 9, 3, 27, 0, 0, 0, 0), (21, .aload_n 0, 1, 0, 0, 0, 0, 0), (22, .getfield 15, 3, 3, 7, 105, 0, 0), (25, .iload_n 1, 1, 0, 0, 0, 0, 0), (26, .iaload, 1, 0, 0, 0, 0, 0), (27, .ireturn, 1, 0, 0, 0, 0, 0)]
/-- BirchLeaf$Hill.accepts(III)Z -/
def vm_p44 : List vm_En := [(0, .iload_n 2, 1, 0, 0, 0, 0, 0), (1, .iload_n 3, 1, 0, 0, 0, 0, 0), (2, .if_icmp .lt 5, 3, 7, 0, 0, 0, 0), (5, .iconst 0, 1, 0, 0, 0, 0, 0), (6, .ireturn, 1, 0, 0, 0, 0, 0), (7, .aload_n 0, 1, 0, 0, 0, 0, 0), (8, .getfield 9, 3, 3, 6, 102, 0, 0), (11, .iload_n 1, 1, 0, 0, 0, 0, 0), (12, .iaload, 1, 0, 0, 0, 0, 0), (13, .tableswitch 105 1 5 #[35, 51, 69, 105, 93], 35, 0, 0, 0, 0, 0), (48, .iload_n 2, 1, 0, 0, 0, 0, 0), (49, .aload_n 0, 1, 0, 0, 0, 0, 0), (50, .getfield 18, 3, 3, 8, 108, 0, 0), (53, .iload_n 1, 1, 0, 0, 0, 0, 0), (54, .iaload, 1, 0, 0, 0, 0, 0), (55, .if_icmp .gt 7, 3, 62, 0, 0, 0, 0), (58, .iconst 1, 1, 0, 0, 0, 0, 0), (59, .goto 4, 3, 63, 0, 0, 0, 0), (62, .iconst 0, 1, 0, 0, 0, 0, 0), (63, .ireturn, 1, 0, 0, 0, 0, 0), (64, .iload_n 2, 1, 0, 0, 0, 0, 0), (65, .aload_n 0, 1, 0, 0, 0, 0, 0), (66, .getfield 18, 3, 3, 8, 108, 0, 0), (69, .iload_n 1, 1, 0, 0, 0, 0, 0), (70, .iaload, 1, 0, 0, 0, 0, 0), (71, .iconst 5, 1, 0, 0, 0, 0, 0), (72, .iadd, 1, 0, 0, 0, 0, 0), (73, .if_icmp .gt 7, 3, 80, 0, 0, 0, 0), (76, .iconst 1, 1, 0, 0, 0, 0, 0), (77, .goto 4, 3, 81, 0, 0, 0, 0), (80, .iconst 0, 1, 0, 0, 0, 0, 0), (81, .ireturn, 1, 0, 0, 0, 0, 0), (82, .iload_n 2, 1, 0, 0, 0, 0, 0), (83, .aload_n 0, 1, 0, 0, 0, 0, 0), (84, .getfield 18, 3, 3, 8, 108, 0, 0), (87, .iload_n 1, 1, 0, 0, 0, 0, 0), (88, .iaload, 1, 0, 0, 0, 0, 0), (89, .if_icmp .gt 15, 3, 104, 0, 0, 0, 0), (92, .iload_n 3, 1, 0, 0, 0, 0, 0), (93, .iload_n 2, 1, 0, 0, 0, 0, 0), (94, .isub, 1, 0, 0, 0, 0, 0), (95, .bipush 10, 2, 0, 0, 0, 0, 0), (97, .if_icmp .lt 7, 3, 104, 0, 0, 0, 0), (100, .iconst 1, 1, 0, 0, 0, 0, 0), (101, .goto 4, 3, 105, 0, 0, 0, 0), (104, .iconst 0, 1, 0, 0, 0, 0, 0), (105, .ireturn, 1, 0, 0, 0, 0, 0), (106, .iload_n 2, 1, 0, 0, 0, 0, 0), (107, .iconst 2, 1, 0, 0, 0, 0, 0), (108, .irem, 1, 0, 0, 0, 0, 0), (109, .ifCond .ne 7, 3, 116, 0, 0, 0, 0), (112, .iconst 1, 1, 0, 0, 0, 0, 0), (113, .goto 4, 3, 117, 0, 0, 0, 0), (116, .iconst 0, 1, 0, 0, 0, 0, 0), (117, .ireturn, 1, 0, 0, 0, 0, 0), (118, .iconst 1, 1, 0, 0, 0, 0, 0), (119, .ireturn, 1, 0, 0, 0, 0, 0)]
/-- BirchLeaf$Hill.arrival(III)I -/
def vm_p45 : List vm_En := [(0, .aload_n 0, 1, 0, 0, 0, 0, 0), (1, .getfield 24, 3, 3, 10, 114, 0, 0), (4, .iload_n 1, 1, 0, 0, 0, 0, 0), (5, .bipush 6, 2, 0, 0, 0, 0, 0), (7, .imul, 1, 0, 0, 0, 0, 0), (8, .iload_n 2, 1, 0, 0, 0, 0, 0), (9, .iadd, 1, 0, 0, 0, 0, 0), (10, .iaload, 1, 0, 0, 0, 0, 0), (11, .istore 4, 2, 0, 0, 0, 0, 0), (13, .aload_n 0, 1, 0, 0, 0, 0, 0), (14, .getfield 27, 3, 3, 11, 115, 0, 0), (17, .iload_n 1, 1, 0, 0, 0, 0, 0), (18, .bipush 6, 2, 0, 0, 0, 0, 0), (20, .imul, 1, 0, 0, 0, 0, 0), (21, .iload_n 2, 1, 0, 0, 0, 0, 0), (22, .iadd, 1, 0, 0, 0, 0, 0), (23, .iaload, 1, 0, 0, 0, 0, 0), (24, .istore 5, 2, 0, 0, 0, 0, 0), (26, .iload 5, 2, 0, 0, 0, 0, 0), (28, .ifCond .le 31, 3, 59, 0, 0, 0, 0), (31, .iload_n 3, 1, 0, 0, 0, 0, 0), (32, .iload 5, 2, 0, 0, 0, 0, 0), (34, .iadd, 1, 0, 0, 0, 0, 0), (35, .aload_n 0, 1, 0, 0, 0, 0, 0), (36, .getfield 40, 3, 3, 3, 92, 0, 0), (39, .if_icmp .gt 20, 3, 59, 0, 0, 0, 0), (42, .iload 4, 2, 0, 0, 0, 0, 0), (44, .ifCond .eq 10, 3, 54, 0, 0, 0, 0), (47, .iload 5, 2, 0, 0, 0, 0, 0), (49, .iload 4, 2, 0, 0, 0, 0, 0), (51, .if_icmp .ge 8, 3, 59, 0, 0, 0, 0), (54, .iload_n 3, 1, 0, 0, 0, 0, 0), (55, .iload 5, 2, 0, 0, 0, 0, 0), (57, .iadd, 1, 0, 0, 0, 0, 0), (58, .ireturn, 1, 0, 0, 0, 0, 0), (59, .iload 4, 2, 0, 0, 0, 0, 0), (61, .ifCond .le 10, 3, 71, 0, 0, 0, 0), (64, .iload_n 3, 1, 0, 0, 0, 0, 0), (65, .iload 4, 2, 0, 0, 0, 0, 0), (67, .iadd, 1, 0, 0, 0, 0, 0), (68, .goto 5, 3, 73, 0, 0, 0, 0), (71, .ldc 65, 2, 0, 0, 478, 0, -1000000), (73, .ireturn, 1, 0, 0, 0, 0, 0)]
/-- BirchLeaf$Hill.handed(IIII)I -/
def vm_p46 : List vm_En := [(0, .aload_n 0, 1, 0, 0, 0, 0, 0), (1, .iload_n 1, 1, 0, 0, 0, 0, 0), (2, .iload_n 2, 1, 0, 0, 0, 0, 0), (3, .iload_n 3, 1, 0, 0, 0, 0, 0), (4, .invokevirtual 66, 3, 45, 0, 474, 0, 0), (7, .istore 5, 2, 0, 0, 0, 0, 0), (9, .iload 5, 2, 0, 0, 0, 0, 0), (11, .ldc 65, 2, 0, 0, 478, 0, -1000000), (13, .if_icmp .eq 20, 3, 33, 0, 0, 0, 0), (16, .aload_n 0, 1, 0, 0, 0, 0, 0), (17, .iload_n 2, 1, 0, 0, 0, 0, 0), (18, .iload 5, 2, 0, 0, 0, 0, 0), (20, .iload 4, 2, 0, 0, 0, 0, 0), (22, .invokevirtual 70, 3, 44, 0, 479, 0, 0), (25, .ifCond .eq 8, 3, 33, 0, 0, 0, 0), (28, .iload 5, 2, 0, 0, 0, 0, 0), (30, .goto 5, 3, 35, 0, 0, 0, 0), (33, .ldc 65, 2, 0, 0, 478, 0, -1000000), (35, .ireturn, 1, 0, 0, 0, 0, 0)]
/-- BirchLeaf$Rows.<init>()V -/
def vm_p47 : List vm_En := [(0, .aload_n 0, 1, 0, 0, 0, 0, 0), (1, .invokespecial 3, 3, 1001, 0, 28, 0, 0), (4, .aload_n 0, 1, 0, 0, 0, 0, 0), (5, .bipush 8, 2, 0, 0, 0, 0, 0), (7, .newarray .int, 2, 0, 0, 0, 0, 0), (9, .putfield 9, 3, 4, 0, 29, 2, 0), (12, .aload_n 0, 1, 0, 0, 0, 0, 0), (13, .bipush 8, 2, 0, 0, 0, 0, 0), (15, .newarray .int, 2, 0, 0, 0, 0, 0), (17, .putfield 15, 3, 4, 1, 30, 2, 0), (20, .aload_n 0, 1, 0, 0, 0, 0, 0), (21, .sipush 320, 3, 0, 0, 0, 0, 0), (24, .newarray .int, 2, 0, 0, 0, 0, 0), (26, .putfield 18, 3, 4, 2, 31, 2, 0), (29, .return_, 1, 0, 0, 0, 0, 0)]
/-- BirchLeaf$Rows.isMissing(I)Z -/
def vm_p48 : List vm_En := [(0, .aload_n 0, 1, 0, 0, 0, 0, 0), (1, .getfield 9, 3, 4, 0, 29, 0, 0), (4, .iload_n 1, 1, 0, 0, 0, 0, 0), (5, .iaload, 1, 0, 0, 0, 0, 0), (6, .ifCond .ne 7, 3, 13, 0, 0, 0, 0), (9, .iconst 1, 1, 0, 0, 0, 0, 0), (10, .goto 4, 3, 14, 0, 0, 0, 0), (13, .iconst 0, 1, 0, 0, 0, 0, 0), (14, .ireturn, 1, 0, 0, 0, 0, 0)]
/-- BirchLeaf$Rows.present()I -/
def vm_p49 : List vm_En := [(0, .iconst 0, 1, 0, 0, 0, 0, 0), (1, .istore_n 1, 1, 0, 0, 0, 0, 0), (2, .iconst 0, 1, 0, 0, 0, 0, 0), (3, .istore_n 2, 1, 0, 0, 0, 0, 0), (4, .iload_n 2, 1, 0, 0, 0, 0, 0), (5, .bipush 8, 2, 0, 0, 0, 0, 0), (7, .if_icmp .ge 25, 3, 32, 0, 0, 0, 0), (10, .iload_n 1, 1, 0, 0, 0, 0, 0), (11, .aload_n 0, 1, 0, 0, 0, 0, 0), (12, .iload_n 2, 1, 0, 0, 0, 0, 0), (13, .invokevirtual 21, 3, 48, 0, 277, 0, 0), (16, .ifCond .eq 7, 3, 23, 0, 0, 0, 0), (19, .iconst 0, 1, 0, 0, 0, 0, 0), (20, .goto 4, 3, 24, 0, 0, 0, 0), (23, .iconst 1, 1, 0, 0, 0, 0, 0), (24, .iadd, 1, 0, 0, 0, 0, 0), (25, .istore_n 1, 1, 0, 0, 0, 0, 0), (26, .iinc 2 1, 3, 0, 0, 0, 0, 0), (29, .goto (-25), 3, 4, 0, 0, 0, 0), (32, .iload_n 1, 1, 0, 0, 0, 0, 0), (33, .ireturn, 1, 0, 0, 0, 0, 0)]
/-- BirchLeaf$Rows.make(III)V -/
def vm_p50 : List vm_En := [(0, .aload_n 0, 1, 0, 0, 0, 0, 0), (1, .getfield 9, 3, 4, 0, 29, 0, 0), (4, .iload_n 1, 1, 0, 0, 0, 0, 0), (5, .iload_n 2, 1, 0, 0, 0, 0, 0), (6, .iconst 1, 1, 0, 0, 0, 0, 0), (7, .iadd, 1, 0, 0, 0, 0, 0), (8, .iastore, 1, 0, 0, 0, 0, 0), (9, .aload_n 0, 1, 0, 0, 0, 0, 0), (10, .getfield 15, 3, 4, 1, 30, 0, 0), (13, .iload_n 1, 1, 0, 0, 0, 0, 0), (14, .iload_n 3, 1, 0, 0, 0, 0, 0), (15, .iastore, 1, 0, 0, 0, 0, 0), (16, .iconst 0, 1, 0, 0, 0, 0, 0), (17, .istore 4, 2, 0, 0, 0, 0, 0), (19, .iload 4, 2, 0, 0, 0, 0, 0), (21, .bipush 40, 2, 0, 0, 0, 0, 0), (23, .if_icmp .ge 22, 3, 45, 0, 0, 0, 0), (26, .aload_n 0, 1, 0, 0, 0, 0, 0), (27, .getfield 18, 3, 4, 2, 31, 0, 0), (30, .iload_n 1, 1, 0, 0, 0, 0, 0), (31, .bipush 40, 2, 0, 0, 0, 0, 0), (33, .imul, 1, 0, 0, 0, 0, 0), (34, .iload 4, 2, 0, 0, 0, 0, 0), (36, .iadd, 1, 0, 0, 0, 0, 0), (37, .iconst 0, 1, 0, 0, 0, 0, 0), (38, .iastore, 1, 0, 0, 0, 0, 0), (39, .iinc 4 1, 3, 0, 0, 0, 0, 0), (42, .goto (-23), 3, 19, 0, 0, 0, 0), (45, .return_, 1, 0, 0, 0, 0, 0)]
/-- BirchLeaf$Rows.remove(I)I -/
def vm_p51 : List vm_En := [(0, .aload_n 0, 1, 0, 0, 0, 0, 0), (1, .getfield 9, 3, 4, 0, 29, 0, 0), (4, .iload_n 1, 1, 0, 0, 0, 0, 0), (5, .iconst 0, 1, 0, 0, 0, 0, 0), (6, .iastore, 1, 0, 0, 0, 0, 0), (7, .aload_n 0, 1, 0, 0, 0, 0, 0), (8, .getfield 15, 3, 4, 1, 30, 0, 0), (11, .iload_n 1, 1, 0, 0, 0, 0, 0), (12, .iaload, 1, 0, 0, 0, 0, 0), (13, .ireturn, 1, 0, 0, 0, 0, 0)]
/-- BirchLeaf$Rows.lapse(III)I -/
def vm_p52 : List vm_En := [(0, .aload_n 0, 1, 0, 0, 0, 0, 0), (1, .iload_n 1, 1, 0, 0, 0, 0, 0), (2, .invokevirtual 21, 3, 48, 0, 277, 0, 0), (5, .ifCond .eq 5, 3, 10, 0, 0, 0, 0), (8, .iconst 1, 1, 0, 0, 0, 0, 0), (9, .ireturn, 1, 0, 0, 0, 0, 0), (10, .aload_n 0, 1, 0, 0, 0, 0, 0), (11, .iload_n 1, 1, 0, 0, 0, 0, 0), (12, .iload_n 2, 1, 0, 0, 0, 0, 0), (13, .iload_n 3, 1, 0, 0, 0, 0, 0), (14, .invokevirtual 25, 3, 54, 0, 281, 0, 0), (17, .ifCond .eq 7, 3, 24, 0, 0, 0, 0), (20, .iconst 0, 1, 0, 0, 0, 0, 0), (21, .goto 4, 3, 25, 0, 0, 0, 0), (24, .iconst 2, 1, 0, 0, 0, 0, 0), (25, .ireturn, 1, 0, 0, 0, 0, 0)]
/-- BirchLeaf$Rows.lapseOfTwo(IIIII)I -/
def vm_p53 : List vm_En := [(0, .aload_n 0, 1, 0, 0, 0, 0, 0), (1, .iload_n 1, 1, 0, 0, 0, 0, 0), (2, .invokevirtual 21, 3, 48, 0, 277, 0, 0), (5, .ifCond .ne 11, 3, 16, 0, 0, 0, 0), (8, .aload_n 0, 1, 0, 0, 0, 0, 0), (9, .iload_n 3, 1, 0, 0, 0, 0, 0), (10, .invokevirtual 21, 3, 48, 0, 277, 0, 0), (13, .ifCond .eq 5, 3, 18, 0, 0, 0, 0), (16, .iconst 1, 1, 0, 0, 0, 0, 0), (17, .ireturn, 1, 0, 0, 0, 0, 0), (18, .aload_n 0, 1, 0, 0, 0, 0, 0), (19, .getfield 9, 3, 4, 0, 29, 0, 0), (22, .iload_n 1, 1, 0, 0, 0, 0, 0), (23, .iaload, 1, 0, 0, 0, 0, 0), (24, .aload_n 0, 1, 0, 0, 0, 0, 0), (25, .getfield 9, 3, 4, 0, 29, 0, 0), (28, .iload_n 3, 1, 0, 0, 0, 0, 0), (29, .iaload, 1, 0, 0, 0, 0, 0), (30, .if_icmp .eq 5, 3, 35, 0, 0, 0, 0), (33, .iconst 5, 1, 0, 0, 0, 0, 0), (34, .ireturn, 1, 0, 0, 0, 0, 0), (35, .aload_n 0, 1, 0, 0, 0, 0, 0), (36, .iload_n 1, 1, 0, 0, 0, 0, 0), (37, .iload_n 2, 1, 0, 0, 0, 0, 0), (38, .iload 5, 2, 0, 0, 0, 0, 0), (40, .invokevirtual 25, 3, 54, 0, 281, 0, 0), (43, .ifCond .eq 19, 3, 62, 0, 0, 0, 0), (46, .aload_n 0, 1, 0, 0, 0, 0, 0), (47, .iload_n 3, 1, 0, 0, 0, 0, 0), (48, .iload 4, 2, 0, 0, 0, 0, 0), (50, .iload 5, 2, 0, 0, 0, 0, 0), (52, .invokevirtual 25, 3, 54, 0, 281, 0, 0), (55, .ifCond .eq 7, 3, 62, 0, 0, 0, 0), (58, .iconst 0, 1, 0, 0, 0, 0, 0), (59, .goto 4, 3, 63, 0, 0, 0, 0), (62, .iconst 2, 1, 0, 0, 0, 0, 0), (63, .ireturn, 1, 0, 0, 0, 0, 0)]
/-- BirchLeaf$Rows.holds(III)Z -/
def vm_p54 : List vm_En := [(0, .iload_n 2, 1, 0, 0, 0, 0, 0), (1, .ifCond .lt 23, 3, 24, 0, 0, 0, 0), (4, .iload_n 3, 1, 0, 0, 0, 0, 0), (5, .ifCond .lt 19, 3, 24, 0, 0, 0, 0), (8, .iload_n 2, 1, 0, 0, 0, 0, 0), (9, .aload_n 0, 1, 0, 0, 0, 0, 0), (10, .getfield 15, 3, 4, 1, 30, 0, 0), (13, .iload_n 1, 1, 0, 0, 0, 0, 0), (14, .iaload, 1, 0, 0, 0, 0, 0), (15, .iload_n 3, 1, 0, 0, 0, 0, 0), (16, .isub, 1, 0, 0, 0, 0, 0), (17, .if_icmp .gt 7, 3, 24, 0, 0, 0, 0), (20, .iconst 1, 1, 0, 0, 0, 0, 0), (21, .goto 4, 3, 25, 0, 0, 0, 0), (24, .iconst 0, 1, 0, 0, 0, 0, 0), (25, .ireturn, 1, 0, 0, 0, 0, 0)]
/-- BirchLeaf$Rows.item(II)I -/
def vm_p55 : List vm_En := [(0, .aload_n 0, 1, 0, 0, 0, 0, 0), (1, .getfield 18, 3, 4, 2, 31, 0, 0), (4, .iload_n 1, 1, 0, 0, 0, 0, 0), (5, .bipush 40, 2, 0, 0, 0, 0, 0), (7, .imul, 1, 0, 0, 0, 0, 0), (8, .iload_n 2, 1, 0, 0, 0, 0, 0), (9, .iadd, 1, 0, 0, 0, 0, 0), (10, .iaload, 1, 0, 0, 0, 0, 0), (11, .ireturn, 1, 0, 0, 0, 0, 0)]
/-- BirchLeaf$Rows.put(III)I -/
def vm_p56 : List vm_En := [(0, .aload_n 0, 1, 0, 0, 0, 0, 0), (1, .getfield 9, 3, 4, 0, 29, 0, 0), (4, .iload_n 1, 1, 0, 0, 0, 0, 0), (5, .iaload, 1, 0, 0, 0, 0, 0), (6, .iconst 1, 1, 0, 0, 0, 0, 0), (7, .if_icmp .ne 8, 3, 15, 0, 0, 0, 0), (10, .iload_n 3, 1, 0, 0, 0, 0, 0), (11, .i2b, 1, 0, 0, 0, 0, 0), (12, .goto 19, 3, 31, 0, 0, 0, 0), (15, .aload_n 0, 1, 0, 0, 0, 0, 0), (16, .getfield 9, 3, 4, 0, 29, 0, 0), (19, .iload_n 1, 1, 0, 0, 0, 0, 0), (20, .iaload, 1, 0, 0, 0, 0, 0), (21, .iconst 2, 1, 0, 0, 0, 0, 0), (22, .if_icmp .ne 8, 3, 30, 0, 0, 0, 0), (25, .iload_n 3, 1, 0, 0, 0, 0, 0), (26, .i2s, 1, 0, 0, 0, 0, 0), (27, .goto 4, 3, 31, 0, 0, 0, 0), (30, .iload_n 3, 1, 0, 0, 0, 0, 0), (31, .istore 4, 2, 0, 0, 0, 0, 0), (33, .aload_n 0, 1, 0, 0, 0, 0, 0), (34, .getfield 18, 3, 4, 2, 31, 0, 0), (37, .iload_n 1, 1, 0, 0, 0, 0, 0), (38, .bipush 40, 2, 0, 0, 0, 0, 0), (40, .imul, 1, 0, 0, 0, 0, 0), (41, .iload_n 2, 1, 0, 0, 0, 0, 0), (42, .iadd, 1, 0, 0, 0, 0, 0), (43, .iload 4, 2, 0, 0, 0, 0, 0), (45, .iastore, 1, 0, 0, 0, 0, 0), (46, .iload 4, 2, 0, 0, 0, 0, 0), (48, .ireturn, 1, 0, 0, 0, 0, 0)]
/-- BirchLeaf$Rows.move(IIIII)V -/
def vm_p57 : List vm_En := [(0, .aload_n 0, 1, 0, 0, 0, 0, 0), (1, .getfield 18, 3, 4, 2, 31, 0, 0), (4, .iload_n 1, 1, 0, 0, 0, 0, 0), (5, .bipush 40, 2, 0, 0, 0, 0, 0), (7, .imul, 1, 0, 0, 0, 0, 0), (8, .iload_n 2, 1, 0, 0, 0, 0, 0), (9, .iadd, 1, 0, 0, 0, 0, 0), (10, .aload_n 0, 1, 0, 0, 0, 0, 0), (11, .getfield 18, 3, 4, 2, 31, 0, 0), (14, .iload_n 3, 1, 0, 0, 0, 0, 0), (15, .bipush 40, 2, 0, 0, 0, 0, 0), (17, .imul, 1, 0, 0, 0, 0, 0), (18, .iload 4, 2, 0, 0, 0, 0, 0), (20, .iadd, 1, 0, 0, 0, 0, 0), (21, .iload 5, 2, 0, 0, 0, 0, 0), (23, .invokestatic 29, 3, 1000, 0, 301, 0, 0), (26, .return_, 1, 0, 0, 0, 0, 0)]
/-- BirchLeaf$Tape.<init>()V -/
def vm_p58 : List vm_En := [(0, .aload_n 0, 1, 0, 0, 0, 0, 0), (1, .invokespecial 3, 3, 1001, 0, 45, 0, 0), (4, .aload_n 0, 1, 0, 0, 0, 0, 0), (5, .sipush 400, 3, 0, 0, 0, 0, 0), (8, .newarray .byte, 2, 0, 0, 0, 0, 0), (10, .putfield 9, 3, 5, 0, 46, 2, 0), (13, .return_, 1, 0, 0, 0, 0, 0)]
/-- BirchLeaf$Tape.append(JI)I -/
def vm_p59 : List vm_En := [(0, .iload_n 3, 1, 0, 0, 0, 0, 0), (1, .sipush 400, 3, 0, 0, 0, 0, 0), (4, .aload_n 0, 1, 0, 0, 0, 0, 0), (5, .getfield 15, 3, 5, 1, 47, 0, 0), (8, .isub, 1, 0, 0, 0, 0, 0), (9, .if_icmp .le 6, 3, 15, 0, 0, 0, 0), (12, .ldc 19, 2, 0, 0, 321, 0, -1000003), (14, .ireturn, 1, 0, 0, 0, 0, 0), (15, .iload_n 3, 1, 0, 0, 0, 0, 0), (16, .iconst 1, 1, 0, 0, 0, 0, 0), (17, .isub, 1, 0, 0, 0, 0, 0), (18, .istore 4, 2, 0, 0, 0, 0, 0), (20, .iload 4, 2, 0, 0, 0, 0, 0), (22, .ifCond .lt 37, 3, 59, 0, 0, 0, 0), (25, .aload_n 0, 1, 0, 0, 0, 0, 0), (26, .getfield 9, 3, 5, 0, 46, 0, 0), (29, .aload_n 0, 1, 0, 0, 0, 0, 0), (30, .getfield 15, 3, 5, 1, 47, 0, 0), (33, .lload_n 1, 1, 0, 0, 0, 0, 0), (34, .bipush 8, 2, 0, 0, 0, 0, 0), (36, .iload 4, 2, 0, 0, 0, 0, 0), (38, .imul, 1, 0, 0, 0, 0, 0), (39, .lushr, 1, 0, 0, 0, 0, 0), (40, .l2i, 1, 0, 0, 0, 0, 0), (41, .i2b, 1, 0, 0, 0, 0, 0), (42, .bastore, 1, 0, 0, 0, 0, 0), (43, .aload_n 0, 1, 0, 0, 0, 0, 0), (44, .dup, 1, 0, 0, 0, 0, 0), (45, .getfield 15, 3, 5, 1, 47, 0, 0), (48, .iconst 1, 1, 0, 0, 0, 0, 0), (49, .iadd, 1, 0, 0, 0, 0, 0), (50, .putfield 15, 3, 5, 1, 47, 0, 0), (53, .iinc 4 (-1), 3, 0, 0, 0, 0, 0), (56, .goto (-36), 3, 20, 0, 0, 0, 0), (59, .aload_n 0, 1, 0, 0, 0, 0, 0), (60, .getfield 15, 3, 5, 1, 47, 0, 0), (63, .ireturn, 1, 0, 0, 0, 0, 0)]
/-- BirchLeaf$Tape.readOnto(LBirchLeaf$Hill;)I -/
def vm_p60 : List vm_En := [(0, .aload_n 0, 1, 0, 0, 0, 0, 0), (1, .iconst 0, 1, 0, 0, 0, 0, 0), (2, .putfield 20, 3, 5, 3, 50, 0, 0), (5, .aload_n 0, 1, 0, 0, 0, 0, 0), (6, .iconst (-1), 1, 0, 0, 0, 0, 0), (7, .putfield 23, 3, 5, 6, 53, 0, 0), (10, .aload_n 1, 1, 0, 0, 0, 0, 0), (11, .invokevirtual 26, 3, 39, 0, 330, 0, 0), (14, .aload_n 0, 1, 0, 0, 0, 0, 0), (15, .aload_n 1, 1, 0, 0, 0, 0, 0), (16, .invokevirtual 31, 3, 61, 0, 334, 0, 0), (19, .aload_n 0, 1, 0, 0, 0, 0, 0), (20, .getfield 23, 3, 5, 6, 53, 0, 0), (23, .ifCond .ge 7, 3, 30, 0, 0, 0, 0), (26, .iconst 1, 1, 0, 0, 0, 0, 0), (27, .goto 4, 3, 31, 0, 0, 0, 0), (30, .iconst 0, 1, 0, 0, 0, 0, 0), (31, .istore_n 2, 1, 0, 0, 0, 0, 0), (32, .iconst 0, 1, 0, 0, 0, 0, 0), (33, .istore_n 3, 1, 0, 0, 0, 0, 0), (34, .iload_n 2, 1, 0, 0, 0, 0, 0), (35, .ifCond .eq 22, 3, 57, 0, 0, 0, 0), (38, .iload_n 3, 1, 0, 0, 0, 0, 0), (39, .sipush 400, 3, 0, 0, 0, 0, 0), (42, .if_icmp .ge 15, 3, 57, 0, 0, 0, 0), (45, .aload_n 0, 1, 0, 0, 0, 0, 0), (46, .aload_n 1, 1, 0, 0, 0, 0, 0), (47, .invokevirtual 35, 3, 62, 0, 413, 0, 0), (50, .istore_n 2, 1, 0, 0, 0, 0, 0), (51, .iinc 3 1, 3, 0, 0, 0, 0, 0), (54, .goto (-20), 3, 34, 0, 0, 0, 0), (57, .aload_n 0, 1, 0, 0, 0, 0, 0), (58, .iconst 0, 1, 0, 0, 0, 0, 0), (59, .putfield 15, 3, 5, 1, 47, 0, 0), (62, .aload_n 0, 1, 0, 0, 0, 0, 0), (63, .getfield 23, 3, 5, 6, 53, 0, 0), (66, .ireturn, 1, 0, 0, 0, 0, 0)]
/-- BirchLeaf$Tape.readNight(LBirchLeaf$Hill;)V -/
def vm_p61 : List vm_En := [(0, .aload_n 0, 1, 0, 0, 0, 0, 0), (1, .invokevirtual 39, 3, 70, 0, 338, 0, 0), (4, .aload_n 0, 1, 0, 0, 0, 0, 0), (5, .ldc 42, 2, 1, 0, 348, 0, 0), (7, .invokevirtual 44, 3, 69, 0, 349, 0, 0), (10, .ifCond .ne 8, 3, 18, 0, 0, 0, 0), (13, .aload_n 0, 1, 0, 0, 0, 0, 0), (14, .iconst 1, 1, 0, 0, 0, 0, 0), (15, .invokevirtual 48, 3, 68, 0, 401, 0, 0), (18, .aload_n 1, 1, 0, 0, 0, 0, 0), (19, .aload_n 0, 1, 0, 0, 0, 0, 0), (20, .iconst 1, 1, 0, 0, 0, 0, 0), (21, .bipush 60, 2, 0, 0, 0, 0, 0), (23, .invokevirtual 52, 3, 66, 0, 405, 0, 0), (26, .putfield 56, 3, 3, 2, 89, 1, 0), (29, .aload_n 1, 1, 0, 0, 0, 0, 0), (30, .aload_n 0, 1, 0, 0, 0, 0, 0), (31, .iconst 0, 1, 0, 0, 0, 0, 0), (32, .bipush 60, 2, 0, 0, 0, 0, 0), (34, .invokevirtual 52, 3, 66, 0, 405, 0, 0), (37, .putfield 59, 3, 3, 3, 93, 1, 0), (40, .aload_n 0, 1, 0, 0, 0, 0, 0), (41, .invokevirtual 62, 3, 67, 0, 409, 0, 0), (44, .return_, 1, 0, 0, 0, 0, 0)]
/-- BirchLeaf$Tape.readPart(LBirchLeaf$Hill;)Z -/
def vm_p62 : List vm_En := [(0, .aload_n 0, 1, 0, 0, 0, 0, 0), (1, .invokevirtual 39, 3, 70, 0, 338, 0, 0), (4, .aload_n 0, 1, 0, 0, 0, 0, 0), (5, .getfield 65, 3, 5, 4, 51, 0, 0), (8, .ifCond .ne 12, 3, 20, 0, 0, 0, 0), (11, .aload_n 1, 1, 0, 0, 0, 0, 0), (12, .getfield 68, 3, 3, 0, 81, 1, 0), (15, .ifCond .le 5, 3, 20, 0, 0, 0, 0), (18, .iconst 0, 1, 0, 0, 0, 0, 0), (19, .ireturn, 1, 0, 0, 0, 0, 0), (20, .aload_n 0, 1, 0, 0, 0, 0, 0), (21, .ldc 71, 2, 1, 1, 417, 0, 0), (23, .invokevirtual 44, 3, 69, 0, 349, 0, 0), (26, .ifCond .eq 18, 3, 44, 0, 0, 0, 0), (29, .aload_n 1, 1, 0, 0, 0, 0, 0), (30, .getfield 73, 3, 3, 1, 85, 1, 0), (33, .ifCond .ne 11, 3, 44, 0, 0, 0, 0), (36, .aload_n 0, 1, 0, 0, 0, 0, 0), (37, .aload_n 1, 1, 0, 0, 0, 0, 0), (38, .invokevirtual 76, 3, 63, 0, 418, 0, 0), (41, .goto 32, 3, 73, 0, 0, 0, 0), (44, .aload_n 0, 1, 0, 0, 0, 0, 0), (45, .ldc 79, 2, 1, 7, 435, 0, 0), (47, .invokevirtual 44, 3, 69, 0, 349, 0, 0), (50, .ifCond .eq 18, 3, 68, 0, 0, 0, 0), (53, .aload_n 1, 1, 0, 0, 0, 0, 0), (54, .getfield 68, 3, 3, 0, 81, 1, 0), (57, .ifCond .le 11, 3, 68, 0, 0, 0, 0), (60, .aload_n 0, 1, 0, 0, 0, 0, 0), (61, .aload_n 1, 1, 0, 0, 0, 0, 0), (62, .invokevirtual 81, 3, 64, 0, 436, 0, 0), (65, .goto 8, 3, 73, 0, 0, 0, 0), (68, .aload_n 0, 1, 0, 0, 0, 0, 0), (69, .iconst 1, 1, 0, 0, 0, 0, 0), (70, .invokevirtual 48, 3, 68, 0, 401, 0, 0), (73, .aload_n 0, 1, 0, 0, 0, 0, 0), (74, .getfield 23, 3, 5, 6, 53, 0, 0), (77, .ifCond .ge 7, 3, 84, 0, 0, 0, 0), (80, .iconst 1, 1, 0, 0, 0, 0, 0), (81, .goto 4, 3, 85, 0, 0, 0, 0), (84, .iconst 0, 1, 0, 0, 0, 0, 0), (85, .ireturn, 1, 0, 0, 0, 0, 0)]
/-- BirchLeaf$Tape.readTrader(LBirchLeaf$Hill;)V -/
def vm_p63 : List vm_En := [(0, .aload_n 1, 1, 0, 0, 0, 0, 0), (1, .getfield 68, 3, 3, 0, 81, 1, 0), (4, .bipush 6, 2, 0, 0, 0, 0, 0), (6, .if_icmp .lt 9, 3, 15, 0, 0, 0, 0), (9, .aload_n 0, 1, 0, 0, 0, 0, 0), (10, .iconst 3, 1, 0, 0, 0, 0, 0), (11, .invokevirtual 48, 3, 68, 0, 401, 0, 0), (14, .return_, 1, 0, 0, 0, 0, 0), (15, .aload_n 0, 1, 0, 0, 0, 0, 0), (16, .invokevirtual 84, 3, 65, 0, 422, 0, 0), (19, .istore_n 2, 1, 0, 0, 0, 0, 0), (20, .aload_n 0, 1, 0, 0, 0, 0, 0), (21, .iconst 0, 1, 0, 0, 0, 0, 0), (22, .bipush 99, 2, 0, 0, 0, 0, 0), (24, .invokevirtual 52, 3, 66, 0, 405, 0, 0), (27, .istore_n 3, 1, 0, 0, 0, 0, 0), (28, .aload_n 0, 1, 0, 0, 0, 0, 0), (29, .iconst 0, 1, 0, 0, 0, 0, 0), (30, .bipush 60, 2, 0, 0, 0, 0, 0), (32, .invokevirtual 52, 3, 66, 0, 405, 0, 0), (35, .istore 4, 2, 0, 0, 0, 0, 0), (37, .aload_n 0, 1, 0, 0, 0, 0, 0), (38, .invokevirtual 62, 3, 67, 0, 409, 0, 0), (41, .aload_n 0, 1, 0, 0, 0, 0, 0), (42, .getfield 23, 3, 5, 6, 53, 0, 0), (45, .ifCond .ge 11, 3, 56, 0, 0, 0, 0), (48, .aload_n 1, 1, 0, 0, 0, 0, 0), (49, .iload_n 2, 1, 0, 0, 0, 0, 0), (50, .iload_n 3, 1, 0, 0, 0, 0, 0), (51, .iload 4, 2, 0, 0, 0, 0, 0), (53, .invokevirtual 88, 3, 40, 0, 431, 0, 0), (56, .return_, 1, 0, 0, 0, 0, 0)]
/-- BirchLeaf$Tape.readWay(LBirchLeaf$Hill;)V -/
def vm_p64 : List vm_En := [(0, .aload_n 1, 1, 0, 0, 0, 0, 0), (1, .getfield 73, 3, 3, 1, 85, 1, 0), (4, .bipush 10, 2, 0, 0, 0, 0, 0), (6, .if_icmp .lt 9, 3, 15, 0, 0, 0, 0), (9, .aload_n 0, 1, 0, 0, 0, 0, 0), (10, .iconst 3, 1, 0, 0, 0, 0, 0), (11, .invokevirtual 48, 3, 68, 0, 401, 0, 0), (14, .return_, 1, 0, 0, 0, 0, 0), (15, .aload_n 0, 1, 0, 0, 0, 0, 0), (16, .iconst 0, 1, 0, 0, 0, 0, 0), (17, .aload_n 1, 1, 0, 0, 0, 0, 0), (18, .getfield 68, 3, 3, 0, 81, 1, 0), (21, .iconst 1, 1, 0, 0, 0, 0, 0), (22, .isub, 1, 0, 0, 0, 0, 0), (23, .invokevirtual 52, 3, 66, 0, 405, 0, 0), (26, .istore_n 2, 1, 0, 0, 0, 0, 0), (27, .aload_n 0, 1, 0, 0, 0, 0, 0), (28, .iconst 0, 1, 0, 0, 0, 0, 0), (29, .aload_n 1, 1, 0, 0, 0, 0, 0), (30, .getfield 68, 3, 3, 0, 81, 1, 0), (33, .iconst 1, 1, 0, 0, 0, 0, 0), (34, .isub, 1, 0, 0, 0, 0, 0), (35, .invokevirtual 52, 3, 66, 0, 405, 0, 0), (38, .istore_n 3, 1, 0, 0, 0, 0, 0), (39, .iload_n 2, 1, 0, 0, 0, 0, 0), (40, .iload_n 3, 1, 0, 0, 0, 0, 0), (41, .if_icmp .ne 8, 3, 49, 0, 0, 0, 0), (44, .aload_n 0, 1, 0, 0, 0, 0, 0), (45, .iconst 2, 1, 0, 0, 0, 0, 0), (46, .invokevirtual 48, 3, 68, 0, 401, 0, 0), (49, .aload_n 0, 1, 0, 0, 0, 0, 0), (50, .iconst 1, 1, 0, 0, 0, 0, 0), (51, .bipush 30, 2, 0, 0, 0, 0, 0), (53, .invokevirtual 52, 3, 66, 0, 405, 0, 0), (56, .istore 4, 2, 0, 0, 0, 0, 0), (58, .aload_n 0, 1, 0, 0, 0, 0, 0), (59, .iconst 0, 1, 0, 0, 0, 0, 0), (60, .iconst 1, 1, 0, 0, 0, 0, 0), (61, .invokevirtual 52, 3, 66, 0, 405, 0, 0), (64, .istore 5, 2, 0, 0, 0, 0, 0), (66, .aload_n 0, 1, 0, 0, 0, 0, 0), (67, .invokevirtual 62, 3, 67, 0, 409, 0, 0), (70, .aload_n 0, 1, 0, 0, 0, 0, 0), (71, .getfield 23, 3, 5, 6, 53, 0, 0), (74, .ifCond .ge 22, 3, 96, 0, 0, 0, 0), (77, .aload_n 1, 1, 0, 0, 0, 0, 0), (78, .iload_n 2, 1, 0, 0, 0, 0, 0), (79, .iload_n 3, 1, 0, 0, 0, 0, 0), (80, .iload 4, 2, 0, 0, 0, 0, 0), (82, .iload 5, 2, 0, 0, 0, 0, 0), (84, .iconst 1, 1, 0, 0, 0, 0, 0), (85, .if_icmp .ne 7, 3, 92, 0, 0, 0, 0), (88, .iconst 1, 1, 0, 0, 0, 0, 0), (89, .goto 4, 3, 93, 0, 0, 0, 0), (92, .iconst 0, 1, 0, 0, 0, 0, 0), (93, .invokevirtual 92, 3, 41, 0, 440, 0, 0), (96, .return_, 1, 0, 0, 0, 0, 0)]
/-- BirchLeaf$Tape.readSort()I -/
def vm_p65 : List vm_En := [(0, .aload_n 0, 1, 0, 0, 0, 0, 0), (1, .invokevirtual 39, 3, 70, 0, 338, 0, 0), (4, .aload_n 0, 1, 0, 0, 0, 0, 0), (5, .ldc 96, 2, 1, 2, 426, 0, 0), (7, .invokevirtual 44, 3, 69, 0, 349, 0, 0), (10, .ifCond .eq 7, 3, 17, 0, 0, 0, 0), (13, .iconst 1, 1, 0, 0, 0, 0, 0), (14, .goto 56, 3, 70, 0, 0, 0, 0), (17, .aload_n 0, 1, 0, 0, 0, 0, 0), (18, .ldc 98, 2, 1, 3, 427, 0, 0), (20, .invokevirtual 44, 3, 69, 0, 349, 0, 0), (23, .ifCond .eq 7, 3, 30, 0, 0, 0, 0), (26, .iconst 2, 1, 0, 0, 0, 0, 0), (27, .goto 43, 3, 70, 0, 0, 0, 0), (30, .aload_n 0, 1, 0, 0, 0, 0, 0), (31, .ldc 100, 2, 1, 4, 428, 0, 0), (33, .invokevirtual 44, 3, 69, 0, 349, 0, 0), (36, .ifCond .eq 7, 3, 43, 0, 0, 0, 0), (39, .iconst 3, 1, 0, 0, 0, 0, 0), (40, .goto 30, 3, 70, 0, 0, 0, 0), (43, .aload_n 0, 1, 0, 0, 0, 0, 0), (44, .ldc 102, 2, 1, 5, 429, 0, 0), (46, .invokevirtual 44, 3, 69, 0, 349, 0, 0), (49, .ifCond .eq 7, 3, 56, 0, 0, 0, 0), (52, .iconst 4, 1, 0, 0, 0, 0, 0), (53, .goto 17, 3, 70, 0, 0, 0, 0), (56, .aload_n 0, 1, 0, 0, 0, 0, 0), (57, .ldc 104, 2, 1, 6, 430, 0, 0), (59, .invokevirtual 44, 3, 69, 0, 349, 0, 0), (62, .ifCond .eq 7, 3, 69, 0, 0, 0, 0), (65, .iconst 5, 1, 0, 0, 0, 0, 0), (66, .goto 4, 3, 70, 0, 0, 0, 0), (69, .iconst 0, 1, 0, 0, 0, 0, 0), (70, .istore_n 1, 1, 0, 0, 0, 0, 0), (71, .iload_n 1, 1, 0, 0, 0, 0, 0), (72, .ifCond .ne 8, 3, 80, 0, 0, 0, 0), (75, .aload_n 0, 1, 0, 0, 0, 0, 0), (76, .iconst 1, 1, 0, 0, 0, 0, 0), (77, .invokevirtual 48, 3, 68, 0, 401, 0, 0), (80, .iload_n 1, 1, 0, 0, 0, 0, 0), (81, .ireturn, 1, 0, 0, 0, 0, 0)]
/-- BirchLeaf$Tape.readNumber(II)I -/
def vm_p66 : List vm_En := [(0, .aload_n 0, 1, 0, 0, 0, 0, 0), (1, .invokevirtual 39, 3, 70, 0, 338, 0, 0), (4, .aload_n 0, 1, 0, 0, 0, 0, 0), (5, .getfield 65, 3, 5, 4, 51, 0, 0), (8, .iconst 2, 1, 0, 0, 0, 0, 0), (9, .if_icmp .eq 11, 3, 20, 0, 0, 0, 0), (12, .aload_n 0, 1, 0, 0, 0, 0, 0), (13, .iconst 1, 1, 0, 0, 0, 0, 0), (14, .invokevirtual 48, 3, 68, 0, 401, 0, 0), (17, .goto 24, 3, 41, 0, 0, 0, 0), (20, .aload_n 0, 1, 0, 0, 0, 0, 0), (21, .getfield 106, 3, 5, 5, 52, 0, 0), (24, .iload_n 1, 1, 0, 0, 0, 0, 0), (25, .if_icmp .lt 11, 3, 36, 0, 0, 0, 0), (28, .aload_n 0, 1, 0, 0, 0, 0, 0), (29, .getfield 106, 3, 5, 5, 52, 0, 0), (32, .iload_n 2, 1, 0, 0, 0, 0, 0), (33, .if_icmp .le 8, 3, 41, 0, 0, 0, 0), (36, .aload_n 0, 1, 0, 0, 0, 0, 0), (37, .iconst 2, 1, 0, 0, 0, 0, 0), (38, .invokevirtual 48, 3, 68, 0, 401, 0, 0), (41, .aload_n 0, 1, 0, 0, 0, 0, 0), (42, .getfield 106, 3, 5, 5, 52, 0, 0), (45, .ireturn, 1, 0, 0, 0, 0, 0)]
/-- BirchLeaf$Tape.readSign()V -/
def vm_p67 : List vm_En := [(0, .aload_n 0, 1, 0, 0, 0, 0, 0), (1, .invokevirtual 39, 3, 70, 0, 338, 0, 0), (4, .aload_n 0, 1, 0, 0, 0, 0, 0), (5, .getfield 65, 3, 5, 4, 51, 0, 0), (8, .iconst 3, 1, 0, 0, 0, 0, 0), (9, .if_icmp .eq 8, 3, 17, 0, 0, 0, 0), (12, .aload_n 0, 1, 0, 0, 0, 0, 0), (13, .iconst 1, 1, 0, 0, 0, 0, 0), (14, .invokevirtual 48, 3, 68, 0, 401, 0, 0), (17, .return_, 1, 0, 0, 0, 0, 0)]
/-- BirchLeaf$Tape.fail(I)V -/
def vm_p68 : List vm_En := [(0, .aload_n 0, 1, 0, 0, 0, 0, 0), (1, .getfield 23, 3, 5, 6, 53, 0, 0), (4, .ifCond .ge 16, 3, 20, 0, 0, 0, 0), (7, .aload_n 0, 1, 0, 0, 0, 0, 0), (8, .aload_n 0, 1, 0, 0, 0, 0, 0), (9, .getfield 109, 3, 5, 2, 49, 0, 0), (12, .putfield 23, 3, 5, 6, 53, 0, 0), (15, .aload_n 0, 1, 0, 0, 0, 0, 0), (16, .iload_n 1, 1, 0, 0, 0, 0, 0), (17, .putfield 112, 3, 5, 7, 55, 0, 0), (20, .return_, 1, 0, 0, 0, 0, 0)]
/-- BirchLeaf$Tape.isWord(Ljava/lang/String;)Z -/
def vm_p69 : List vm_En := [(0, .aload_n 0, 1, 0, 0, 0, 0, 0), (1, .getfield 65, 3, 5, 4, 51, 0, 0), (4, .iconst 1, 1, 0, 0, 0, 0, 0), (5, .if_icmp .ne 19, 3, 24, 0, 0, 0, 0), (8, .aload_n 0, 1, 0, 0, 0, 0, 0), (9, .getfield 20, 3, 5, 3, 50, 0, 0), (12, .aload_n 0, 1, 0, 0, 0, 0, 0), (13, .getfield 109, 3, 5, 2, 49, 0, 0), (16, .isub, 1, 0, 0, 0, 0, 0), (17, .aload_n 1, 1, 0, 0, 0, 0, 0), (18, .invokevirtual 115, 3, 173, 0, 353, 0, 0), (21, .if_icmp .eq 5, 3, 26, 0, 0, 0, 0), (24, .iconst 0, 1, 0, 0, 0, 0, 0), (25, .ireturn, 1, 0, 0, 0, 0, 0), (26, .iconst 0, 1, 0, 0, 0, 0, 0), (27, .istore_n 2, 1, 0, 0, 0, 0, 0), (28, .iload_n 2, 1, 0, 0, 0, 0, 0), (29, .aload_n 1, 1, 0, 0, 0, 0, 0), (30, .invokevirtual 115, 3, 173, 0, 353, 0, 0), (33, .if_icmp .ge 30, 3, 63, 0, 0, 0, 0), (36, .aload_n 0, 1, 0, 0, 0, 0, 0), (37, .getfield 9, 3, 5, 0, 46, 0, 0), (40, .aload_n 0, 1, 0, 0, 0, 0, 0), (41, .getfield 109, 3, 5, 2, 49, 0, 0), (44, .iload_n 2, 1, 0, 0, 0, 0, 0), (45, .iadd, 1, 0, 0, 0, 0, 0), (46, .baload, 1, 0, 0, 0, 0, 0), (47, .aload_n 1, 1, 0, 0, 0, 0, 0), (48, .iload_n 2, 1, 0, 0, 0, 0, 0), (49, .invokevirtual 119, 3, 174, 0, 363, 0, 0), (52, .if_icmp .eq 5, 3, 57, 0, 0, 0, 0), (55, .iconst 0, 1, 0, 0, 0, 0, 0), (56, .ireturn, 1, 0, 0, 0, 0, 0), (57, .iinc 2 1, 3, 0, 0, 0, 0, 0), (60, .goto (-32), 3, 28, 0, 0, 0, 0), (63, .iconst 1, 1, 0, 0, 0, 0, 0), (64, .ireturn, 1, 0, 0, 0, 0, 0)]
/-- BirchLeaf$Tape.next()V -/
def vm_p70 : List vm_En := [(0, .aload_n 0, 1, 0, 0, 0, 0, 0), (1, .getfield 20, 3, 5, 3, 50, 0, 0), (4, .aload_n 0, 1, 0, 0, 0, 0, 0), (5, .getfield 15, 3, 5, 1, 47, 0, 0), (8, .if_icmp .ge 44, 3, 52, 0, 0, 0, 0), (11, .aload_n 0, 1, 0, 0, 0, 0, 0), (12, .getfield 9, 3, 5, 0, 46, 0, 0), (15, .aload_n 0, 1, 0, 0, 0, 0, 0), (16, .getfield 20, 3, 5, 3, 50, 0, 0), (19, .baload, 1, 0, 0, 0, 0, 0), (20, .bipush 32, 2, 0, 0, 0, 0, 0), (22, .if_icmp .eq 17, 3, 39, 0, 0, 0, 0), (25, .aload_n 0, 1, 0, 0, 0, 0, 0), (26, .getfield 9, 3, 5, 0, 46, 0, 0), (29, .aload_n 0, 1, 0, 0, 0, 0, 0), (30, .getfield 20, 3, 5, 3, 50, 0, 0), (33, .baload, 1, 0, 0, 0, 0, 0), (34, .bipush 10, 2, 0, 0, 0, 0, 0), (36, .if_icmp .ne 16, 3, 52, 0, 0, 0, 0), (39, .aload_n 0, 1, 0, 0, 0, 0, 0), (40, .dup, 1, 0, 0, 0, 0, 0), (41, .getfield 20, 3, 5, 3, 50, 0, 0), (44, .iconst 1, 1, 0, 0, 0, 0, 0), (45, .iadd, 1, 0, 0, 0, 0, 0), (46, .putfield 20, 3, 5, 3, 50, 0, 0), (49, .goto (-49), 3, 0, 0, 0, 0, 0), (52, .aload_n 0, 1, 0, 0, 0, 0, 0), (53, .aload_n 0, 1, 0, 0, 0, 0, 0), (54, .getfield 20, 3, 5, 3, 50, 0, 0), (57, .putfield 109, 3, 5, 2, 49, 0, 0), (60, .aload_n 0, 1, 0, 0, 0, 0, 0), (61, .getfield 20, 3, 5, 3, 50, 0, 0), (64, .aload_n 0, 1, 0, 0, 0, 0, 0), (65, .getfield 15, 3, 5, 1, 47, 0, 0), (68, .if_icmp .lt 11, 3, 79, 0, 0, 0, 0), (71, .aload_n 0, 1, 0, 0, 0, 0, 0), (72, .iconst 0, 1, 0, 0, 0, 0, 0), (73, .putfield 65, 3, 5, 4, 51, 0, 0), (76, .goto 203, 3, 279, 0, 0, 0, 0), (79, .aload_n 0, 1, 0, 0, 0, 0, 0), (80, .getfield 9, 3, 5, 0, 46, 0, 0), (83, .aload_n 0, 1, 0, 0, 0, 0, 0), (84, .getfield 20, 3, 5, 3, 50, 0, 0), (87, .baload, 1, 0, 0, 0, 0, 0), (88, .invokestatic 123, 3, 71, 0, 342, 0, 0), (91, .ifCond .eq 47, 3, 138, 0, 0, 0, 0), (94, .aload_n 0, 1, 0, 0, 0, 0, 0), (95, .iconst 1, 1, 0, 0, 0, 0, 0), (96, .putfield 65, 3, 5, 4, 51, 0, 0), (99, .aload_n 0, 1, 0, 0, 0, 0, 0), (100, .getfield 20, 3, 5, 3, 50, 0, 0), (103, .aload_n 0, 1, 0, 0, 0, 0, 0), (104, .getfield 15, 3, 5, 1, 47, 0, 0), (107, .if_icmp .ge 172, 3, 279, 0, 0, 0, 0), (110, .aload_n 0, 1, 0, 0, 0, 0, 0), (111, .getfield 9, 3, 5, 0, 46, 0, 0), (114, .aload_n 0, 1, 0, 0, 0, 0, 0), (115, .getfield 20, 3, 5, 3, 50, 0, 0), (118, .baload, 1, 0, 0, 0, 0, 0), (119, .invokestatic 123, 3, 71, 0, 342, 0, 0), (122, .ifCond .eq 157, 3, 279, 0, 0, 0, 0), (125, .aload_n 0, 1, 0, 0, 0, 0, 0), (126, .dup, 1, 0, 0, 0, 0, 0), (127, .getfield 20, 3, 5, 3, 50, 0, 0), (130, .iconst 1, 1, 0, 0, 0, 0, 0), (131, .iadd, 1, 0, 0, 0, 0, 0), (132, .putfield 20, 3, 5, 3, 50, 0, 0), (135, .goto (-36), 3, 99, 0, 0, 0, 0), (138, .aload_n 0, 1, 0, 0, 0, 0, 0), (139, .getfield 9, 3, 5, 0, 46, 0, 0), (142, .aload_n 0, 1, 0, 0, 0, 0, 0), (143, .getfield 20, 3, 5, 3, 50, 0, 0), (146, .baload, 1, 0, 0, 0, 0, 0), (147, .invokestatic 127, 3, 72, 0, 345, 0, 0), (150, .ifCond .eq 96, 3, 246, 0, 0, 0, 0), (153, .aload_n 0, 1, 0, 0, 0, 0, 0), (154, .iconst 0, 1, 0, 0, 0, 0, 0), (155, .putfield 106, 3, 5, 5, 52, 0, 0), (158, .aload_n 0, 1, 0, 0, 0, 0, 0), (159, .getfield 20, 3, 5, 3, 50, 0, 0), (162, .aload_n 0, 1, 0, 0, 0, 0, 0), (163, .getfield 15, 3, 5, 1, 47, 0, 0), (166, .if_icmp .ge 55, 3, 221, 0, 0, 0, 0), (169, .aload_n 0, 1, 0, 0, 0, 0, 0), (170, .getfield 9, 3, 5, 0, 46, 0, 0), (173, .aload_n 0, 1, 0, 0, 0, 0, 0), (174, .getfield 20, 3, 5, 3, 50, 0, 0), (177, .baload, 1, 0, 0, 0, 0, 0), (178, .invokestatic 127, 3, 72, 0, 345, 0, 0), (181, .ifCond .eq 40, 3, 221, 0, 0, 0, 0), (184, .aload_n 0, 1, 0, 0, 0, 0, 0), (185, .bipush 10, 2, 0, 0, 0, 0, 0), (187, .aload_n 0, 1, 0, 0, 0, 0, 0), (188, .getfield 106, 3, 5, 5, 52, 0, 0), (191, .imul, 1, 0, 0, 0, 0, 0), (192, .aload_n 0, 1, 0, 0, 0, 0, 0), (193, .getfield 9, 3, 5, 0, 46, 0, 0), (196, .aload_n 0, 1, 0, 0, 0, 0, 0), (197, .getfield 20, 3, 5, 3, 50, 0, 0), (200, .baload, 1, 0, 0, 0, 0, 0), (201, .iadd, 1, 0, 0, 0, 0, 0), (202, .bipush 48, 2, 0, 0, 0, 0, 0), (204, .isub, 1, 0, 0, 0, 0, 0), (205, .putfield 106, 3, 5, 5, 52, 0, 0), (208, .aload_n 0, 1, 0, 0, 0, 0, 0), (209, .dup, 1, 0, 0, 0, 0, 0), (210, .getfield 20, 3, 5, 3, 50, 0, 0), (213, .iconst 1, 1, 0, 0, 0, 0, 0), (214, .iadd, 1, 0, 0, 0, 0, 0), (215, .putfield 20, 3, 5, 3, 50, 0, 0), (218, .goto (-60), 3, 158, 0, 0, 0, 0), (221, .aload_n 0, 1, 0, 0, 0, 0, 0), (222, .aload_n 0, 1, 0, 0, 0, 0, 0), (223, .getfield 20, 3, 5, 3, 50, 0, 0), (226, .aload_n 0, 1, 0, 0, 0, 0, 0), (227, .getfield 109, 3, 5, 2, 49, 0, 0), (230, .isub, 1, 0, 0, 0, 0, 0), (231, .iconst 3, 1, 0, 0, 0, 0, 0), (232, .if_icmp .le 7, 3, 239, 0, 0, 0, 0), (235, .iconst 4, 1, 0, 0, 0, 0, 0), (236, .goto 4, 3, 240, 0, 0, 0, 0), (239, .iconst 2, 1, 0, 0, 0, 0, 0), (240, .putfield 65, 3, 5, 4, 51, 0, 0), (243, .goto 36, 3, 279, 0, 0, 0, 0), (246, .aload_n 0, 1, 0, 0, 0, 0, 0), (247, .aload_n 0, 1, 0, 0, 0, 0, 0), (248, .getfield 9, 3, 5, 0, 46, 0, 0), (251, .aload_n 0, 1, 0, 0, 0, 0, 0), (252, .getfield 20, 3, 5, 3, 50, 0, 0), (255, .baload, 1, 0, 0, 0, 0, 0), (256, .bipush 59, 2, 0, 0, 0, 0, 0), (258, .if_icmp .ne 7, 3, 265, 0, 0, 0, 0), (261, .iconst 3, 1, 0, 0, 0, 0, 0), (262, .goto 4, 3, 266, 0, 0, 0, 0), (265, .iconst 4, 1, 0, 0, 0, 0, 0), (266, .putfield 65, 3, 5, 4, 51, 0, 0), (269, .aload_n 0, 1, 0, 0, 0, 0, 0), (270, .dup, 1, 0, 0, 0, 0, 0), (271, .getfield 20, 3, 5, 3, 50, 0, 0), (274, .iconst 1, 1, 0, 0, 0, 0, 0), (275, .iadd, 1, 0, 0, 0, 0, 0), (276, .putfield 20, 3, 5, 3, 50, 0, 0), (279, .return_, 1, 0, 0, 0, 0, 0)]
/-- BirchLeaf$Tape.isLetter(I)Z -/
def vm_p71 : List vm_En := [(0, .iload_n 0, 1, 0, 0, 0, 0, 0), (1, .bipush 97, 2, 0, 0, 0, 0, 0), (3, .if_icmp .lt 13, 3, 16, 0, 0, 0, 0), (6, .iload_n 0, 1, 0, 0, 0, 0, 0), (7, .bipush 122, 2, 0, 0, 0, 0, 0), (9, .if_icmp .gt 7, 3, 16, 0, 0, 0, 0), (12, .iconst 1, 1, 0, 0, 0, 0, 0), (13, .goto 4, 3, 17, 0, 0, 0, 0), (16, .iconst 0, 1, 0, 0, 0, 0, 0), (17, .ireturn, 1, 0, 0, 0, 0, 0)]
/-- BirchLeaf$Tape.isFigure(I)Z -/
def vm_p72 : List vm_En := [(0, .iload_n 0, 1, 0, 0, 0, 0, 0), (1, .bipush 48, 2, 0, 0, 0, 0, 0), (3, .if_icmp .lt 13, 3, 16, 0, 0, 0, 0), (6, .iload_n 0, 1, 0, 0, 0, 0, 0), (7, .bipush 57, 2, 0, 0, 0, 0, 0), (9, .if_icmp .gt 7, 3, 16, 0, 0, 0, 0), (12, .iconst 1, 1, 0, 0, 0, 0, 0), (13, .goto 4, 3, 17, 0, 0, 0, 0), (16, .iconst 0, 1, 0, 0, 0, 0, 0), (17, .ireturn, 1, 0, 0, 0, 0, 0)]
/-- BirchLeaf.<init>()V -/
def vm_p73 : List vm_En := [(0, .aload_n 0, 1, 0, 0, 0, 0, 0), (1, .invokespecial 1, 3, 1001, 0, 20, 0, 0), (4, .aload_n 0, 1, 0, 0, 0, 0, 0), (5, .new 7, 3, 4, 3, 23, 0, 0), (8, .dup, 1, 0, 0, 0, 0, 0), (9, .invokespecial 9, 3, 47, 0, 25, 1, 0), (12, .putfield 10, 3, 6, 0, 221, 2, 0), (15, .aload_n 0, 1, 0, 0, 0, 0, 0), (16, .new 16, 3, 5, 8, 40, 0, 0), (19, .dup, 1, 0, 0, 0, 0, 0), (20, .invokespecial 18, 3, 58, 0, 42, 1, 0), (23, .putfield 19, 3, 6, 1, 222, 2, 0), (26, .aload_n 0, 1, 0, 0, 0, 0, 0), (27, .new 23, 3, 3, 12, 74, 0, 0), (30, .dup, 1, 0, 0, 0, 0, 0), (31, .invokespecial 25, 3, 36, 0, 76, 1, 0), (34, .putfield 26, 3, 6, 2, 223, 2, 0), (37, .aload_n 0, 1, 0, 0, 0, 0, 0), (38, .new 23, 3, 3, 12, 74, 0, 0), (41, .dup, 1, 0, 0, 0, 0, 0), (42, .invokespecial 25, 3, 36, 0, 76, 1, 0), (45, .putfield 30, 3, 6, 3, 224, 2, 0), (48, .aload_n 0, 1, 0, 0, 0, 0, 0), (49, .new 23, 3, 3, 12, 74, 0, 0), (52, .dup, 1, 0, 0, 0, 0, 0), (53, .invokespecial 25, 3, 36, 0, 76, 1, 0), (56, .putfield 33, 3, 6, 4, 225, 2, 0), (59, .aload_n 0, 1, 0, 0, 0, 0, 0), (60, .new 23, 3, 3, 12, 74, 0, 0), (63, .dup, 1, 0, 0, 0, 0, 0), (64, .invokespecial 25, 3, 36, 0, 76, 1, 0), (67, .putfield 36, 3, 6, 5, 226, 2, 0), (70, .aload_n 0, 1, 0, 0, 0, 0, 0), (71, .new 39, 3, 0, 8, 141, 0, 0), (74, .dup, 1, 0, 0, 0, 0, 0), (75, .aload_n 0, 1, 0, 0, 0, 0, 0), (76, .getfield 26, 3, 6, 2, 223, 0, 0), (79, .invokespecial 41, 3, 0, 0, 143, 0, 0), (82, .putfield 44, 3, 6, 6, 227, 2, 0), (85, .aload_n 0, 1, 0, 0, 0, 0, 0), (86, .new 48, 3, 2, 7, 173, 0, 0), (89, .dup, 1, 0, 0, 0, 0, 0), (90, .aload_n 0, 1, 0, 0, 0, 0, 0), (91, .getfield 26, 3, 6, 2, 223, 0, 0), (94, .invokespecial 50, 3, 17, 0, 175, 0, 0), (97, .putfield 51, 3, 6, 7, 228, 2, 0), (100, .aload_n 0, 1, 0, 0, 0, 0, 0), (101, .new 55, 3, 1, 3, 203, 0, 0), (104, .dup, 1, 0, 0, 0, 0, 0), (105, .aload_n 0, 1, 0, 0, 0, 0, 0), (106, .getfield 26, 3, 6, 2, 223, 0, 0), (109, .invokespecial 57, 3, 8, 0, 205, 0, 0), (112, .putfield 58, 3, 6, 8, 229, 2, 0), (115, .return_, 1, 0, 0, 0, 0, 0)]
/-- BirchLeaf.row(III)I -/
def vm_p74 : List vm_En := [(0, .iload_n 1, 1, 0, 0, 0, 0, 0), (1, .invokestatic 62, 3, 104, 0, 256, 0, 0), (4, .ifCond .eq 18, 3, 22, 0, 0, 0, 0), (7, .iload_n 2, 1, 0, 0, 0, 0, 0), (8, .ifCond .lt 14, 3, 22, 0, 0, 0, 0), (11, .iload_n 2, 1, 0, 0, 0, 0, 0), (12, .iconst 3, 1, 0, 0, 0, 0, 0), (13, .if_icmp .ge 9, 3, 22, 0, 0, 0, 0), (16, .iload_n 3, 1, 0, 0, 0, 0, 0), (17, .bipush 40, 2, 0, 0, 0, 0, 0), (19, .if_icmp .le 6, 3, 25, 0, 0, 0, 0), (22, .ldc 66, 2, 0, 0, 259, 0, -1000001), (24, .ireturn, 1, 0, 0, 0, 0, 0), (25, .iload_n 3, 1, 0, 0, 0, 0, 0), (26, .ifCond .ge 9, 3, 35, 0, 0, 0, 0), (29, .aload_n 0, 1, 0, 0, 0, 0, 0), (30, .iconst 4, 1, 0, 0, 0, 0, 0), (31, .invokevirtual 67, 3, 102, 0, 260, 0, 0), (34, .ireturn, 1, 0, 0, 0, 0, 0), (35, .aload_n 0, 1, 0, 0, 0, 0, 0), (36, .iconst 0, 1, 0, 0, 0, 0, 0), (37, .putfield 71, 3, 6, 9, 230, 0, 0), (40, .aload_n 0, 1, 0, 0, 0, 0, 0), (41, .getfield 10, 3, 6, 0, 221, 0, 0), (44, .iload_n 1, 1, 0, 0, 0, 0, 0), (45, .iload_n 2, 1, 0, 0, 0, 0, 0), (46, .iload_n 3, 1, 0, 0, 0, 0, 0), (47, .invokevirtual 75, 3, 50, 0, 265, 0, 0), (50, .iload_n 3, 1, 0, 0, 0, 0, 0), (51, .ireturn, 1, 0, 0, 0, 0, 0)]
/-- BirchLeaf.set(III)I -/
def vm_p75 : List vm_En := [(0, .iload_n 1, 1, 0, 0, 0, 0, 0), (1, .invokestatic 62, 3, 104, 0, 256, 0, 0), (4, .ifCond .ne 6, 3, 10, 0, 0, 0, 0), (7, .ldc 66, 2, 0, 0, 259, 0, -1000001), (9, .ireturn, 1, 0, 0, 0, 0, 0), (10, .aload_n 0, 1, 0, 0, 0, 0, 0), (11, .getfield 10, 3, 6, 0, 221, 0, 0), (14, .iload_n 1, 1, 0, 0, 0, 0, 0), (15, .iload_n 2, 1, 0, 0, 0, 0, 0), (16, .iconst 1, 1, 0, 0, 0, 0, 0), (17, .invokevirtual 79, 3, 52, 0, 273, 0, 0), (20, .istore 4, 2, 0, 0, 0, 0, 0), (22, .iload 4, 2, 0, 0, 0, 0, 0), (24, .ifCond .eq 10, 3, 34, 0, 0, 0, 0), (27, .aload_n 0, 1, 0, 0, 0, 0, 0), (28, .iload 4, 2, 0, 0, 0, 0, 0), (30, .invokevirtual 67, 3, 102, 0, 260, 0, 0), (33, .ireturn, 1, 0, 0, 0, 0, 0), (34, .aload_n 0, 1, 0, 0, 0, 0, 0), (35, .iconst 0, 1, 0, 0, 0, 0, 0), (36, .putfield 71, 3, 6, 9, 230, 0, 0), (39, .aload_n 0, 1, 0, 0, 0, 0, 0), (40, .getfield 10, 3, 6, 0, 221, 0, 0), (43, .iload_n 1, 1, 0, 0, 0, 0, 0), (44, .iload_n 2, 1, 0, 0, 0, 0, 0), (45, .iload_n 3, 1, 0, 0, 0, 0, 0), (46, .invokevirtual 83, 3, 56, 0, 285, 0, 0), (49, .ireturn, 1, 0, 0, 0, 0, 0)]
/-- BirchLeaf.copy(IIIII)I -/
def vm_p76 : List vm_En := [(0, .iload_n 1, 1, 0, 0, 0, 0, 0), (1, .invokestatic 62, 3, 104, 0, 256, 0, 0), (4, .ifCond .eq 10, 3, 14, 0, 0, 0, 0), (7, .iload_n 3, 1, 0, 0, 0, 0, 0), (8, .invokestatic 62, 3, 104, 0, 256, 0, 0), (11, .ifCond .ne 6, 3, 17, 0, 0, 0, 0), (14, .ldc 66, 2, 0, 0, 259, 0, -1000001), (16, .ireturn, 1, 0, 0, 0, 0, 0), (17, .aload_n 0, 1, 0, 0, 0, 0, 0), (18, .getfield 10, 3, 6, 0, 221, 0, 0), (21, .iload_n 1, 1, 0, 0, 0, 0, 0), (22, .iload_n 2, 1, 0, 0, 0, 0, 0), (23, .iload_n 3, 1, 0, 0, 0, 0, 0), (24, .iload 4, 2, 0, 0, 0, 0, 0), (26, .iload 5, 2, 0, 0, 0, 0, 0), (28, .invokevirtual 86, 3, 53, 0, 293, 0, 0), (31, .istore 6, 2, 0, 0, 0, 0, 0), (33, .iload 6, 2, 0, 0, 0, 0, 0), (35, .ifCond .eq 10, 3, 45, 0, 0, 0, 0), (38, .aload_n 0, 1, 0, 0, 0, 0, 0), (39, .iload 6, 2, 0, 0, 0, 0, 0), (41, .invokevirtual 67, 3, 102, 0, 260, 0, 0), (44, .ireturn, 1, 0, 0, 0, 0, 0), (45, .aload_n 0, 1, 0, 0, 0, 0, 0), (46, .iconst 0, 1, 0, 0, 0, 0, 0), (47, .putfield 71, 3, 6, 9, 230, 0, 0), (50, .aload_n 0, 1, 0, 0, 0, 0, 0), (51, .getfield 10, 3, 6, 0, 221, 0, 0), (54, .iload_n 1, 1, 0, 0, 0, 0, 0), (55, .iload_n 2, 1, 0, 0, 0, 0, 0), (56, .iload_n 3, 1, 0, 0, 0, 0, 0), (57, .iload 4, 2, 0, 0, 0, 0, 0), (59, .iload 5, 2, 0, 0, 0, 0, 0), (61, .invokevirtual 90, 3, 57, 0, 297, 0, 0), (64, .iload 5, 2, 0, 0, 0, 0, 0), (66, .ireturn, 1, 0, 0, 0, 0, 0)]
/-- BirchLeaf.drop(I)I -/
def vm_p77 : List vm_En := [(0, .iload_n 1, 1, 0, 0, 0, 0, 0), (1, .invokestatic 62, 3, 104, 0, 256, 0, 0), (4, .ifCond .ne 6, 3, 10, 0, 0, 0, 0), (7, .ldc 66, 2, 0, 0, 259, 0, -1000001), (9, .ireturn, 1, 0, 0, 0, 0, 0), (10, .aload_n 0, 1, 0, 0, 0, 0, 0), (11, .getfield 10, 3, 6, 0, 221, 0, 0), (14, .iload_n 1, 1, 0, 0, 0, 0, 0), (15, .invokevirtual 94, 3, 48, 0, 308, 0, 0), (18, .ifCond .eq 9, 3, 27, 0, 0, 0, 0), (21, .aload_n 0, 1, 0, 0, 0, 0, 0), (22, .iconst 1, 1, 0, 0, 0, 0, 0), (23, .invokevirtual 67, 3, 102, 0, 260, 0, 0), (26, .ireturn, 1, 0, 0, 0, 0, 0), (27, .aload_n 0, 1, 0, 0, 0, 0, 0), (28, .iconst 0, 1, 0, 0, 0, 0, 0), (29, .putfield 71, 3, 6, 9, 230, 0, 0), (32, .aload_n 0, 1, 0, 0, 0, 0, 0), (33, .getfield 10, 3, 6, 0, 221, 0, 0), (36, .iload_n 1, 1, 0, 0, 0, 0, 0), (37, .invokevirtual 97, 3, 51, 0, 309, 0, 0), (40, .ireturn, 1, 0, 0, 0, 0, 0)]
/-- BirchLeaf.feed(JI)I -/
def vm_p78 : List vm_En := [(0, .iload_n 3, 1, 0, 0, 0, 0, 0), (1, .iconst 1, 1, 0, 0, 0, 0, 0), (2, .if_icmp .lt 9, 3, 11, 0, 0, 0, 0), (5, .iload_n 3, 1, 0, 0, 0, 0, 0), (6, .bipush 8, 2, 0, 0, 0, 0, 0), (8, .if_icmp .le 8, 3, 16, 0, 0, 0, 0), (11, .ldc 66, 2, 0, 0, 259, 0, -1000001), (13, .goto 12, 3, 25, 0, 0, 0, 0), (16, .aload_n 0, 1, 0, 0, 0, 0, 0), (17, .getfield 19, 3, 6, 1, 222, 0, 0), (20, .lload_n 1, 1, 0, 0, 0, 0, 0), (21, .iload_n 3, 1, 0, 0, 0, 0, 0), (22, .invokevirtual 100, 3, 59, 0, 317, 0, 0), (25, .ireturn, 1, 0, 0, 0, 0, 0)]
/-- BirchLeaf.hill()I -/
def vm_p79 : List vm_En := [(0, .aload_n 0, 1, 0, 0, 0, 0, 0), (1, .getfield 19, 3, 6, 1, 222, 0, 0), (4, .aload_n 0, 1, 0, 0, 0, 0, 0), (5, .getfield 30, 3, 6, 3, 224, 0, 0), (8, .invokevirtual 104, 3, 60, 0, 326, 0, 0), (11, .istore_n 1, 1, 0, 0, 0, 0, 0), (12, .iload_n 1, 1, 0, 0, 0, 0, 0), (13, .ifCond .lt 8, 3, 21, 0, 0, 0, 0), (16, .ldc 108, 2, 0, 0, 451, 0, -1000100), (18, .iload_n 1, 1, 0, 0, 0, 0, 0), (19, .isub, 1, 0, 0, 0, 0, 0), (20, .ireturn, 1, 0, 0, 0, 0, 0), (21, .aload_n 0, 1, 0, 0, 0, 0, 0), (22, .getfield 26, 3, 6, 2, 223, 0, 0), (25, .aload_n 0, 1, 0, 0, 0, 0, 0), (26, .getfield 30, 3, 6, 3, 224, 0, 0), (29, .invokevirtual 109, 3, 42, 0, 452, 0, 0), (32, .aload_n 0, 1, 0, 0, 0, 0, 0), (33, .getfield 44, 3, 6, 6, 227, 0, 0), (36, .invokevirtual 112, 3, 1, 0, 457, 0, 0), (39, .aload_n 0, 1, 0, 0, 0, 0, 0), (40, .getfield 26, 3, 6, 2, 223, 0, 0), (43, .getfield 115, 3, 3, 0, 83, 1, 0), (46, .ireturn, 1, 0, 0, 0, 0, 0)]
/-- BirchLeaf.fault()I -/
def vm_p80 : List vm_En := [(0, .aload_n 0, 1, 0, 0, 0, 0, 0), (1, .getfield 19, 3, 6, 1, 222, 0, 0), (4, .getfield 118, 3, 5, 7, 54, 1, 0), (7, .ireturn, 1, 0, 0, 0, 0, 0)]
/-- BirchLeaf.pass(I)I -/
def vm_p81 : List vm_En := [(0, .aload_n 0, 1, 0, 0, 0, 0, 0), (1, .getfield 26, 3, 6, 2, 223, 0, 0), (4, .iload_n 1, 1, 0, 0, 0, 0, 0), (5, .invokevirtual 121, 3, 38, 0, 469, 0, 0), (8, .ifCond .ne 6, 3, 14, 0, 0, 0, 0), (11, .ldc 66, 2, 0, 0, 259, 0, -1000001), (13, .ireturn, 1, 0, 0, 0, 0, 0), (14, .aload_n 0, 1, 0, 0, 0, 0, 0), (15, .getfield 26, 3, 6, 2, 223, 0, 0), (18, .aload_n 0, 1, 0, 0, 0, 0, 0), (19, .getfield 26, 3, 6, 2, 223, 0, 0), (22, .getfield 124, 3, 3, 5, 100, 1, 0), (25, .iload_n 1, 1, 0, 0, 0, 0, 0), (26, .aload_n 0, 1, 0, 0, 0, 0, 0), (27, .getfield 26, 3, 6, 2, 223, 0, 0), (30, .getfield 127, 3, 3, 4, 96, 1, 0), (33, .aload_n 0, 1, 0, 0, 0, 0, 0), (34, .getfield 26, 3, 6, 2, 223, 0, 0), (37, .getfield 130, 3, 3, 2, 91, 1, 0), (40, .invokevirtual 133, 3, 46, 0, 470, 0, 0), (43, .istore_n 2, 1, 0, 0, 0, 0, 0), (44, .iload_n 2, 1, 0, 0, 0, 0, 0), (45, .ldc 137, 2, 0, 0, 483, 0, -1000000), (47, .if_icmp .ne 6, 3, 53, 0, 0, 0, 0), (50, .ldc 138, 2, 0, 0, 484, 0, -1000002), (52, .ireturn, 1, 0, 0, 0, 0, 0), (53, .aload_n 0, 1, 0, 0, 0, 0, 0), (54, .getfield 44, 3, 6, 6, 227, 0, 0), (57, .iload_n 1, 1, 0, 0, 0, 0, 0), (58, .iload_n 2, 1, 0, 0, 0, 0, 0), (59, .invokevirtual 139, 3, 2, 0, 485, 0, 0), (62, .iload_n 2, 1, 0, 0, 0, 0, 0), (63, .ireturn, 1, 0, 0, 0, 0, 0)]
/-- BirchLeaf.waits(I)I -/
def vm_p82 : List vm_En := [(0, .aload_n 0, 1, 0, 0, 0, 0, 0), (1, .getfield 26, 3, 6, 2, 223, 0, 0), (4, .invokevirtual 143, 3, 37, 0, 506, 0, 0), (7, .ifCond .eq 6, 3, 13, 0, 0, 0, 0), (10, .ldc 138, 2, 0, 0, 484, 0, -1000002), (12, .ireturn, 1, 0, 0, 0, 0, 0), (13, .iload_n 1, 1, 0, 0, 0, 0, 0), (14, .iconst 1, 1, 0, 0, 0, 0, 0), (15, .if_icmp .lt 9, 3, 24, 0, 0, 0, 0), (18, .iload_n 1, 1, 0, 0, 0, 0, 0), (19, .bipush 60, 2, 0, 0, 0, 0, 0), (21, .if_icmp .le 6, 3, 27, 0, 0, 0, 0), (24, .ldc 66, 2, 0, 0, 259, 0, -1000001), (26, .ireturn, 1, 0, 0, 0, 0, 0), (27, .iload_n 1, 1, 0, 0, 0, 0, 0), (28, .bipush 60, 2, 0, 0, 0, 0, 0), (30, .aload_n 0, 1, 0, 0, 0, 0, 0), (31, .getfield 26, 3, 6, 2, 223, 0, 0), (34, .getfield 127, 3, 3, 4, 96, 1, 0), (37, .isub, 1, 0, 0, 0, 0, 0), (38, .if_icmp .le 6, 3, 44, 0, 0, 0, 0), (41, .ldc 147, 2, 0, 0, 510, 0, -1000003), (43, .ireturn, 1, 0, 0, 0, 0, 0), (44, .aload_n 0, 1, 0, 0, 0, 0, 0), (45, .getfield 44, 3, 6, 6, 227, 0, 0), (48, .iload_n 1, 1, 0, 0, 0, 0, 0), (49, .invokevirtual 148, 3, 3, 0, 511, 0, 0), (52, .aload_n 0, 1, 0, 0, 0, 0, 0), (53, .getfield 26, 3, 6, 2, 223, 0, 0), (56, .getfield 127, 3, 3, 4, 96, 1, 0), (59, .ireturn, 1, 0, 0, 0, 0, 0)]
/-- BirchLeaf.bribe(I)I -/
def vm_p83 : List vm_En := [(0, .aload_n 0, 1, 0, 0, 0, 0, 0), (1, .getfield 26, 3, 6, 2, 223, 0, 0), (4, .invokevirtual 143, 3, 37, 0, 506, 0, 0), (7, .ifCond .eq 6, 3, 13, 0, 0, 0, 0), (10, .ldc 138, 2, 0, 0, 484, 0, -1000002), (12, .ireturn, 1, 0, 0, 0, 0, 0), (13, .iload_n 1, 1, 0, 0, 0, 0, 0), (14, .iconst 1, 1, 0, 0, 0, 0, 0), (15, .if_icmp .lt 9, 3, 24, 0, 0, 0, 0), (18, .iload_n 1, 1, 0, 0, 0, 0, 0), (19, .bipush 60, 2, 0, 0, 0, 0, 0), (21, .if_icmp .le 6, 3, 27, 0, 0, 0, 0), (24, .ldc 66, 2, 0, 0, 259, 0, -1000001), (26, .ireturn, 1, 0, 0, 0, 0, 0), (27, .aload_n 0, 1, 0, 0, 0, 0, 0), (28, .getfield 26, 3, 6, 2, 223, 0, 0), (31, .getfield 130, 3, 3, 2, 91, 1, 0), (34, .istore_n 2, 1, 0, 0, 0, 0, 0), (35, .aload_n 0, 1, 0, 0, 0, 0, 0), (36, .getfield 44, 3, 6, 6, 227, 0, 0), (39, .iload_n 1, 1, 0, 0, 0, 0, 0), (40, .invokevirtual 152, 3, 4, 0, 519, 0, 0), (43, .iload_n 2, 1, 0, 0, 0, 0, 0), (44, .ireturn, 1, 0, 0, 0, 0, 0)]
/-- BirchLeaf.undo()I -/
def vm_p84 : List vm_En := [(0, .aload_n 0, 1, 0, 0, 0, 0, 0), (1, .getfield 44, 3, 6, 6, 227, 0, 0), (4, .invokevirtual 155, 3, 5, 0, 527, 0, 0), (7, .ifCond .eq 13, 3, 20, 0, 0, 0, 0), (10, .aload_n 0, 1, 0, 0, 0, 0, 0), (11, .getfield 44, 3, 6, 6, 227, 0, 0), (14, .getfield 158, 3, 0, 1, 149, 1, 0), (17, .goto 5, 3, 22, 0, 0, 0, 0), (20, .ldc 138, 2, 0, 0, 484, 0, -1000002), (22, .ireturn, 1, 0, 0, 0, 0, 0)]
/-- BirchLeaf.trader(II)I -/
def vm_p85 : List vm_En := [(0, .aload_n 0, 1, 0, 0, 0, 0, 0), (1, .getfield 26, 3, 6, 2, 223, 0, 0), (4, .iload_n 1, 1, 0, 0, 0, 0, 0), (5, .invokevirtual 121, 3, 38, 0, 469, 0, 0), (8, .ifCond .ne 6, 3, 14, 0, 0, 0, 0), (11, .ldc 66, 2, 0, 0, 259, 0, -1000001), (13, .ireturn, 1, 0, 0, 0, 0, 0), (14, .iload_n 2, 1, 0, 0, 0, 0, 0), (15, .tableswitch 68 0 3 #[29, 39, 49, 58], 29, 0, 0, 0, 0, 0), (44, .aload_n 0, 1, 0, 0, 0, 0, 0), (45, .getfield 26, 3, 6, 2, 223, 0, 0), (48, .getfield 161, 3, 3, 7, 107, 1, 0), (51, .iload_n 1, 1, 0, 0, 0, 0, 0), (52, .iaload, 1, 0, 0, 0, 0, 0), (53, .ireturn, 1, 0, 0, 0, 0, 0), (54, .aload_n 0, 1, 0, 0, 0, 0, 0), (55, .getfield 26, 3, 6, 2, 223, 0, 0), (58, .getfield 165, 3, 3, 8, 109, 1, 0), (61, .iload_n 1, 1, 0, 0, 0, 0, 0), (62, .iaload, 1, 0, 0, 0, 0, 0), (63, .ireturn, 1, 0, 0, 0, 0, 0), (64, .aload_n 0, 1, 0, 0, 0, 0, 0), (65, .getfield 26, 3, 6, 2, 223, 0, 0), (68, .iload_n 1, 1, 0, 0, 0, 0, 0), (69, .invokevirtual 168, 3, 43, 0, 535, 0, 0), (72, .ireturn, 1, 0, 0, 0, 0, 0), (73, .aload_n 0, 1, 0, 0, 0, 0, 0), (74, .getfield 26, 3, 6, 2, 223, 0, 0), (77, .getfield 171, 3, 3, 9, 113, 1, 0), (80, .iload_n 1, 1, 0, 0, 0, 0, 0), (81, .iaload, 1, 0, 0, 0, 0, 0), (82, .ireturn, 1, 0, 0, 0, 0, 0), (83, .ldc 66, 2, 0, 0, 259, 0, -1000001), (85, .ireturn, 1, 0, 0, 0, 0, 0)]
/-- BirchLeaf.takes(II)I -/
def vm_p86 : List vm_En := [(0, .aload_n 0, 1, 0, 0, 0, 0, 0), (1, .getfield 26, 3, 6, 2, 223, 0, 0), (4, .iload_n 1, 1, 0, 0, 0, 0, 0), (5, .invokevirtual 121, 3, 38, 0, 469, 0, 0), (8, .ifCond .eq 10, 3, 18, 0, 0, 0, 0), (11, .iload_n 2, 1, 0, 0, 0, 0, 0), (12, .invokestatic 174, 3, 105, 0, 540, 0, 0), (15, .ifCond .ne 6, 3, 21, 0, 0, 0, 0), (18, .ldc 66, 2, 0, 0, 259, 0, -1000001), (20, .ireturn, 1, 0, 0, 0, 0, 0), (21, .aload_n 0, 1, 0, 0, 0, 0, 0), (22, .getfield 26, 3, 6, 2, 223, 0, 0), (25, .iload_n 1, 1, 0, 0, 0, 0, 0), (26, .iload_n 2, 1, 0, 0, 0, 0, 0), (27, .aload_n 0, 1, 0, 0, 0, 0, 0), (28, .getfield 26, 3, 6, 2, 223, 0, 0), (31, .getfield 130, 3, 3, 2, 91, 1, 0), (34, .invokevirtual 177, 3, 44, 0, 543, 0, 0), (37, .ifCond .eq 7, 3, 44, 0, 0, 0, 0), (40, .iconst 1, 1, 0, 0, 0, 0, 0), (41, .goto 4, 3, 45, 0, 0, 0, 0), (44, .iconst 0, 1, 0, 0, 0, 0, 0), (45, .ireturn, 1, 0, 0, 0, 0, 0)]
/-- BirchLeaf.there(III)I -/
def vm_p87 : List vm_En := [(0, .aload_n 0, 1, 0, 0, 0, 0, 0), (1, .getfield 26, 3, 6, 2, 223, 0, 0), (4, .iload_n 1, 1, 0, 0, 0, 0, 0), (5, .invokevirtual 121, 3, 38, 0, 469, 0, 0), (8, .ifCond .eq 26, 3, 34, 0, 0, 0, 0), (11, .aload_n 0, 1, 0, 0, 0, 0, 0), (12, .getfield 26, 3, 6, 2, 223, 0, 0), (15, .iload_n 2, 1, 0, 0, 0, 0, 0), (16, .invokevirtual 121, 3, 38, 0, 469, 0, 0), (19, .ifCond .eq 15, 3, 34, 0, 0, 0, 0), (22, .iload_n 1, 1, 0, 0, 0, 0, 0), (23, .iload_n 2, 1, 0, 0, 0, 0, 0), (24, .if_icmp .eq 10, 3, 34, 0, 0, 0, 0), (27, .iload_n 3, 1, 0, 0, 0, 0, 0), (28, .invokestatic 174, 3, 105, 0, 540, 0, 0), (31, .ifCond .ne 6, 3, 37, 0, 0, 0, 0), (34, .ldc 66, 2, 0, 0, 259, 0, -1000001), (36, .ireturn, 1, 0, 0, 0, 0, 0), (37, .aload_n 0, 1, 0, 0, 0, 0, 0), (38, .getfield 26, 3, 6, 2, 223, 0, 0), (41, .iload_n 1, 1, 0, 0, 0, 0, 0), (42, .iload_n 2, 1, 0, 0, 0, 0, 0), (43, .iload_n 3, 1, 0, 0, 0, 0, 0), (44, .invokevirtual 181, 3, 45, 0, 548, 0, 0), (47, .ireturn, 1, 0, 0, 0, 0, 0)]
/-- BirchLeaf.worth(II)I -/
def vm_p88 : List vm_En := [(0, .aload_n 0, 1, 0, 0, 0, 0, 0), (1, .getfield 26, 3, 6, 2, 223, 0, 0), (4, .iload_n 1, 1, 0, 0, 0, 0, 0), (5, .invokevirtual 121, 3, 38, 0, 469, 0, 0), (8, .ifCond .eq 22, 3, 30, 0, 0, 0, 0), (11, .iload_n 2, 1, 0, 0, 0, 0, 0), (12, .invokestatic 174, 3, 105, 0, 540, 0, 0), (15, .ifCond .eq 15, 3, 30, 0, 0, 0, 0), (18, .aload_n 0, 1, 0, 0, 0, 0, 0), (19, .getfield 51, 3, 6, 7, 228, 0, 0), (22, .iload_n 1, 1, 0, 0, 0, 0, 0), (23, .iload_n 2, 1, 0, 0, 0, 0, 0), (24, .invokevirtual 184, 3, 18, 0, 553, 0, 0), (27, .goto 5, 3, 32, 0, 0, 0, 0), (30, .ldc 66, 2, 0, 0, 259, 0, -1000001), (32, .ireturn, 1, 0, 0, 0, 0, 0)]
/-- BirchLeaf.sure(II)I -/
def vm_p89 : List vm_En := [(0, .aload_n 0, 1, 0, 0, 0, 0, 0), (1, .getfield 26, 3, 6, 2, 223, 0, 0), (4, .iload_n 1, 1, 0, 0, 0, 0, 0), (5, .invokevirtual 121, 3, 38, 0, 469, 0, 0), (8, .ifCond .eq 22, 3, 30, 0, 0, 0, 0), (11, .iload_n 2, 1, 0, 0, 0, 0, 0), (12, .invokestatic 174, 3, 105, 0, 540, 0, 0), (15, .ifCond .eq 15, 3, 30, 0, 0, 0, 0), (18, .aload_n 0, 1, 0, 0, 0, 0, 0), (19, .getfield 51, 3, 6, 7, 228, 0, 0), (22, .iload_n 1, 1, 0, 0, 0, 0, 0), (23, .iload_n 2, 1, 0, 0, 0, 0, 0), (24, .invokevirtual 188, 3, 19, 0, 571, 0, 0), (27, .goto 5, 3, 32, 0, 0, 0, 0), (30, .ldc 66, 2, 0, 0, 259, 0, -1000001), (32, .ireturn, 1, 0, 0, 0, 0, 0)]
/-- BirchLeaf.most(III)I -/
def vm_p90 : List vm_En := [(0, .aload_n 0, 1, 0, 0, 0, 0, 0), (1, .getfield 26, 3, 6, 2, 223, 0, 0), (4, .iload_n 1, 1, 0, 0, 0, 0, 0), (5, .invokevirtual 121, 3, 38, 0, 469, 0, 0), (8, .ifCond .eq 19, 3, 27, 0, 0, 0, 0), (11, .iload_n 2, 1, 0, 0, 0, 0, 0), (12, .invokestatic 174, 3, 105, 0, 540, 0, 0), (15, .ifCond .eq 12, 3, 27, 0, 0, 0, 0), (18, .iload_n 3, 1, 0, 0, 0, 0, 0), (19, .ifCond .lt 8, 3, 27, 0, 0, 0, 0), (22, .iload_n 3, 1, 0, 0, 0, 0, 0), (23, .iconst 1, 1, 0, 0, 0, 0, 0), (24, .if_icmp .le 6, 3, 30, 0, 0, 0, 0), (27, .ldc 66, 2, 0, 0, 259, 0, -1000001), (29, .ireturn, 1, 0, 0, 0, 0, 0), (30, .iload_n 3, 1, 0, 0, 0, 0, 0), (31, .ifCond .ne 15, 3, 46, 0, 0, 0, 0), (34, .aload_n 0, 1, 0, 0, 0, 0, 0), (35, .getfield 51, 3, 6, 7, 228, 0, 0), (38, .iload_n 1, 1, 0, 0, 0, 0, 0), (39, .iload_n 2, 1, 0, 0, 0, 0, 0), (40, .invokevirtual 191, 3, 20, 0, 587, 0, 0), (43, .goto 12, 3, 55, 0, 0, 0, 0), (46, .aload_n 0, 1, 0, 0, 0, 0, 0), (47, .getfield 51, 3, 6, 7, 228, 0, 0), (50, .iload_n 1, 1, 0, 0, 0, 0, 0), (51, .iload_n 2, 1, 0, 0, 0, 0, 0), (52, .invokevirtual 194, 3, 21, 0, 594, 0, 0), (55, .ireturn, 1, 0, 0, 0, 0, 0)]
/-- BirchLeaf.last(I)I -/
def vm_p91 : List vm_En := [(0, .aload_n 0, 1, 0, 0, 0, 0, 0), (1, .getfield 26, 3, 6, 2, 223, 0, 0), (4, .invokevirtual 143, 3, 37, 0, 506, 0, 0), (7, .ifCond .eq 6, 3, 13, 0, 0, 0, 0), (10, .ldc 138, 2, 0, 0, 484, 0, -1000002), (12, .ireturn, 1, 0, 0, 0, 0, 0), (13, .iload_n 1, 1, 0, 0, 0, 0, 0), (14, .ifCond .lt 8, 3, 22, 0, 0, 0, 0), (17, .iload_n 1, 1, 0, 0, 0, 0, 0), (18, .iconst 1, 1, 0, 0, 0, 0, 0), (19, .if_icmp .le 6, 3, 25, 0, 0, 0, 0), (22, .ldc 66, 2, 0, 0, 259, 0, -1000001), (24, .ireturn, 1, 0, 0, 0, 0, 0), (25, .aload_n 0, 1, 0, 0, 0, 0, 0), (26, .getfield 51, 3, 6, 7, 228, 0, 0), (29, .aload_n 0, 1, 0, 0, 0, 0, 0), (30, .getfield 26, 3, 6, 2, 223, 0, 0), (33, .getfield 130, 3, 3, 2, 91, 1, 0), (36, .invokevirtual 197, 3, 26, 0, 602, 0, 0), (39, .iload_n 1, 1, 0, 0, 0, 0, 0), (40, .ifCond .ne 13, 3, 53, 0, 0, 0, 0), (43, .aload_n 0, 1, 0, 0, 0, 0, 0), (44, .getfield 51, 3, 6, 7, 228, 0, 0), (47, .getfield 200, 3, 2, 1, 181, 1, 0), (50, .goto 10, 3, 60, 0, 0, 0, 0), (53, .aload_n 0, 1, 0, 0, 0, 0, 0), (54, .getfield 51, 3, 6, 7, 228, 0, 0), (57, .getfield 203, 3, 2, 2, 183, 1, 0), (60, .ireturn, 1, 0, 0, 0, 0, 0)]
/-- BirchLeaf.crow(I)I -/
def vm_p92 : List vm_En := [(0, .aload_n 0, 1, 0, 0, 0, 0, 0), (1, .getfield 26, 3, 6, 2, 223, 0, 0), (4, .iload_n 1, 1, 0, 0, 0, 0, 0), (5, .invokevirtual 121, 3, 38, 0, 469, 0, 0), (8, .ifCond .eq 14, 3, 22, 0, 0, 0, 0), (11, .aload_n 0, 1, 0, 0, 0, 0, 0), (12, .getfield 51, 3, 6, 7, 228, 0, 0), (15, .iload_n 1, 1, 0, 0, 0, 0, 0), (16, .invokevirtual 206, 3, 27, 0, 610, 0, 0), (19, .goto 5, 3, 24, 0, 0, 0, 0), (22, .ldc 66, 2, 0, 0, 259, 0, -1000001), (24, .ireturn, 1, 0, 0, 0, 0, 0)]
/-- BirchLeaf.where(IIII)I -/
def vm_p93 : List vm_En := [(0, .aload_n 0, 1, 0, 0, 0, 0, 0), (1, .getfield 26, 3, 6, 2, 223, 0, 0), (4, .invokevirtual 143, 3, 37, 0, 506, 0, 0), (7, .ifCond .eq 6, 3, 13, 0, 0, 0, 0), (10, .ldc 138, 2, 0, 0, 484, 0, -1000002), (12, .ireturn, 1, 0, 0, 0, 0, 0), (13, .iload_n 1, 1, 0, 0, 0, 0, 0), (14, .invokestatic 62, 3, 104, 0, 256, 0, 0), (17, .ifCond .eq 21, 3, 38, 0, 0, 0, 0), (20, .iload_n 3, 1, 0, 0, 0, 0, 0), (21, .ifCond .lt 17, 3, 38, 0, 0, 0, 0), (24, .iload_n 3, 1, 0, 0, 0, 0, 0), (25, .bipush 10, 2, 0, 0, 0, 0, 0), (27, .if_icmp .gt 11, 3, 38, 0, 0, 0, 0), (30, .iload 4, 2, 0, 0, 0, 0, 0), (32, .invokestatic 174, 3, 105, 0, 540, 0, 0), (35, .ifCond .ne 6, 3, 41, 0, 0, 0, 0), (38, .ldc 66, 2, 0, 0, 259, 0, -1000001), (40, .ireturn, 1, 0, 0, 0, 0, 0), (41, .aload_n 0, 1, 0, 0, 0, 0, 0), (42, .getfield 10, 3, 6, 0, 221, 0, 0), (45, .iload_n 1, 1, 0, 0, 0, 0, 0), (46, .iload_n 2, 1, 0, 0, 0, 0, 0), (47, .iconst 2, 1, 0, 0, 0, 0, 0), (48, .iload_n 3, 1, 0, 0, 0, 0, 0), (49, .imul, 1, 0, 0, 0, 0, 0), (50, .invokevirtual 79, 3, 52, 0, 273, 0, 0), (53, .istore 5, 2, 0, 0, 0, 0, 0), (55, .iload 5, 2, 0, 0, 0, 0, 0), (57, .ifCond .eq 10, 3, 67, 0, 0, 0, 0), (60, .aload_n 0, 1, 0, 0, 0, 0, 0), (61, .iload 5, 2, 0, 0, 0, 0, 0), (63, .invokevirtual 67, 3, 102, 0, 260, 0, 0), (66, .ireturn, 1, 0, 0, 0, 0, 0), (67, .aload_n 0, 1, 0, 0, 0, 0, 0), (68, .getfield 51, 3, 6, 7, 228, 0, 0), (71, .invokevirtual 209, 3, 28, 0, 619, 0, 0), (74, .iconst 0, 1, 0, 0, 0, 0, 0), (75, .istore 6, 2, 0, 0, 0, 0, 0), (77, .iload 6, 2, 0, 0, 0, 0, 0), (79, .iload_n 3, 1, 0, 0, 0, 0, 0), (80, .if_icmp .ge 77, 3, 157, 0, 0, 0, 0), (83, .aload_n 0, 1, 0, 0, 0, 0, 0), (84, .getfield 10, 3, 6, 0, 221, 0, 0), (87, .iload_n 1, 1, 0, 0, 0, 0, 0), (88, .iload_n 2, 1, 0, 0, 0, 0, 0), (89, .iconst 2, 1, 0, 0, 0, 0, 0), (90, .iload 6, 2, 0, 0, 0, 0, 0), (92, .imul, 1, 0, 0, 0, 0, 0), (93, .iadd, 1, 0, 0, 0, 0, 0), (94, .invokevirtual 212, 3, 55, 0, 623, 0, 0), (97, .istore 7, 2, 0, 0, 0, 0, 0), (99, .aload_n 0, 1, 0, 0, 0, 0, 0), (100, .getfield 10, 3, 6, 0, 221, 0, 0), (103, .iload_n 1, 1, 0, 0, 0, 0, 0), (104, .iload_n 2, 1, 0, 0, 0, 0, 0), (105, .iconst 2, 1, 0, 0, 0, 0, 0), (106, .iload 6, 2, 0, 0, 0, 0, 0), (108, .imul, 1, 0, 0, 0, 0, 0), (109, .iadd, 1, 0, 0, 0, 0, 0), (110, .iconst 1, 1, 0, 0, 0, 0, 0), (111, .iadd, 1, 0, 0, 0, 0, 0), (112, .invokevirtual 212, 3, 55, 0, 623, 0, 0), (115, .istore 8, 2, 0, 0, 0, 0, 0), (117, .aload_n 0, 1, 0, 0, 0, 0, 0), (118, .getfield 26, 3, 6, 2, 223, 0, 0), (121, .iload 7, 2, 0, 0, 0, 0, 0), (123, .invokevirtual 121, 3, 38, 0, 469, 0, 0), (126, .ifCond .eq 11, 3, 137, 0, 0, 0, 0), (129, .iload 8, 2, 0, 0, 0, 0, 0), (131, .invokestatic 174, 3, 105, 0, 540, 0, 0), (134, .ifCond .ne 6, 3, 140, 0, 0, 0, 0), (137, .ldc 66, 2, 0, 0, 259, 0, -1000001), (139, .ireturn, 1, 0, 0, 0, 0, 0), (140, .aload_n 0, 1, 0, 0, 0, 0, 0), (141, .getfield 51, 3, 6, 7, 228, 0, 0), (144, .iload 7, 2, 0, 0, 0, 0, 0), (146, .iload 8, 2, 0, 0, 0, 0, 0), (148, .invokevirtual 215, 3, 29, 0, 627, 0, 0), (151, .iinc 6 1, 3, 0, 0, 0, 0, 0), (154, .goto (-77), 3, 77, 0, 0, 0, 0), (157, .aload_n 0, 1, 0, 0, 0, 0, 0), (158, .iconst 0, 1, 0, 0, 0, 0, 0), (159, .putfield 71, 3, 6, 9, 230, 0, 0), (162, .aload_n 0, 1, 0, 0, 0, 0, 0), (163, .getfield 51, 3, 6, 7, 228, 0, 0), (166, .iload 4, 2, 0, 0, 0, 0, 0), (168, .invokevirtual 218, 3, 30, 0, 631, 0, 0), (171, .ireturn, 1, 0, 0, 0, 0, 0)]
/-- BirchLeaf.image(I)I -/
def vm_p94 : List vm_En := [(0, .iload_n 1, 1, 0, 0, 0, 0, 0), (1, .ifCond .lt 8, 3, 9, 0, 0, 0, 0), (4, .iload_n 1, 1, 0, 0, 0, 0, 0), (5, .iconst 1, 1, 0, 0, 0, 0, 0), (6, .if_icmp .le 6, 3, 12, 0, 0, 0, 0), (9, .ldc 66, 2, 0, 0, 259, 0, -1000001), (11, .ireturn, 1, 0, 0, 0, 0, 0), (12, .aload_n 0, 1, 0, 0, 0, 0, 0), (13, .getfield 26, 3, 6, 2, 223, 0, 0), (16, .invokevirtual 143, 3, 37, 0, 506, 0, 0), (19, .ifCond .eq 6, 3, 25, 0, 0, 0, 0), (22, .ldc 138, 2, 0, 0, 484, 0, -1000002), (24, .ireturn, 1, 0, 0, 0, 0, 0), (25, .aload_n 0, 1, 0, 0, 0, 0, 0), (26, .iload_n 1, 1, 0, 0, 0, 0, 0), (27, .invokevirtual 221, 3, 103, 0, 660, 0, 0), (30, .aload_n 0, 1, 0, 0, 0, 0, 0), (31, .getfield 26, 3, 6, 2, 223, 0, 0), (34, .invokevirtual 109, 3, 42, 0, 452, 0, 0), (37, .iconst 1, 1, 0, 0, 0, 0, 0), (38, .ireturn, 1, 0, 0, 0, 0, 0)]
/-- BirchLeaf.restore(I)I -/
def vm_p95 : List vm_En := [(0, .iload_n 1, 1, 0, 0, 0, 0, 0), (1, .ifCond .lt 8, 3, 9, 0, 0, 0, 0), (4, .iload_n 1, 1, 0, 0, 0, 0, 0), (5, .iconst 1, 1, 0, 0, 0, 0, 0), (6, .if_icmp .le 6, 3, 12, 0, 0, 0, 0), (9, .ldc 66, 2, 0, 0, 259, 0, -1000001), (11, .ireturn, 1, 0, 0, 0, 0, 0), (12, .aload_n 0, 1, 0, 0, 0, 0, 0), (13, .iload_n 1, 1, 0, 0, 0, 0, 0), (14, .invokevirtual 221, 3, 103, 0, 660, 0, 0), (17, .invokevirtual 143, 3, 37, 0, 506, 0, 0), (20, .ifCond .eq 6, 3, 26, 0, 0, 0, 0), (23, .ldc 138, 2, 0, 0, 484, 0, -1000002), (25, .ireturn, 1, 0, 0, 0, 0, 0), (26, .aload_n 0, 1, 0, 0, 0, 0, 0), (27, .getfield 26, 3, 6, 2, 223, 0, 0), (30, .aload_n 0, 1, 0, 0, 0, 0, 0), (31, .iload_n 1, 1, 0, 0, 0, 0, 0), (32, .invokevirtual 221, 3, 103, 0, 660, 0, 0), (35, .invokevirtual 109, 3, 42, 0, 452, 0, 0), (38, .aload_n 0, 1, 0, 0, 0, 0, 0), (39, .getfield 44, 3, 6, 6, 227, 0, 0), (42, .invokevirtual 112, 3, 1, 0, 457, 0, 0), (45, .iconst 1, 1, 0, 0, 0, 0, 0), (46, .ireturn, 1, 0, 0, 0, 0, 0)]
/-- BirchLeaf.kind(I)I -/
def vm_p96 : List vm_En := [(0, .aload_n 0, 1, 0, 0, 0, 0, 0), (1, .getfield 26, 3, 6, 2, 223, 0, 0), (4, .iload_n 1, 1, 0, 0, 0, 0, 0), (5, .invokevirtual 121, 3, 38, 0, 469, 0, 0), (8, .ifCond .eq 15, 3, 23, 0, 0, 0, 0), (11, .aload_n 0, 1, 0, 0, 0, 0, 0), (12, .getfield 26, 3, 6, 2, 223, 0, 0), (15, .getfield 225, 3, 3, 6, 104, 1, 0), (18, .iload_n 1, 1, 0, 0, 0, 0, 0), (19, .iaload, 1, 0, 0, 0, 0, 0), (20, .goto 5, 3, 25, 0, 0, 0, 0), (23, .ldc 66, 2, 0, 0, 259, 0, -1000001), (25, .ireturn, 1, 0, 0, 0, 0, 0)]
/-- BirchLeaf.as(II)I -/
def vm_p97 : List vm_En := [(0, .aload_n 0, 1, 0, 0, 0, 0, 0), (1, .getfield 26, 3, 6, 2, 223, 0, 0), (4, .iload_n 1, 1, 0, 0, 0, 0, 0), (5, .invokevirtual 121, 3, 38, 0, 469, 0, 0), (8, .ifCond .eq 12, 3, 20, 0, 0, 0, 0), (11, .iload_n 2, 1, 0, 0, 0, 0, 0), (12, .ifCond .lt 8, 3, 20, 0, 0, 0, 0), (15, .iload_n 2, 1, 0, 0, 0, 0, 0), (16, .iconst 5, 1, 0, 0, 0, 0, 0), (17, .if_icmp .le 6, 3, 23, 0, 0, 0, 0), (20, .ldc 66, 2, 0, 0, 259, 0, -1000001), (22, .ireturn, 1, 0, 0, 0, 0, 0), (23, .aload_n 0, 1, 0, 0, 0, 0, 0), (24, .getfield 26, 3, 6, 2, 223, 0, 0), (27, .getfield 225, 3, 3, 6, 104, 1, 0), (30, .iload_n 1, 1, 0, 0, 0, 0, 0), (31, .iaload, 1, 0, 0, 0, 0, 0), (32, .iload_n 2, 1, 0, 0, 0, 0, 0), (33, .invokestatic 228, 3, 106, 0, 676, 0, 0), (36, .ifCond .ne 9, 3, 45, 0, 0, 0, 0), (39, .aload_n 0, 1, 0, 0, 0, 0, 0), (40, .iconst 3, 1, 0, 0, 0, 0, 0), (41, .invokevirtual 67, 3, 102, 0, 260, 0, 0), (44, .ireturn, 1, 0, 0, 0, 0, 0), (45, .aload_n 0, 1, 0, 0, 0, 0, 0), (46, .iconst 0, 1, 0, 0, 0, 0, 0), (47, .putfield 71, 3, 6, 9, 230, 0, 0), (50, .iload_n 1, 1, 0, 0, 0, 0, 0), (51, .ireturn, 1, 0, 0, 0, 0, 0)]
/-- BirchLeaf.ask(II)I -/
def vm_p98 : List vm_En := [(0, .aload_n 0, 1, 0, 0, 0, 0, 0), (1, .getfield 26, 3, 6, 2, 223, 0, 0), (4, .iload_n 1, 1, 0, 0, 0, 0, 0), (5, .invokevirtual 121, 3, 38, 0, 469, 0, 0), (8, .ifCond .eq 12, 3, 20, 0, 0, 0, 0), (11, .iload_n 2, 1, 0, 0, 0, 0, 0), (12, .ifCond .lt 8, 3, 20, 0, 0, 0, 0), (15, .iload_n 2, 1, 0, 0, 0, 0, 0), (16, .iconst 1, 1, 0, 0, 0, 0, 0), (17, .if_icmp .le 6, 3, 23, 0, 0, 0, 0), (20, .ldc 66, 2, 0, 0, 259, 0, -1000001), (22, .ireturn, 1, 0, 0, 0, 0, 0), (23, .aload_n 0, 1, 0, 0, 0, 0, 0), (24, .getfield 58, 3, 6, 8, 229, 0, 0), (27, .invokevirtual 232, 3, 9, 0, 683, 0, 0), (30, .iload_n 2, 1, 0, 0, 0, 0, 0), (31, .ifCond .ne 14, 3, 45, 0, 0, 0, 0), (34, .aload_n 0, 1, 0, 0, 0, 0, 0), (35, .getfield 58, 3, 6, 8, 229, 0, 0), (38, .iload_n 1, 1, 0, 0, 0, 0, 0), (39, .invokevirtual 235, 3, 11, 0, 687, 0, 0), (42, .goto 11, 3, 53, 0, 0, 0, 0), (45, .aload_n 0, 1, 0, 0, 0, 0, 0), (46, .getfield 58, 3, 6, 8, 229, 0, 0), (49, .iload_n 1, 1, 0, 0, 0, 0, 0), (50, .invokevirtual 238, 3, 12, 0, 708, 0, 0), (53, .ireturn, 1, 0, 0, 0, 0, 0)]
/-- BirchLeaf.trace(I)I -/
def vm_p99 : List vm_En := [(0, .iload_n 1, 1, 0, 0, 0, 0, 0), (1, .ifCond .lt 32, 3, 33, 0, 0, 0, 0), (4, .iload_n 1, 1, 0, 0, 0, 0, 0), (5, .aload_n 0, 1, 0, 0, 0, 0, 0), (6, .getfield 58, 3, 6, 8, 229, 0, 0), (9, .getfield 241, 3, 1, 2, 213, 1, 0), (12, .if_icmp .ge 21, 3, 33, 0, 0, 0, 0), (15, .iload_n 1, 1, 0, 0, 0, 0, 0), (16, .bipush 16, 2, 0, 0, 0, 0, 0), (18, .if_icmp .ge 15, 3, 33, 0, 0, 0, 0), (21, .aload_n 0, 1, 0, 0, 0, 0, 0), (22, .getfield 58, 3, 6, 8, 229, 0, 0), (25, .getfield 244, 3, 1, 1, 211, 1, 0), (28, .iload_n 1, 1, 0, 0, 0, 0, 0), (29, .iaload, 1, 0, 0, 0, 0, 0), (30, .goto 5, 3, 35, 0, 0, 0, 0), (33, .ldc 137, 2, 0, 0, 483, 0, -1000000), (35, .ireturn, 1, 0, 0, 0, 0, 0)]
/-- BirchLeaf.count(I)I -/
def vm_p100 : List vm_En := [(0, .iload_n 1, 1, 0, 0, 0, 0, 0), (1, .tableswitch 111 0 7 #[47, 55, 63, 71, 79, 87, 95, 103], 47, 0, 0, 0, 0, 0), (48, .aload_n 0, 1, 0, 0, 0, 0, 0), (49, .getfield 10, 3, 6, 0, 221, 0, 0), (52, .invokevirtual 247, 3, 49, 0, 724, 0, 0), (55, .ireturn, 1, 0, 0, 0, 0, 0), (56, .aload_n 0, 1, 0, 0, 0, 0, 0), (57, .getfield 26, 3, 6, 2, 223, 0, 0), (60, .getfield 115, 3, 3, 0, 83, 1, 0), (63, .ireturn, 1, 0, 0, 0, 0, 0), (64, .aload_n 0, 1, 0, 0, 0, 0, 0), (65, .getfield 26, 3, 6, 2, 223, 0, 0), (68, .getfield 251, 3, 3, 1, 86, 1, 0), (71, .ireturn, 1, 0, 0, 0, 0, 0), (72, .aload_n 0, 1, 0, 0, 0, 0, 0), (73, .getfield 26, 3, 6, 2, 223, 0, 0), (76, .getfield 127, 3, 3, 4, 96, 1, 0), (79, .ireturn, 1, 0, 0, 0, 0, 0), (80, .aload_n 0, 1, 0, 0, 0, 0, 0), (81, .getfield 44, 3, 6, 6, 227, 0, 0), (84, .getfield 158, 3, 0, 1, 149, 1, 0), (87, .ireturn, 1, 0, 0, 0, 0, 0), (88, .aload_n 0, 1, 0, 0, 0, 0, 0), (89, .getfield 26, 3, 6, 2, 223, 0, 0), (92, .getfield 130, 3, 3, 2, 91, 1, 0), (95, .ireturn, 1, 0, 0, 0, 0, 0), (96, .aload_n 0, 1, 0, 0, 0, 0, 0), (97, .getfield 26, 3, 6, 2, 223, 0, 0), (100, .getfield 124, 3, 3, 5, 100, 1, 0), (103, .ireturn, 1, 0, 0, 0, 0, 0), (104, .aload_n 0, 1, 0, 0, 0, 0, 0), (105, .getfield 19, 3, 6, 1, 222, 0, 0), (108, .getfield 254, 3, 5, 1, 48, 1, 0), (111, .ireturn, 1, 0, 0, 0, 0, 0), (112, .ldc 66, 2, 0, 0, 259, 0, -1000001), (114, .ireturn, 1, 0, 0, 0, 0, 0)]
/-- BirchLeaf.status()I -/
def vm_p101 : List vm_En := [(0, .aload_n 0, 1, 0, 0, 0, 0, 0), (1, .getfield 71, 3, 6, 9, 230, 0, 0), (4, .ireturn, 1, 0, 0, 0, 0, 0)]
/-- BirchLeaf.find(I)I -/
def vm_p102 : List vm_En := [(0, .aload_n 0, 1, 0, 0, 0, 0, 0), (1, .iload_n 1, 1, 0, 0, 0, 0, 0), (2, .putfield 71, 3, 6, 9, 230, 0, 0), (5, .ldc 255, 2, 0, 0, 264, 0, -1000010), (7, .iload_n 1, 1, 0, 0, 0, 0, 0), (8, .isub, 1, 0, 0, 0, 0, 0), (9, .ireturn, 1, 0, 0, 0, 0, 0)]
/-- BirchLeaf.imageOf(I)LBirchLeaf$Hill; -/
def vm_p103 : List vm_En := [(0, .iload_n 1, 1, 0, 0, 0, 0, 0), (1, .ifCond .ne 10, 3, 11, 0, 0, 0, 0), (4, .aload_n 0, 1, 0, 0, 0, 0, 0), (5, .getfield 33, 3, 6, 4, 225, 0, 0), (8, .goto 7, 3, 15, 0, 0, 0, 0), (11, .aload_n 0, 1, 0, 0, 0, 0, 0), (12, .getfield 36, 3, 6, 5, 226, 0, 0), (15, .areturn, 1, 0, 0, 0, 0, 0)]
/-- BirchLeaf.isRow(I)Z -/
def vm_p104 : List vm_En := [(0, .iload_n 0, 1, 0, 0, 0, 0, 0), (1, .ifCond .lt 13, 3, 14, 0, 0, 0, 0), (4, .iload_n 0, 1, 0, 0, 0, 0, 0), (5, .bipush 8, 2, 0, 0, 0, 0, 0), (7, .if_icmp .ge 7, 3, 14, 0, 0, 0, 0), (10, .iconst 1, 1, 0, 0, 0, 0, 0), (11, .goto 4, 3, 15, 0, 0, 0, 0), (14, .iconst 0, 1, 0, 0, 0, 0, 0), (15, .ireturn, 1, 0, 0, 0, 0, 0)]
/-- BirchLeaf.isMinute(I)Z -/
def vm_p105 : List vm_En := [(0, .iload_n 0, 1, 0, 0, 0, 0, 0), (1, .ifCond .lt 13, 3, 14, 0, 0, 0, 0), (4, .iload_n 0, 1, 0, 0, 0, 0, 0), (5, .bipush 60, 2, 0, 0, 0, 0, 0), (7, .if_icmp .gt 7, 3, 14, 0, 0, 0, 0), (10, .iconst 1, 1, 0, 0, 0, 0, 0), (11, .goto 4, 3, 15, 0, 0, 0, 0), (14, .iconst 0, 1, 0, 0, 0, 0, 0), (15, .ireturn, 1, 0, 0, 0, 0, 0)]
/-- BirchLeaf.isOne(II)Z -/
def vm_p106 : List vm_En := [(0, .iload_n 1, 1, 0, 0, 0, 0, 0), (1, .tableswitch 74 0 4 #[35, 37, 74, 74, 58], 35, 0, 0, 0, 0, 0), (36, .iconst 1, 1, 0, 0, 0, 0, 0), (37, .ireturn, 1, 0, 0, 0, 0, 0), (38, .iload_n 0, 1, 0, 0, 0, 0, 0), (39, .iconst 1, 1, 0, 0, 0, 0, 0), (40, .if_icmp .eq 13, 3, 53, 0, 0, 0, 0), (43, .iload_n 0, 1, 0, 0, 0, 0, 0), (44, .iconst 2, 1, 0, 0, 0, 0, 0), (45, .if_icmp .eq 8, 3, 53, 0, 0, 0, 0), (48, .iload_n 0, 1, 0, 0, 0, 0, 0), (49, .iconst 3, 1, 0, 0, 0, 0, 0), (50, .if_icmp .ne 7, 3, 57, 0, 0, 0, 0), (53, .iconst 1, 1, 0, 0, 0, 0, 0), (54, .goto 4, 3, 58, 0, 0, 0, 0), (57, .iconst 0, 1, 0, 0, 0, 0, 0), (58, .ireturn, 1, 0, 0, 0, 0, 0), (59, .iload_n 0, 1, 0, 0, 0, 0, 0), (60, .iconst 4, 1, 0, 0, 0, 0, 0), (61, .if_icmp .eq 8, 3, 69, 0, 0, 0, 0), (64, .iload_n 0, 1, 0, 0, 0, 0, 0), (65, .iconst 5, 1, 0, 0, 0, 0, 0), (66, .if_icmp .ne 7, 3, 73, 0, 0, 0, 0), (69, .iconst 1, 1, 0, 0, 0, 0, 0), (70, .goto 4, 3, 74, 0, 0, 0, 0), (73, .iconst 0, 1, 0, 0, 0, 0, 0), (74, .ireturn, 1, 0, 0, 0, 0, 0), (75, .iload_n 0, 1, 0, 0, 0, 0, 0), (76, .iload_n 1, 1, 0, 0, 0, 0, 0), (77, .if_icmp .ne 7, 3, 84, 0, 0, 0, 0), (80, .iconst 1, 1, 0, 0, 0, 0, 0), (81, .goto 4, 3, 85, 0, 0, 0, 0), (84, .iconst 0, 1, 0, 0, 0, 0, 0), (85, .ireturn, 1, 0, 0, 0, 0, 0)]
/-- BirchLeafModel.<init>()V -/
def vm_p107 : List vm_En := [(0, .aload_n 0, 1, 0, 0, 0, 0, 0), (1, .invokespecial 1, 3, 1001, 0, 737, 0, 0), (4, .aload_n 0, 1, 0, 0, 0, 0, 0), (5, .bipush 8, 2, 0, 0, 0, 0, 0), (7, .newarray .int, 2, 0, 0, 0, 0, 0), (9, .dup, 1, 0, 0, 0, 0, 0), (10, .iconst 0, 1, 0, 0, 0, 0, 0), (11, .iconst (-1), 1, 0, 0, 0, 0, 0), (12, .iastore, 1, 0, 0, 0, 0, 0), (13, .dup, 1, 0, 0, 0, 0, 0), (14, .iconst 1, 1, 0, 0, 0, 0, 0), (15, .iconst (-1), 1, 0, 0, 0, 0, 0), (16, .iastore, 1, 0, 0, 0, 0, 0), (17, .dup, 1, 0, 0, 0, 0, 0), (18, .iconst 2, 1, 0, 0, 0, 0, 0), (19, .iconst (-1), 1, 0, 0, 0, 0, 0), (20, .iastore, 1, 0, 0, 0, 0, 0), (21, .dup, 1, 0, 0, 0, 0, 0), (22, .iconst 3, 1, 0, 0, 0, 0, 0), (23, .iconst (-1), 1, 0, 0, 0, 0, 0), (24, .iastore, 1, 0, 0, 0, 0, 0), (25, .dup, 1, 0, 0, 0, 0, 0), (26, .iconst 4, 1, 0, 0, 0, 0, 0), (27, .iconst (-1), 1, 0, 0, 0, 0, 0), (28, .iastore, 1, 0, 0, 0, 0, 0), (29, .dup, 1, 0, 0, 0, 0, 0), (30, .iconst 5, 1, 0, 0, 0, 0, 0), (31, .iconst (-1), 1, 0, 0, 0, 0, 0), (32, .iastore, 1, 0, 0, 0, 0, 0), (33, .dup, 1, 0, 0, 0, 0, 0), (34, .bipush 6, 2, 0, 0, 0, 0, 0), (36, .iconst (-1), 1, 0, 0, 0, 0, 0), (37, .iastore, 1, 0, 0, 0, 0, 0), (38, .dup, 1, 0, 0, 0, 0, 0), (39, .bipush 7, 2, 0, 0, 0, 0, 0), (41, .iconst (-1), 1, 0, 0, 0, 0, 0), (42, .iastore, 1, 0, 0, 0, 0, 0), (43, .putfield 7, 3, 7, 2, 740, 2, 0), (46, .aload_n 0, 1, 0, 0, 0, 0, 0), (47, .bipush 8, 2, 0, 0, 0, 0, 0), (49, .newarray .int, 2, 0, 0, 0, 0, 0), (51, .putfield 13, 3, 7, 3, 741, 2, 0), (54, .aload_n 0, 1, 0, 0, 0, 0, 0), (55, .sipush 320, 3, 0, 0, 0, 0, 0), (58, .newarray .int, 2, 0, 0, 0, 0, 0), (60, .putfield 16, 3, 7, 4, 742, 2, 0), (63, .aload_n 0, 1, 0, 0, 0, 0, 0), (64, .bipush 70, 2, 0, 0, 0, 0, 0), (66, .newarray .int, 2, 0, 0, 0, 0, 0), (68, .putfield 19, 3, 7, 5, 743, 2, 0), (71, .aload_n 0, 1, 0, 0, 0, 0, 0), (72, .bipush 70, 2, 0, 0, 0, 0, 0), (74, .newarray .int, 2, 0, 0, 0, 0, 0), (76, .putfield 22, 3, 7, 6, 744, 2, 0), (79, .aload_n 0, 1, 0, 0, 0, 0, 0), (80, .sipush 1680, 3, 0, 0, 0, 0, 0), (83, .newarray .int, 2, 0, 0, 0, 0, 0), (85, .putfield 25, 3, 7, 7, 745, 2, 0), (88, .aload_n 0, 1, 0, 0, 0, 0, 0), (89, .sipush 400, 3, 0, 0, 0, 0, 0), (92, .newarray .int, 2, 0, 0, 0, 0, 0), (94, .putfield 28, 3, 7, 9, 747, 2, 0), (97, .aload_n 0, 1, 0, 0, 0, 0, 0), (98, .sipush 372, 3, 0, 0, 0, 0, 0), (101, .newarray .int, 2, 0, 0, 0, 0, 0), (103, .putfield 31, 3, 7, 19, 757, 2, 0), (106, .aload_n 0, 1, 0, 0, 0, 0, 0), (107, .sipush 372, 3, 0, 0, 0, 0, 0), (110, .newarray .int, 2, 0, 0, 0, 0, 0), (112, .putfield 34, 3, 7, 20, 758, 2, 0), (115, .aload_n 0, 1, 0, 0, 0, 0, 0), (116, .sipush 372, 3, 0, 0, 0, 0, 0), (119, .newarray .int, 2, 0, 0, 0, 0, 0), (121, .putfield 37, 3, 7, 21, 759, 2, 0), (124, .aload_n 0, 1, 0, 0, 0, 0, 0), (125, .bipush 61, 2, 0, 0, 0, 0, 0), (127, .newarray .int, 2, 0, 0, 0, 0, 0), (129, .putfield 40, 3, 7, 23, 761, 2, 0), (132, .aload_n 0, 1, 0, 0, 0, 0, 0), (133, .sipush 366, 3, 0, 0, 0, 0, 0), (136, .newarray .boolean, 2, 0, 0, 0, 0, 0), (138, .putfield 43, 3, 7, 24, 762, 2, 0), (141, .aload_n 0, 1, 0, 0, 0, 0, 0), (142, .sipush 366, 3, 0, 0, 0, 0, 0), (145, .newarray .boolean, 2, 0, 0, 0, 0, 0), (147, .putfield 47, 3, 7, 25, 763, 2, 0), (150, .aload_n 0, 1, 0, 0, 0, 0, 0), (151, .iconst 2, 1, 0, 0, 0, 0, 0), (152, .newarray .boolean, 2, 0, 0, 0, 0, 0), (154, .putfield 50, 3, 7, 26, 764, 2, 0), (157, .aload_n 0, 1, 0, 0, 0, 0, 0), (158, .sipush 140, 3, 0, 0, 0, 0, 0), (161, .newarray .int, 2, 0, 0, 0, 0, 0), (163, .putfield 53, 3, 7, 27, 765, 2, 0), (166, .aload_n 0, 1, 0, 0, 0, 0, 0), (167, .bipush 16, 2, 0, 0, 0, 0, 0), (169, .newarray .int, 2, 0, 0, 0, 0, 0), (171, .putfield 56, 3, 7, 28, 766, 2, 0), (174, .return_, 1, 0, 0, 0, 0, 0)]
/-- BirchLeafModel.in(JJJ)Z -/
def vm_p108 : List vm_En := [(0, .lload_n 0, 1, 0, 0, 0, 0, 0), (1, .lload_n 2, 1, 0, 0, 0, 0, 0), (2, .lcmp, 1, 0, 0, 0, 0, 0), (3, .ifCond .lt 14, 3, 17, 0, 0, 0, 0), (6, .lload_n 0, 1, 0, 0, 0, 0, 0), (7, .lload 4, 2, 0, 0, 0, 0, 0), (9, .lcmp, 1, 0, 0, 0, 0, 0), (10, .ifCond .gt 7, 3, 17, 0, 0, 0, 0), (13, .iconst 1, 1, 0, 0, 0, 0, 0), (14, .goto 4, 3, 18, 0, 0, 0, 0), (17, .iconst 0, 1, 0, 0, 0, 0, 0), (18, .ireturn, 1, 0, 0, 0, 0, 0)]
/-- BirchLeafModel.finding(I)I -/
def vm_p109 : List vm_En := [(0, .aload_n 0, 1, 0, 0, 0, 0, 0), (1, .iload_n 1, 1, 0, 0, 0, 0, 0), (2, .putfield 63, 3, 7, 1, 739, 0, 0), (5, .ldc 66, 2, 0, 0, 847, 0, -1000010), (7, .iload_n 1, 1, 0, 0, 0, 0, 0), (8, .isub, 1, 0, 0, 0, 0, 0), (9, .ireturn, 1, 0, 0, 0, 0, 0)]
/-- BirchLeafModel.isRow(I)Z -/
def vm_p110 : List vm_En := [(0, .iload_n 0, 1, 0, 0, 0, 0, 0), (1, .i2l, 1, 0, 0, 0, 0, 0), (2, .lconst 0, 1, 0, 0, 0, 0, 0), (3, .ldc2_w 67, 3, 0, 0, 837, 0, 7), (6, .invokestatic 69, 3, 108, 0, 838, 0, 0), (9, .ireturn, 1, 0, 0, 0, 0, 0)]
/-- BirchLeafModel.row(III)I -/
def vm_p111 : List vm_En := [(0, .aload_n 0, 1, 0, 0, 0, 0, 0), (1, .iconst 0, 1, 0, 0, 0, 0, 0), (2, .putfield 59, 3, 7, 0, 738, 0, 0), (5, .iload_n 1, 1, 0, 0, 0, 0, 0), (6, .invokestatic 73, 3, 110, 0, 834, 0, 0), (9, .ifCond .eq 21, 3, 30, 0, 0, 0, 0), (12, .iload_n 2, 1, 0, 0, 0, 0, 0), (13, .i2l, 1, 0, 0, 0, 0, 0), (14, .lconst 0, 1, 0, 0, 0, 0, 0), (15, .ldc2_w 77, 3, 0, 0, 841, 0, 2), (18, .invokestatic 69, 3, 108, 0, 838, 0, 0), (21, .ifCond .eq 9, 3, 30, 0, 0, 0, 0), (24, .iload_n 3, 1, 0, 0, 0, 0, 0), (25, .bipush 40, 2, 0, 0, 0, 0, 0), (27, .if_icmp .le 6, 3, 33, 0, 0, 0, 0), (30, .ldc 79, 2, 0, 0, 842, 0, -1000001), (32, .ireturn, 1, 0, 0, 0, 0, 0), (33, .aload_n 0, 1, 0, 0, 0, 0, 0), (34, .iconst 0, 1, 0, 0, 0, 0, 0), (35, .putfield 63, 3, 7, 1, 739, 0, 0), (38, .iload_n 3, 1, 0, 0, 0, 0, 0), (39, .ifCond .ge 9, 3, 48, 0, 0, 0, 0), (42, .aload_n 0, 1, 0, 0, 0, 0, 0), (43, .iconst 4, 1, 0, 0, 0, 0, 0), (44, .invokevirtual 80, 3, 109, 0, 843, 0, 0), (47, .ireturn, 1, 0, 0, 0, 0, 0), (48, .aload_n 0, 1, 0, 0, 0, 0, 0), (49, .getfield 7, 3, 7, 2, 740, 0, 0), (52, .iload_n 1, 1, 0, 0, 0, 0, 0), (53, .iload_n 2, 1, 0, 0, 0, 0, 0), (54, .iastore, 1, 0, 0, 0, 0, 0), (55, .aload_n 0, 1, 0, 0, 0, 0, 0), (56, .getfield 13, 3, 7, 3, 741, 0, 0), (59, .iload_n 1, 1, 0, 0, 0, 0, 0), (60, .iload_n 3, 1, 0, 0, 0, 0, 0), (61, .iastore, 1, 0, 0, 0, 0, 0), (62, .iconst 0, 1, 0, 0, 0, 0, 0), (63, .istore 4, 2, 0, 0, 0, 0, 0), (65, .iload 4, 2, 0, 0, 0, 0, 0), (67, .bipush 40, 2, 0, 0, 0, 0, 0), (69, .if_icmp .ge 22, 3, 91, 0, 0, 0, 0), (72, .aload_n 0, 1, 0, 0, 0, 0, 0), (73, .getfield 16, 3, 7, 4, 742, 0, 0), (76, .bipush 40, 2, 0, 0, 0, 0, 0), (78, .iload_n 1, 1, 0, 0, 0, 0, 0), (79, .imul, 1, 0, 0, 0, 0, 0), (80, .iload 4, 2, 0, 0, 0, 0, 0), (82, .iadd, 1, 0, 0, 0, 0, 0), (83, .iconst 0, 1, 0, 0, 0, 0, 0), (84, .iastore, 1, 0, 0, 0, 0, 0), (85, .iinc 4 1, 3, 0, 0, 0, 0, 0), (88, .goto (-23), 3, 65, 0, 0, 0, 0), (91, .iload_n 3, 1, 0, 0, 0, 0, 0), (92, .ireturn, 1, 0, 0, 0, 0, 0)]
/-- BirchLeafModel.set(III)I -/
def vm_p112 : List vm_En := [(0, .aload_n 0, 1, 0, 0, 0, 0, 0), (1, .iconst 0, 1, 0, 0, 0, 0, 0), (2, .putfield 59, 3, 7, 0, 738, 0, 0), (5, .iload_n 1, 1, 0, 0, 0, 0, 0), (6, .invokestatic 73, 3, 110, 0, 834, 0, 0), (9, .ifCond .ne 6, 3, 15, 0, 0, 0, 0), (12, .ldc 79, 2, 0, 0, 842, 0, -1000001), (14, .ireturn, 1, 0, 0, 0, 0, 0), (15, .aload_n 0, 1, 0, 0, 0, 0, 0), (16, .iconst 0, 1, 0, 0, 0, 0, 0), (17, .putfield 63, 3, 7, 1, 739, 0, 0), (20, .aload_n 0, 1, 0, 0, 0, 0, 0), (21, .getfield 7, 3, 7, 2, 740, 0, 0), (24, .iload_n 1, 1, 0, 0, 0, 0, 0), (25, .iaload, 1, 0, 0, 0, 0, 0), (26, .ifCond .ge 9, 3, 35, 0, 0, 0, 0), (29, .aload_n 0, 1, 0, 0, 0, 0, 0), (30, .iconst 1, 1, 0, 0, 0, 0, 0), (31, .invokevirtual 80, 3, 109, 0, 843, 0, 0), (34, .ireturn, 1, 0, 0, 0, 0, 0), (35, .iload_n 2, 1, 0, 0, 0, 0, 0), (36, .i2l, 1, 0, 0, 0, 0, 0), (37, .lconst 0, 1, 0, 0, 0, 0, 0), (38, .aload_n 0, 1, 0, 0, 0, 0, 0), (39, .getfield 13, 3, 7, 3, 741, 0, 0), (42, .iload_n 1, 1, 0, 0, 0, 0, 0), (43, .iaload, 1, 0, 0, 0, 0, 0), (44, .iconst 1, 1, 0, 0, 0, 0, 0), (45, .isub, 1, 0, 0, 0, 0, 0), (46, .i2l, 1, 0, 0, 0, 0, 0), (47, .invokestatic 69, 3, 108, 0, 838, 0, 0), (50, .ifCond .ne 9, 3, 59, 0, 0, 0, 0), (53, .aload_n 0, 1, 0, 0, 0, 0, 0), (54, .iconst 2, 1, 0, 0, 0, 0, 0), (55, .invokevirtual 80, 3, 109, 0, 843, 0, 0), (58, .ireturn, 1, 0, 0, 0, 0, 0), (59, .aload_n 0, 1, 0, 0, 0, 0, 0), (60, .getfield 16, 3, 7, 4, 742, 0, 0), (63, .bipush 40, 2, 0, 0, 0, 0, 0), (65, .iload_n 1, 1, 0, 0, 0, 0, 0), (66, .imul, 1, 0, 0, 0, 0, 0), (67, .iload_n 2, 1, 0, 0, 0, 0, 0), (68, .iadd, 1, 0, 0, 0, 0, 0), (69, .aload_n 0, 1, 0, 0, 0, 0, 0), (70, .getfield 7, 3, 7, 2, 740, 0, 0), (73, .iload_n 1, 1, 0, 0, 0, 0, 0), (74, .iaload, 1, 0, 0, 0, 0, 0), (75, .ifCond .ne 8, 3, 83, 0, 0, 0, 0), (78, .iload_n 3, 1, 0, 0, 0, 0, 0), (79, .i2b, 1, 0, 0, 0, 0, 0), (80, .goto 19, 3, 99, 0, 0, 0, 0), (83, .aload_n 0, 1, 0, 0, 0, 0, 0), (84, .getfield 7, 3, 7, 2, 740, 0, 0), (87, .iload_n 1, 1, 0, 0, 0, 0, 0), (88, .iaload, 1, 0, 0, 0, 0, 0), (89, .iconst 1, 1, 0, 0, 0, 0, 0), (90, .if_icmp .ne 8, 3, 98, 0, 0, 0, 0), (93, .iload_n 3, 1, 0, 0, 0, 0, 0), (94, .i2s, 1, 0, 0, 0, 0, 0), (95, .goto 4, 3, 99, 0, 0, 0, 0), (98, .iload_n 3, 1, 0, 0, 0, 0, 0), (99, .iastore, 1, 0, 0, 0, 0, 0), (100, .aload_n 0, 1, 0, 0, 0, 0, 0), (101, .getfield 16, 3, 7, 4, 742, 0, 0), (104, .bipush 40, 2, 0, 0, 0, 0, 0), (106, .iload_n 1, 1, 0, 0, 0, 0, 0), (107, .imul, 1, 0, 0, 0, 0, 0), (108, .iload_n 2, 1, 0, 0, 0, 0, 0), (109, .iadd, 1, 0, 0, 0, 0, 0), (110, .iaload, 1, 0, 0, 0, 0, 0), (111, .ireturn, 1, 0, 0, 0, 0, 0)]
/-- BirchLeafModel.copy(IIIII)I -/
def vm_p113 : List vm_En := [(0, .aload_n 0, 1, 0, 0, 0, 0, 0), (1, .iconst 0, 1, 0, 0, 0, 0, 0), (2, .putfield 59, 3, 7, 0, 738, 0, 0), (5, .iload_n 1, 1, 0, 0, 0, 0, 0), (6, .invokestatic 73, 3, 110, 0, 834, 0, 0), (9, .ifCond .eq 10, 3, 19, 0, 0, 0, 0), (12, .iload_n 3, 1, 0, 0, 0, 0, 0), (13, .invokestatic 73, 3, 110, 0, 834, 0, 0), (16, .ifCond .ne 6, 3, 22, 0, 0, 0, 0), (19, .ldc 79, 2, 0, 0, 842, 0, -1000001), (21, .ireturn, 1, 0, 0, 0, 0, 0), (22, .aload_n 0, 1, 0, 0, 0, 0, 0), (23, .iconst 0, 1, 0, 0, 0, 0, 0), (24, .putfield 63, 3, 7, 1, 739, 0, 0), (27, .aload_n 0, 1, 0, 0, 0, 0, 0), (28, .getfield 7, 3, 7, 2, 740, 0, 0), (31, .iload_n 1, 1, 0, 0, 0, 0, 0), (32, .iaload, 1, 0, 0, 0, 0, 0), (33, .ifCond .lt 12, 3, 45, 0, 0, 0, 0), (36, .aload_n 0, 1, 0, 0, 0, 0, 0), (37, .getfield 7, 3, 7, 2, 740, 0, 0), (40, .iload_n 3, 1, 0, 0, 0, 0, 0), (41, .iaload, 1, 0, 0, 0, 0, 0), (42, .ifCond .ge 9, 3, 51, 0, 0, 0, 0), (45, .aload_n 0, 1, 0, 0, 0, 0, 0), (46, .iconst 1, 1, 0, 0, 0, 0, 0), (47, .invokevirtual 80, 3, 109, 0, 843, 0, 0), (50, .ireturn, 1, 0, 0, 0, 0, 0), (51, .aload_n 0, 1, 0, 0, 0, 0, 0), (52, .getfield 7, 3, 7, 2, 740, 0, 0), (55, .iload_n 1, 1, 0, 0, 0, 0, 0), (56, .iaload, 1, 0, 0, 0, 0, 0), (57, .aload_n 0, 1, 0, 0, 0, 0, 0), (58, .getfield 7, 3, 7, 2, 740, 0, 0), (61, .iload_n 3, 1, 0, 0, 0, 0, 0), (62, .iaload, 1, 0, 0, 0, 0, 0), (63, .if_icmp .eq 9, 3, 72, 0, 0, 0, 0), (66, .aload_n 0, 1, 0, 0, 0, 0, 0), (67, .iconst 5, 1, 0, 0, 0, 0, 0), (68, .invokevirtual 80, 3, 109, 0, 843, 0, 0), (71, .ireturn, 1, 0, 0, 0, 0, 0), (72, .iload_n 2, 1, 0, 0, 0, 0, 0), (73, .ifCond .lt 48, 3, 121, 0, 0, 0, 0), (76, .iload 4, 2, 0, 0, 0, 0, 0), (78, .ifCond .lt 43, 3, 121, 0, 0, 0, 0), (81, .iload 5, 2, 0, 0, 0, 0, 0), (83, .ifCond .lt 38, 3, 121, 0, 0, 0, 0), (86, .iload_n 2, 1, 0, 0, 0, 0, 0), (87, .i2l, 1, 0, 0, 0, 0, 0), (88, .iload 5, 2, 0, 0, 0, 0, 0), (90, .i2l, 1, 0, 0, 0, 0, 0), (91, .ladd, 1, 0, 0, 0, 0, 0), (92, .aload_n 0, 1, 0, 0, 0, 0, 0), (93, .getfield 13, 3, 7, 3, 741, 0, 0), (96, .iload_n 1, 1, 0, 0, 0, 0, 0), (97, .iaload, 1, 0, 0, 0, 0, 0), (98, .i2l, 1, 0, 0, 0, 0, 0), (99, .lcmp, 1, 0, 0, 0, 0, 0), (100, .ifCond .gt 21, 3, 121, 0, 0, 0, 0), (103, .iload 4, 2, 0, 0, 0, 0, 0), (105, .i2l, 1, 0, 0, 0, 0, 0), (106, .iload 5, 2, 0, 0, 0, 0, 0), (108, .i2l, 1, 0, 0, 0, 0, 0), (109, .ladd, 1, 0, 0, 0, 0, 0), (110, .aload_n 0, 1, 0, 0, 0, 0, 0), (111, .getfield 13, 3, 7, 3, 741, 0, 0), (114, .iload_n 3, 1, 0, 0, 0, 0, 0), (115, .iaload, 1, 0, 0, 0, 0, 0), (116, .i2l, 1, 0, 0, 0, 0, 0), (117, .lcmp, 1, 0, 0, 0, 0, 0), (118, .ifCond .le 9, 3, 127, 0, 0, 0, 0), (121, .aload_n 0, 1, 0, 0, 0, 0, 0), (122, .iconst 2, 1, 0, 0, 0, 0, 0), (123, .invokevirtual 80, 3, 109, 0, 843, 0, 0), (126, .ireturn, 1, 0, 0, 0, 0, 0), (127, .iload_n 2, 1, 0, 0, 0, 0, 0), (128, .iload 4, 2, 0, 0, 0, 0, 0), (130, .if_icmp .lt 7, 3, 137, 0, 0, 0, 0), (133, .iconst 1, 1, 0, 0, 0, 0, 0), (134, .goto 4, 3, 138, 0, 0, 0, 0), (137, .iconst 0, 1, 0, 0, 0, 0, 0), (138, .istore 6, 2, 0, 0, 0, 0, 0), (140, .iconst 0, 1, 0, 0, 0, 0, 0), (141, .istore 7, 2, 0, 0, 0, 0, 0), (143, .iload 7, 2, 0, 0, 0, 0, 0), (145, .iload 5, 2, 0, 0, 0, 0, 0), (147, .if_icmp .ge 57, 3, 204, 0, 0, 0, 0), (150, .iload 6, 2, 0, 0, 0, 0, 0), (152, .ifCond .eq 8, 3, 160, 0, 0, 0, 0), (155, .iload 7, 2, 0, 0, 0, 0, 0), (157, .goto 10, 3, 167, 0, 0, 0, 0), (160, .iload 5, 2, 0, 0, 0, 0, 0), (162, .iconst 1, 1, 0, 0, 0, 0, 0), (163, .isub, 1, 0, 0, 0, 0, 0), (164, .iload 7, 2, 0, 0, 0, 0, 0), (166, .isub, 1, 0, 0, 0, 0, 0), (167, .istore 8, 2, 0, 0, 0, 0, 0), (169, .aload_n 0, 1, 0, 0, 0, 0, 0), (170, .getfield 16, 3, 7, 4, 742, 0, 0), (173, .bipush 40, 2, 0, 0, 0, 0, 0), (175, .iload_n 3, 1, 0, 0, 0, 0, 0), (176, .imul, 1, 0, 0, 0, 0, 0), (177, .iload 4, 2, 0, 0, 0, 0, 0), (179, .iadd, 1, 0, 0, 0, 0, 0), (180, .iload 8, 2, 0, 0, 0, 0, 0), (182, .iadd, 1, 0, 0, 0, 0, 0), (183, .aload_n 0, 1, 0, 0, 0, 0, 0), (184, .getfield 16, 3, 7, 4, 742, 0, 0), (187, .bipush 40, 2, 0, 0, 0, 0, 0), (189, .iload_n 1, 1, 0, 0, 0, 0, 0), (190, .imul, 1, 0, 0, 0, 0, 0), (191, .iload_n 2, 1, 0, 0, 0, 0, 0), (192, .iadd, 1, 0, 0, 0, 0, 0), (193, .iload 8, 2, 0, 0, 0, 0, 0), (195, .iadd, 1, 0, 0, 0, 0, 0), (196, .iaload, 1, 0, 0, 0, 0, 0), (197, .iastore, 1, 0, 0, 0, 0, 0), (198, .iinc 7 1, 3, 0, 0, 0, 0, 0), (201, .goto (-58), 3, 143, 0, 0, 0, 0), (204, .iload 5, 2, 0, 0, 0, 0, 0), (206, .ireturn, 1, 0, 0, 0, 0, 0)]
/-- BirchLeafModel.drop(I)I -/
def vm_p114 : List vm_En := [(0, .aload_n 0, 1, 0, 0, 0, 0, 0), (1, .iconst 0, 1, 0, 0, 0, 0, 0), (2, .putfield 59, 3, 7, 0, 738, 0, 0), (5, .iload_n 1, 1, 0, 0, 0, 0, 0), (6, .invokestatic 73, 3, 110, 0, 834, 0, 0), (9, .ifCond .ne 6, 3, 15, 0, 0, 0, 0), (12, .ldc 79, 2, 0, 0, 842, 0, -1000001), (14, .ireturn, 1, 0, 0, 0, 0, 0), (15, .aload_n 0, 1, 0, 0, 0, 0, 0), (16, .iconst 0, 1, 0, 0, 0, 0, 0), (17, .putfield 63, 3, 7, 1, 739, 0, 0), (20, .aload_n 0, 1, 0, 0, 0, 0, 0), (21, .getfield 7, 3, 7, 2, 740, 0, 0), (24, .iload_n 1, 1, 0, 0, 0, 0, 0), (25, .iaload, 1, 0, 0, 0, 0, 0), (26, .ifCond .ge 9, 3, 35, 0, 0, 0, 0), (29, .aload_n 0, 1, 0, 0, 0, 0, 0), (30, .iconst 1, 1, 0, 0, 0, 0, 0), (31, .invokevirtual 80, 3, 109, 0, 843, 0, 0), (34, .ireturn, 1, 0, 0, 0, 0, 0), (35, .aload_n 0, 1, 0, 0, 0, 0, 0), (36, .getfield 7, 3, 7, 2, 740, 0, 0), (39, .iload_n 1, 1, 0, 0, 0, 0, 0), (40, .iconst (-1), 1, 0, 0, 0, 0, 0), (41, .iastore, 1, 0, 0, 0, 0, 0), (42, .aload_n 0, 1, 0, 0, 0, 0, 0), (43, .getfield 13, 3, 7, 3, 741, 0, 0), (46, .iload_n 1, 1, 0, 0, 0, 0, 0), (47, .iaload, 1, 0, 0, 0, 0, 0), (48, .ireturn, 1, 0, 0, 0, 0, 0)]
/-- BirchLeafModel.feed(JI)I -/
def vm_p115 : List vm_En := [(0, .aload_n 0, 1, 0, 0, 0, 0, 0), (1, .iconst 0, 1, 0, 0, 0, 0, 0), (2, .putfield 59, 3, 7, 0, 738, 0, 0), (5, .iload_n 3, 1, 0, 0, 0, 0, 0), (6, .i2l, 1, 0, 0, 0, 0, 0), (7, .lconst 1, 1, 0, 0, 0, 0, 0), (8, .ldc2_w 84, 3, 0, 0, 864, 0, 8), (11, .invokestatic 69, 3, 108, 0, 838, 0, 0), (14, .ifCond .ne 6, 3, 20, 0, 0, 0, 0), (17, .ldc 79, 2, 0, 0, 842, 0, -1000001), (19, .ireturn, 1, 0, 0, 0, 0, 0), (20, .aload_n 0, 1, 0, 0, 0, 0, 0), (21, .getfield 86, 3, 7, 10, 748, 0, 0), (24, .iload_n 3, 1, 0, 0, 0, 0, 0), (25, .iadd, 1, 0, 0, 0, 0, 0), (26, .sipush 400, 3, 0, 0, 0, 0, 0), (29, .if_icmp .le 6, 3, 35, 0, 0, 0, 0), (32, .ldc 89, 2, 0, 0, 865, 0, -1000003), (34, .ireturn, 1, 0, 0, 0, 0, 0), (35, .iload_n 3, 1, 0, 0, 0, 0, 0), (36, .iconst 1, 1, 0, 0, 0, 0, 0), (37, .isub, 1, 0, 0, 0, 0, 0), (38, .istore 4, 2, 0, 0, 0, 0, 0), (40, .iload 4, 2, 0, 0, 0, 0, 0), (42, .ifCond .lt 40, 3, 82, 0, 0, 0, 0), (45, .aload_n 0, 1, 0, 0, 0, 0, 0), (46, .getfield 28, 3, 7, 9, 747, 0, 0), (49, .aload_n 0, 1, 0, 0, 0, 0, 0), (50, .getfield 86, 3, 7, 10, 748, 0, 0), (53, .lload_n 1, 1, 0, 0, 0, 0, 0), (54, .bipush 8, 2, 0, 0, 0, 0, 0), (56, .iload 4, 2, 0, 0, 0, 0, 0), (58, .imul, 1, 0, 0, 0, 0, 0), (59, .lshr, 1, 0, 0, 0, 0, 0), (60, .ldc2_w 90, 3, 0, 0, 866, 0, 255), (63, .land, 1, 0, 0, 0, 0, 0), (64, .l2i, 1, 0, 0, 0, 0, 0), (65, .iastore, 1, 0, 0, 0, 0, 0), (66, .aload_n 0, 1, 0, 0, 0, 0, 0), (67, .dup, 1, 0, 0, 0, 0, 0), (68, .getfield 86, 3, 7, 10, 748, 0, 0), (71, .iconst 1, 1, 0, 0, 0, 0, 0), (72, .iadd, 1, 0, 0, 0, 0, 0), (73, .putfield 86, 3, 7, 10, 748, 0, 0), (76, .iinc 4 (-1), 3, 0, 0, 0, 0, 0), (79, .goto (-39), 3, 40, 0, 0, 0, 0), (82, .aload_n 0, 1, 0, 0, 0, 0, 0), (83, .getfield 86, 3, 7, 10, 748, 0, 0), (86, .ireturn, 1, 0, 0, 0, 0, 0)]
/-- BirchLeafModel.byteAt(I)I -/
def vm_p116 : List vm_En := [(0, .iload_n 1, 1, 0, 0, 0, 0, 0), (1, .aload_n 0, 1, 0, 0, 0, 0, 0), (2, .getfield 92, 3, 7, 12, 750, 0, 0), (5, .if_icmp .ge 12, 3, 17, 0, 0, 0, 0), (8, .aload_n 0, 1, 0, 0, 0, 0, 0), (9, .getfield 28, 3, 7, 9, 747, 0, 0), (12, .iload_n 1, 1, 0, 0, 0, 0, 0), (13, .iaload, 1, 0, 0, 0, 0, 0), (14, .goto 5, 3, 19, 0, 0, 0, 0), (17, .ldc 95, 2, 0, 0, 883, 0, -1000000), (19, .ireturn, 1, 0, 0, 0, 0, 0)]
/-- BirchLeafModel.isLetter(I)Z -/
def vm_p117 : List vm_En := [(0, .iload_n 0, 1, 0, 0, 0, 0, 0), (1, .bipush 97, 2, 0, 0, 0, 0, 0), (3, .if_icmp .lt 13, 3, 16, 0, 0, 0, 0), (6, .iload_n 0, 1, 0, 0, 0, 0, 0), (7, .bipush 122, 2, 0, 0, 0, 0, 0), (9, .if_icmp .gt 7, 3, 16, 0, 0, 0, 0), (12, .iconst 1, 1, 0, 0, 0, 0, 0), (13, .goto 4, 3, 17, 0, 0, 0, 0), (16, .iconst 0, 1, 0, 0, 0, 0, 0), (17, .ireturn, 1, 0, 0, 0, 0, 0)]
/-- BirchLeafModel.isFigure(I)Z -/
def vm_p118 : List vm_En := [(0, .iload_n 0, 1, 0, 0, 0, 0, 0), (1, .bipush 48, 2, 0, 0, 0, 0, 0), (3, .if_icmp .lt 13, 3, 16, 0, 0, 0, 0), (6, .iload_n 0, 1, 0, 0, 0, 0, 0), (7, .bipush 57, 2, 0, 0, 0, 0, 0), (9, .if_icmp .gt 7, 3, 16, 0, 0, 0, 0), (12, .iconst 1, 1, 0, 0, 0, 0, 0), (13, .goto 4, 3, 17, 0, 0, 0, 0), (16, .iconst 0, 1, 0, 0, 0, 0, 0), (17, .ireturn, 1, 0, 0, 0, 0, 0)]
/-- BirchLeafModel.next()V -/
def vm_p119 : List vm_En := [(0, .aload_n 0, 1, 0, 0, 0, 0, 0), (1, .aload_n 0, 1, 0, 0, 0, 0, 0), (2, .getfield 96, 3, 7, 13, 751, 0, 0), (5, .invokevirtual 99, 3, 116, 0, 879, 0, 0), (8, .bipush 32, 2, 0, 0, 0, 0, 0), (10, .if_icmp .eq 16, 3, 26, 0, 0, 0, 0), (13, .aload_n 0, 1, 0, 0, 0, 0, 0), (14, .aload_n 0, 1, 0, 0, 0, 0, 0), (15, .getfield 96, 3, 7, 13, 751, 0, 0), (18, .invokevirtual 99, 3, 116, 0, 879, 0, 0), (21, .bipush 10, 2, 0, 0, 0, 0, 0), (23, .if_icmp .ne 16, 3, 39, 0, 0, 0, 0), (26, .aload_n 0, 1, 0, 0, 0, 0, 0), (27, .dup, 1, 0, 0, 0, 0, 0), (28, .getfield 96, 3, 7, 13, 751, 0, 0), (31, .iconst 1, 1, 0, 0, 0, 0, 0), (32, .iadd, 1, 0, 0, 0, 0, 0), (33, .putfield 96, 3, 7, 13, 751, 0, 0), (36, .goto (-36), 3, 0, 0, 0, 0, 0), (39, .aload_n 0, 1, 0, 0, 0, 0, 0), (40, .aload_n 0, 1, 0, 0, 0, 0, 0), (41, .getfield 96, 3, 7, 13, 751, 0, 0), (44, .putfield 102, 3, 7, 15, 753, 0, 0), (47, .aload_n 0, 1, 0, 0, 0, 0, 0), (48, .aload_n 0, 1, 0, 0, 0, 0, 0), (49, .getfield 96, 3, 7, 13, 751, 0, 0), (52, .invokevirtual 99, 3, 116, 0, 879, 0, 0), (55, .istore_n 1, 1, 0, 0, 0, 0, 0), (56, .iload_n 1, 1, 0, 0, 0, 0, 0), (57, .ldc 95, 2, 0, 0, 883, 0, -1000000), (59, .if_icmp .ne 11, 3, 70, 0, 0, 0, 0), (62, .aload_n 0, 1, 0, 0, 0, 0, 0), (63, .iconst 1, 1, 0, 0, 0, 0, 0), (64, .putfield 105, 3, 7, 14, 752, 0, 0), (67, .goto 129, 3, 196, 0, 0, 0, 0), (70, .iload_n 1, 1, 0, 0, 0, 0, 0), (71, .invokestatic 108, 3, 117, 0, 884, 0, 0), (74, .ifCond .eq 38, 3, 112, 0, 0, 0, 0), (77, .aload_n 0, 1, 0, 0, 0, 0, 0), (78, .aload_n 0, 1, 0, 0, 0, 0, 0), (79, .getfield 96, 3, 7, 13, 751, 0, 0), (82, .invokevirtual 99, 3, 116, 0, 879, 0, 0), (85, .invokestatic 108, 3, 117, 0, 884, 0, 0), (88, .ifCond .eq 16, 3, 104, 0, 0, 0, 0), (91, .aload_n 0, 1, 0, 0, 0, 0, 0), (92, .dup, 1, 0, 0, 0, 0, 0), (93, .getfield 96, 3, 7, 13, 751, 0, 0), (96, .iconst 1, 1, 0, 0, 0, 0, 0), (97, .iadd, 1, 0, 0, 0, 0, 0), (98, .putfield 96, 3, 7, 13, 751, 0, 0), (101, .goto (-24), 3, 77, 0, 0, 0, 0), (104, .aload_n 0, 1, 0, 0, 0, 0, 0), (105, .iconst 2, 1, 0, 0, 0, 0, 0), (106, .putfield 105, 3, 7, 14, 752, 0, 0), (109, .goto 87, 3, 196, 0, 0, 0, 0), (112, .iload_n 1, 1, 0, 0, 0, 0, 0), (113, .invokestatic 111, 3, 118, 0, 887, 0, 0), (116, .ifCond .eq 55, 3, 171, 0, 0, 0, 0), (119, .aload_n 0, 1, 0, 0, 0, 0, 0), (120, .aload_n 0, 1, 0, 0, 0, 0, 0), (121, .getfield 96, 3, 7, 13, 751, 0, 0), (124, .invokevirtual 99, 3, 116, 0, 879, 0, 0), (127, .invokestatic 111, 3, 118, 0, 887, 0, 0), (130, .ifCond .eq 16, 3, 146, 0, 0, 0, 0), (133, .aload_n 0, 1, 0, 0, 0, 0, 0), (134, .dup, 1, 0, 0, 0, 0, 0), (135, .getfield 96, 3, 7, 13, 751, 0, 0), (138, .iconst 1, 1, 0, 0, 0, 0, 0), (139, .iadd, 1, 0, 0, 0, 0, 0), (140, .putfield 96, 3, 7, 13, 751, 0, 0), (143, .goto (-24), 3, 119, 0, 0, 0, 0), (146, .aload_n 0, 1, 0, 0, 0, 0, 0), (147, .aload_n 0, 1, 0, 0, 0, 0, 0), (148, .getfield 96, 3, 7, 13, 751, 0, 0), (151, .aload_n 0, 1, 0, 0, 0, 0, 0), (152, .getfield 102, 3, 7, 15, 753, 0, 0), (155, .isub, 1, 0, 0, 0, 0, 0), (156, .iconst 3, 1, 0, 0, 0, 0, 0), (157, .if_icmp .le 7, 3, 164, 0, 0, 0, 0), (160, .iconst 0, 1, 0, 0, 0, 0, 0), (161, .goto 4, 3, 165, 0, 0, 0, 0), (164, .iconst 3, 1, 0, 0, 0, 0, 0), (165, .putfield 105, 3, 7, 14, 752, 0, 0), (168, .goto 28, 3, 196, 0, 0, 0, 0), (171, .aload_n 0, 1, 0, 0, 0, 0, 0), (172, .dup, 1, 0, 0, 0, 0, 0), (173, .getfield 96, 3, 7, 13, 751, 0, 0), (176, .iconst 1, 1, 0, 0, 0, 0, 0), (177, .iadd, 1, 0, 0, 0, 0, 0), (178, .putfield 96, 3, 7, 13, 751, 0, 0), (181, .aload_n 0, 1, 0, 0, 0, 0, 0), (182, .iload_n 1, 1, 0, 0, 0, 0, 0), (183, .bipush 59, 2, 0, 0, 0, 0, 0), (185, .if_icmp .ne 7, 3, 192, 0, 0, 0, 0), (188, .iconst 4, 1, 0, 0, 0, 0, 0), (189, .goto 4, 3, 193, 0, 0, 0, 0), (192, .iconst 0, 1, 0, 0, 0, 0, 0), (193, .putfield 105, 3, 7, 14, 752, 0, 0), (196, .aload_n 0, 1, 0, 0, 0, 0, 0), (197, .aload_n 0, 1, 0, 0, 0, 0, 0), (198, .getfield 96, 3, 7, 13, 751, 0, 0), (201, .putfield 114, 3, 7, 16, 754, 0, 0), (204, .return_, 1, 0, 0, 0, 0, 0)]
/-- BirchLeafModel.begin()V -/
def vm_p120 : List vm_En := [(0, .aload_n 0, 1, 0, 0, 0, 0, 0), (1, .aload_n 0, 1, 0, 0, 0, 0, 0), (2, .getfield 86, 3, 7, 10, 748, 0, 0), (5, .putfield 92, 3, 7, 12, 750, 0, 0), (8, .aload_n 0, 1, 0, 0, 0, 0, 0), (9, .iconst 0, 1, 0, 0, 0, 0, 0), (10, .putfield 86, 3, 7, 10, 748, 0, 0), (13, .aload_n 0, 1, 0, 0, 0, 0, 0), (14, .iconst 0, 1, 0, 0, 0, 0, 0), (15, .putfield 96, 3, 7, 13, 751, 0, 0), (18, .aload_n 0, 1, 0, 0, 0, 0, 0), (19, .iconst 0, 1, 0, 0, 0, 0, 0), (20, .putfield 117, 3, 7, 17, 755, 0, 0), (23, .aload_n 0, 1, 0, 0, 0, 0, 0), (24, .invokevirtual 120, 3, 119, 0, 875, 0, 0), (27, .return_, 1, 0, 0, 0, 0, 0)]
/-- BirchLeafModel.bad(I)V -/
def vm_p121 : List vm_En := [(0, .aload_n 0, 1, 0, 0, 0, 0, 0), (1, .getfield 117, 3, 7, 17, 755, 0, 0), (4, .ifCond .ne 16, 3, 20, 0, 0, 0, 0), (7, .aload_n 0, 1, 0, 0, 0, 0, 0), (8, .iload_n 1, 1, 0, 0, 0, 0, 0), (9, .putfield 117, 3, 7, 17, 755, 0, 0), (12, .aload_n 0, 1, 0, 0, 0, 0, 0), (13, .aload_n 0, 1, 0, 0, 0, 0, 0), (14, .getfield 102, 3, 7, 15, 753, 0, 0), (17, .putfield 123, 3, 7, 18, 756, 0, 0), (20, .return_, 1, 0, 0, 0, 0, 0)]
/-- BirchLeafModel.must(Z)V -/
def vm_p122 : List vm_En := [(0, .iload_n 1, 1, 0, 0, 0, 0, 0), (1, .ifCond .ne 8, 3, 9, 0, 0, 0, 0), (4, .aload_n 0, 1, 0, 0, 0, 0, 0), (5, .iconst 1, 1, 0, 0, 0, 0, 0), (6, .invokevirtual 126, 3, 121, 0, 899, 0, 0), (9, .aload_n 0, 1, 0, 0, 0, 0, 0), (10, .getfield 117, 3, 7, 17, 755, 0, 0), (13, .ifCond .ne 7, 3, 20, 0, 0, 0, 0), (16, .aload_n 0, 1, 0, 0, 0, 0, 0), (17, .invokevirtual 120, 3, 119, 0, 875, 0, 0), (20, .return_, 1, 0, 0, 0, 0, 0)]
/-- BirchLeafModel.name()J -/
def vm_p123 : List vm_En := [(0, .lconst 0, 1, 0, 0, 0, 0, 0), (1, .lstore_n 1, 1, 0, 0, 0, 0, 0), (2, .aload_n 0, 1, 0, 0, 0, 0, 0), (3, .getfield 102, 3, 7, 15, 753, 0, 0), (6, .istore_n 3, 1, 0, 0, 0, 0, 0), (7, .iload_n 3, 1, 0, 0, 0, 0, 0), (8, .aload_n 0, 1, 0, 0, 0, 0, 0), (9, .getfield 114, 3, 7, 16, 754, 0, 0), (12, .if_icmp .ge 44, 3, 56, 0, 0, 0, 0), (15, .aload_n 0, 1, 0, 0, 0, 0, 0), (16, .getfield 105, 3, 7, 14, 752, 0, 0), (19, .iconst 2, 1, 0, 0, 0, 0, 0), (20, .if_icmp .ne 36, 3, 56, 0, 0, 0, 0), (23, .aload_n 0, 1, 0, 0, 0, 0, 0), (24, .getfield 114, 3, 7, 16, 754, 0, 0), (27, .aload_n 0, 1, 0, 0, 0, 0, 0), (28, .getfield 102, 3, 7, 15, 753, 0, 0), (31, .isub, 1, 0, 0, 0, 0, 0), (32, .bipush 8, 2, 0, 0, 0, 0, 0), (34, .if_icmp .ge 22, 3, 56, 0, 0, 0, 0), (37, .lload_n 1, 1, 0, 0, 0, 0, 0), (38, .bipush 8, 2, 0, 0, 0, 0, 0), (40, .lshl, 1, 0, 0, 0, 0, 0), (41, .aload_n 0, 1, 0, 0, 0, 0, 0), (42, .getfield 28, 3, 7, 9, 747, 0, 0), (45, .iload_n 3, 1, 0, 0, 0, 0, 0), (46, .iaload, 1, 0, 0, 0, 0, 0), (47, .i2l, 1, 0, 0, 0, 0, 0), (48, .lor, 1, 0, 0, 0, 0, 0), (49, .lstore_n 1, 1, 0, 0, 0, 0, 0), (50, .iinc 3 1, 3, 0, 0, 0, 0, 0), (53, .goto (-46), 3, 7, 0, 0, 0, 0), (56, .aload_n 0, 1, 0, 0, 0, 0, 0), (57, .getfield 117, 3, 7, 17, 755, 0, 0), (60, .ifCond .ne 7, 3, 67, 0, 0, 0, 0), (63, .lload_n 1, 1, 0, 0, 0, 0, 0), (64, .goto 4, 3, 68, 0, 0, 0, 0), (67, .lconst 0, 1, 0, 0, 0, 0, 0), (68, .lreturn, 1, 0, 0, 0, 0, 0)]
/-- BirchLeafModel.figures()I -/
def vm_p124 : List vm_En := [(0, .iconst 0, 1, 0, 0, 0, 0, 0), (1, .istore_n 1, 1, 0, 0, 0, 0, 0), (2, .aload_n 0, 1, 0, 0, 0, 0, 0), (3, .getfield 102, 3, 7, 15, 753, 0, 0), (6, .istore_n 2, 1, 0, 0, 0, 0, 0), (7, .iload_n 2, 1, 0, 0, 0, 0, 0), (8, .aload_n 0, 1, 0, 0, 0, 0, 0), (9, .getfield 114, 3, 7, 16, 754, 0, 0), (12, .if_icmp .ge 32, 3, 44, 0, 0, 0, 0), (15, .aload_n 0, 1, 0, 0, 0, 0, 0), (16, .getfield 105, 3, 7, 14, 752, 0, 0), (19, .iconst 3, 1, 0, 0, 0, 0, 0), (20, .if_icmp .ne 24, 3, 44, 0, 0, 0, 0), (23, .bipush 10, 2, 0, 0, 0, 0, 0), (25, .iload_n 1, 1, 0, 0, 0, 0, 0), (26, .imul, 1, 0, 0, 0, 0, 0), (27, .aload_n 0, 1, 0, 0, 0, 0, 0), (28, .getfield 28, 3, 7, 9, 747, 0, 0), (31, .iload_n 2, 1, 0, 0, 0, 0, 0), (32, .iaload, 1, 0, 0, 0, 0, 0), (33, .iadd, 1, 0, 0, 0, 0, 0), (34, .bipush 48, 2, 0, 0, 0, 0, 0), (36, .isub, 1, 0, 0, 0, 0, 0), (37, .istore_n 1, 1, 0, 0, 0, 0, 0), (38, .iinc 2 1, 3, 0, 0, 0, 0, 0), (41, .goto (-34), 3, 7, 0, 0, 0, 0), (44, .iload_n 1, 1, 0, 0, 0, 0, 0), (45, .ireturn, 1, 0, 0, 0, 0, 0)]
/-- BirchLeafModel.number(II)I -/
def vm_p125 : List vm_En := [(0, .aload_n 0, 1, 0, 0, 0, 0, 0), (1, .getfield 117, 3, 7, 17, 755, 0, 0), (4, .ifCond .le 5, 3, 9, 0, 0, 0, 0), (7, .iconst 0, 1, 0, 0, 0, 0, 0), (8, .ireturn, 1, 0, 0, 0, 0, 0), (9, .aload_n 0, 1, 0, 0, 0, 0, 0), (10, .invokevirtual 130, 3, 124, 0, 907, 0, 0), (13, .istore_n 3, 1, 0, 0, 0, 0, 0), (14, .aload_n 0, 1, 0, 0, 0, 0, 0), (15, .getfield 105, 3, 7, 14, 752, 0, 0), (18, .iconst 3, 1, 0, 0, 0, 0, 0), (19, .if_icmp .ne 20, 3, 39, 0, 0, 0, 0), (22, .iload_n 3, 1, 0, 0, 0, 0, 0), (23, .i2l, 1, 0, 0, 0, 0, 0), (24, .iload_n 1, 1, 0, 0, 0, 0, 0), (25, .i2l, 1, 0, 0, 0, 0, 0), (26, .iload_n 2, 1, 0, 0, 0, 0, 0), (27, .i2l, 1, 0, 0, 0, 0, 0), (28, .invokestatic 69, 3, 108, 0, 838, 0, 0), (31, .ifCond .ne 8, 3, 39, 0, 0, 0, 0), (34, .aload_n 0, 1, 0, 0, 0, 0, 0), (35, .iconst 2, 1, 0, 0, 0, 0, 0), (36, .invokevirtual 126, 3, 121, 0, 899, 0, 0), (39, .aload_n 0, 1, 0, 0, 0, 0, 0), (40, .aload_n 0, 1, 0, 0, 0, 0, 0), (41, .getfield 105, 3, 7, 14, 752, 0, 0), (44, .iconst 3, 1, 0, 0, 0, 0, 0), (45, .if_icmp .ne 7, 3, 52, 0, 0, 0, 0), (48, .iconst 1, 1, 0, 0, 0, 0, 0), (49, .goto 4, 3, 53, 0, 0, 0, 0), (52, .iconst 0, 1, 0, 0, 0, 0, 0), (53, .invokevirtual 134, 3, 122, 0, 895, 0, 0), (56, .iload_n 3, 1, 0, 0, 0, 0, 0), (57, .ireturn, 1, 0, 0, 0, 0, 0)]
/-- BirchLeafModel.kindBy(J)I -/
def vm_p126 : List vm_En := [(0, .lload_n 0, 1, 0, 0, 0, 0, 0), (1, .ldc2_w 138, 3, 0, 0, 927, 0, 422541223282), (4, .lcmp, 1, 0, 0, 0, 0, 0), (5, .ifCond .ne 7, 3, 12, 0, 0, 0, 0), (8, .iconst 1, 1, 0, 0, 0, 0, 0), (9, .goto 53, 3, 62, 0, 0, 0, 0), (12, .lload_n 0, 1, 0, 0, 0, 0, 0), (13, .ldc2_w 140, 3, 0, 0, 928, 0, 120299558036850), (16, .lcmp, 1, 0, 0, 0, 0, 0), (17, .ifCond .ne 7, 3, 24, 0, 0, 0, 0), (20, .iconst 2, 1, 0, 0, 0, 0, 0), (21, .goto 41, 3, 62, 0, 0, 0, 0), (24, .lload_n 0, 1, 0, 0, 0, 0, 0), (25, .ldc2_w 142, 3, 0, 0, 929, 0, 118122060670322), (28, .lcmp, 1, 0, 0, 0, 0, 0), (29, .ifCond .ne 7, 3, 36, 0, 0, 0, 0), (32, .iconst 3, 1, 0, 0, 0, 0, 0), (33, .goto 29, 3, 62, 0, 0, 0, 0), (36, .lload_n 0, 1, 0, 0, 0, 0, 0), (37, .ldc2_w 144, 3, 0, 0, 930, 0, 123636696839028), (40, .lcmp, 1, 0, 0, 0, 0, 0), (41, .ifCond .ne 7, 3, 48, 0, 0, 0, 0), (44, .iconst 4, 1, 0, 0, 0, 0, 0), (45, .goto 17, 3, 62, 0, 0, 0, 0), (48, .lload_n 0, 1, 0, 0, 0, 0, 0), (49, .ldc2_w 146, 3, 0, 0, 931, 0, 422725643876), (52, .lcmp, 1, 0, 0, 0, 0, 0), (53, .ifCond .ne 7, 3, 60, 0, 0, 0, 0), (56, .iconst 5, 1, 0, 0, 0, 0, 0), (57, .goto 5, 3, 62, 0, 0, 0, 0), (60, .ldc 95, 2, 0, 0, 883, 0, -1000000), (62, .ireturn, 1, 0, 0, 0, 0, 0)]
/-- BirchLeafModel.mustEnd()V -/
def vm_p127 : List vm_En := [(0, .aload_n 0, 1, 0, 0, 0, 0, 0), (1, .getfield 117, 3, 7, 17, 755, 0, 0), (4, .ifCond .ne 20, 3, 24, 0, 0, 0, 0), (7, .aload_n 0, 1, 0, 0, 0, 0, 0), (8, .aload_n 0, 1, 0, 0, 0, 0, 0), (9, .getfield 105, 3, 7, 14, 752, 0, 0), (12, .iconst 4, 1, 0, 0, 0, 0, 0), (13, .if_icmp .ne 7, 3, 20, 0, 0, 0, 0), (16, .iconst 1, 1, 0, 0, 0, 0, 0), (17, .goto 4, 3, 21, 0, 0, 0, 0), (20, .iconst 0, 1, 0, 0, 0, 0, 0), (21, .invokevirtual 134, 3, 122, 0, 895, 0, 0), (24, .return_, 1, 0, 0, 0, 0, 0)]
/-- BirchLeafModel.begins(II)V -/
def vm_p128 : List vm_En := [(0, .aload_n 0, 1, 0, 0, 0, 0, 0), (1, .getfield 22, 3, 7, 6, 744, 0, 0), (4, .iload_n 1, 1, 0, 0, 0, 0, 0), (5, .iaload, 1, 0, 0, 0, 0, 0), (6, .iload_n 2, 1, 0, 0, 0, 0, 0), (7, .if_icmp .ne 8, 3, 15, 0, 0, 0, 0), (10, .aload_n 0, 1, 0, 0, 0, 0, 0), (11, .iconst 3, 1, 0, 0, 0, 0, 0), (12, .invokevirtual 126, 3, 121, 0, 899, 0, 0), (15, .aload_n 0, 1, 0, 0, 0, 0, 0), (16, .iconst 1, 1, 0, 0, 0, 0, 0), (17, .invokevirtual 134, 3, 122, 0, 895, 0, 0), (20, .return_, 1, 0, 0, 0, 0, 0)]
/-- BirchLeafModel.readTrader()V -/
def vm_p129 : List vm_En := [(0, .aload_n 0, 1, 0, 0, 0, 0, 0), (1, .iconst 2, 1, 0, 0, 0, 0, 0), (2, .bipush 6, 2, 0, 0, 0, 0, 0), (4, .invokevirtual 148, 3, 128, 0, 920, 0, 0), (7, .aload_n 0, 1, 0, 0, 0, 0, 0), (8, .invokevirtual 152, 3, 123, 0, 890, 0, 0), (11, .invokestatic 156, 3, 126, 0, 924, 0, 0), (14, .istore_n 1, 1, 0, 0, 0, 0, 0), (15, .aload_n 0, 1, 0, 0, 0, 0, 0), (16, .getfield 117, 3, 7, 17, 755, 0, 0), (19, .ifCond .ne 18, 3, 37, 0, 0, 0, 0), (22, .aload_n 0, 1, 0, 0, 0, 0, 0), (23, .iload_n 1, 1, 0, 0, 0, 0, 0), (24, .ldc 95, 2, 0, 0, 883, 0, -1000000), (26, .if_icmp .eq 7, 3, 33, 0, 0, 0, 0), (29, .iconst 1, 1, 0, 0, 0, 0, 0), (30, .goto 4, 3, 34, 0, 0, 0, 0), (33, .iconst 0, 1, 0, 0, 0, 0, 0), (34, .invokevirtual 134, 3, 122, 0, 895, 0, 0), (37, .aload_n 0, 1, 0, 0, 0, 0, 0), (38, .iconst 0, 1, 0, 0, 0, 0, 0), (39, .bipush 99, 2, 0, 0, 0, 0, 0), (41, .invokevirtual 160, 3, 125, 0, 903, 0, 0), (44, .istore_n 2, 1, 0, 0, 0, 0, 0), (45, .aload_n 0, 1, 0, 0, 0, 0, 0), (46, .iconst 0, 1, 0, 0, 0, 0, 0), (47, .bipush 60, 2, 0, 0, 0, 0, 0), (49, .invokevirtual 160, 3, 125, 0, 903, 0, 0), (52, .istore_n 3, 1, 0, 0, 0, 0, 0), (53, .aload_n 0, 1, 0, 0, 0, 0, 0), (54, .invokevirtual 164, 3, 127, 0, 911, 0, 0), (57, .aload_n 0, 1, 0, 0, 0, 0, 0), (58, .getfield 117, 3, 7, 17, 755, 0, 0), (61, .ifCond .ne 54, 3, 115, 0, 0, 0, 0), (64, .bipush 6, 2, 0, 0, 0, 0, 0), (66, .iconst 4, 1, 0, 0, 0, 0, 0), (67, .aload_n 0, 1, 0, 0, 0, 0, 0), (68, .getfield 22, 3, 7, 6, 744, 0, 0), (71, .iconst 2, 1, 0, 0, 0, 0, 0), (72, .iaload, 1, 0, 0, 0, 0, 0), (73, .imul, 1, 0, 0, 0, 0, 0), (74, .iadd, 1, 0, 0, 0, 0, 0), (75, .istore 4, 2, 0, 0, 0, 0, 0), (77, .aload_n 0, 1, 0, 0, 0, 0, 0), (78, .getfield 22, 3, 7, 6, 744, 0, 0), (81, .iload 4, 2, 0, 0, 0, 0, 0), (83, .iload_n 1, 1, 0, 0, 0, 0, 0), (84, .iastore, 1, 0, 0, 0, 0, 0), (85, .aload_n 0, 1, 0, 0, 0, 0, 0), (86, .getfield 22, 3, 7, 6, 744, 0, 0), (89, .iload 4, 2, 0, 0, 0, 0, 0), (91, .iconst 1, 1, 0, 0, 0, 0, 0), (92, .iadd, 1, 0, 0, 0, 0, 0), (93, .iload_n 2, 1, 0, 0, 0, 0, 0), (94, .iastore, 1, 0, 0, 0, 0, 0), (95, .aload_n 0, 1, 0, 0, 0, 0, 0), (96, .getfield 22, 3, 7, 6, 744, 0, 0), (99, .iload 4, 2, 0, 0, 0, 0, 0), (101, .iconst 2, 1, 0, 0, 0, 0, 0), (102, .iadd, 1, 0, 0, 0, 0, 0), (103, .iload_n 3, 1, 0, 0, 0, 0, 0), (104, .iastore, 1, 0, 0, 0, 0, 0), (105, .aload_n 0, 1, 0, 0, 0, 0, 0), (106, .getfield 22, 3, 7, 6, 744, 0, 0), (109, .iconst 2, 1, 0, 0, 0, 0, 0), (110, .dup2, 1, 0, 0, 0, 0, 0), (111, .iaload, 1, 0, 0, 0, 0, 0), (112, .iconst 1, 1, 0, 0, 0, 0, 0), (113, .iadd, 1, 0, 0, 0, 0, 0), (114, .iastore, 1, 0, 0, 0, 0, 0), (115, .return_, 1, 0, 0, 0, 0, 0)]
/-- BirchLeafModel.readWay()V -/
def vm_p130 : List vm_En := [(0, .aload_n 0, 1, 0, 0, 0, 0, 0), (1, .iconst 3, 1, 0, 0, 0, 0, 0), (2, .bipush 10, 2, 0, 0, 0, 0, 0), (4, .invokevirtual 148, 3, 128, 0, 920, 0, 0), (7, .aload_n 0, 1, 0, 0, 0, 0, 0), (8, .iconst 0, 1, 0, 0, 0, 0, 0), (9, .aload_n 0, 1, 0, 0, 0, 0, 0), (10, .getfield 22, 3, 7, 6, 744, 0, 0), (13, .iconst 2, 1, 0, 0, 0, 0, 0), (14, .iaload, 1, 0, 0, 0, 0, 0), (15, .iconst 1, 1, 0, 0, 0, 0, 0), (16, .isub, 1, 0, 0, 0, 0, 0), (17, .invokevirtual 160, 3, 125, 0, 903, 0, 0), (20, .istore_n 1, 1, 0, 0, 0, 0, 0), (21, .aload_n 0, 1, 0, 0, 0, 0, 0), (22, .getfield 117, 3, 7, 17, 755, 0, 0), (25, .ifCond .ne 24, 3, 49, 0, 0, 0, 0), (28, .aload_n 0, 1, 0, 0, 0, 0, 0), (29, .getfield 105, 3, 7, 14, 752, 0, 0), (32, .iconst 3, 1, 0, 0, 0, 0, 0), (33, .if_icmp .ne 16, 3, 49, 0, 0, 0, 0), (36, .aload_n 0, 1, 0, 0, 0, 0, 0), (37, .invokevirtual 130, 3, 124, 0, 907, 0, 0), (40, .iload_n 1, 1, 0, 0, 0, 0, 0), (41, .if_icmp .ne 8, 3, 49, 0, 0, 0, 0), (44, .aload_n 0, 1, 0, 0, 0, 0, 0), (45, .iconst 2, 1, 0, 0, 0, 0, 0), (46, .invokevirtual 126, 3, 121, 0, 899, 0, 0), (49, .aload_n 0, 1, 0, 0, 0, 0, 0), (50, .iconst 0, 1, 0, 0, 0, 0, 0), (51, .aload_n 0, 1, 0, 0, 0, 0, 0), (52, .getfield 22, 3, 7, 6, 744, 0, 0), (55, .iconst 2, 1, 0, 0, 0, 0, 0), (56, .iaload, 1, 0, 0, 0, 0, 0), (57, .iconst 1, 1, 0, 0, 0, 0, 0), (58, .isub, 1, 0, 0, 0, 0, 0), (59, .invokevirtual 160, 3, 125, 0, 903, 0, 0), (62, .istore_n 2, 1, 0, 0, 0, 0, 0), (63, .aload_n 0, 1, 0, 0, 0, 0, 0), (64, .iconst 1, 1, 0, 0, 0, 0, 0), (65, .bipush 30, 2, 0, 0, 0, 0, 0), (67, .invokevirtual 160, 3, 125, 0, 903, 0, 0), (70, .istore_n 3, 1, 0, 0, 0, 0, 0), (71, .aload_n 0, 1, 0, 0, 0, 0, 0), (72, .iconst 0, 1, 0, 0, 0, 0, 0), (73, .iconst 1, 1, 0, 0, 0, 0, 0), (74, .invokevirtual 160, 3, 125, 0, 903, 0, 0), (77, .istore 4, 2, 0, 0, 0, 0, 0), (79, .aload_n 0, 1, 0, 0, 0, 0, 0), (80, .invokevirtual 164, 3, 127, 0, 911, 0, 0), (83, .aload_n 0, 1, 0, 0, 0, 0, 0), (84, .getfield 117, 3, 7, 17, 755, 0, 0), (87, .ifCond .ne 65, 3, 152, 0, 0, 0, 0), (90, .bipush 30, 2, 0, 0, 0, 0, 0), (92, .iconst 4, 1, 0, 0, 0, 0, 0), (93, .aload_n 0, 1, 0, 0, 0, 0, 0), (94, .getfield 22, 3, 7, 6, 744, 0, 0), (97, .iconst 3, 1, 0, 0, 0, 0, 0), (98, .iaload, 1, 0, 0, 0, 0, 0), (99, .imul, 1, 0, 0, 0, 0, 0), (100, .iadd, 1, 0, 0, 0, 0, 0), (101, .istore 5, 2, 0, 0, 0, 0, 0), (103, .aload_n 0, 1, 0, 0, 0, 0, 0), (104, .getfield 22, 3, 7, 6, 744, 0, 0), (107, .iload 5, 2, 0, 0, 0, 0, 0), (109, .iload_n 1, 1, 0, 0, 0, 0, 0), (110, .iastore, 1, 0, 0, 0, 0, 0), (111, .aload_n 0, 1, 0, 0, 0, 0, 0), (112, .getfield 22, 3, 7, 6, 744, 0, 0), (115, .iload 5, 2, 0, 0, 0, 0, 0), (117, .iconst 1, 1, 0, 0, 0, 0, 0), (118, .iadd, 1, 0, 0, 0, 0, 0), (119, .iload_n 2, 1, 0, 0, 0, 0, 0), (120, .iastore, 1, 0, 0, 0, 0, 0), (121, .aload_n 0, 1, 0, 0, 0, 0, 0), (122, .getfield 22, 3, 7, 6, 744, 0, 0), (125, .iload 5, 2, 0, 0, 0, 0, 0), (127, .iconst 2, 1, 0, 0, 0, 0, 0), (128, .iadd, 1, 0, 0, 0, 0, 0), (129, .iload_n 3, 1, 0, 0, 0, 0, 0), (130, .iastore, 1, 0, 0, 0, 0, 0), (131, .aload_n 0, 1, 0, 0, 0, 0, 0), (132, .getfield 22, 3, 7, 6, 744, 0, 0), (135, .iload 5, 2, 0, 0, 0, 0, 0), (137, .iconst 3, 1, 0, 0, 0, 0, 0), (138, .iadd, 1, 0, 0, 0, 0, 0), (139, .iload 4, 2, 0, 0, 0, 0, 0), (141, .iastore, 1, 0, 0, 0, 0, 0), (142, .aload_n 0, 1, 0, 0, 0, 0, 0), (143, .getfield 22, 3, 7, 6, 744, 0, 0), (146, .iconst 3, 1, 0, 0, 0, 0, 0), (147, .dup2, 1, 0, 0, 0, 0, 0), (148, .iaload, 1, 0, 0, 0, 0, 0), (149, .iconst 1, 1, 0, 0, 0, 0, 0), (150, .iadd, 1, 0, 0, 0, 0, 0), (151, .iastore, 1, 0, 0, 0, 0, 0), (152, .return_, 1, 0, 0, 0, 0, 0)]
/-- BirchLeafModel.hill()I -/
def vm_p131 : List vm_En := [(0, .aload_n 0, 1, 0, 0, 0, 0, 0), (1, .iconst 0, 1, 0, 0, 0, 0, 0), (2, .putfield 59, 3, 7, 0, 738, 0, 0), (5, .aload_n 0, 1, 0, 0, 0, 0, 0), (6, .invokevirtual 167, 3, 120, 0, 871, 0, 0), (9, .iconst 0, 1, 0, 0, 0, 0, 0), (10, .istore_n 1, 1, 0, 0, 0, 0, 0), (11, .iload_n 1, 1, 0, 0, 0, 0, 0), (12, .bipush 70, 2, 0, 0, 0, 0, 0), (14, .if_icmp .ge 16, 3, 30, 0, 0, 0, 0), (17, .aload_n 0, 1, 0, 0, 0, 0, 0), (18, .getfield 22, 3, 7, 6, 744, 0, 0), (21, .iload_n 1, 1, 0, 0, 0, 0, 0), (22, .iconst 0, 1, 0, 0, 0, 0, 0), (23, .iastore, 1, 0, 0, 0, 0, 0), (24, .iinc 1 1, 3, 0, 0, 0, 0, 0), (27, .goto (-16), 3, 11, 0, 0, 0, 0), (30, .aload_n 0, 1, 0, 0, 0, 0, 0), (31, .aload_n 0, 1, 0, 0, 0, 0, 0), (32, .invokevirtual 152, 3, 123, 0, 890, 0, 0), (35, .ldc2_w 170, 3, 0, 0, 894, 0, 474214787188), (38, .lcmp, 1, 0, 0, 0, 0, 0), (39, .ifCond .ne 7, 3, 46, 0, 0, 0, 0), (42, .iconst 1, 1, 0, 0, 0, 0, 0), (43, .goto 4, 3, 47, 0, 0, 0, 0), (46, .iconst 0, 1, 0, 0, 0, 0, 0), (47, .invokevirtual 134, 3, 122, 0, 895, 0, 0), (50, .aload_n 0, 1, 0, 0, 0, 0, 0), (51, .getfield 22, 3, 7, 6, 744, 0, 0), (54, .iconst 0, 1, 0, 0, 0, 0, 0), (55, .aload_n 0, 1, 0, 0, 0, 0, 0), (56, .iconst 1, 1, 0, 0, 0, 0, 0), (57, .bipush 60, 2, 0, 0, 0, 0, 0), (59, .invokevirtual 160, 3, 125, 0, 903, 0, 0), (62, .iastore, 1, 0, 0, 0, 0, 0), (63, .aload_n 0, 1, 0, 0, 0, 0, 0), (64, .getfield 22, 3, 7, 6, 744, 0, 0), (67, .iconst 1, 1, 0, 0, 0, 0, 0), (68, .aload_n 0, 1, 0, 0, 0, 0, 0), (69, .iconst 0, 1, 0, 0, 0, 0, 0), (70, .bipush 60, 2, 0, 0, 0, 0, 0), (72, .invokevirtual 160, 3, 125, 0, 903, 0, 0), (75, .iastore, 1, 0, 0, 0, 0, 0), (76, .aload_n 0, 1, 0, 0, 0, 0, 0), (77, .invokevirtual 164, 3, 127, 0, 911, 0, 0), (80, .aload_n 0, 1, 0, 0, 0, 0, 0), (81, .invokevirtual 152, 3, 123, 0, 890, 0, 0), (84, .ldc2_w 172, 3, 0, 0, 915, 0, 128034609063282), (87, .lcmp, 1, 0, 0, 0, 0, 0), (88, .ifCond .eq 8, 3, 96, 0, 0, 0, 0), (91, .aload_n 0, 1, 0, 0, 0, 0, 0), (92, .iconst 1, 1, 0, 0, 0, 0, 0), (93, .invokevirtual 126, 3, 121, 0, 899, 0, 0), (96, .aload_n 0, 1, 0, 0, 0, 0, 0), (97, .invokevirtual 152, 3, 123, 0, 890, 0, 0), (100, .ldc2_w 172, 3, 0, 0, 915, 0, 128034609063282), (103, .lcmp, 1, 0, 0, 0, 0, 0), (104, .ifCond .ne 10, 3, 114, 0, 0, 0, 0), (107, .aload_n 0, 1, 0, 0, 0, 0, 0), (108, .invokevirtual 174, 3, 129, 0, 916, 0, 0), (111, .goto (-15), 3, 96, 0, 0, 0, 0), (114, .aload_n 0, 1, 0, 0, 0, 0, 0), (115, .invokevirtual 152, 3, 123, 0, 890, 0, 0), (118, .ldc2_w 177, 3, 0, 0, 932, 0, 7823737), (121, .lcmp, 1, 0, 0, 0, 0, 0), (122, .ifCond .ne 10, 3, 132, 0, 0, 0, 0), (125, .aload_n 0, 1, 0, 0, 0, 0, 0), (126, .invokevirtual 179, 3, 130, 0, 933, 0, 0), (129, .goto (-15), 3, 114, 0, 0, 0, 0), (132, .aload_n 0, 1, 0, 0, 0, 0, 0), (133, .getfield 117, 3, 7, 17, 755, 0, 0), (136, .ifCond .ne 16, 3, 152, 0, 0, 0, 0), (139, .aload_n 0, 1, 0, 0, 0, 0, 0), (140, .getfield 105, 3, 7, 14, 752, 0, 0), (143, .iconst 1, 1, 0, 0, 0, 0, 0), (144, .if_icmp .eq 8, 3, 152, 0, 0, 0, 0), (147, .aload_n 0, 1, 0, 0, 0, 0, 0), (148, .iconst 1, 1, 0, 0, 0, 0, 0), (149, .invokevirtual 126, 3, 121, 0, 899, 0, 0), (152, .aload_n 0, 1, 0, 0, 0, 0, 0), (153, .getfield 117, 3, 7, 17, 755, 0, 0), (156, .ifCond .le 19, 3, 175, 0, 0, 0, 0), (159, .aload_n 0, 1, 0, 0, 0, 0, 0), (160, .aload_n 0, 1, 0, 0, 0, 0, 0), (161, .getfield 117, 3, 7, 17, 755, 0, 0), (164, .putfield 182, 3, 7, 11, 749, 0, 0), (167, .ldc 185, 2, 0, 0, 937, 0, -1000100), (169, .aload_n 0, 1, 0, 0, 0, 0, 0), (170, .getfield 123, 3, 7, 18, 756, 0, 0), (173, .isub, 1, 0, 0, 0, 0, 0), (174, .ireturn, 1, 0, 0, 0, 0, 0), (175, .aload_n 0, 1, 0, 0, 0, 0, 0), (176, .iconst 0, 1, 0, 0, 0, 0, 0), (177, .putfield 186, 3, 7, 8, 746, 0, 0), (180, .iconst 0, 1, 0, 0, 0, 0, 0), (181, .istore_n 1, 1, 0, 0, 0, 0, 0), (182, .iload_n 1, 1, 0, 0, 0, 0, 0), (183, .bipush 70, 2, 0, 0, 0, 0, 0), (185, .if_icmp .ge 21, 3, 206, 0, 0, 0, 0), (188, .aload_n 0, 1, 0, 0, 0, 0, 0), (189, .getfield 19, 3, 7, 5, 743, 0, 0), (192, .iload_n 1, 1, 0, 0, 0, 0, 0), (193, .aload_n 0, 1, 0, 0, 0, 0, 0), (194, .getfield 22, 3, 7, 6, 744, 0, 0), (197, .iload_n 1, 1, 0, 0, 0, 0, 0), (198, .iaload, 1, 0, 0, 0, 0, 0), (199, .iastore, 1, 0, 0, 0, 0, 0), (200, .iinc 1 1, 3, 0, 0, 0, 0, 0), (203, .goto (-21), 3, 182, 0, 0, 0, 0), (206, .aload_n 0, 1, 0, 0, 0, 0, 0), (207, .getfield 19, 3, 7, 5, 743, 0, 0), (210, .iconst 2, 1, 0, 0, 0, 0, 0), (211, .iaload, 1, 0, 0, 0, 0, 0), (212, .ireturn, 1, 0, 0, 0, 0, 0)]
/-- BirchLeafModel.fault()I -/
def vm_p132 : List vm_En := [(0, .aload_n 0, 1, 0, 0, 0, 0, 0), (1, .iconst 0, 1, 0, 0, 0, 0, 0), (2, .putfield 59, 3, 7, 0, 738, 0, 0), (5, .aload_n 0, 1, 0, 0, 0, 0, 0), (6, .getfield 182, 3, 7, 11, 749, 0, 0), (9, .ireturn, 1, 0, 0, 0, 0, 0)]
/-- BirchLeafModel.isThere()Z -/
def vm_p133 : List vm_En := [(0, .aload_n 0, 1, 0, 0, 0, 0, 0), (1, .getfield 19, 3, 7, 5, 743, 0, 0), (4, .iconst 0, 1, 0, 0, 0, 0, 0), (5, .iaload, 1, 0, 0, 0, 0, 0), (6, .ifCond .le 7, 3, 13, 0, 0, 0, 0), (9, .iconst 1, 1, 0, 0, 0, 0, 0), (10, .goto 4, 3, 14, 0, 0, 0, 0), (13, .iconst 0, 1, 0, 0, 0, 0, 0), (14, .ireturn, 1, 0, 0, 0, 0, 0)]
/-- BirchLeafModel.isTrader(I)Z -/
def vm_p134 : List vm_En := [(0, .iload_n 1, 1, 0, 0, 0, 0, 0), (1, .i2l, 1, 0, 0, 0, 0, 0), (2, .lconst 0, 1, 0, 0, 0, 0, 0), (3, .aload_n 0, 1, 0, 0, 0, 0, 0), (4, .getfield 19, 3, 7, 5, 743, 0, 0), (7, .iconst 2, 1, 0, 0, 0, 0, 0), (8, .iaload, 1, 0, 0, 0, 0, 0), (9, .iconst 1, 1, 0, 0, 0, 0, 0), (10, .isub, 1, 0, 0, 0, 0, 0), (11, .i2l, 1, 0, 0, 0, 0, 0), (12, .invokestatic 69, 3, 108, 0, 838, 0, 0), (15, .ireturn, 1, 0, 0, 0, 0, 0)]
/-- BirchLeafModel.isMinute(I)Z -/
def vm_p135 : List vm_En := [(0, .iload_n 0, 1, 0, 0, 0, 0, 0), (1, .i2l, 1, 0, 0, 0, 0, 0), (2, .lconst 0, 1, 0, 0, 0, 0, 0), (3, .ldc2_w 189, 3, 0, 0, 983, 0, 60), (6, .invokestatic 69, 3, 108, 0, 838, 0, 0), (9, .ireturn, 1, 0, 0, 0, 0, 0)]
/-- BirchLeafModel.of(II)I -/
def vm_p136 : List vm_En := [(0, .aload_n 0, 1, 0, 0, 0, 0, 0), (1, .getfield 19, 3, 7, 5, 743, 0, 0), (4, .bipush 6, 2, 0, 0, 0, 0, 0), (6, .iconst 4, 1, 0, 0, 0, 0, 0), (7, .iload_n 1, 1, 0, 0, 0, 0, 0), (8, .imul, 1, 0, 0, 0, 0, 0), (9, .iadd, 1, 0, 0, 0, 0, 0), (10, .iload_n 2, 1, 0, 0, 0, 0, 0), (11, .iadd, 1, 0, 0, 0, 0, 0), (12, .iaload, 1, 0, 0, 0, 0, 0), (13, .ireturn, 1, 0, 0, 0, 0, 0)]
/-- BirchLeafModel.priceOf(I)I -/
def vm_p137 : List vm_En := [(0, .aload_n 0, 1, 0, 0, 0, 0, 0), (1, .iload_n 1, 1, 0, 0, 0, 0, 0), (2, .iconst 0, 1, 0, 0, 0, 0, 0), (3, .invokevirtual 191, 3, 136, 0, 962, 0, 0), (6, .iconst 2, 1, 0, 0, 0, 0, 0), (7, .if_icmp .ne 14, 3, 21, 0, 0, 0, 0), (10, .aload_n 0, 1, 0, 0, 0, 0, 0), (11, .iload_n 1, 1, 0, 0, 0, 0, 0), (12, .iconst 1, 1, 0, 0, 0, 0, 0), (13, .invokevirtual 191, 3, 136, 0, 962, 0, 0), (16, .iconst 2, 1, 0, 0, 0, 0, 0), (17, .idiv, 1, 0, 0, 0, 0, 0), (18, .goto 9, 3, 27, 0, 0, 0, 0), (21, .aload_n 0, 1, 0, 0, 0, 0, 0), (22, .iload_n 1, 1, 0, 0, 0, 0, 0), (23, .iconst 1, 1, 0, 0, 0, 0, 0), (24, .invokevirtual 191, 3, 136, 0, 962, 0, 0), (27, .ireturn, 1, 0, 0, 0, 0, 0)]
/-- BirchLeafModel.isTaken(II)Z -/
def vm_p138 : List vm_En := [(0, .iload_n 2, 1, 0, 0, 0, 0, 0), (1, .aload_n 0, 1, 0, 0, 0, 0, 0), (2, .getfield 19, 3, 7, 5, 743, 0, 0), (5, .iconst 0, 1, 0, 0, 0, 0, 0), (6, .iaload, 1, 0, 0, 0, 0, 0), (7, .if_icmp .lt 5, 3, 12, 0, 0, 0, 0), (10, .iconst 0, 1, 0, 0, 0, 0, 0), (11, .ireturn, 1, 0, 0, 0, 0, 0), (12, .aload_n 0, 1, 0, 0, 0, 0, 0), (13, .iload_n 1, 1, 0, 0, 0, 0, 0), (14, .iconst 0, 1, 0, 0, 0, 0, 0), (15, .invokevirtual 191, 3, 136, 0, 962, 0, 0), (18, .tableswitch 109 1 5 #[34, 50, 68, 109, 97], 34, 0, 0, 0, 0, 0), (52, .iload_n 2, 1, 0, 0, 0, 0, 0), (53, .aload_n 0, 1, 0, 0, 0, 0, 0), (54, .iload_n 1, 1, 0, 0, 0, 0, 0), (55, .iconst 2, 1, 0, 0, 0, 0, 0), (56, .invokevirtual 191, 3, 136, 0, 962, 0, 0), (59, .if_icmp .gt 7, 3, 66, 0, 0, 0, 0), (62, .iconst 1, 1, 0, 0, 0, 0, 0), (63, .goto 4, 3, 67, 0, 0, 0, 0), (66, .iconst 0, 1, 0, 0, 0, 0, 0), (67, .ireturn, 1, 0, 0, 0, 0, 0), (68, .iload_n 2, 1, 0, 0, 0, 0, 0), (69, .aload_n 0, 1, 0, 0, 0, 0, 0), (70, .iload_n 1, 1, 0, 0, 0, 0, 0), (71, .iconst 2, 1, 0, 0, 0, 0, 0), (72, .invokevirtual 191, 3, 136, 0, 962, 0, 0), (75, .iconst 5, 1, 0, 0, 0, 0, 0), (76, .iadd, 1, 0, 0, 0, 0, 0), (77, .if_icmp .gt 7, 3, 84, 0, 0, 0, 0), (80, .iconst 1, 1, 0, 0, 0, 0, 0), (81, .goto 4, 3, 85, 0, 0, 0, 0), (84, .iconst 0, 1, 0, 0, 0, 0, 0), (85, .ireturn, 1, 0, 0, 0, 0, 0), (86, .iload_n 2, 1, 0, 0, 0, 0, 0), (87, .aload_n 0, 1, 0, 0, 0, 0, 0), (88, .iload_n 1, 1, 0, 0, 0, 0, 0), (89, .iconst 2, 1, 0, 0, 0, 0, 0), (90, .invokevirtual 191, 3, 136, 0, 962, 0, 0), (93, .if_icmp .gt 20, 3, 113, 0, 0, 0, 0), (96, .aload_n 0, 1, 0, 0, 0, 0, 0), (97, .getfield 19, 3, 7, 5, 743, 0, 0), (100, .iconst 0, 1, 0, 0, 0, 0, 0), (101, .iaload, 1, 0, 0, 0, 0, 0), (102, .iload_n 2, 1, 0, 0, 0, 0, 0), (103, .isub, 1, 0, 0, 0, 0, 0), (104, .bipush 10, 2, 0, 0, 0, 0, 0), (106, .if_icmp .lt 7, 3, 113, 0, 0, 0, 0), (109, .iconst 1, 1, 0, 0, 0, 0, 0), (110, .goto 4, 3, 114, 0, 0, 0, 0), (113, .iconst 0, 1, 0, 0, 0, 0, 0), (114, .ireturn, 1, 0, 0, 0, 0, 0), (115, .iload_n 2, 1, 0, 0, 0, 0, 0), (116, .iconst 2, 1, 0, 0, 0, 0, 0), (117, .irem, 1, 0, 0, 0, 0, 0), (118, .ifCond .ne 7, 3, 125, 0, 0, 0, 0), (121, .iconst 1, 1, 0, 0, 0, 0, 0), (122, .goto 4, 3, 126, 0, 0, 0, 0), (125, .iconst 0, 1, 0, 0, 0, 0, 0), (126, .ireturn, 1, 0, 0, 0, 0, 0), (127, .iconst 1, 1, 0, 0, 0, 0, 0), (128, .ireturn, 1, 0, 0, 0, 0, 0)]
/-- BirchLeafModel.thereIn(III)I -/
def vm_p139 : List vm_En := [(0, .ldc 95, 2, 0, 0, 883, 0, -1000000), (2, .istore 4, 2, 0, 0, 0, 0, 0), (4, .iconst 0, 1, 0, 0, 0, 0, 0), (5, .istore 5, 2, 0, 0, 0, 0, 0), (7, .iload 5, 2, 0, 0, 0, 0, 0), (9, .aload_n 0, 1, 0, 0, 0, 0, 0), (10, .getfield 19, 3, 7, 5, 743, 0, 0), (13, .iconst 3, 1, 0, 0, 0, 0, 0), (14, .iaload, 1, 0, 0, 0, 0, 0), (15, .if_icmp .ge 159, 3, 174, 0, 0, 0, 0), (18, .bipush 30, 2, 0, 0, 0, 0, 0), (20, .iconst 4, 1, 0, 0, 0, 0, 0), (21, .iload 5, 2, 0, 0, 0, 0, 0), (23, .imul, 1, 0, 0, 0, 0, 0), (24, .iadd, 1, 0, 0, 0, 0, 0), (25, .istore 6, 2, 0, 0, 0, 0, 0), (27, .aload_n 0, 1, 0, 0, 0, 0, 0), (28, .getfield 19, 3, 7, 5, 743, 0, 0), (31, .iload 6, 2, 0, 0, 0, 0, 0), (33, .iaload, 1, 0, 0, 0, 0, 0), (34, .iload_n 1, 1, 0, 0, 0, 0, 0), (35, .if_icmp .ne 16, 3, 51, 0, 0, 0, 0), (38, .aload_n 0, 1, 0, 0, 0, 0, 0), (39, .getfield 19, 3, 7, 5, 743, 0, 0), (42, .iload 6, 2, 0, 0, 0, 0, 0), (44, .iconst 1, 1, 0, 0, 0, 0, 0), (45, .iadd, 1, 0, 0, 0, 0, 0), (46, .iaload, 1, 0, 0, 0, 0, 0), (47, .iload_n 2, 1, 0, 0, 0, 0, 0), (48, .if_icmp .eq 27, 3, 75, 0, 0, 0, 0), (51, .aload_n 0, 1, 0, 0, 0, 0, 0), (52, .getfield 19, 3, 7, 5, 743, 0, 0), (55, .iload 6, 2, 0, 0, 0, 0, 0), (57, .iaload, 1, 0, 0, 0, 0, 0), (58, .iload_n 2, 1, 0, 0, 0, 0, 0), (59, .if_icmp .ne 20, 3, 79, 0, 0, 0, 0), (62, .aload_n 0, 1, 0, 0, 0, 0, 0), (63, .getfield 19, 3, 7, 5, 743, 0, 0), (66, .iload 6, 2, 0, 0, 0, 0, 0), (68, .iconst 1, 1, 0, 0, 0, 0, 0), (69, .iadd, 1, 0, 0, 0, 0, 0), (70, .iaload, 1, 0, 0, 0, 0, 0), (71, .iload_n 1, 1, 0, 0, 0, 0, 0), (72, .if_icmp .ne 7, 3, 79, 0, 0, 0, 0), (75, .iconst 1, 1, 0, 0, 0, 0, 0), (76, .goto 4, 3, 80, 0, 0, 0, 0), (79, .iconst 0, 1, 0, 0, 0, 0, 0), (80, .istore 7, 2, 0, 0, 0, 0, 0), (82, .aload_n 0, 1, 0, 0, 0, 0, 0), (83, .getfield 19, 3, 7, 5, 743, 0, 0), (86, .iload 6, 2, 0, 0, 0, 0, 0), (88, .iconst 3, 1, 0, 0, 0, 0, 0), (89, .iadd, 1, 0, 0, 0, 0, 0), (90, .iaload, 1, 0, 0, 0, 0, 0), (91, .ifCond .eq 23, 3, 114, 0, 0, 0, 0), (94, .iload_n 3, 1, 0, 0, 0, 0, 0), (95, .aload_n 0, 1, 0, 0, 0, 0, 0), (96, .getfield 19, 3, 7, 5, 743, 0, 0), (99, .iload 6, 2, 0, 0, 0, 0, 0), (101, .iconst 2, 1, 0, 0, 0, 0, 0), (102, .iadd, 1, 0, 0, 0, 0, 0), (103, .iaload, 1, 0, 0, 0, 0, 0), (104, .iadd, 1, 0, 0, 0, 0, 0), (105, .aload_n 0, 1, 0, 0, 0, 0, 0), (106, .getfield 19, 3, 7, 5, 743, 0, 0), (109, .iconst 1, 1, 0, 0, 0, 0, 0), (110, .iaload, 1, 0, 0, 0, 0, 0), (111, .if_icmp .gt 7, 3, 118, 0, 0, 0, 0), (114, .iconst 1, 1, 0, 0, 0, 0, 0), (115, .goto 4, 3, 119, 0, 0, 0, 0), (118, .iconst 0, 1, 0, 0, 0, 0, 0), (119, .istore 8, 2, 0, 0, 0, 0, 0), (121, .iload 7, 2, 0, 0, 0, 0, 0), (123, .ifCond .eq 41, 3, 164, 0, 0, 0, 0), (126, .iload 8, 2, 0, 0, 0, 0, 0), (128, .ifCond .eq 36, 3, 164, 0, 0, 0, 0), (131, .iload 4, 2, 0, 0, 0, 0, 0), (133, .ldc 95, 2, 0, 0, 883, 0, -1000000), (135, .if_icmp .eq 17, 3, 152, 0, 0, 0, 0), (138, .aload_n 0, 1, 0, 0, 0, 0, 0), (139, .getfield 19, 3, 7, 5, 743, 0, 0), (142, .iload 6, 2, 0, 0, 0, 0, 0), (144, .iconst 2, 1, 0, 0, 0, 0, 0), (145, .iadd, 1, 0, 0, 0, 0, 0), (146, .iaload, 1, 0, 0, 0, 0, 0), (147, .iload 4, 2, 0, 0, 0, 0, 0), (149, .if_icmp .ge 15, 3, 164, 0, 0, 0, 0), (152, .aload_n 0, 1, 0, 0, 0, 0, 0), (153, .getfield 19, 3, 7, 5, 743, 0, 0), (156, .iload 6, 2, 0, 0, 0, 0, 0), (158, .iconst 2, 1, 0, 0, 0, 0, 0), (159, .iadd, 1, 0, 0, 0, 0, 0), (160, .iaload, 1, 0, 0, 0, 0, 0), (161, .goto 5, 3, 166, 0, 0, 0, 0), (164, .iload 4, 2, 0, 0, 0, 0, 0), (166, .istore 4, 2, 0, 0, 0, 0, 0), (168, .iinc 5 1, 3, 0, 0, 0, 0, 0), (171, .goto (-164), 3, 7, 0, 0, 0, 0), (174, .iload 4, 2, 0, 0, 0, 0, 0), (176, .ldc 95, 2, 0, 0, 883, 0, -1000000), (178, .if_icmp .ne 8, 3, 186, 0, 0, 0, 0), (181, .ldc 95, 2, 0, 0, 883, 0, -1000000), (183, .goto 7, 3, 190, 0, 0, 0, 0), (186, .iload_n 3, 1, 0, 0, 0, 0, 0), (187, .iload 4, 2, 0, 0, 0, 0, 0), (189, .iadd, 1, 0, 0, 0, 0, 0), (190, .ireturn, 1, 0, 0, 0, 0, 0)]
/-- BirchLeafModel.passedIn(III)I -/
def vm_p140 : List vm_En := [(0, .iload_n 1, 1, 0, 0, 0, 0, 0), (1, .iload_n 2, 1, 0, 0, 0, 0, 0), (2, .if_icmp .ne 8, 3, 10, 0, 0, 0, 0), (5, .ldc 95, 2, 0, 0, 883, 0, -1000000), (7, .goto 10, 3, 17, 0, 0, 0, 0), (10, .aload_n 0, 1, 0, 0, 0, 0, 0), (11, .iload_n 1, 1, 0, 0, 0, 0, 0), (12, .iload_n 2, 1, 0, 0, 0, 0, 0), (13, .iload_n 3, 1, 0, 0, 0, 0, 0), (14, .invokevirtual 194, 3, 139, 0, 954, 0, 0), (17, .istore 4, 2, 0, 0, 0, 0, 0), (19, .iload 4, 2, 0, 0, 0, 0, 0), (21, .ldc 95, 2, 0, 0, 883, 0, -1000000), (23, .if_icmp .eq 18, 3, 41, 0, 0, 0, 0), (26, .aload_n 0, 1, 0, 0, 0, 0, 0), (27, .iload_n 2, 1, 0, 0, 0, 0, 0), (28, .iload 4, 2, 0, 0, 0, 0, 0), (30, .invokevirtual 198, 3, 138, 0, 958, 0, 0), (33, .ifCond .eq 8, 3, 41, 0, 0, 0, 0), (36, .iload 4, 2, 0, 0, 0, 0, 0), (38, .goto 5, 3, 43, 0, 0, 0, 0), (41, .ldc 95, 2, 0, 0, 883, 0, -1000000), (43, .ireturn, 1, 0, 0, 0, 0, 0)]
/-- BirchLeafModel.keep()V -/
def vm_p141 : List vm_En := [(0, .aload_n 0, 1, 0, 0, 0, 0, 0), (1, .getfield 186, 3, 7, 8, 746, 0, 0), (4, .bipush 24, 2, 0, 0, 0, 0, 0), (6, .if_icmp .ne 43, 3, 49, 0, 0, 0, 0), (9, .iconst 0, 1, 0, 0, 0, 0, 0), (10, .istore_n 1, 1, 0, 0, 0, 0, 0), (11, .iload_n 1, 1, 0, 0, 0, 0, 0), (12, .sipush 1610, 3, 0, 0, 0, 0, 0), (15, .if_icmp .ge 24, 3, 39, 0, 0, 0, 0), (18, .aload_n 0, 1, 0, 0, 0, 0, 0), (19, .getfield 25, 3, 7, 7, 745, 0, 0), (22, .iload_n 1, 1, 0, 0, 0, 0, 0), (23, .aload_n 0, 1, 0, 0, 0, 0, 0), (24, .getfield 25, 3, 7, 7, 745, 0, 0), (27, .iload_n 1, 1, 0, 0, 0, 0, 0), (28, .bipush 70, 2, 0, 0, 0, 0, 0), (30, .iadd, 1, 0, 0, 0, 0, 0), (31, .iaload, 1, 0, 0, 0, 0, 0), (32, .iastore, 1, 0, 0, 0, 0, 0), (33, .iinc 1 1, 3, 0, 0, 0, 0, 0), (36, .goto (-25), 3, 11, 0, 0, 0, 0), (39, .aload_n 0, 1, 0, 0, 0, 0, 0), (40, .dup, 1, 0, 0, 0, 0, 0), (41, .getfield 186, 3, 7, 8, 746, 0, 0), (44, .iconst 1, 1, 0, 0, 0, 0, 0), (45, .isub, 1, 0, 0, 0, 0, 0), (46, .putfield 186, 3, 7, 8, 746, 0, 0), (49, .iconst 0, 1, 0, 0, 0, 0, 0), (50, .istore_n 1, 1, 0, 0, 0, 0, 0), (51, .iload_n 1, 1, 0, 0, 0, 0, 0), (52, .bipush 70, 2, 0, 0, 0, 0, 0), (54, .if_icmp .ge 29, 3, 83, 0, 0, 0, 0), (57, .aload_n 0, 1, 0, 0, 0, 0, 0), (58, .getfield 25, 3, 7, 7, 745, 0, 0), (61, .bipush 70, 2, 0, 0, 0, 0, 0), (63, .aload_n 0, 1, 0, 0, 0, 0, 0), (64, .getfield 186, 3, 7, 8, 746, 0, 0), (67, .imul, 1, 0, 0, 0, 0, 0), (68, .iload_n 1, 1, 0, 0, 0, 0, 0), (69, .iadd, 1, 0, 0, 0, 0, 0), (70, .aload_n 0, 1, 0, 0, 0, 0, 0), (71, .getfield 19, 3, 7, 5, 743, 0, 0), (74, .iload_n 1, 1, 0, 0, 0, 0, 0), (75, .iaload, 1, 0, 0, 0, 0, 0), (76, .iastore, 1, 0, 0, 0, 0, 0), (77, .iinc 1 1, 3, 0, 0, 0, 0, 0), (80, .goto (-29), 3, 51, 0, 0, 0, 0), (83, .aload_n 0, 1, 0, 0, 0, 0, 0), (84, .dup, 1, 0, 0, 0, 0, 0), (85, .getfield 186, 3, 7, 8, 746, 0, 0), (88, .iconst 1, 1, 0, 0, 0, 0, 0), (89, .iadd, 1, 0, 0, 0, 0, 0), (90, .putfield 186, 3, 7, 8, 746, 0, 0), (93, .return_, 1, 0, 0, 0, 0, 0)]
/-- BirchLeafModel.pass(I)I -/
def vm_p142 : List vm_En := [(0, .aload_n 0, 1, 0, 0, 0, 0, 0), (1, .iconst 0, 1, 0, 0, 0, 0, 0), (2, .putfield 59, 3, 7, 0, 738, 0, 0), (5, .aload_n 0, 1, 0, 0, 0, 0, 0), (6, .iload_n 1, 1, 0, 0, 0, 0, 0), (7, .invokevirtual 202, 3, 134, 0, 946, 0, 0), (10, .ifCond .ne 6, 3, 16, 0, 0, 0, 0), (13, .ldc 79, 2, 0, 0, 842, 0, -1000001), (15, .ireturn, 1, 0, 0, 0, 0, 0), (16, .aload_n 0, 1, 0, 0, 0, 0, 0), (17, .getfield 19, 3, 7, 5, 743, 0, 0), (20, .iconst 5, 1, 0, 0, 0, 0, 0), (21, .iaload, 1, 0, 0, 0, 0, 0), (22, .istore_n 2, 1, 0, 0, 0, 0, 0), (23, .aload_n 0, 1, 0, 0, 0, 0, 0), (24, .iload_n 2, 1, 0, 0, 0, 0, 0), (25, .iload_n 1, 1, 0, 0, 0, 0, 0), (26, .aload_n 0, 1, 0, 0, 0, 0, 0), (27, .getfield 19, 3, 7, 5, 743, 0, 0), (30, .iconst 4, 1, 0, 0, 0, 0, 0), (31, .iaload, 1, 0, 0, 0, 0, 0), (32, .invokevirtual 205, 3, 140, 0, 950, 0, 0), (35, .istore_n 3, 1, 0, 0, 0, 0, 0), (36, .iload_n 3, 1, 0, 0, 0, 0, 0), (37, .ldc 95, 2, 0, 0, 883, 0, -1000000), (39, .if_icmp .ne 6, 3, 45, 0, 0, 0, 0), (42, .ldc 208, 2, 0, 0, 966, 0, -1000002), (44, .ireturn, 1, 0, 0, 0, 0, 0), (45, .aload_n 0, 1, 0, 0, 0, 0, 0), (46, .invokevirtual 209, 3, 141, 0, 967, 0, 0), (49, .aload_n 0, 1, 0, 0, 0, 0, 0), (50, .getfield 19, 3, 7, 5, 743, 0, 0), (53, .bipush 6, 2, 0, 0, 0, 0, 0), (55, .iconst 4, 1, 0, 0, 0, 0, 0), (56, .iload_n 2, 1, 0, 0, 0, 0, 0), (57, .imul, 1, 0, 0, 0, 0, 0), (58, .iadd, 1, 0, 0, 0, 0, 0), (59, .iconst 3, 1, 0, 0, 0, 0, 0), (60, .iadd, 1, 0, 0, 0, 0, 0), (61, .dup2, 1, 0, 0, 0, 0, 0), (62, .iaload, 1, 0, 0, 0, 0, 0), (63, .aload_n 0, 1, 0, 0, 0, 0, 0), (64, .iload_n 1, 1, 0, 0, 0, 0, 0), (65, .invokevirtual 212, 3, 137, 0, 971, 0, 0), (68, .iadd, 1, 0, 0, 0, 0, 0), (69, .iastore, 1, 0, 0, 0, 0, 0), (70, .aload_n 0, 1, 0, 0, 0, 0, 0), (71, .getfield 19, 3, 7, 5, 743, 0, 0), (74, .bipush 6, 2, 0, 0, 0, 0, 0), (76, .iconst 4, 1, 0, 0, 0, 0, 0), (77, .iload_n 1, 1, 0, 0, 0, 0, 0), (78, .imul, 1, 0, 0, 0, 0, 0), (79, .iadd, 1, 0, 0, 0, 0, 0), (80, .iconst 3, 1, 0, 0, 0, 0, 0), (81, .iadd, 1, 0, 0, 0, 0, 0), (82, .dup2, 1, 0, 0, 0, 0, 0), (83, .iaload, 1, 0, 0, 0, 0, 0), (84, .aload_n 0, 1, 0, 0, 0, 0, 0), (85, .iload_n 1, 1, 0, 0, 0, 0, 0), (86, .invokevirtual 212, 3, 137, 0, 971, 0, 0), (89, .isub, 1, 0, 0, 0, 0, 0), (90, .iastore, 1, 0, 0, 0, 0, 0), (91, .aload_n 0, 1, 0, 0, 0, 0, 0), (92, .getfield 19, 3, 7, 5, 743, 0, 0), (95, .iconst 5, 1, 0, 0, 0, 0, 0), (96, .iload_n 1, 1, 0, 0, 0, 0, 0), (97, .iastore, 1, 0, 0, 0, 0, 0), (98, .aload_n 0, 1, 0, 0, 0, 0, 0), (99, .getfield 19, 3, 7, 5, 743, 0, 0), (102, .iconst 4, 1, 0, 0, 0, 0, 0), (103, .iload_n 3, 1, 0, 0, 0, 0, 0), (104, .iastore, 1, 0, 0, 0, 0, 0), (105, .iload_n 3, 1, 0, 0, 0, 0, 0), (106, .ireturn, 1, 0, 0, 0, 0, 0)]
/-- BirchLeafModel.waits(I)I -/
def vm_p143 : List vm_En := [(0, .aload_n 0, 1, 0, 0, 0, 0, 0), (1, .iconst 0, 1, 0, 0, 0, 0, 0), (2, .putfield 59, 3, 7, 0, 738, 0, 0), (5, .aload_n 0, 1, 0, 0, 0, 0, 0), (6, .invokevirtual 215, 3, 133, 0, 979, 0, 0), (9, .ifCond .ne 6, 3, 15, 0, 0, 0, 0), (12, .ldc 208, 2, 0, 0, 966, 0, -1000002), (14, .ireturn, 1, 0, 0, 0, 0, 0), (15, .iload_n 1, 1, 0, 0, 0, 0, 0), (16, .i2l, 1, 0, 0, 0, 0, 0), (17, .lconst 1, 1, 0, 0, 0, 0, 0), (18, .ldc2_w 189, 3, 0, 0, 983, 0, 60), (21, .invokestatic 69, 3, 108, 0, 838, 0, 0), (24, .ifCond .ne 6, 3, 30, 0, 0, 0, 0), (27, .ldc 79, 2, 0, 0, 842, 0, -1000001), (29, .ireturn, 1, 0, 0, 0, 0, 0), (30, .aload_n 0, 1, 0, 0, 0, 0, 0), (31, .getfield 19, 3, 7, 5, 743, 0, 0), (34, .iconst 4, 1, 0, 0, 0, 0, 0), (35, .iaload, 1, 0, 0, 0, 0, 0), (36, .iload_n 1, 1, 0, 0, 0, 0, 0), (37, .iadd, 1, 0, 0, 0, 0, 0), (38, .bipush 60, 2, 0, 0, 0, 0, 0), (40, .if_icmp .le 6, 3, 46, 0, 0, 0, 0), (43, .ldc 89, 2, 0, 0, 865, 0, -1000003), (45, .ireturn, 1, 0, 0, 0, 0, 0), (46, .aload_n 0, 1, 0, 0, 0, 0, 0), (47, .invokevirtual 209, 3, 141, 0, 967, 0, 0), (50, .aload_n 0, 1, 0, 0, 0, 0, 0), (51, .getfield 19, 3, 7, 5, 743, 0, 0), (54, .iconst 4, 1, 0, 0, 0, 0, 0), (55, .dup2, 1, 0, 0, 0, 0, 0), (56, .iaload, 1, 0, 0, 0, 0, 0), (57, .iload_n 1, 1, 0, 0, 0, 0, 0), (58, .iadd, 1, 0, 0, 0, 0, 0), (59, .iastore, 1, 0, 0, 0, 0, 0), (60, .aload_n 0, 1, 0, 0, 0, 0, 0), (61, .getfield 19, 3, 7, 5, 743, 0, 0), (64, .iconst 4, 1, 0, 0, 0, 0, 0), (65, .iaload, 1, 0, 0, 0, 0, 0), (66, .ireturn, 1, 0, 0, 0, 0, 0)]
/-- BirchLeafModel.bribe(I)I -/
def vm_p144 : List vm_En := [(0, .aload_n 0, 1, 0, 0, 0, 0, 0), (1, .iconst 0, 1, 0, 0, 0, 0, 0), (2, .putfield 59, 3, 7, 0, 738, 0, 0), (5, .aload_n 0, 1, 0, 0, 0, 0, 0), (6, .invokevirtual 215, 3, 133, 0, 979, 0, 0), (9, .ifCond .ne 6, 3, 15, 0, 0, 0, 0), (12, .ldc 208, 2, 0, 0, 966, 0, -1000002), (14, .ireturn, 1, 0, 0, 0, 0, 0), (15, .iload_n 1, 1, 0, 0, 0, 0, 0), (16, .i2l, 1, 0, 0, 0, 0, 0), (17, .lconst 1, 1, 0, 0, 0, 0, 0), (18, .ldc2_w 189, 3, 0, 0, 983, 0, 60), (21, .invokestatic 69, 3, 108, 0, 838, 0, 0), (24, .ifCond .ne 6, 3, 30, 0, 0, 0, 0), (27, .ldc 79, 2, 0, 0, 842, 0, -1000001), (29, .ireturn, 1, 0, 0, 0, 0, 0), (30, .aload_n 0, 1, 0, 0, 0, 0, 0), (31, .invokevirtual 209, 3, 141, 0, 967, 0, 0), (34, .aload_n 0, 1, 0, 0, 0, 0, 0), (35, .getfield 19, 3, 7, 5, 743, 0, 0), (38, .iconst 0, 1, 0, 0, 0, 0, 0), (39, .iaload, 1, 0, 0, 0, 0, 0), (40, .istore_n 2, 1, 0, 0, 0, 0, 0), (41, .aload_n 0, 1, 0, 0, 0, 0, 0), (42, .getfield 19, 3, 7, 5, 743, 0, 0), (45, .iconst 0, 1, 0, 0, 0, 0, 0), (46, .iload_n 1, 1, 0, 0, 0, 0, 0), (47, .iastore, 1, 0, 0, 0, 0, 0), (48, .iload_n 2, 1, 0, 0, 0, 0, 0), (49, .ireturn, 1, 0, 0, 0, 0, 0)]
/-- BirchLeafModel.undo()I -/
def vm_p145 : List vm_En := [(0, .aload_n 0, 1, 0, 0, 0, 0, 0), (1, .iconst 0, 1, 0, 0, 0, 0, 0), (2, .putfield 59, 3, 7, 0, 738, 0, 0), (5, .aload_n 0, 1, 0, 0, 0, 0, 0), (6, .getfield 186, 3, 7, 8, 746, 0, 0), (9, .ifCond .ne 6, 3, 15, 0, 0, 0, 0), (12, .ldc 208, 2, 0, 0, 966, 0, -1000002), (14, .ireturn, 1, 0, 0, 0, 0, 0), (15, .aload_n 0, 1, 0, 0, 0, 0, 0), (16, .dup, 1, 0, 0, 0, 0, 0), (17, .getfield 186, 3, 7, 8, 746, 0, 0), (20, .iconst 1, 1, 0, 0, 0, 0, 0), (21, .isub, 1, 0, 0, 0, 0, 0), (22, .putfield 186, 3, 7, 8, 746, 0, 0), (25, .iconst 0, 1, 0, 0, 0, 0, 0), (26, .istore_n 1, 1, 0, 0, 0, 0, 0), (27, .iload_n 1, 1, 0, 0, 0, 0, 0), (28, .bipush 70, 2, 0, 0, 0, 0, 0), (30, .if_icmp .ge 29, 3, 59, 0, 0, 0, 0), (33, .aload_n 0, 1, 0, 0, 0, 0, 0), (34, .getfield 19, 3, 7, 5, 743, 0, 0), (37, .iload_n 1, 1, 0, 0, 0, 0, 0), (38, .aload_n 0, 1, 0, 0, 0, 0, 0), (39, .getfield 25, 3, 7, 7, 745, 0, 0), (42, .bipush 70, 2, 0, 0, 0, 0, 0), (44, .aload_n 0, 1, 0, 0, 0, 0, 0), (45, .getfield 186, 3, 7, 8, 746, 0, 0), (48, .imul, 1, 0, 0, 0, 0, 0), (49, .iload_n 1, 1, 0, 0, 0, 0, 0), (50, .iadd, 1, 0, 0, 0, 0, 0), (51, .iaload, 1, 0, 0, 0, 0, 0), (52, .iastore, 1, 0, 0, 0, 0, 0), (53, .iinc 1 1, 3, 0, 0, 0, 0, 0), (56, .goto (-29), 3, 27, 0, 0, 0, 0), (59, .aload_n 0, 1, 0, 0, 0, 0, 0), (60, .getfield 186, 3, 7, 8, 746, 0, 0), (63, .ireturn, 1, 0, 0, 0, 0, 0)]
/-- BirchLeafModel.trader(II)I -/
def vm_p146 : List vm_En := [(0, .aload_n 0, 1, 0, 0, 0, 0, 0), (1, .iconst 0, 1, 0, 0, 0, 0, 0), (2, .putfield 59, 3, 7, 0, 738, 0, 0), (5, .aload_n 0, 1, 0, 0, 0, 0, 0), (6, .iload_n 1, 1, 0, 0, 0, 0, 0), (7, .invokevirtual 202, 3, 134, 0, 946, 0, 0), (10, .ifCond .eq 15, 3, 25, 0, 0, 0, 0), (13, .iload_n 2, 1, 0, 0, 0, 0, 0), (14, .i2l, 1, 0, 0, 0, 0, 0), (15, .lconst 0, 1, 0, 0, 0, 0, 0), (16, .ldc2_w 219, 3, 0, 0, 996, 0, 3), (19, .invokestatic 69, 3, 108, 0, 838, 0, 0), (22, .ifCond .ne 6, 3, 28, 0, 0, 0, 0), (25, .ldc 79, 2, 0, 0, 842, 0, -1000001), (27, .ireturn, 1, 0, 0, 0, 0, 0), (28, .iload_n 2, 1, 0, 0, 0, 0, 0), (29, .iconst 2, 1, 0, 0, 0, 0, 0), (30, .if_icmp .ne 11, 3, 41, 0, 0, 0, 0), (33, .aload_n 0, 1, 0, 0, 0, 0, 0), (34, .iload_n 1, 1, 0, 0, 0, 0, 0), (35, .invokevirtual 212, 3, 137, 0, 971, 0, 0), (38, .goto 20, 3, 58, 0, 0, 0, 0), (41, .aload_n 0, 1, 0, 0, 0, 0, 0), (42, .iload_n 1, 1, 0, 0, 0, 0, 0), (43, .iload_n 2, 1, 0, 0, 0, 0, 0), (44, .iconst 3, 1, 0, 0, 0, 0, 0), (45, .if_icmp .ne 7, 3, 52, 0, 0, 0, 0), (48, .iconst 3, 1, 0, 0, 0, 0, 0), (49, .goto 6, 3, 55, 0, 0, 0, 0), (52, .iconst 1, 1, 0, 0, 0, 0, 0), (53, .iload_n 2, 1, 0, 0, 0, 0, 0), (54, .iadd, 1, 0, 0, 0, 0, 0), (55, .invokevirtual 191, 3, 136, 0, 962, 0, 0), (58, .ireturn, 1, 0, 0, 0, 0, 0)]
/-- BirchLeafModel.takes(II)I -/
def vm_p147 : List vm_En := [(0, .aload_n 0, 1, 0, 0, 0, 0, 0), (1, .iconst 0, 1, 0, 0, 0, 0, 0), (2, .putfield 59, 3, 7, 0, 738, 0, 0), (5, .aload_n 0, 1, 0, 0, 0, 0, 0), (6, .iload_n 1, 1, 0, 0, 0, 0, 0), (7, .invokevirtual 202, 3, 134, 0, 946, 0, 0), (10, .ifCond .eq 10, 3, 20, 0, 0, 0, 0), (13, .iload_n 2, 1, 0, 0, 0, 0, 0), (14, .invokestatic 221, 3, 135, 0, 1001, 0, 0), (17, .ifCond .ne 8, 3, 25, 0, 0, 0, 0), (20, .ldc 79, 2, 0, 0, 842, 0, -1000001), (22, .goto 17, 3, 39, 0, 0, 0, 0), (25, .aload_n 0, 1, 0, 0, 0, 0, 0), (26, .iload_n 1, 1, 0, 0, 0, 0, 0), (27, .iload_n 2, 1, 0, 0, 0, 0, 0), (28, .invokevirtual 198, 3, 138, 0, 958, 0, 0), (31, .ifCond .eq 7, 3, 38, 0, 0, 0, 0), (34, .iconst 1, 1, 0, 0, 0, 0, 0), (35, .goto 4, 3, 39, 0, 0, 0, 0), (38, .iconst 0, 1, 0, 0, 0, 0, 0), (39, .ireturn, 1, 0, 0, 0, 0, 0)]
/-- BirchLeafModel.there(III)I -/
def vm_p148 : List vm_En := [(0, .aload_n 0, 1, 0, 0, 0, 0, 0), (1, .iconst 0, 1, 0, 0, 0, 0, 0), (2, .putfield 59, 3, 7, 0, 738, 0, 0), (5, .aload_n 0, 1, 0, 0, 0, 0, 0), (6, .iload_n 1, 1, 0, 0, 0, 0, 0), (7, .invokevirtual 202, 3, 134, 0, 946, 0, 0), (10, .ifCond .eq 33, 3, 43, 0, 0, 0, 0), (13, .aload_n 0, 1, 0, 0, 0, 0, 0), (14, .iload_n 2, 1, 0, 0, 0, 0, 0), (15, .invokevirtual 202, 3, 134, 0, 946, 0, 0), (18, .ifCond .eq 25, 3, 43, 0, 0, 0, 0), (21, .iload_n 1, 1, 0, 0, 0, 0, 0), (22, .iload_n 2, 1, 0, 0, 0, 0, 0), (23, .if_icmp .eq 20, 3, 43, 0, 0, 0, 0), (26, .iload_n 3, 1, 0, 0, 0, 0, 0), (27, .invokestatic 221, 3, 135, 0, 1001, 0, 0), (30, .ifCond .eq 13, 3, 43, 0, 0, 0, 0), (33, .aload_n 0, 1, 0, 0, 0, 0, 0), (34, .iload_n 1, 1, 0, 0, 0, 0, 0), (35, .iload_n 2, 1, 0, 0, 0, 0, 0), (36, .iload_n 3, 1, 0, 0, 0, 0, 0), (37, .invokevirtual 194, 3, 139, 0, 954, 0, 0), (40, .goto 5, 3, 45, 0, 0, 0, 0), (43, .ldc 79, 2, 0, 0, 842, 0, -1000001), (45, .ireturn, 1, 0, 0, 0, 0, 0)]
/-- BirchLeafModel.worth(II)I -/
def vm_p149 : List vm_En := [(0, .aload_n 0, 1, 0, 0, 0, 0, 0), (1, .iconst 0, 1, 0, 0, 0, 0, 0), (2, .putfield 59, 3, 7, 0, 738, 0, 0), (5, .aload_n 0, 1, 0, 0, 0, 0, 0), (6, .iload_n 1, 1, 0, 0, 0, 0, 0), (7, .invokevirtual 202, 3, 134, 0, 946, 0, 0), (10, .ifCond .eq 10, 3, 20, 0, 0, 0, 0), (13, .iload_n 2, 1, 0, 0, 0, 0, 0), (14, .invokestatic 221, 3, 135, 0, 1001, 0, 0), (17, .ifCond .ne 6, 3, 23, 0, 0, 0, 0), (20, .ldc 79, 2, 0, 0, 842, 0, -1000001), (22, .ireturn, 1, 0, 0, 0, 0, 0), (23, .iconst 0, 1, 0, 0, 0, 0, 0), (24, .istore_n 3, 1, 0, 0, 0, 0, 0), (25, .iload_n 2, 1, 0, 0, 0, 0, 0), (26, .istore 4, 2, 0, 0, 0, 0, 0), (28, .iload 4, 2, 0, 0, 0, 0, 0), (30, .bipush 60, 2, 0, 0, 0, 0, 0), (32, .if_icmp .gt 64, 3, 96, 0, 0, 0, 0), (35, .iconst 0, 1, 0, 0, 0, 0, 0), (36, .istore 5, 2, 0, 0, 0, 0, 0), (38, .iload 5, 2, 0, 0, 0, 0, 0), (40, .aload_n 0, 1, 0, 0, 0, 0, 0), (41, .getfield 19, 3, 7, 5, 743, 0, 0), (44, .iconst 2, 1, 0, 0, 0, 0, 0), (45, .iaload, 1, 0, 0, 0, 0, 0), (46, .if_icmp .ge 44, 3, 90, 0, 0, 0, 0), (49, .aload_n 0, 1, 0, 0, 0, 0, 0), (50, .iload_n 1, 1, 0, 0, 0, 0, 0), (51, .iload 5, 2, 0, 0, 0, 0, 0), (53, .iload 4, 2, 0, 0, 0, 0, 0), (55, .invokevirtual 205, 3, 140, 0, 950, 0, 0), (58, .ldc 95, 2, 0, 0, 883, 0, -1000000), (60, .if_icmp .eq 22, 3, 82, 0, 0, 0, 0), (63, .aload_n 0, 1, 0, 0, 0, 0, 0), (64, .iload 5, 2, 0, 0, 0, 0, 0), (66, .invokevirtual 212, 3, 137, 0, 971, 0, 0), (69, .iload_n 3, 1, 0, 0, 0, 0, 0), (70, .if_icmp .le 12, 3, 82, 0, 0, 0, 0), (73, .aload_n 0, 1, 0, 0, 0, 0, 0), (74, .iload 5, 2, 0, 0, 0, 0, 0), (76, .invokevirtual 212, 3, 137, 0, 971, 0, 0), (79, .goto 4, 3, 83, 0, 0, 0, 0), (82, .iload_n 3, 1, 0, 0, 0, 0, 0), (83, .istore_n 3, 1, 0, 0, 0, 0, 0), (84, .iinc 5 1, 3, 0, 0, 0, 0, 0), (87, .goto (-49), 3, 38, 0, 0, 0, 0), (90, .iinc 4 1, 3, 0, 0, 0, 0, 0), (93, .goto (-65), 3, 28, 0, 0, 0, 0), (96, .iload_n 3, 1, 0, 0, 0, 0, 0), (97, .ireturn, 1, 0, 0, 0, 0, 0)]
/-- BirchLeafModel.sure(II)I -/
def vm_p150 : List vm_En := [(0, .aload_n 0, 1, 0, 0, 0, 0, 0), (1, .iconst 0, 1, 0, 0, 0, 0, 0), (2, .putfield 59, 3, 7, 0, 738, 0, 0), (5, .aload_n 0, 1, 0, 0, 0, 0, 0), (6, .iload_n 1, 1, 0, 0, 0, 0, 0), (7, .invokevirtual 202, 3, 134, 0, 946, 0, 0), (10, .ifCond .eq 10, 3, 20, 0, 0, 0, 0), (13, .iload_n 2, 1, 0, 0, 0, 0, 0), (14, .invokestatic 221, 3, 135, 0, 1001, 0, 0), (17, .ifCond .ne 6, 3, 23, 0, 0, 0, 0), (20, .ldc 79, 2, 0, 0, 842, 0, -1000001), (22, .ireturn, 1, 0, 0, 0, 0, 0), (23, .iconst 0, 1, 0, 0, 0, 0, 0), (24, .istore_n 3, 1, 0, 0, 0, 0, 0), (25, .iload_n 3, 1, 0, 0, 0, 0, 0), (26, .sipush 372, 3, 0, 0, 0, 0, 0), (29, .if_icmp .ge 16, 3, 45, 0, 0, 0, 0), (32, .aload_n 0, 1, 0, 0, 0, 0, 0), (33, .getfield 31, 3, 7, 19, 757, 0, 0), (36, .iload_n 3, 1, 0, 0, 0, 0, 0), (37, .iconst 0, 1, 0, 0, 0, 0, 0), (38, .iastore, 1, 0, 0, 0, 0, 0), (39, .iinc 3 1, 3, 0, 0, 0, 0, 0), (42, .goto (-17), 3, 25, 0, 0, 0, 0), (45, .bipush 60, 2, 0, 0, 0, 0, 0), (47, .istore_n 3, 1, 0, 0, 0, 0, 0), (48, .iload_n 3, 1, 0, 0, 0, 0, 0), (49, .iload_n 2, 1, 0, 0, 0, 0, 0), (50, .if_icmp .lt 155, 3, 205, 0, 0, 0, 0), (53, .iconst 0, 1, 0, 0, 0, 0, 0), (54, .istore 4, 2, 0, 0, 0, 0, 0), (56, .iload 4, 2, 0, 0, 0, 0, 0), (58, .aload_n 0, 1, 0, 0, 0, 0, 0), (59, .getfield 19, 3, 7, 5, 743, 0, 0), (62, .iconst 2, 1, 0, 0, 0, 0, 0), (63, .iaload, 1, 0, 0, 0, 0, 0), (64, .if_icmp .ge 135, 3, 199, 0, 0, 0, 0), (67, .aload_n 0, 1, 0, 0, 0, 0, 0), (68, .getfield 31, 3, 7, 19, 757, 0, 0), (71, .bipush 6, 2, 0, 0, 0, 0, 0), (73, .iload_n 3, 1, 0, 0, 0, 0, 0), (74, .iconst 1, 1, 0, 0, 0, 0, 0), (75, .iadd, 1, 0, 0, 0, 0, 0), (76, .imul, 1, 0, 0, 0, 0, 0), (77, .iload 4, 2, 0, 0, 0, 0, 0), (79, .iadd, 1, 0, 0, 0, 0, 0), (80, .iaload, 1, 0, 0, 0, 0, 0), (81, .istore 5, 2, 0, 0, 0, 0, 0), (83, .iconst 0, 1, 0, 0, 0, 0, 0), (84, .istore 6, 2, 0, 0, 0, 0, 0), (86, .iload 6, 2, 0, 0, 0, 0, 0), (88, .aload_n 0, 1, 0, 0, 0, 0, 0), (89, .getfield 19, 3, 7, 5, 743, 0, 0), (92, .iconst 2, 1, 0, 0, 0, 0, 0), (93, .iaload, 1, 0, 0, 0, 0, 0), (94, .if_icmp .ge 85, 3, 179, 0, 0, 0, 0), (97, .aload_n 0, 1, 0, 0, 0, 0, 0), (98, .iload 4, 2, 0, 0, 0, 0, 0), (100, .iload 6, 2, 0, 0, 0, 0, 0), (102, .iload_n 3, 1, 0, 0, 0, 0, 0), (103, .invokevirtual 205, 3, 140, 0, 950, 0, 0), (106, .istore 7, 2, 0, 0, 0, 0, 0), (108, .iload 7, 2, 0, 0, 0, 0, 0), (110, .ldc 95, 2, 0, 0, 883, 0, -1000000), (112, .if_icmp .eq 29, 3, 141, 0, 0, 0, 0), (115, .aload_n 0, 1, 0, 0, 0, 0, 0), (116, .getfield 31, 3, 7, 19, 757, 0, 0), (119, .bipush 6, 2, 0, 0, 0, 0, 0), (121, .iload 7, 2, 0, 0, 0, 0, 0), (123, .imul, 1, 0, 0, 0, 0, 0), (124, .iload 6, 2, 0, 0, 0, 0, 0), (126, .iadd, 1, 0, 0, 0, 0, 0), (127, .iaload, 1, 0, 0, 0, 0, 0), (128, .aload_n 0, 1, 0, 0, 0, 0, 0), (129, .iload 6, 2, 0, 0, 0, 0, 0), (131, .invokevirtual 212, 3, 137, 0, 971, 0, 0), (134, .if_icmp .lt 7, 3, 141, 0, 0, 0, 0), (137, .iconst 1, 1, 0, 0, 0, 0, 0), (138, .goto 4, 3, 142, 0, 0, 0, 0), (141, .iconst 0, 1, 0, 0, 0, 0, 0), (142, .istore 8, 2, 0, 0, 0, 0, 0), (144, .iload 8, 2, 0, 0, 0, 0, 0), (146, .ifCond .eq 23, 3, 169, 0, 0, 0, 0), (149, .aload_n 0, 1, 0, 0, 0, 0, 0), (150, .iload 6, 2, 0, 0, 0, 0, 0), (152, .invokevirtual 212, 3, 137, 0, 971, 0, 0), (155, .iload 5, 2, 0, 0, 0, 0, 0), (157, .if_icmp .le 12, 3, 169, 0, 0, 0, 0), (160, .aload_n 0, 1, 0, 0, 0, 0, 0), (161, .iload 6, 2, 0, 0, 0, 0, 0), (163, .invokevirtual 212, 3, 137, 0, 971, 0, 0), (166, .goto 5, 3, 171, 0, 0, 0, 0), (169, .iload 5, 2, 0, 0, 0, 0, 0), (171, .istore 5, 2, 0, 0, 0, 0, 0), (173, .iinc 6 1, 3, 0, 0, 0, 0, 0), (176, .goto (-90), 3, 86, 0, 0, 0, 0), (179, .aload_n 0, 1, 0, 0, 0, 0, 0), (180, .getfield 31, 3, 7, 19, 757, 0, 0), (183, .bipush 6, 2, 0, 0, 0, 0, 0), (185, .iload_n 3, 1, 0, 0, 0, 0, 0), (186, .imul, 1, 0, 0, 0, 0, 0), (187, .iload 4, 2, 0, 0, 0, 0, 0), (189, .iadd, 1, 0, 0, 0, 0, 0), (190, .iload 5, 2, 0, 0, 0, 0, 0), (192, .iastore, 1, 0, 0, 0, 0, 0), (193, .iinc 4 1, 3, 0, 0, 0, 0, 0), (196, .goto (-140), 3, 56, 0, 0, 0, 0), (199, .iinc 3 (-1), 3, 0, 0, 0, 0, 0), (202, .goto (-154), 3, 48, 0, 0, 0, 0), (205, .aload_n 0, 1, 0, 0, 0, 0, 0), (206, .getfield 31, 3, 7, 19, 757, 0, 0), (209, .bipush 6, 2, 0, 0, 0, 0, 0), (211, .iload_n 2, 1, 0, 0, 0, 0, 0), (212, .imul, 1, 0, 0, 0, 0, 0), (213, .iload_n 1, 1, 0, 0, 0, 0, 0), (214, .iadd, 1, 0, 0, 0, 0, 0), (215, .iaload, 1, 0, 0, 0, 0, 0), (216, .ireturn, 1, 0, 0, 0, 0, 0)]
/-- BirchLeafModel.most(III)I -/
def vm_p151 : List vm_En := [(0, .aload_n 0, 1, 0, 0, 0, 0, 0), (1, .iconst 0, 1, 0, 0, 0, 0, 0), (2, .putfield 59, 3, 7, 0, 738, 0, 0), (5, .aload_n 0, 1, 0, 0, 0, 0, 0), (6, .iload_n 1, 1, 0, 0, 0, 0, 0), (7, .invokevirtual 202, 3, 134, 0, 946, 0, 0), (10, .ifCond .eq 20, 3, 30, 0, 0, 0, 0), (13, .iload_n 2, 1, 0, 0, 0, 0, 0), (14, .invokestatic 221, 3, 135, 0, 1001, 0, 0), (17, .ifCond .eq 13, 3, 30, 0, 0, 0, 0), (20, .iload_n 3, 1, 0, 0, 0, 0, 0), (21, .i2l, 1, 0, 0, 0, 0, 0), (22, .lconst 0, 1, 0, 0, 0, 0, 0), (23, .lconst 1, 1, 0, 0, 0, 0, 0), (24, .invokestatic 69, 3, 108, 0, 838, 0, 0), (27, .ifCond .ne 6, 3, 33, 0, 0, 0, 0), (30, .ldc 79, 2, 0, 0, 842, 0, -1000001), (32, .ireturn, 1, 0, 0, 0, 0, 0), (33, .iconst 0, 1, 0, 0, 0, 0, 0), (34, .istore 4, 2, 0, 0, 0, 0, 0), (36, .iload 4, 2, 0, 0, 0, 0, 0), (38, .sipush 372, 3, 0, 0, 0, 0, 0), (41, .if_icmp .ge 25, 3, 66, 0, 0, 0, 0), (44, .aload_n 0, 1, 0, 0, 0, 0, 0), (45, .getfield 34, 3, 7, 20, 758, 0, 0), (48, .iload 4, 2, 0, 0, 0, 0, 0), (50, .iconst 0, 1, 0, 0, 0, 0, 0), (51, .iastore, 1, 0, 0, 0, 0, 0), (52, .aload_n 0, 1, 0, 0, 0, 0, 0), (53, .getfield 37, 3, 7, 21, 759, 0, 0), (56, .iload 4, 2, 0, 0, 0, 0, 0), (58, .iconst 0, 1, 0, 0, 0, 0, 0), (59, .iastore, 1, 0, 0, 0, 0, 0), (60, .iinc 4 1, 3, 0, 0, 0, 0, 0), (63, .goto (-27), 3, 36, 0, 0, 0, 0), (66, .bipush 60, 2, 0, 0, 0, 0, 0), (68, .istore 4, 2, 0, 0, 0, 0, 0), (70, .iload 4, 2, 0, 0, 0, 0, 0), (72, .iload_n 2, 1, 0, 0, 0, 0, 0), (73, .if_icmp .lt 217, 3, 290, 0, 0, 0, 0), (76, .iconst 0, 1, 0, 0, 0, 0, 0), (77, .istore 5, 2, 0, 0, 0, 0, 0), (79, .iload 5, 2, 0, 0, 0, 0, 0), (81, .aload_n 0, 1, 0, 0, 0, 0, 0), (82, .getfield 19, 3, 7, 5, 743, 0, 0), (85, .iconst 2, 1, 0, 0, 0, 0, 0), (86, .iaload, 1, 0, 0, 0, 0, 0), (87, .if_icmp .ge 197, 3, 284, 0, 0, 0, 0), (90, .aload_n 0, 1, 0, 0, 0, 0, 0), (91, .getfield 34, 3, 7, 20, 758, 0, 0), (94, .bipush 6, 2, 0, 0, 0, 0, 0), (96, .iload 4, 2, 0, 0, 0, 0, 0), (98, .iconst 1, 1, 0, 0, 0, 0, 0), (99, .iadd, 1, 0, 0, 0, 0, 0), (100, .imul, 1, 0, 0, 0, 0, 0), (101, .iload 5, 2, 0, 0, 0, 0, 0), (103, .iadd, 1, 0, 0, 0, 0, 0), (104, .iaload, 1, 0, 0, 0, 0, 0), (105, .istore 6, 2, 0, 0, 0, 0, 0), (107, .aload_n 0, 1, 0, 0, 0, 0, 0), (108, .getfield 37, 3, 7, 21, 759, 0, 0), (111, .bipush 6, 2, 0, 0, 0, 0, 0), (113, .iload 4, 2, 0, 0, 0, 0, 0), (115, .iconst 1, 1, 0, 0, 0, 0, 0), (116, .iadd, 1, 0, 0, 0, 0, 0), (117, .imul, 1, 0, 0, 0, 0, 0), (118, .iload 5, 2, 0, 0, 0, 0, 0), (120, .iadd, 1, 0, 0, 0, 0, 0), (121, .iaload, 1, 0, 0, 0, 0, 0), (122, .istore 7, 2, 0, 0, 0, 0, 0), (124, .iconst 0, 1, 0, 0, 0, 0, 0), (125, .istore 8, 2, 0, 0, 0, 0, 0), (127, .iload 8, 2, 0, 0, 0, 0, 0), (129, .aload_n 0, 1, 0, 0, 0, 0, 0), (130, .getfield 19, 3, 7, 5, 743, 0, 0), (133, .iconst 2, 1, 0, 0, 0, 0, 0), (134, .iaload, 1, 0, 0, 0, 0, 0), (135, .if_icmp .ge 113, 3, 248, 0, 0, 0, 0), (138, .aload_n 0, 1, 0, 0, 0, 0, 0), (139, .iload 5, 2, 0, 0, 0, 0, 0), (141, .iload 8, 2, 0, 0, 0, 0, 0), (143, .iload 4, 2, 0, 0, 0, 0, 0), (145, .invokevirtual 205, 3, 140, 0, 950, 0, 0), (148, .istore 9, 2, 0, 0, 0, 0, 0), (150, .iload 9, 2, 0, 0, 0, 0, 0), (152, .ldc 95, 2, 0, 0, 883, 0, -1000000), (154, .if_icmp .eq 88, 3, 242, 0, 0, 0, 0), (157, .aload_n 0, 1, 0, 0, 0, 0, 0), (158, .iload 8, 2, 0, 0, 0, 0, 0), (160, .invokevirtual 212, 3, 137, 0, 971, 0, 0), (163, .aload_n 0, 1, 0, 0, 0, 0, 0), (164, .getfield 34, 3, 7, 20, 758, 0, 0), (167, .bipush 6, 2, 0, 0, 0, 0, 0), (169, .iload 9, 2, 0, 0, 0, 0, 0), (171, .imul, 1, 0, 0, 0, 0, 0), (172, .iload 8, 2, 0, 0, 0, 0, 0), (174, .iadd, 1, 0, 0, 0, 0, 0), (175, .iaload, 1, 0, 0, 0, 0, 0), (176, .iadd, 1, 0, 0, 0, 0, 0), (177, .istore 10, 2, 0, 0, 0, 0, 0), (179, .iconst 1, 1, 0, 0, 0, 0, 0), (180, .aload_n 0, 1, 0, 0, 0, 0, 0), (181, .getfield 37, 3, 7, 21, 759, 0, 0), (184, .bipush 6, 2, 0, 0, 0, 0, 0), (186, .iload 9, 2, 0, 0, 0, 0, 0), (188, .imul, 1, 0, 0, 0, 0, 0), (189, .iload 8, 2, 0, 0, 0, 0, 0), (191, .iadd, 1, 0, 0, 0, 0, 0), (192, .iaload, 1, 0, 0, 0, 0, 0), (193, .iadd, 1, 0, 0, 0, 0, 0), (194, .istore 11, 2, 0, 0, 0, 0, 0), (196, .iload 10, 2, 0, 0, 0, 0, 0), (198, .iload 6, 2, 0, 0, 0, 0, 0), (200, .if_icmp .gt 17, 3, 217, 0, 0, 0, 0), (203, .iload 10, 2, 0, 0, 0, 0, 0), (205, .iload 6, 2, 0, 0, 0, 0, 0), (207, .if_icmp .ne 15, 3, 222, 0, 0, 0, 0), (210, .iload 11, 2, 0, 0, 0, 0, 0), (212, .iload 7, 2, 0, 0, 0, 0, 0), (214, .if_icmp .ge 8, 3, 222, 0, 0, 0, 0), (217, .iload 11, 2, 0, 0, 0, 0, 0), (219, .goto 5, 3, 224, 0, 0, 0, 0), (222, .iload 7, 2, 0, 0, 0, 0, 0), (224, .istore 7, 2, 0, 0, 0, 0, 0), (226, .iload 10, 2, 0, 0, 0, 0, 0), (228, .iload 6, 2, 0, 0, 0, 0, 0), (230, .if_icmp .le 8, 3, 238, 0, 0, 0, 0), (233, .iload 10, 2, 0, 0, 0, 0, 0), (235, .goto 5, 3, 240, 0, 0, 0, 0), (238, .iload 6, 2, 0, 0, 0, 0, 0), (240, .istore 6, 2, 0, 0, 0, 0, 0), (242, .iinc 8 1, 3, 0, 0, 0, 0, 0), (245, .goto (-118), 3, 127, 0, 0, 0, 0), (248, .aload_n 0, 1, 0, 0, 0, 0, 0), (249, .getfield 34, 3, 7, 20, 758, 0, 0), (252, .bipush 6, 2, 0, 0, 0, 0, 0), (254, .iload 4, 2, 0, 0, 0, 0, 0), (256, .imul, 1, 0, 0, 0, 0, 0), (257, .iload 5, 2, 0, 0, 0, 0, 0), (259, .iadd, 1, 0, 0, 0, 0, 0), (260, .iload 6, 2, 0, 0, 0, 0, 0), (262, .iastore, 1, 0, 0, 0, 0, 0), (263, .aload_n 0, 1, 0, 0, 0, 0, 0), (264, .getfield 37, 3, 7, 21, 759, 0, 0), (267, .bipush 6, 2, 0, 0, 0, 0, 0), (269, .iload 4, 2, 0, 0, 0, 0, 0), (271, .imul, 1, 0, 0, 0, 0, 0), (272, .iload 5, 2, 0, 0, 0, 0, 0), (274, .iadd, 1, 0, 0, 0, 0, 0), (275, .iload 7, 2, 0, 0, 0, 0, 0), (277, .iastore, 1, 0, 0, 0, 0, 0), (278, .iinc 5 1, 3, 0, 0, 0, 0, 0), (281, .goto (-202), 3, 79, 0, 0, 0, 0), (284, .iinc 4 (-1), 3, 0, 0, 0, 0, 0), (287, .goto (-217), 3, 70, 0, 0, 0, 0), (290, .iload_n 3, 1, 0, 0, 0, 0, 0), (291, .ifCond .ne 17, 3, 308, 0, 0, 0, 0), (294, .aload_n 0, 1, 0, 0, 0, 0, 0), (295, .getfield 34, 3, 7, 20, 758, 0, 0), (298, .bipush 6, 2, 0, 0, 0, 0, 0), (300, .iload_n 2, 1, 0, 0, 0, 0, 0), (301, .imul, 1, 0, 0, 0, 0, 0), (302, .iload_n 1, 1, 0, 0, 0, 0, 0), (303, .iadd, 1, 0, 0, 0, 0, 0), (304, .iaload, 1, 0, 0, 0, 0, 0), (305, .goto 14, 3, 319, 0, 0, 0, 0), (308, .aload_n 0, 1, 0, 0, 0, 0, 0), (309, .getfield 37, 3, 7, 21, 759, 0, 0), (312, .bipush 6, 2, 0, 0, 0, 0, 0), (314, .iload_n 2, 1, 0, 0, 0, 0, 0), (315, .imul, 1, 0, 0, 0, 0, 0), (316, .iload_n 1, 1, 0, 0, 0, 0, 0), (317, .iadd, 1, 0, 0, 0, 0, 0), (318, .iaload, 1, 0, 0, 0, 0, 0), (319, .ireturn, 1, 0, 0, 0, 0, 0)]
/-- BirchLeafModel.lastOne()I -/
def vm_p152 : List vm_En := [(0, .aload_n 0, 1, 0, 0, 0, 0, 0), (1, .getfield 19, 3, 7, 5, 743, 0, 0), (4, .iconst 5, 1, 0, 0, 0, 0, 0), (5, .iaload, 1, 0, 0, 0, 0, 0), (6, .istore_n 1, 1, 0, 0, 0, 0, 0), (7, .aload_n 0, 1, 0, 0, 0, 0, 0), (8, .aload_n 0, 1, 0, 0, 0, 0, 0), (9, .getfield 19, 3, 7, 5, 743, 0, 0), (12, .iconst 4, 1, 0, 0, 0, 0, 0), (13, .iaload, 1, 0, 0, 0, 0, 0), (14, .putfield 224, 3, 7, 22, 760, 0, 0), (17, .iload_n 1, 1, 0, 0, 0, 0, 0), (18, .istore_n 2, 1, 0, 0, 0, 0, 0), (19, .iload_n 2, 1, 0, 0, 0, 0, 0), (20, .ldc 95, 2, 0, 0, 883, 0, -1000000), (22, .if_icmp .eq 101, 3, 123, 0, 0, 0, 0), (25, .ldc 95, 2, 0, 0, 883, 0, -1000000), (27, .istore_n 2, 1, 0, 0, 0, 0, 0), (28, .iconst 0, 1, 0, 0, 0, 0, 0), (29, .istore_n 3, 1, 0, 0, 0, 0, 0), (30, .iload_n 3, 1, 0, 0, 0, 0, 0), (31, .aload_n 0, 1, 0, 0, 0, 0, 0), (32, .getfield 19, 3, 7, 5, 743, 0, 0), (35, .iconst 2, 1, 0, 0, 0, 0, 0), (36, .iaload, 1, 0, 0, 0, 0, 0), (37, .if_icmp .ge 61, 3, 98, 0, 0, 0, 0), (40, .aload_n 0, 1, 0, 0, 0, 0, 0), (41, .iload_n 1, 1, 0, 0, 0, 0, 0), (42, .iload_n 3, 1, 0, 0, 0, 0, 0), (43, .aload_n 0, 1, 0, 0, 0, 0, 0), (44, .getfield 224, 3, 7, 22, 760, 0, 0), (47, .invokevirtual 205, 3, 140, 0, 950, 0, 0), (50, .ldc 95, 2, 0, 0, 883, 0, -1000000), (52, .if_icmp .eq 7, 3, 59, 0, 0, 0, 0), (55, .iconst 1, 1, 0, 0, 0, 0, 0), (56, .goto 4, 3, 60, 0, 0, 0, 0), (59, .iconst 0, 1, 0, 0, 0, 0, 0), (60, .istore 4, 2, 0, 0, 0, 0, 0), (62, .iload 4, 2, 0, 0, 0, 0, 0), (64, .ifCond .eq 26, 3, 90, 0, 0, 0, 0), (67, .iload_n 2, 1, 0, 0, 0, 0, 0), (68, .ldc 95, 2, 0, 0, 883, 0, -1000000), (70, .if_icmp .eq 16, 3, 86, 0, 0, 0, 0), (73, .aload_n 0, 1, 0, 0, 0, 0, 0), (74, .iload_n 3, 1, 0, 0, 0, 0, 0), (75, .invokevirtual 212, 3, 137, 0, 971, 0, 0), (78, .aload_n 0, 1, 0, 0, 0, 0, 0), (79, .iload_n 2, 1, 0, 0, 0, 0, 0), (80, .invokevirtual 212, 3, 137, 0, 971, 0, 0), (83, .if_icmp .le 7, 3, 90, 0, 0, 0, 0), (86, .iload_n 3, 1, 0, 0, 0, 0, 0), (87, .goto 4, 3, 91, 0, 0, 0, 0), (90, .iload_n 2, 1, 0, 0, 0, 0, 0), (91, .istore_n 2, 1, 0, 0, 0, 0, 0), (92, .iinc 3 1, 3, 0, 0, 0, 0, 0), (95, .goto (-65), 3, 30, 0, 0, 0, 0), (98, .iload_n 2, 1, 0, 0, 0, 0, 0), (99, .ldc 95, 2, 0, 0, 883, 0, -1000000), (101, .if_icmp .eq (-82), 3, 19, 0, 0, 0, 0), (104, .aload_n 0, 1, 0, 0, 0, 0, 0), (105, .aload_n 0, 1, 0, 0, 0, 0, 0), (106, .iload_n 1, 1, 0, 0, 0, 0, 0), (107, .iload_n 2, 1, 0, 0, 0, 0, 0), (108, .aload_n 0, 1, 0, 0, 0, 0, 0), (109, .getfield 224, 3, 7, 22, 760, 0, 0), (112, .invokevirtual 205, 3, 140, 0, 950, 0, 0), (115, .putfield 224, 3, 7, 22, 760, 0, 0), (118, .iload_n 2, 1, 0, 0, 0, 0, 0), (119, .istore_n 1, 1, 0, 0, 0, 0, 0), (120, .goto (-101), 3, 19, 0, 0, 0, 0), (123, .iload_n 1, 1, 0, 0, 0, 0, 0), (124, .ireturn, 1, 0, 0, 0, 0, 0)]
/-- BirchLeafModel.last(I)I -/
def vm_p153 : List vm_En := [(0, .aload_n 0, 1, 0, 0, 0, 0, 0), (1, .iconst 0, 1, 0, 0, 0, 0, 0), (2, .putfield 59, 3, 7, 0, 738, 0, 0), (5, .aload_n 0, 1, 0, 0, 0, 0, 0), (6, .invokevirtual 215, 3, 133, 0, 979, 0, 0), (9, .ifCond .ne 6, 3, 15, 0, 0, 0, 0), (12, .ldc 208, 2, 0, 0, 966, 0, -1000002), (14, .ireturn, 1, 0, 0, 0, 0, 0), (15, .iload_n 1, 1, 0, 0, 0, 0, 0), (16, .i2l, 1, 0, 0, 0, 0, 0), (17, .lconst 0, 1, 0, 0, 0, 0, 0), (18, .lconst 1, 1, 0, 0, 0, 0, 0), (19, .invokestatic 69, 3, 108, 0, 838, 0, 0), (22, .ifCond .ne 6, 3, 28, 0, 0, 0, 0), (25, .ldc 79, 2, 0, 0, 842, 0, -1000001), (27, .ireturn, 1, 0, 0, 0, 0, 0), (28, .aload_n 0, 1, 0, 0, 0, 0, 0), (29, .invokevirtual 227, 3, 152, 0, 1024, 0, 0), (32, .istore_n 2, 1, 0, 0, 0, 0, 0), (33, .iload_n 1, 1, 0, 0, 0, 0, 0), (34, .ifCond .ne 7, 3, 41, 0, 0, 0, 0), (37, .iload_n 2, 1, 0, 0, 0, 0, 0), (38, .goto 7, 3, 45, 0, 0, 0, 0), (41, .aload_n 0, 1, 0, 0, 0, 0, 0), (42, .getfield 224, 3, 7, 22, 760, 0, 0), (45, .ireturn, 1, 0, 0, 0, 0, 0)]
/-- BirchLeafModel.crow(I)I -/
def vm_p154 : List vm_En := [(0, .aload_n 0, 1, 0, 0, 0, 0, 0), (1, .iconst 0, 1, 0, 0, 0, 0, 0), (2, .putfield 59, 3, 7, 0, 738, 0, 0), (5, .aload_n 0, 1, 0, 0, 0, 0, 0), (6, .iload_n 1, 1, 0, 0, 0, 0, 0), (7, .invokevirtual 202, 3, 134, 0, 946, 0, 0), (10, .ifCond .ne 6, 3, 16, 0, 0, 0, 0), (13, .ldc 79, 2, 0, 0, 842, 0, -1000001), (15, .ireturn, 1, 0, 0, 0, 0, 0), (16, .aload_n 0, 1, 0, 0, 0, 0, 0), (17, .getfield 19, 3, 7, 5, 743, 0, 0), (20, .iconst 0, 1, 0, 0, 0, 0, 0), (21, .iaload, 1, 0, 0, 0, 0, 0), (22, .istore_n 2, 1, 0, 0, 0, 0, 0), (23, .ldc 95, 2, 0, 0, 883, 0, -1000000), (25, .istore_n 3, 1, 0, 0, 0, 0, 0), (26, .bipush 60, 2, 0, 0, 0, 0, 0), (28, .istore 4, 2, 0, 0, 0, 0, 0), (30, .iload 4, 2, 0, 0, 0, 0, 0), (32, .ifCond .le 32, 3, 64, 0, 0, 0, 0), (35, .aload_n 0, 1, 0, 0, 0, 0, 0), (36, .getfield 19, 3, 7, 5, 743, 0, 0), (39, .iconst 0, 1, 0, 0, 0, 0, 0), (40, .iload 4, 2, 0, 0, 0, 0, 0), (42, .iastore, 1, 0, 0, 0, 0, 0), (43, .aload_n 0, 1, 0, 0, 0, 0, 0), (44, .invokevirtual 227, 3, 152, 0, 1024, 0, 0), (47, .iload_n 1, 1, 0, 0, 0, 0, 0), (48, .if_icmp .ne 8, 3, 56, 0, 0, 0, 0), (51, .iload 4, 2, 0, 0, 0, 0, 0), (53, .goto 4, 3, 57, 0, 0, 0, 0), (56, .iload_n 3, 1, 0, 0, 0, 0, 0), (57, .istore_n 3, 1, 0, 0, 0, 0, 0), (58, .iinc 4 (-1), 3, 0, 0, 0, 0, 0), (61, .goto (-31), 3, 30, 0, 0, 0, 0), (64, .aload_n 0, 1, 0, 0, 0, 0, 0), (65, .getfield 19, 3, 7, 5, 743, 0, 0), (68, .iconst 0, 1, 0, 0, 0, 0, 0), (69, .iload_n 2, 1, 0, 0, 0, 0, 0), (70, .iastore, 1, 0, 0, 0, 0, 0), (71, .iload_n 3, 1, 0, 0, 0, 0, 0), (72, .ireturn, 1, 0, 0, 0, 0, 0)]
/-- BirchLeafModel.isUnseen(III)Z -/
def vm_p155 : List vm_En := [(0, .aload_n 0, 1, 0, 0, 0, 0, 0), (1, .getfield 40, 3, 7, 23, 761, 0, 0), (4, .iload_n 2, 1, 0, 0, 0, 0, 0), (5, .iaload, 1, 0, 0, 0, 0, 0), (6, .ldc 95, 2, 0, 0, 883, 0, -1000000), (8, .if_icmp .eq 13, 3, 21, 0, 0, 0, 0), (11, .aload_n 0, 1, 0, 0, 0, 0, 0), (12, .getfield 40, 3, 7, 23, 761, 0, 0), (15, .iload_n 2, 1, 0, 0, 0, 0, 0), (16, .iaload, 1, 0, 0, 0, 0, 0), (17, .iload_n 3, 1, 0, 0, 0, 0, 0), (18, .if_icmp .ne 7, 3, 25, 0, 0, 0, 0), (21, .iconst 1, 1, 0, 0, 0, 0, 0), (22, .goto 4, 3, 26, 0, 0, 0, 0), (25, .iconst 0, 1, 0, 0, 0, 0, 0), (26, .istore 4, 2, 0, 0, 0, 0, 0), (28, .iload_n 1, 1, 0, 0, 0, 0, 0), (29, .iconst 1, 1, 0, 0, 0, 0, 0), (30, .iadd, 1, 0, 0, 0, 0, 0), (31, .istore 5, 2, 0, 0, 0, 0, 0), (33, .iload 5, 2, 0, 0, 0, 0, 0), (35, .iload_n 2, 1, 0, 0, 0, 0, 0), (36, .if_icmp .ge 33, 3, 69, 0, 0, 0, 0), (39, .iload 4, 2, 0, 0, 0, 0, 0), (41, .ifCond .eq 19, 3, 60, 0, 0, 0, 0), (44, .aload_n 0, 1, 0, 0, 0, 0, 0), (45, .getfield 40, 3, 7, 23, 761, 0, 0), (48, .iload 5, 2, 0, 0, 0, 0, 0), (50, .iaload, 1, 0, 0, 0, 0, 0), (51, .ldc 95, 2, 0, 0, 883, 0, -1000000), (53, .if_icmp .ne 7, 3, 60, 0, 0, 0, 0), (56, .iconst 1, 1, 0, 0, 0, 0, 0), (57, .goto 4, 3, 61, 0, 0, 0, 0), (60, .iconst 0, 1, 0, 0, 0, 0, 0), (61, .istore 4, 2, 0, 0, 0, 0, 0), (63, .iinc 5 1, 3, 0, 0, 0, 0, 0), (66, .goto (-33), 3, 33, 0, 0, 0, 0), (69, .iload 4, 2, 0, 0, 0, 0, 0), (71, .ireturn, 1, 0, 0, 0, 0, 0)]
/-- BirchLeafModel.layComes()V -/
def vm_p156 : List vm_En := [(0, .iconst 0, 1, 0, 0, 0, 0, 0), (1, .istore_n 1, 1, 0, 0, 0, 0, 0), (2, .iload_n 1, 1, 0, 0, 0, 0, 0), (3, .sipush 366, 3, 0, 0, 0, 0, 0), (6, .if_icmp .ge 16, 3, 22, 0, 0, 0, 0), (9, .aload_n 0, 1, 0, 0, 0, 0, 0), (10, .getfield 43, 3, 7, 24, 762, 0, 0), (13, .iload_n 1, 1, 0, 0, 0, 0, 0), (14, .iconst 0, 1, 0, 0, 0, 0, 0), (15, .bastore, 1, 0, 0, 0, 0, 0), (16, .iinc 1 1, 3, 0, 0, 0, 0, 0), (19, .goto (-17), 3, 2, 0, 0, 0, 0), (22, .aload_n 0, 1, 0, 0, 0, 0, 0), (23, .getfield 43, 3, 7, 24, 762, 0, 0), (26, .iconst 0, 1, 0, 0, 0, 0, 0), (27, .aload_n 0, 1, 0, 0, 0, 0, 0), (28, .getfield 40, 3, 7, 23, 761, 0, 0), (31, .iconst 0, 1, 0, 0, 0, 0, 0), (32, .iaload, 1, 0, 0, 0, 0, 0), (33, .ldc 95, 2, 0, 0, 883, 0, -1000000), (35, .if_icmp .eq 12, 3, 47, 0, 0, 0, 0), (38, .aload_n 0, 1, 0, 0, 0, 0, 0), (39, .getfield 40, 3, 7, 23, 761, 0, 0), (42, .iconst 0, 1, 0, 0, 0, 0, 0), (43, .iaload, 1, 0, 0, 0, 0, 0), (44, .ifCond .ne 7, 3, 51, 0, 0, 0, 0), (47, .iconst 1, 1, 0, 0, 0, 0, 0), (48, .goto 4, 3, 52, 0, 0, 0, 0), (51, .iconst 0, 1, 0, 0, 0, 0, 0), (52, .bastore, 1, 0, 0, 0, 0, 0), (53, .iconst 0, 1, 0, 0, 0, 0, 0), (54, .istore_n 1, 1, 0, 0, 0, 0, 0), (55, .iload_n 1, 1, 0, 0, 0, 0, 0), (56, .bipush 60, 2, 0, 0, 0, 0, 0), (58, .if_icmp .ge 160, 3, 218, 0, 0, 0, 0), (61, .iconst 0, 1, 0, 0, 0, 0, 0), (62, .istore_n 2, 1, 0, 0, 0, 0, 0), (63, .iload_n 2, 1, 0, 0, 0, 0, 0), (64, .aload_n 0, 1, 0, 0, 0, 0, 0), (65, .getfield 19, 3, 7, 5, 743, 0, 0), (68, .iconst 2, 1, 0, 0, 0, 0, 0), (69, .iaload, 1, 0, 0, 0, 0, 0), (70, .if_icmp .ge 142, 3, 212, 0, 0, 0, 0), (73, .aload_n 0, 1, 0, 0, 0, 0, 0), (74, .getfield 43, 3, 7, 24, 762, 0, 0), (77, .bipush 6, 2, 0, 0, 0, 0, 0), (79, .iload_n 1, 1, 0, 0, 0, 0, 0), (80, .imul, 1, 0, 0, 0, 0, 0), (81, .iload_n 2, 1, 0, 0, 0, 0, 0), (82, .iadd, 1, 0, 0, 0, 0, 0), (83, .baload, 1, 0, 0, 0, 0, 0), (84, .ifCond .eq 122, 3, 206, 0, 0, 0, 0), (87, .aload_n 0, 1, 0, 0, 0, 0, 0), (88, .getfield 43, 3, 7, 24, 762, 0, 0), (91, .bipush 6, 2, 0, 0, 0, 0, 0), (93, .iload_n 1, 1, 0, 0, 0, 0, 0), (94, .imul, 1, 0, 0, 0, 0, 0), (95, .bipush 6, 2, 0, 0, 0, 0, 0), (97, .iadd, 1, 0, 0, 0, 0, 0), (98, .iload_n 2, 1, 0, 0, 0, 0, 0), (99, .iadd, 1, 0, 0, 0, 0, 0), (100, .aload_n 0, 1, 0, 0, 0, 0, 0), (101, .getfield 43, 3, 7, 24, 762, 0, 0), (104, .bipush 6, 2, 0, 0, 0, 0, 0), (106, .iload_n 1, 1, 0, 0, 0, 0, 0), (107, .imul, 1, 0, 0, 0, 0, 0), (108, .bipush 6, 2, 0, 0, 0, 0, 0), (110, .iadd, 1, 0, 0, 0, 0, 0), (111, .iload_n 2, 1, 0, 0, 0, 0, 0), (112, .iadd, 1, 0, 0, 0, 0, 0), (113, .baload, 1, 0, 0, 0, 0, 0), (114, .ifCond .ne 28, 3, 142, 0, 0, 0, 0), (117, .aload_n 0, 1, 0, 0, 0, 0, 0), (118, .getfield 40, 3, 7, 23, 761, 0, 0), (121, .iload_n 1, 1, 0, 0, 0, 0, 0), (122, .iconst 1, 1, 0, 0, 0, 0, 0), (123, .iadd, 1, 0, 0, 0, 0, 0), (124, .iaload, 1, 0, 0, 0, 0, 0), (125, .ldc 95, 2, 0, 0, 883, 0, -1000000), (127, .if_icmp .eq 15, 3, 142, 0, 0, 0, 0), (130, .aload_n 0, 1, 0, 0, 0, 0, 0), (131, .getfield 40, 3, 7, 23, 761, 0, 0), (134, .iload_n 1, 1, 0, 0, 0, 0, 0), (135, .iconst 1, 1, 0, 0, 0, 0, 0), (136, .iadd, 1, 0, 0, 0, 0, 0), (137, .iaload, 1, 0, 0, 0, 0, 0), (138, .iload_n 2, 1, 0, 0, 0, 0, 0), (139, .if_icmp .ne 7, 3, 146, 0, 0, 0, 0), (142, .iconst 1, 1, 0, 0, 0, 0, 0), (143, .goto 4, 3, 147, 0, 0, 0, 0), (146, .iconst 0, 1, 0, 0, 0, 0, 0), (147, .bastore, 1, 0, 0, 0, 0, 0), (148, .iconst 0, 1, 0, 0, 0, 0, 0), (149, .istore_n 3, 1, 0, 0, 0, 0, 0), (150, .iload_n 3, 1, 0, 0, 0, 0, 0), (151, .aload_n 0, 1, 0, 0, 0, 0, 0), (152, .getfield 19, 3, 7, 5, 743, 0, 0), (155, .iconst 2, 1, 0, 0, 0, 0, 0), (156, .iaload, 1, 0, 0, 0, 0, 0), (157, .if_icmp .ge 49, 3, 206, 0, 0, 0, 0), (160, .aload_n 0, 1, 0, 0, 0, 0, 0), (161, .iload_n 2, 1, 0, 0, 0, 0, 0), (162, .iload_n 3, 1, 0, 0, 0, 0, 0), (163, .iload_n 1, 1, 0, 0, 0, 0, 0), (164, .invokevirtual 205, 3, 140, 0, 950, 0, 0), (167, .istore 4, 2, 0, 0, 0, 0, 0), (169, .iload 4, 2, 0, 0, 0, 0, 0), (171, .ldc 95, 2, 0, 0, 883, 0, -1000000), (173, .if_icmp .eq 27, 3, 200, 0, 0, 0, 0), (176, .aload_n 0, 1, 0, 0, 0, 0, 0), (177, .iload_n 1, 1, 0, 0, 0, 0, 0), (178, .iload 4, 2, 0, 0, 0, 0, 0), (180, .iload_n 3, 1, 0, 0, 0, 0, 0), (181, .invokevirtual 230, 3, 155, 0, 1041, 0, 0), (184, .ifCond .eq 16, 3, 200, 0, 0, 0, 0), (187, .aload_n 0, 1, 0, 0, 0, 0, 0), (188, .getfield 43, 3, 7, 24, 762, 0, 0), (191, .bipush 6, 2, 0, 0, 0, 0, 0), (193, .iload 4, 2, 0, 0, 0, 0, 0), (195, .imul, 1, 0, 0, 0, 0, 0), (196, .iload_n 3, 1, 0, 0, 0, 0, 0), (197, .iadd, 1, 0, 0, 0, 0, 0), (198, .iconst 1, 1, 0, 0, 0, 0, 0), (199, .bastore, 1, 0, 0, 0, 0, 0), (200, .iinc 3 1, 3, 0, 0, 0, 0, 0), (203, .goto (-53), 3, 150, 0, 0, 0, 0), (206, .iinc 2 1, 3, 0, 0, 0, 0, 0), (209, .goto (-146), 3, 63, 0, 0, 0, 0), (212, .iinc 1 1, 3, 0, 0, 0, 0, 0), (215, .goto (-160), 3, 55, 0, 0, 0, 0), (218, .return_, 1, 0, 0, 0, 0, 0)]
/-- BirchLeafModel.layGoesOn()V -/
def vm_p157 : List vm_En := [(0, .bipush 60, 2, 0, 0, 0, 0, 0), (2, .istore_n 1, 1, 0, 0, 0, 0, 0), (3, .iload_n 1, 1, 0, 0, 0, 0, 0), (4, .ifCond .lt 192, 3, 196, 0, 0, 0, 0), (7, .iconst 0, 1, 0, 0, 0, 0, 0), (8, .istore_n 2, 1, 0, 0, 0, 0, 0), (9, .iload_n 2, 1, 0, 0, 0, 0, 0), (10, .aload_n 0, 1, 0, 0, 0, 0, 0), (11, .getfield 19, 3, 7, 5, 743, 0, 0), (14, .iconst 2, 1, 0, 0, 0, 0, 0), (15, .iaload, 1, 0, 0, 0, 0, 0), (16, .if_icmp .ge 174, 3, 190, 0, 0, 0, 0), (19, .aload_n 0, 1, 0, 0, 0, 0, 0), (20, .getfield 40, 3, 7, 23, 761, 0, 0), (23, .iload_n 1, 1, 0, 0, 0, 0, 0), (24, .iaload, 1, 0, 0, 0, 0, 0), (25, .ldc 95, 2, 0, 0, 883, 0, -1000000), (27, .if_icmp .eq 13, 3, 40, 0, 0, 0, 0), (30, .aload_n 0, 1, 0, 0, 0, 0, 0), (31, .getfield 40, 3, 7, 23, 761, 0, 0), (34, .iload_n 1, 1, 0, 0, 0, 0, 0), (35, .iaload, 1, 0, 0, 0, 0, 0), (36, .iload_n 2, 1, 0, 0, 0, 0, 0), (37, .if_icmp .ne 7, 3, 44, 0, 0, 0, 0), (40, .iconst 1, 1, 0, 0, 0, 0, 0), (41, .goto 4, 3, 45, 0, 0, 0, 0), (44, .iconst 0, 1, 0, 0, 0, 0, 0), (45, .istore_n 3, 1, 0, 0, 0, 0, 0), (46, .iload_n 1, 1, 0, 0, 0, 0, 0), (47, .bipush 60, 2, 0, 0, 0, 0, 0), (49, .if_icmp .eq 20, 3, 69, 0, 0, 0, 0), (52, .aload_n 0, 1, 0, 0, 0, 0, 0), (53, .getfield 47, 3, 7, 25, 763, 0, 0), (56, .bipush 6, 2, 0, 0, 0, 0, 0), (58, .iload_n 1, 1, 0, 0, 0, 0, 0), (59, .imul, 1, 0, 0, 0, 0, 0), (60, .bipush 6, 2, 0, 0, 0, 0, 0), (62, .iadd, 1, 0, 0, 0, 0, 0), (63, .iload_n 2, 1, 0, 0, 0, 0, 0), (64, .iadd, 1, 0, 0, 0, 0, 0), (65, .baload, 1, 0, 0, 0, 0, 0), (66, .ifCond .eq 7, 3, 73, 0, 0, 0, 0), (69, .iconst 1, 1, 0, 0, 0, 0, 0), (70, .goto 4, 3, 74, 0, 0, 0, 0), (73, .iconst 0, 1, 0, 0, 0, 0, 0), (74, .istore 4, 2, 0, 0, 0, 0, 0), (76, .iconst 0, 1, 0, 0, 0, 0, 0), (77, .istore 5, 2, 0, 0, 0, 0, 0), (79, .iload 5, 2, 0, 0, 0, 0, 0), (81, .aload_n 0, 1, 0, 0, 0, 0, 0), (82, .getfield 19, 3, 7, 5, 743, 0, 0), (85, .iconst 2, 1, 0, 0, 0, 0, 0), (86, .iaload, 1, 0, 0, 0, 0, 0), (87, .if_icmp .ge 72, 3, 159, 0, 0, 0, 0), (90, .iload_n 1, 1, 0, 0, 0, 0, 0), (91, .bipush 60, 2, 0, 0, 0, 0, 0), (93, .if_icmp .ge 66, 3, 159, 0, 0, 0, 0), (96, .aload_n 0, 1, 0, 0, 0, 0, 0), (97, .iload_n 2, 1, 0, 0, 0, 0, 0), (98, .iload 5, 2, 0, 0, 0, 0, 0), (100, .iload_n 1, 1, 0, 0, 0, 0, 0), (101, .invokevirtual 205, 3, 140, 0, 950, 0, 0), (104, .istore 6, 2, 0, 0, 0, 0, 0), (106, .iload 4, 2, 0, 0, 0, 0, 0), (108, .ifCond .ne 38, 3, 146, 0, 0, 0, 0), (111, .iload 6, 2, 0, 0, 0, 0, 0), (113, .ldc 95, 2, 0, 0, 883, 0, -1000000), (115, .if_icmp .eq 35, 3, 150, 0, 0, 0, 0), (118, .aload_n 0, 1, 0, 0, 0, 0, 0), (119, .iload_n 1, 1, 0, 0, 0, 0, 0), (120, .iload 6, 2, 0, 0, 0, 0, 0), (122, .iload 5, 2, 0, 0, 0, 0, 0), (124, .invokevirtual 230, 3, 155, 0, 1041, 0, 0), (127, .ifCond .eq 23, 3, 150, 0, 0, 0, 0), (130, .aload_n 0, 1, 0, 0, 0, 0, 0), (131, .getfield 47, 3, 7, 25, 763, 0, 0), (134, .bipush 6, 2, 0, 0, 0, 0, 0), (136, .iload 6, 2, 0, 0, 0, 0, 0), (138, .imul, 1, 0, 0, 0, 0, 0), (139, .iload 5, 2, 0, 0, 0, 0, 0), (141, .iadd, 1, 0, 0, 0, 0, 0), (142, .baload, 1, 0, 0, 0, 0, 0), (143, .ifCond .eq 7, 3, 150, 0, 0, 0, 0), (146, .iconst 1, 1, 0, 0, 0, 0, 0), (147, .goto 4, 3, 151, 0, 0, 0, 0), (150, .iconst 0, 1, 0, 0, 0, 0, 0), (151, .istore 4, 2, 0, 0, 0, 0, 0), (153, .iinc 5 1, 3, 0, 0, 0, 0, 0), (156, .goto (-77), 3, 79, 0, 0, 0, 0), (159, .aload_n 0, 1, 0, 0, 0, 0, 0), (160, .getfield 47, 3, 7, 25, 763, 0, 0), (163, .bipush 6, 2, 0, 0, 0, 0, 0), (165, .iload_n 1, 1, 0, 0, 0, 0, 0), (166, .imul, 1, 0, 0, 0, 0, 0), (167, .iload_n 2, 1, 0, 0, 0, 0, 0), (168, .iadd, 1, 0, 0, 0, 0, 0), (169, .iload_n 3, 1, 0, 0, 0, 0, 0), (170, .ifCond .eq 12, 3, 182, 0, 0, 0, 0), (173, .iload 4, 2, 0, 0, 0, 0, 0), (175, .ifCond .eq 7, 3, 182, 0, 0, 0, 0), (178, .iconst 1, 1, 0, 0, 0, 0, 0), (179, .goto 4, 3, 183, 0, 0, 0, 0), (182, .iconst 0, 1, 0, 0, 0, 0, 0), (183, .bastore, 1, 0, 0, 0, 0, 0), (184, .iinc 2 1, 3, 0, 0, 0, 0, 0), (187, .goto (-178), 3, 9, 0, 0, 0, 0), (190, .iinc 1 (-1), 3, 0, 0, 0, 0, 0), (193, .goto (-190), 3, 3, 0, 0, 0, 0), (196, .return_, 1, 0, 0, 0, 0, 0)]
/-- BirchLeafModel.where(IIII)I -/
def vm_p158 : List vm_En := [(0, .aload_n 0, 1, 0, 0, 0, 0, 0), (1, .iconst 0, 1, 0, 0, 0, 0, 0), (2, .putfield 59, 3, 7, 0, 738, 0, 0), (5, .aload_n 0, 1, 0, 0, 0, 0, 0), (6, .invokevirtual 215, 3, 133, 0, 979, 0, 0), (9, .ifCond .ne 6, 3, 15, 0, 0, 0, 0), (12, .ldc 208, 2, 0, 0, 966, 0, -1000002), (14, .ireturn, 1, 0, 0, 0, 0, 0), (15, .iload_n 1, 1, 0, 0, 0, 0, 0), (16, .invokestatic 73, 3, 110, 0, 834, 0, 0), (19, .ifCond .eq 23, 3, 42, 0, 0, 0, 0), (22, .iload_n 3, 1, 0, 0, 0, 0, 0), (23, .i2l, 1, 0, 0, 0, 0, 0), (24, .lconst 0, 1, 0, 0, 0, 0, 0), (25, .ldc2_w 234, 3, 0, 0, 1036, 0, 10), (28, .invokestatic 69, 3, 108, 0, 838, 0, 0), (31, .ifCond .eq 11, 3, 42, 0, 0, 0, 0), (34, .iload 4, 2, 0, 0, 0, 0, 0), (36, .invokestatic 221, 3, 135, 0, 1001, 0, 0), (39, .ifCond .ne 6, 3, 45, 0, 0, 0, 0), (42, .ldc 79, 2, 0, 0, 842, 0, -1000001), (44, .ireturn, 1, 0, 0, 0, 0, 0), (45, .aload_n 0, 1, 0, 0, 0, 0, 0), (46, .getfield 7, 3, 7, 2, 740, 0, 0), (49, .iload_n 1, 1, 0, 0, 0, 0, 0), (50, .iaload, 1, 0, 0, 0, 0, 0), (51, .ifCond .ge 9, 3, 60, 0, 0, 0, 0), (54, .aload_n 0, 1, 0, 0, 0, 0, 0), (55, .iconst 1, 1, 0, 0, 0, 0, 0), (56, .invokevirtual 80, 3, 109, 0, 843, 0, 0), (59, .ireturn, 1, 0, 0, 0, 0, 0), (60, .iload_n 2, 1, 0, 0, 0, 0, 0), (61, .ifCond .lt 21, 3, 82, 0, 0, 0, 0), (64, .iload_n 2, 1, 0, 0, 0, 0, 0), (65, .i2l, 1, 0, 0, 0, 0, 0), (66, .iconst 2, 1, 0, 0, 0, 0, 0), (67, .iload_n 3, 1, 0, 0, 0, 0, 0), (68, .imul, 1, 0, 0, 0, 0, 0), (69, .i2l, 1, 0, 0, 0, 0, 0), (70, .ladd, 1, 0, 0, 0, 0, 0), (71, .aload_n 0, 1, 0, 0, 0, 0, 0), (72, .getfield 13, 3, 7, 3, 741, 0, 0), (75, .iload_n 1, 1, 0, 0, 0, 0, 0), (76, .iaload, 1, 0, 0, 0, 0, 0), (77, .i2l, 1, 0, 0, 0, 0, 0), (78, .lcmp, 1, 0, 0, 0, 0, 0), (79, .ifCond .le 9, 3, 88, 0, 0, 0, 0), (82, .aload_n 0, 1, 0, 0, 0, 0, 0), (83, .iconst 2, 1, 0, 0, 0, 0, 0), (84, .invokevirtual 80, 3, 109, 0, 843, 0, 0), (87, .ireturn, 1, 0, 0, 0, 0, 0), (88, .iconst 0, 1, 0, 0, 0, 0, 0), (89, .istore 5, 2, 0, 0, 0, 0, 0), (91, .iload 5, 2, 0, 0, 0, 0, 0), (93, .bipush 60, 2, 0, 0, 0, 0, 0), (95, .if_icmp .gt 18, 3, 113, 0, 0, 0, 0), (98, .aload_n 0, 1, 0, 0, 0, 0, 0), (99, .getfield 40, 3, 7, 23, 761, 0, 0), (102, .iload 5, 2, 0, 0, 0, 0, 0), (104, .ldc 95, 2, 0, 0, 883, 0, -1000000), (106, .iastore, 1, 0, 0, 0, 0, 0), (107, .iinc 5 1, 3, 0, 0, 0, 0, 0), (110, .goto (-19), 3, 91, 0, 0, 0, 0), (113, .bipush 40, 2, 0, 0, 0, 0, 0), (115, .iload_n 1, 1, 0, 0, 0, 0, 0), (116, .imul, 1, 0, 0, 0, 0, 0), (117, .iload_n 2, 1, 0, 0, 0, 0, 0), (118, .iadd, 1, 0, 0, 0, 0, 0), (119, .istore 5, 2, 0, 0, 0, 0, 0), (121, .iconst 0, 1, 0, 0, 0, 0, 0), (122, .istore 6, 2, 0, 0, 0, 0, 0), (124, .iload 6, 2, 0, 0, 0, 0, 0), (126, .iload_n 3, 1, 0, 0, 0, 0, 0), (127, .if_icmp .ge 97, 3, 224, 0, 0, 0, 0), (130, .aload_n 0, 1, 0, 0, 0, 0, 0), (131, .getfield 16, 3, 7, 4, 742, 0, 0), (134, .iload 5, 2, 0, 0, 0, 0, 0), (136, .iconst 2, 1, 0, 0, 0, 0, 0), (137, .iload 6, 2, 0, 0, 0, 0, 0), (139, .imul, 1, 0, 0, 0, 0, 0), (140, .iadd, 1, 0, 0, 0, 0, 0), (141, .iaload, 1, 0, 0, 0, 0, 0), (142, .istore 7, 2, 0, 0, 0, 0, 0), (144, .aload_n 0, 1, 0, 0, 0, 0, 0), (145, .getfield 16, 3, 7, 4, 742, 0, 0), (148, .iload 5, 2, 0, 0, 0, 0, 0), (150, .iconst 2, 1, 0, 0, 0, 0, 0), (151, .iload 6, 2, 0, 0, 0, 0, 0), (153, .imul, 1, 0, 0, 0, 0, 0), (154, .iadd, 1, 0, 0, 0, 0, 0), (155, .iconst 1, 1, 0, 0, 0, 0, 0), (156, .iadd, 1, 0, 0, 0, 0, 0), (157, .iaload, 1, 0, 0, 0, 0, 0), (158, .istore 8, 2, 0, 0, 0, 0, 0), (160, .aload_n 0, 1, 0, 0, 0, 0, 0), (161, .iload 7, 2, 0, 0, 0, 0, 0), (163, .invokevirtual 202, 3, 134, 0, 946, 0, 0), (166, .ifCond .eq 11, 3, 177, 0, 0, 0, 0), (169, .iload 8, 2, 0, 0, 0, 0, 0), (171, .invokestatic 221, 3, 135, 0, 1001, 0, 0), (174, .ifCond .ne 6, 3, 180, 0, 0, 0, 0), (177, .ldc 79, 2, 0, 0, 842, 0, -1000001), (179, .ireturn, 1, 0, 0, 0, 0, 0), (180, .aload_n 0, 1, 0, 0, 0, 0, 0), (181, .getfield 40, 3, 7, 23, 761, 0, 0), (184, .iload 8, 2, 0, 0, 0, 0, 0), (186, .aload_n 0, 1, 0, 0, 0, 0, 0), (187, .getfield 40, 3, 7, 23, 761, 0, 0), (190, .iload 8, 2, 0, 0, 0, 0, 0), (192, .iaload, 1, 0, 0, 0, 0, 0), (193, .ldc 95, 2, 0, 0, 883, 0, -1000000), (195, .if_icmp .eq 15, 3, 210, 0, 0, 0, 0), (198, .aload_n 0, 1, 0, 0, 0, 0, 0), (199, .getfield 40, 3, 7, 23, 761, 0, 0), (202, .iload 8, 2, 0, 0, 0, 0, 0), (204, .iaload, 1, 0, 0, 0, 0, 0), (205, .iload 7, 2, 0, 0, 0, 0, 0), (207, .if_icmp .ne 8, 3, 215, 0, 0, 0, 0), (210, .iload 7, 2, 0, 0, 0, 0, 0), (212, .goto 5, 3, 217, 0, 0, 0, 0), (215, .ldc 79, 2, 0, 0, 842, 0, -1000001), (217, .iastore, 1, 0, 0, 0, 0, 0), (218, .iinc 6 1, 3, 0, 0, 0, 0, 0), (221, .goto (-97), 3, 124, 0, 0, 0, 0), (224, .aload_n 0, 1, 0, 0, 0, 0, 0), (225, .iconst 0, 1, 0, 0, 0, 0, 0), (226, .putfield 63, 3, 7, 1, 739, 0, 0), (229, .aload_n 0, 1, 0, 0, 0, 0, 0), (230, .invokevirtual 236, 3, 156, 0, 1037, 0, 0), (233, .aload_n 0, 1, 0, 0, 0, 0, 0), (234, .invokevirtual 239, 3, 157, 0, 1045, 0, 0), (237, .iconst 0, 1, 0, 0, 0, 0, 0), (238, .istore 6, 2, 0, 0, 0, 0, 0), (240, .iconst 0, 1, 0, 0, 0, 0, 0), (241, .istore 7, 2, 0, 0, 0, 0, 0), (243, .iload 7, 2, 0, 0, 0, 0, 0), (245, .aload_n 0, 1, 0, 0, 0, 0, 0), (246, .getfield 19, 3, 7, 5, 743, 0, 0), (249, .iconst 2, 1, 0, 0, 0, 0, 0), (250, .iaload, 1, 0, 0, 0, 0, 0), (251, .if_icmp .ge 54, 3, 305, 0, 0, 0, 0), (254, .iload 6, 2, 0, 0, 0, 0, 0), (256, .aload_n 0, 1, 0, 0, 0, 0, 0), (257, .getfield 43, 3, 7, 24, 762, 0, 0), (260, .bipush 6, 2, 0, 0, 0, 0, 0), (262, .iload 4, 2, 0, 0, 0, 0, 0), (264, .imul, 1, 0, 0, 0, 0, 0), (265, .iload 7, 2, 0, 0, 0, 0, 0), (267, .iadd, 1, 0, 0, 0, 0, 0), (268, .baload, 1, 0, 0, 0, 0, 0), (269, .ifCond .eq 26, 3, 295, 0, 0, 0, 0), (272, .aload_n 0, 1, 0, 0, 0, 0, 0), (273, .getfield 47, 3, 7, 25, 763, 0, 0), (276, .bipush 6, 2, 0, 0, 0, 0, 0), (278, .iload 4, 2, 0, 0, 0, 0, 0), (280, .imul, 1, 0, 0, 0, 0, 0), (281, .iload 7, 2, 0, 0, 0, 0, 0), (283, .iadd, 1, 0, 0, 0, 0, 0), (284, .baload, 1, 0, 0, 0, 0, 0), (285, .ifCond .eq 10, 3, 295, 0, 0, 0, 0), (288, .iconst 1, 1, 0, 0, 0, 0, 0), (289, .iload 7, 2, 0, 0, 0, 0, 0), (291, .ishl, 1, 0, 0, 0, 0, 0), (292, .goto 4, 3, 296, 0, 0, 0, 0), (295, .iconst 0, 1, 0, 0, 0, 0, 0), (296, .ior, 1, 0, 0, 0, 0, 0), (297, .istore 6, 2, 0, 0, 0, 0, 0), (299, .iinc 7 1, 3, 0, 0, 0, 0, 0), (302, .goto (-59), 3, 243, 0, 0, 0, 0), (305, .iload 6, 2, 0, 0, 0, 0, 0), (307, .ireturn, 1, 0, 0, 0, 0, 0)]
/-- BirchLeafModel.image(I)I -/
def vm_p159 : List vm_En := [(0, .aload_n 0, 1, 0, 0, 0, 0, 0), (1, .iconst 0, 1, 0, 0, 0, 0, 0), (2, .putfield 59, 3, 7, 0, 738, 0, 0), (5, .iload_n 1, 1, 0, 0, 0, 0, 0), (6, .i2l, 1, 0, 0, 0, 0, 0), (7, .lconst 0, 1, 0, 0, 0, 0, 0), (8, .lconst 1, 1, 0, 0, 0, 0, 0), (9, .invokestatic 69, 3, 108, 0, 838, 0, 0), (12, .ifCond .ne 6, 3, 18, 0, 0, 0, 0), (15, .ldc 79, 2, 0, 0, 842, 0, -1000001), (17, .ireturn, 1, 0, 0, 0, 0, 0), (18, .aload_n 0, 1, 0, 0, 0, 0, 0), (19, .invokevirtual 215, 3, 133, 0, 979, 0, 0), (22, .ifCond .ne 6, 3, 28, 0, 0, 0, 0), (25, .ldc 208, 2, 0, 0, 966, 0, -1000002), (27, .ireturn, 1, 0, 0, 0, 0, 0), (28, .iconst 0, 1, 0, 0, 0, 0, 0), (29, .istore_n 2, 1, 0, 0, 0, 0, 0), (30, .iload_n 2, 1, 0, 0, 0, 0, 0), (31, .bipush 70, 2, 0, 0, 0, 0, 0), (33, .if_icmp .ge 26, 3, 59, 0, 0, 0, 0), (36, .aload_n 0, 1, 0, 0, 0, 0, 0), (37, .getfield 53, 3, 7, 27, 765, 0, 0), (40, .bipush 70, 2, 0, 0, 0, 0, 0), (42, .iload_n 1, 1, 0, 0, 0, 0, 0), (43, .imul, 1, 0, 0, 0, 0, 0), (44, .iload_n 2, 1, 0, 0, 0, 0, 0), (45, .iadd, 1, 0, 0, 0, 0, 0), (46, .aload_n 0, 1, 0, 0, 0, 0, 0), (47, .getfield 19, 3, 7, 5, 743, 0, 0), (50, .iload_n 2, 1, 0, 0, 0, 0, 0), (51, .iaload, 1, 0, 0, 0, 0, 0), (52, .iastore, 1, 0, 0, 0, 0, 0), (53, .iinc 2 1, 3, 0, 0, 0, 0, 0), (56, .goto (-26), 3, 30, 0, 0, 0, 0), (59, .aload_n 0, 1, 0, 0, 0, 0, 0), (60, .getfield 50, 3, 7, 26, 764, 0, 0), (63, .iload_n 1, 1, 0, 0, 0, 0, 0), (64, .iconst 1, 1, 0, 0, 0, 0, 0), (65, .bastore, 1, 0, 0, 0, 0, 0), (66, .iconst 1, 1, 0, 0, 0, 0, 0), (67, .ireturn, 1, 0, 0, 0, 0, 0)]
/-- BirchLeafModel.restore(I)I -/
def vm_p160 : List vm_En := [(0, .aload_n 0, 1, 0, 0, 0, 0, 0), (1, .iconst 0, 1, 0, 0, 0, 0, 0), (2, .putfield 59, 3, 7, 0, 738, 0, 0), (5, .iload_n 1, 1, 0, 0, 0, 0, 0), (6, .i2l, 1, 0, 0, 0, 0, 0), (7, .lconst 0, 1, 0, 0, 0, 0, 0), (8, .lconst 1, 1, 0, 0, 0, 0, 0), (9, .invokestatic 69, 3, 108, 0, 838, 0, 0), (12, .ifCond .ne 6, 3, 18, 0, 0, 0, 0), (15, .ldc 79, 2, 0, 0, 842, 0, -1000001), (17, .ireturn, 1, 0, 0, 0, 0, 0), (18, .aload_n 0, 1, 0, 0, 0, 0, 0), (19, .getfield 50, 3, 7, 26, 764, 0, 0), (22, .iload_n 1, 1, 0, 0, 0, 0, 0), (23, .baload, 1, 0, 0, 0, 0, 0), (24, .ifCond .ne 6, 3, 30, 0, 0, 0, 0), (27, .ldc 208, 2, 0, 0, 966, 0, -1000002), (29, .ireturn, 1, 0, 0, 0, 0, 0), (30, .iconst 0, 1, 0, 0, 0, 0, 0), (31, .istore_n 2, 1, 0, 0, 0, 0, 0), (32, .iload_n 2, 1, 0, 0, 0, 0, 0), (33, .bipush 70, 2, 0, 0, 0, 0, 0), (35, .if_icmp .ge 26, 3, 61, 0, 0, 0, 0), (38, .aload_n 0, 1, 0, 0, 0, 0, 0), (39, .getfield 19, 3, 7, 5, 743, 0, 0), (42, .iload_n 2, 1, 0, 0, 0, 0, 0), (43, .aload_n 0, 1, 0, 0, 0, 0, 0), (44, .getfield 53, 3, 7, 27, 765, 0, 0), (47, .bipush 70, 2, 0, 0, 0, 0, 0), (49, .iload_n 1, 1, 0, 0, 0, 0, 0), (50, .imul, 1, 0, 0, 0, 0, 0), (51, .iload_n 2, 1, 0, 0, 0, 0, 0), (52, .iadd, 1, 0, 0, 0, 0, 0), (53, .iaload, 1, 0, 0, 0, 0, 0), (54, .iastore, 1, 0, 0, 0, 0, 0), (55, .iinc 2 1, 3, 0, 0, 0, 0, 0), (58, .goto (-26), 3, 32, 0, 0, 0, 0), (61, .aload_n 0, 1, 0, 0, 0, 0, 0), (62, .iconst 0, 1, 0, 0, 0, 0, 0), (63, .putfield 186, 3, 7, 8, 746, 0, 0), (66, .iconst 1, 1, 0, 0, 0, 0, 0), (67, .ireturn, 1, 0, 0, 0, 0, 0)]
/-- BirchLeafModel.isOf(II)Z -/
def vm_p161 : List vm_En := [(0, .iload_n 1, 1, 0, 0, 0, 0, 0), (1, .ifCond .eq 28, 3, 29, 0, 0, 0, 0), (4, .iload_n 0, 1, 0, 0, 0, 0, 0), (5, .iload_n 1, 1, 0, 0, 0, 0, 0), (6, .if_icmp .eq 23, 3, 29, 0, 0, 0, 0), (9, .iload_n 1, 1, 0, 0, 0, 0, 0), (10, .iconst 1, 1, 0, 0, 0, 0, 0), (11, .if_icmp .ne 8, 3, 19, 0, 0, 0, 0), (14, .iload_n 0, 1, 0, 0, 0, 0, 0), (15, .iconst 4, 1, 0, 0, 0, 0, 0), (16, .if_icmp .lt 13, 3, 29, 0, 0, 0, 0), (19, .iload_n 1, 1, 0, 0, 0, 0, 0), (20, .iconst 4, 1, 0, 0, 0, 0, 0), (21, .if_icmp .ne 12, 3, 33, 0, 0, 0, 0), (24, .iload_n 0, 1, 0, 0, 0, 0, 0), (25, .iconst 5, 1, 0, 0, 0, 0, 0), (26, .if_icmp .ne 7, 3, 33, 0, 0, 0, 0), (29, .iconst 1, 1, 0, 0, 0, 0, 0), (30, .goto 4, 3, 34, 0, 0, 0, 0), (33, .iconst 0, 1, 0, 0, 0, 0, 0), (34, .ireturn, 1, 0, 0, 0, 0, 0)]
/-- BirchLeafModel.kind(I)I -/
def vm_p162 : List vm_En := [(0, .aload_n 0, 1, 0, 0, 0, 0, 0), (1, .iconst 0, 1, 0, 0, 0, 0, 0), (2, .putfield 59, 3, 7, 0, 738, 0, 0), (5, .aload_n 0, 1, 0, 0, 0, 0, 0), (6, .iload_n 1, 1, 0, 0, 0, 0, 0), (7, .invokevirtual 202, 3, 134, 0, 946, 0, 0), (10, .ifCond .eq 12, 3, 22, 0, 0, 0, 0), (13, .aload_n 0, 1, 0, 0, 0, 0, 0), (14, .iload_n 1, 1, 0, 0, 0, 0, 0), (15, .iconst 0, 1, 0, 0, 0, 0, 0), (16, .invokevirtual 191, 3, 136, 0, 962, 0, 0), (19, .goto 5, 3, 24, 0, 0, 0, 0), (22, .ldc 79, 2, 0, 0, 842, 0, -1000001), (24, .ireturn, 1, 0, 0, 0, 0, 0)]
/-- BirchLeafModel.as(II)I -/
def vm_p163 : List vm_En := [(0, .aload_n 0, 1, 0, 0, 0, 0, 0), (1, .iconst 0, 1, 0, 0, 0, 0, 0), (2, .putfield 59, 3, 7, 0, 738, 0, 0), (5, .aload_n 0, 1, 0, 0, 0, 0, 0), (6, .iload_n 1, 1, 0, 0, 0, 0, 0), (7, .invokevirtual 202, 3, 134, 0, 946, 0, 0), (10, .ifCond .eq 15, 3, 25, 0, 0, 0, 0), (13, .iload_n 2, 1, 0, 0, 0, 0, 0), (14, .i2l, 1, 0, 0, 0, 0, 0), (15, .lconst 0, 1, 0, 0, 0, 0, 0), (16, .ldc2_w 242, 3, 0, 0, 1065, 0, 5), (19, .invokestatic 69, 3, 108, 0, 838, 0, 0), (22, .ifCond .ne 6, 3, 28, 0, 0, 0, 0), (25, .ldc 79, 2, 0, 0, 842, 0, -1000001), (27, .ireturn, 1, 0, 0, 0, 0, 0), (28, .aload_n 0, 1, 0, 0, 0, 0, 0), (29, .iconst 0, 1, 0, 0, 0, 0, 0), (30, .putfield 63, 3, 7, 1, 739, 0, 0), (33, .aload_n 0, 1, 0, 0, 0, 0, 0), (34, .iload_n 1, 1, 0, 0, 0, 0, 0), (35, .iconst 0, 1, 0, 0, 0, 0, 0), (36, .invokevirtual 191, 3, 136, 0, 962, 0, 0), (39, .iload_n 2, 1, 0, 0, 0, 0, 0), (40, .invokestatic 244, 3, 161, 0, 1066, 0, 0), (43, .ifCond .eq 7, 3, 50, 0, 0, 0, 0), (46, .iload_n 1, 1, 0, 0, 0, 0, 0), (47, .goto 8, 3, 55, 0, 0, 0, 0), (50, .aload_n 0, 1, 0, 0, 0, 0, 0), (51, .iconst 3, 1, 0, 0, 0, 0, 0), (52, .invokevirtual 80, 3, 109, 0, 843, 0, 0), (55, .ireturn, 1, 0, 0, 0, 0, 0)]
/-- BirchLeafModel.began(I)V -/
def vm_p164 : List vm_En := [(0, .aload_n 0, 1, 0, 0, 0, 0, 0), (1, .getfield 247, 3, 7, 29, 767, 0, 0), (4, .bipush 16, 2, 0, 0, 0, 0, 0), (6, .if_icmp .ge 23, 3, 29, 0, 0, 0, 0), (9, .aload_n 0, 1, 0, 0, 0, 0, 0), (10, .getfield 56, 3, 7, 28, 766, 0, 0), (13, .aload_n 0, 1, 0, 0, 0, 0, 0), (14, .getfield 247, 3, 7, 29, 767, 0, 0), (17, .iload_n 1, 1, 0, 0, 0, 0, 0), (18, .iastore, 1, 0, 0, 0, 0, 0), (19, .aload_n 0, 1, 0, 0, 0, 0, 0), (20, .dup, 1, 0, 0, 0, 0, 0), (21, .getfield 247, 3, 7, 29, 767, 0, 0), (24, .iconst 1, 1, 0, 0, 0, 0, 0), (25, .iadd, 1, 0, 0, 0, 0, 0), (26, .putfield 247, 3, 7, 29, 767, 0, 0), (29, .return_, 1, 0, 0, 0, 0, 0)]
/-- BirchLeafModel.plainSize(I)I -/
def vm_p165 : List vm_En := [(0, .aload_n 0, 1, 0, 0, 0, 0, 0), (1, .bipush 10, 2, 0, 0, 0, 0, 0), (3, .invokevirtual 250, 3, 164, 0, 1081, 0, 0), (6, .aload_n 0, 1, 0, 0, 0, 0, 0), (7, .iload_n 1, 1, 0, 0, 0, 0, 0), (8, .iconst 1, 1, 0, 0, 0, 0, 0), (9, .invokevirtual 191, 3, 136, 0, 962, 0, 0), (12, .ireturn, 1, 0, 0, 0, 0, 0)]
/-- BirchLeafModel.priestSize(I)I -/
def vm_p166 : List vm_En := [(0, .aload_n 0, 1, 0, 0, 0, 0, 0), (1, .iload_n 1, 1, 0, 0, 0, 0, 0), (2, .iconst 0, 1, 0, 0, 0, 0, 0), (3, .invokevirtual 191, 3, 136, 0, 962, 0, 0), (6, .iconst 5, 1, 0, 0, 0, 0, 0), (7, .if_icmp .ne 9, 3, 16, 0, 0, 0, 0), (10, .aload_n 0, 1, 0, 0, 0, 0, 0), (11, .bipush 14, 2, 0, 0, 0, 0, 0), (13, .invokevirtual 250, 3, 164, 0, 1081, 0, 0), (16, .aload_n 0, 1, 0, 0, 0, 0, 0), (17, .bipush 13, 2, 0, 0, 0, 0, 0), (19, .invokevirtual 250, 3, 164, 0, 1081, 0, 0), (22, .aload_n 0, 1, 0, 0, 0, 0, 0), (23, .iload_n 1, 1, 0, 0, 0, 0, 0), (24, .invokevirtual 253, 3, 165, 0, 1085, 0, 0), (27, .bipush 100, 2, 0, 0, 0, 0, 0), (29, .isub, 1, 0, 0, 0, 0, 0), (30, .istore_n 2, 1, 0, 0, 0, 0, 0), (31, .aload_n 0, 1, 0, 0, 0, 0, 0), (32, .iload_n 1, 1, 0, 0, 0, 0, 0), (33, .iconst 0, 1, 0, 0, 0, 0, 0), (34, .invokevirtual 191, 3, 136, 0, 962, 0, 0), (37, .iconst 5, 1, 0, 0, 0, 0, 0), (38, .if_icmp .ne 9, 3, 47, 0, 0, 0, 0), (41, .iconst 2, 1, 0, 0, 0, 0, 0), (42, .iload_n 2, 1, 0, 0, 0, 0, 0), (43, .imul, 1, 0, 0, 0, 0, 0), (44, .goto 4, 3, 48, 0, 0, 0, 0), (47, .iload_n 2, 1, 0, 0, 0, 0, 0), (48, .ireturn, 1, 0, 0, 0, 0, 0)]
/-- BirchLeafModel.markOf(I)I -/
def vm_p167 : List vm_En := [(0, .aload_n 0, 1, 0, 0, 0, 0, 0), (1, .iload_n 1, 1, 0, 0, 0, 0, 0), (2, .iconst 0, 1, 0, 0, 0, 0, 0), (3, .invokevirtual 191, 3, 136, 0, 962, 0, 0), (6, .istore_n 2, 1, 0, 0, 0, 0, 0), (7, .iload_n 2, 1, 0, 0, 0, 0, 0), (8, .iconst 4, 1, 0, 0, 0, 0, 0), (9, .if_icmp .lt 23, 3, 32, 0, 0, 0, 0), (12, .aload_n 0, 1, 0, 0, 0, 0, 0), (13, .bipush 23, 2, 0, 0, 0, 0, 0), (15, .invokevirtual 250, 3, 164, 0, 1081, 0, 0), (18, .aload_n 0, 1, 0, 0, 0, 0, 0), (19, .bipush 20, 2, 0, 0, 0, 0, 0), (21, .invokevirtual 250, 3, 164, 0, 1081, 0, 0), (24, .iload_n 1, 1, 0, 0, 0, 0, 0), (25, .aload_n 0, 1, 0, 0, 0, 0, 0), (26, .iload_n 1, 1, 0, 0, 0, 0, 0), (27, .invokevirtual 256, 3, 166, 0, 1077, 0, 0), (30, .isub, 1, 0, 0, 0, 0, 0), (31, .ireturn, 1, 0, 0, 0, 0, 0), (32, .iload_n 2, 1, 0, 0, 0, 0, 0), (33, .iconst 1, 1, 0, 0, 0, 0, 0), (34, .if_icmp .eq 19, 3, 53, 0, 0, 0, 0), (37, .aload_n 0, 1, 0, 0, 0, 0, 0), (38, .iload_n 2, 1, 0, 0, 0, 0, 0), (39, .iconst 3, 1, 0, 0, 0, 0, 0), (40, .if_icmp .ne 8, 3, 48, 0, 0, 0, 0), (43, .bipush 22, 2, 0, 0, 0, 0, 0), (45, .goto 5, 3, 50, 0, 0, 0, 0), (48, .bipush 24, 2, 0, 0, 0, 0, 0), (50, .invokevirtual 250, 3, 164, 0, 1081, 0, 0), (53, .aload_n 0, 1, 0, 0, 0, 0, 0), (54, .bipush 21, 2, 0, 0, 0, 0, 0), (56, .invokevirtual 250, 3, 164, 0, 1081, 0, 0), (59, .aload_n 0, 1, 0, 0, 0, 0, 0), (60, .bipush 20, 2, 0, 0, 0, 0, 0), (62, .invokevirtual 250, 3, 164, 0, 1081, 0, 0), (65, .iload_n 1, 1, 0, 0, 0, 0, 0), (66, .aload_n 0, 1, 0, 0, 0, 0, 0), (67, .iload_n 1, 1, 0, 0, 0, 0, 0), (68, .iconst 3, 1, 0, 0, 0, 0, 0), (69, .invokevirtual 191, 3, 136, 0, 962, 0, 0), (72, .iadd, 1, 0, 0, 0, 0, 0), (73, .istore_n 3, 1, 0, 0, 0, 0, 0), (74, .iload_n 2, 1, 0, 0, 0, 0, 0), (75, .iconst 1, 1, 0, 0, 0, 0, 0), (76, .if_icmp .ne 7, 3, 83, 0, 0, 0, 0), (79, .iload_n 3, 1, 0, 0, 0, 0, 0), (80, .goto 19, 3, 99, 0, 0, 0, 0), (83, .iload_n 2, 1, 0, 0, 0, 0, 0), (84, .iconst 3, 1, 0, 0, 0, 0, 0), (85, .if_icmp .ne 11, 3, 96, 0, 0, 0, 0), (88, .iload_n 3, 1, 0, 0, 0, 0, 0), (89, .sipush 1000, 3, 0, 0, 0, 0, 0), (92, .isub, 1, 0, 0, 0, 0, 0), (93, .goto 6, 3, 99, 0, 0, 0, 0), (96, .iconst 2, 1, 0, 0, 0, 0, 0), (97, .iload_n 3, 1, 0, 0, 0, 0, 0), (98, .imul, 1, 0, 0, 0, 0, 0), (99, .ireturn, 1, 0, 0, 0, 0, 0)]
/-- BirchLeafModel.sizeOf(I)I -/
def vm_p168 : List vm_En := [(0, .aload_n 0, 1, 0, 0, 0, 0, 0), (1, .iload_n 1, 1, 0, 0, 0, 0, 0), (2, .iconst 0, 1, 0, 0, 0, 0, 0), (3, .invokevirtual 191, 3, 136, 0, 962, 0, 0), (6, .istore_n 2, 1, 0, 0, 0, 0, 0), (7, .iload_n 2, 1, 0, 0, 0, 0, 0), (8, .iconst 4, 1, 0, 0, 0, 0, 0), (9, .if_icmp .lt 9, 3, 18, 0, 0, 0, 0), (12, .aload_n 0, 1, 0, 0, 0, 0, 0), (13, .iload_n 1, 1, 0, 0, 0, 0, 0), (14, .invokevirtual 256, 3, 166, 0, 1077, 0, 0), (17, .ireturn, 1, 0, 0, 0, 0, 0), (18, .iload_n 2, 1, 0, 0, 0, 0, 0), (19, .iconst 2, 1, 0, 0, 0, 0, 0), (20, .if_icmp .ne 9, 3, 29, 0, 0, 0, 0), (23, .aload_n 0, 1, 0, 0, 0, 0, 0), (24, .bipush 12, 2, 0, 0, 0, 0, 0), (26, .invokevirtual 250, 3, 164, 0, 1081, 0, 0), (29, .aload_n 0, 1, 0, 0, 0, 0, 0), (30, .bipush 11, 2, 0, 0, 0, 0, 0), (32, .invokevirtual 250, 3, 164, 0, 1081, 0, 0), (35, .aload_n 0, 1, 0, 0, 0, 0, 0), (36, .iload_n 1, 1, 0, 0, 0, 0, 0), (37, .invokevirtual 253, 3, 165, 0, 1085, 0, 0), (40, .istore_n 3, 1, 0, 0, 0, 0, 0), (41, .iload_n 3, 1, 0, 0, 0, 0, 0), (42, .aload_n 0, 1, 0, 0, 0, 0, 0), (43, .iload_n 1, 1, 0, 0, 0, 0, 0), (44, .invokevirtual 259, 3, 167, 0, 1089, 0, 0), (47, .iadd, 1, 0, 0, 0, 0, 0), (48, .istore_n 3, 1, 0, 0, 0, 0, 0), (49, .iload_n 2, 1, 0, 0, 0, 0, 0), (50, .iconst 2, 1, 0, 0, 0, 0, 0), (51, .if_icmp .ne 8, 3, 59, 0, 0, 0, 0), (54, .iload_n 3, 1, 0, 0, 0, 0, 0), (55, .ineg, 1, 0, 0, 0, 0, 0), (56, .goto 4, 3, 60, 0, 0, 0, 0), (59, .iload_n 3, 1, 0, 0, 0, 0, 0), (60, .ireturn, 1, 0, 0, 0, 0, 0)]
/-- BirchLeafModel.ask(II)I -/
def vm_p169 : List vm_En := [(0, .aload_n 0, 1, 0, 0, 0, 0, 0), (1, .iconst 0, 1, 0, 0, 0, 0, 0), (2, .putfield 59, 3, 7, 0, 738, 0, 0), (5, .aload_n 0, 1, 0, 0, 0, 0, 0), (6, .iload_n 1, 1, 0, 0, 0, 0, 0), (7, .invokevirtual 202, 3, 134, 0, 946, 0, 0), (10, .ifCond .eq 13, 3, 23, 0, 0, 0, 0), (13, .iload_n 2, 1, 0, 0, 0, 0, 0), (14, .i2l, 1, 0, 0, 0, 0, 0), (15, .lconst 0, 1, 0, 0, 0, 0, 0), (16, .lconst 1, 1, 0, 0, 0, 0, 0), (17, .invokestatic 69, 3, 108, 0, 838, 0, 0), (20, .ifCond .ne 6, 3, 26, 0, 0, 0, 0), (23, .ldc 79, 2, 0, 0, 842, 0, -1000001), (25, .ireturn, 1, 0, 0, 0, 0, 0), (26, .aload_n 0, 1, 0, 0, 0, 0, 0), (27, .iconst 0, 1, 0, 0, 0, 0, 0), (28, .putfield 247, 3, 7, 29, 767, 0, 0), (31, .iload_n 2, 1, 0, 0, 0, 0, 0), (32, .ifCond .ne 11, 3, 43, 0, 0, 0, 0), (35, .aload_n 0, 1, 0, 0, 0, 0, 0), (36, .iload_n 1, 1, 0, 0, 0, 0, 0), (37, .invokevirtual 262, 3, 168, 0, 1073, 0, 0), (40, .goto 8, 3, 48, 0, 0, 0, 0), (43, .aload_n 0, 1, 0, 0, 0, 0, 0), (44, .iload_n 1, 1, 0, 0, 0, 0, 0), (45, .invokevirtual 259, 3, 167, 0, 1089, 0, 0), (48, .ireturn, 1, 0, 0, 0, 0, 0)]
/-- BirchLeafModel.trace(I)I -/
def vm_p170 : List vm_En := [(0, .aload_n 0, 1, 0, 0, 0, 0, 0), (1, .iconst 0, 1, 0, 0, 0, 0, 0), (2, .putfield 59, 3, 7, 0, 738, 0, 0), (5, .iload_n 1, 1, 0, 0, 0, 0, 0), (6, .i2l, 1, 0, 0, 0, 0, 0), (7, .lconst 0, 1, 0, 0, 0, 0, 0), (8, .aload_n 0, 1, 0, 0, 0, 0, 0), (9, .getfield 247, 3, 7, 29, 767, 0, 0), (12, .iconst 1, 1, 0, 0, 0, 0, 0), (13, .isub, 1, 0, 0, 0, 0, 0), (14, .i2l, 1, 0, 0, 0, 0, 0), (15, .invokestatic 69, 3, 108, 0, 838, 0, 0), (18, .ifCond .eq 12, 3, 30, 0, 0, 0, 0), (21, .aload_n 0, 1, 0, 0, 0, 0, 0), (22, .getfield 56, 3, 7, 28, 766, 0, 0), (25, .iload_n 1, 1, 0, 0, 0, 0, 0), (26, .iaload, 1, 0, 0, 0, 0, 0), (27, .goto 5, 3, 32, 0, 0, 0, 0), (30, .ldc 95, 2, 0, 0, 883, 0, -1000000), (32, .ireturn, 1, 0, 0, 0, 0, 0)]
/-- BirchLeafModel.count(I)I -/
def vm_p171 : List vm_En := [(0, .aload_n 0, 1, 0, 0, 0, 0, 0), (1, .iconst 0, 1, 0, 0, 0, 0, 0), (2, .putfield 59, 3, 7, 0, 738, 0, 0), (5, .iconst 0, 1, 0, 0, 0, 0, 0), (6, .istore_n 2, 1, 0, 0, 0, 0, 0), (7, .iload_n 1, 1, 0, 0, 0, 0, 0), (8, .tableswitch 126 0 7 #[48, 81, 88, 95, 102, 107, 114, 121], 48, 0, 0, 0, 0, 0), (56, .iconst 0, 1, 0, 0, 0, 0, 0), (57, .istore_n 3, 1, 0, 0, 0, 0, 0), (58, .iload_n 3, 1, 0, 0, 0, 0, 0), (59, .bipush 8, 2, 0, 0, 0, 0, 0), (61, .if_icmp .ge 26, 3, 87, 0, 0, 0, 0), (64, .iload_n 2, 1, 0, 0, 0, 0, 0), (65, .aload_n 0, 1, 0, 0, 0, 0, 0), (66, .getfield 7, 3, 7, 2, 740, 0, 0), (69, .iload_n 3, 1, 0, 0, 0, 0, 0), (70, .iaload, 1, 0, 0, 0, 0, 0), (71, .ifCond .lt 7, 3, 78, 0, 0, 0, 0), (74, .iconst 1, 1, 0, 0, 0, 0, 0), (75, .goto 4, 3, 79, 0, 0, 0, 0), (78, .iconst 0, 1, 0, 0, 0, 0, 0), (79, .iadd, 1, 0, 0, 0, 0, 0), (80, .istore_n 2, 1, 0, 0, 0, 0, 0), (81, .iinc 3 1, 3, 0, 0, 0, 0, 0), (84, .goto (-26), 3, 58, 0, 0, 0, 0), (87, .iload_n 2, 1, 0, 0, 0, 0, 0), (88, .ireturn, 1, 0, 0, 0, 0, 0), (89, .aload_n 0, 1, 0, 0, 0, 0, 0), (90, .getfield 19, 3, 7, 5, 743, 0, 0), (93, .iconst 2, 1, 0, 0, 0, 0, 0), (94, .iaload, 1, 0, 0, 0, 0, 0), (95, .ireturn, 1, 0, 0, 0, 0, 0), (96, .aload_n 0, 1, 0, 0, 0, 0, 0), (97, .getfield 19, 3, 7, 5, 743, 0, 0), (100, .iconst 3, 1, 0, 0, 0, 0, 0), (101, .iaload, 1, 0, 0, 0, 0, 0), (102, .ireturn, 1, 0, 0, 0, 0, 0), (103, .aload_n 0, 1, 0, 0, 0, 0, 0), (104, .getfield 19, 3, 7, 5, 743, 0, 0), (107, .iconst 4, 1, 0, 0, 0, 0, 0), (108, .iaload, 1, 0, 0, 0, 0, 0), (109, .ireturn, 1, 0, 0, 0, 0, 0), (110, .aload_n 0, 1, 0, 0, 0, 0, 0), (111, .getfield 186, 3, 7, 8, 746, 0, 0), (114, .ireturn, 1, 0, 0, 0, 0, 0), (115, .aload_n 0, 1, 0, 0, 0, 0, 0), (116, .getfield 19, 3, 7, 5, 743, 0, 0), (119, .iconst 0, 1, 0, 0, 0, 0, 0), (120, .iaload, 1, 0, 0, 0, 0, 0), (121, .ireturn, 1, 0, 0, 0, 0, 0), (122, .aload_n 0, 1, 0, 0, 0, 0, 0), (123, .getfield 19, 3, 7, 5, 743, 0, 0), (126, .iconst 5, 1, 0, 0, 0, 0, 0), (127, .iaload, 1, 0, 0, 0, 0, 0), (128, .ireturn, 1, 0, 0, 0, 0, 0), (129, .aload_n 0, 1, 0, 0, 0, 0, 0), (130, .getfield 86, 3, 7, 10, 748, 0, 0), (133, .ireturn, 1, 0, 0, 0, 0, 0), (134, .ldc 79, 2, 0, 0, 842, 0, -1000001), (136, .ireturn, 1, 0, 0, 0, 0, 0)]
/-- BirchLeafModel.status()I -/
def vm_p172 : List vm_En := [(0, .aload_n 0, 1, 0, 0, 0, 0, 0), (1, .iconst 0, 1, 0, 0, 0, 0, 0), (2, .putfield 59, 3, 7, 0, 738, 0, 0), (5, .aload_n 0, 1, 0, 0, 0, 0, 0), (6, .getfield 63, 3, 7, 1, 739, 0, 0), (9, .ireturn, 1, 0, 0, 0, 0, 0)]
/-- java/lang/String.length()I -/
def vm_p173 : List vm_En := [(0, .aload_n 0, 1, 0, 0, 0, 0, 0), (1, .getfield 9, 3, 100, 0, 1106, 0, 0), (4, .arraylength, 1, 0, 0, 0, 0, 0), (5, .aload_n 0, 1, 0, 0, 0, 0, 0), (6, .invokevirtual 335, 3, 175, 0, 357, 0, 0), (9, .ishr, 1, 0, 0, 0, 0, 0), (10, .ireturn, 1, 0, 0, 0, 0, 0)]
/-- java/lang/String.charAt(I)C -/
def vm_p174 : List vm_En := [(0, .aload_n 0, 1, 0, 0, 0, 0, 0), (1, .invokevirtual 492, 3, 176, 0, 367, 0, 0), (4, .ifCond .eq 12, 3, 16, 0, 0, 0, 0), (7, .aload_n 0, 1, 0, 0, 0, 0, 0), (8, .getfield 9, 3, 100, 0, 1106, 0, 0), (11, .iload_n 1, 1, 0, 0, 0, 0, 0), (12, .invokestatic 495, 3, 178, 0, 371, 0, 0), (15, .ireturn, 1, 0, 0, 0, 0, 0), (16, .aload_n 0, 1, 0, 0, 0, 0, 0), (17, .getfield 9, 3, 100, 0, 1106, 0, 0), (20, .iload_n 1, 1, 0, 0, 0, 0, 0), (24, .ireturn, 1, 0, 0, 0, 0, 0)]
/-- java/lang/String.coder()B -/
def vm_p175 : List vm_En := [(0, .getstatic 38, 3, 0, 0, 361, 0, 0), (3, .ifCond .eq 10, 3, 13, 0, 0, 0, 0), (6, .aload_n 0, 1, 0, 0, 0, 0, 0), (7, .getfield 15, 3, 101, 0, 1107, 0, 0), (10, .goto 4, 3, 14, 0, 0, 0, 0), (13, .iconst 1, 1, 0, 0, 0, 0, 0), (14, .ireturn, 1, 0, 0, 0, 0, 0)]
/-- java/lang/String.isLatin1()Z -/
def vm_p176 : List vm_En := [(0, .getstatic 38, 3, 0, 0, 361, 0, 0), (3, .ifCond .eq 14, 3, 17, 0, 0, 0, 0), (6, .aload_n 0, 1, 0, 0, 0, 0, 0), (7, .getfield 15, 3, 101, 0, 1107, 0, 0), (10, .ifCond .ne 7, 3, 17, 0, 0, 0, 0), (13, .iconst 1, 1, 0, 0, 0, 0, 0), (14, .goto 4, 3, 18, 0, 0, 0, 0), (17, .iconst 0, 1, 0, 0, 0, 0, 0), (18, .ireturn, 1, 0, 0, 0, 0, 0)]
/-- java/lang/String.checkIndex(II)V -/
def vm_p177 : List vm_En := [(0, .iload_n 0, 1, 0, 0, 0, 0, 0), (1, .iload_n 1, 1, 0, 0, 0, 0, 0), (2, .getstatic 1053, 3, 1, 0, 377, 0, 0), (5, .invokestatic 1059, 3, 179, 0, 379, 0, 0), (8, .pop, 1, 0, 0, 0, 0, 0), (9, .return_, 1, 0, 0, 0, 0, 0)]
/-- java/lang/StringLatin1.charAt([BI)C -/
def vm_p178 : List vm_En := [(0, .iload_n 1, 1, 0, 0, 0, 0, 0), (1, .aload_n 0, 1, 0, 0, 0, 0, 0), (2, .arraylength, 1, 0, 0, 0, 0, 0), (3, .invokestatic 9, 3, 177, 0, 374, 0, 0), (6, .aload_n 0, 1, 0, 0, 0, 0, 0), (7, .iload_n 1, 1, 0, 0, 0, 0, 0), (8, .baload, 1, 0, 0, 0, 0, 0), (9, .sipush 255, 3, 0, 0, 0, 0, 0), (12, .iand, 1, 0, 0, 0, 0, 0), (13, .i2c, 1, 0, 0, 0, 0, 0), (14, .ireturn, 1, 0, 0, 0, 0, 0)]
/-- jdk/internal/util/Preconditions.checkIndex(IILjava/util/function/BiFunction;)I -/
def vm_p179 : List vm_En := [(0, .iload_n 0, 1, 0, 0, 0, 0, 0), (1, .ifCond .lt 8, 3, 9, 0, 0, 0, 0), (4, .iload_n 0, 1, 0, 0, 0, 0, 0), (5, .iload_n 1, 1, 0, 0, 0, 0, 0), (6, .if_icmp .lt 10, 3, 16, 0, 0, 0, 0), (9, .aload_n 2, 1, 0, 0, 0, 0, 0), (10, .iload_n 0, 1, 0, 0, 0, 0, 0), (11, .iload_n 1, 1, 0, 0, 0, 0, 0), (15, .athrow, 1, 0, 0, 0, 0, 0), (16, .iload_n 0, 1, 0, 0, 0, 0, 0), (17, .ireturn, 1, 0, 0, 0, 0, 0)]
/-- BirchLeafLaw.law([I)Z -/
def vm_p180 : List vm_En := [(0, .new 7, 3, 6, 10, 15, 0, 0), (3, .dup, 1, 0, 0, 0, 0, 0), (4, .invokespecial 9, 3, 73, 0, 17, 0, 0), (7, .astore_n 1, 1, 0, 0, 0, 0, 0), (8, .new 10, 3, 7, 30, 732, 0, 0), (11, .dup, 1, 0, 0, 0, 0, 0), (12, .invokespecial 12, 3, 107, 0, 734, 0, 0), (15, .astore_n 2, 1, 0, 0, 0, 0, 0), (16, .iconst 0, 1, 0, 0, 0, 0, 0), (17, .istore_n 3, 1, 0, 0, 0, 0, 0), (18, .iload_n 3, 1, 0, 0, 0, 0, 0), (19, .aload_n 0, 1, 0, 0, 0, 0, 0), (20, .arraylength, 1, 0, 0, 0, 0, 0), (21, .bipush 6, 2, 0, 0, 0, 0, 0), (23, .isub, 1, 0, 0, 0, 0, 0), (24, .if_icmp .gt 996, 3, 1020, 0, 0, 0, 0), (27, .aload_n 0, 1, 0, 0, 0, 0, 0), (28, .iload_n 3, 1, 0, 0, 0, 0, 0), (29, .iaload, 1, 0, 0, 0, 0, 0), (30, .bipush 31, 2, 0, 0, 0, 0, 0), (32, .iand, 1, 0, 0, 0, 0, 0), (33, .tableswitch 981 0 27 #[127, 170, 213, 276, 299, 362, 375, 388, 411, 434, 457, 470, 503, 536, 579, 612, 645, 688, 711, 734, 787, 810, 833, 856, 889, 922, 945, 968], 127, 0, 0, 0, 0, 0), (160, .aload_n 1, 1, 0, 0, 0, 0, 0), (161, .aload_n 0, 1, 0, 0, 0, 0, 0), (162, .iload_n 3, 1, 0, 0, 0, 0, 0), (163, .iconst 1, 1, 0, 0, 0, 0, 0), (164, .iadd, 1, 0, 0, 0, 0, 0), (165, .iaload, 1, 0, 0, 0, 0, 0), (166, .aload_n 0, 1, 0, 0, 0, 0, 0), (167, .iload_n 3, 1, 0, 0, 0, 0, 0), (168, .iconst 2, 1, 0, 0, 0, 0, 0), (169, .iadd, 1, 0, 0, 0, 0, 0), (170, .iaload, 1, 0, 0, 0, 0, 0), (171, .aload_n 0, 1, 0, 0, 0, 0, 0), (172, .iload_n 3, 1, 0, 0, 0, 0, 0), (173, .iconst 3, 1, 0, 0, 0, 0, 0), (174, .iadd, 1, 0, 0, 0, 0, 0), (175, .iaload, 1, 0, 0, 0, 0, 0), (176, .invokevirtual 13, 3, 74, 0, 252, 0, 0), (179, .aload_n 2, 1, 0, 0, 0, 0, 0), (180, .aload_n 0, 1, 0, 0, 0, 0, 0), (181, .iload_n 3, 1, 0, 0, 0, 0, 0), (182, .iconst 1, 1, 0, 0, 0, 0, 0), (183, .iadd, 1, 0, 0, 0, 0, 0), (184, .iaload, 1, 0, 0, 0, 0, 0), (185, .aload_n 0, 1, 0, 0, 0, 0, 0), (186, .iload_n 3, 1, 0, 0, 0, 0, 0), (187, .iconst 2, 1, 0, 0, 0, 0, 0), (188, .iadd, 1, 0, 0, 0, 0, 0), (189, .iaload, 1, 0, 0, 0, 0, 0), (190, .aload_n 0, 1, 0, 0, 0, 0, 0), (191, .iload_n 3, 1, 0, 0, 0, 0, 0), (192, .iconst 3, 1, 0, 0, 0, 0, 0), (193, .iadd, 1, 0, 0, 0, 0, 0), (194, .iaload, 1, 0, 0, 0, 0, 0), (195, .invokevirtual 17, 3, 111, 0, 830, 0, 0), (198, .if_icmp .eq 816, 3, 1014, 0, 0, 0, 0), (201, .iconst 0, 1, 0, 0, 0, 0, 0), (202, .ireturn, 1, 0, 0, 0, 0, 0), (203, .aload_n 1, 1, 0, 0, 0, 0, 0), (204, .aload_n 0, 1, 0, 0, 0, 0, 0), (205, .iload_n 3, 1, 0, 0, 0, 0, 0), (206, .iconst 1, 1, 0, 0, 0, 0, 0), (207, .iadd, 1, 0, 0, 0, 0, 0), (208, .iaload, 1, 0, 0, 0, 0, 0), (209, .aload_n 0, 1, 0, 0, 0, 0, 0), (210, .iload_n 3, 1, 0, 0, 0, 0, 0), (211, .iconst 2, 1, 0, 0, 0, 0, 0), (212, .iadd, 1, 0, 0, 0, 0, 0), (213, .iaload, 1, 0, 0, 0, 0, 0), (214, .aload_n 0, 1, 0, 0, 0, 0, 0), (215, .iload_n 3, 1, 0, 0, 0, 0, 0), (216, .iconst 3, 1, 0, 0, 0, 0, 0), (217, .iadd, 1, 0, 0, 0, 0, 0), (218, .iaload, 1, 0, 0, 0, 0, 0), (219, .invokevirtual 18, 3, 75, 0, 269, 0, 0), (222, .aload_n 2, 1, 0, 0, 0, 0, 0), (223, .aload_n 0, 1, 0, 0, 0, 0, 0), (224, .iload_n 3, 1, 0, 0, 0, 0, 0), (225, .iconst 1, 1, 0, 0, 0, 0, 0), (226, .iadd, 1, 0, 0, 0, 0, 0), (227, .iaload, 1, 0, 0, 0, 0, 0), (228, .aload_n 0, 1, 0, 0, 0, 0, 0), (229, .iload_n 3, 1, 0, 0, 0, 0, 0), (230, .iconst 2, 1, 0, 0, 0, 0, 0), (231, .iadd, 1, 0, 0, 0, 0, 0), (232, .iaload, 1, 0, 0, 0, 0, 0), (233, .aload_n 0, 1, 0, 0, 0, 0, 0), (234, .iload_n 3, 1, 0, 0, 0, 0, 0), (235, .iconst 3, 1, 0, 0, 0, 0, 0), (236, .iadd, 1, 0, 0, 0, 0, 0), (237, .iaload, 1, 0, 0, 0, 0, 0), (238, .invokevirtual 21, 3, 112, 0, 848, 0, 0), (241, .if_icmp .eq 773, 3, 1014, 0, 0, 0, 0), (244, .iconst 0, 1, 0, 0, 0, 0, 0), (245, .ireturn, 1, 0, 0, 0, 0, 0), (246, .aload_n 1, 1, 0, 0, 0, 0, 0), (247, .aload_n 0, 1, 0, 0, 0, 0, 0), (248, .iload_n 3, 1, 0, 0, 0, 0, 0), (249, .iconst 1, 1, 0, 0, 0, 0, 0), (250, .iadd, 1, 0, 0, 0, 0, 0), (251, .iaload, 1, 0, 0, 0, 0, 0), (252, .aload_n 0, 1, 0, 0, 0, 0, 0), (253, .iload_n 3, 1, 0, 0, 0, 0, 0), (254, .iconst 2, 1, 0, 0, 0, 0, 0), (255, .iadd, 1, 0, 0, 0, 0, 0), (256, .iaload, 1, 0, 0, 0, 0, 0), (257, .aload_n 0, 1, 0, 0, 0, 0, 0), (258, .iload_n 3, 1, 0, 0, 0, 0, 0), (259, .iconst 3, 1, 0, 0, 0, 0, 0), (260, .iadd, 1, 0, 0, 0, 0, 0), (261, .iaload, 1, 0, 0, 0, 0, 0), (262, .aload_n 0, 1, 0, 0, 0, 0, 0), (263, .iload_n 3, 1, 0, 0, 0, 0, 0), (264, .iconst 4, 1, 0, 0, 0, 0, 0), (265, .iadd, 1, 0, 0, 0, 0, 0), (266, .iaload, 1, 0, 0, 0, 0, 0), (267, .aload_n 0, 1, 0, 0, 0, 0, 0), (268, .iload_n 3, 1, 0, 0, 0, 0, 0), (269, .iconst 5, 1, 0, 0, 0, 0, 0), (270, .iadd, 1, 0, 0, 0, 0, 0), (271, .iaload, 1, 0, 0, 0, 0, 0), (272, .invokevirtual 22, 3, 76, 0, 289, 0, 0), (275, .aload_n 2, 1, 0, 0, 0, 0, 0), (276, .aload_n 0, 1, 0, 0, 0, 0, 0), (277, .iload_n 3, 1, 0, 0, 0, 0, 0), (278, .iconst 1, 1, 0, 0, 0, 0, 0), (279, .iadd, 1, 0, 0, 0, 0, 0), (280, .iaload, 1, 0, 0, 0, 0, 0), (281, .aload_n 0, 1, 0, 0, 0, 0, 0), (282, .iload_n 3, 1, 0, 0, 0, 0, 0), (283, .iconst 2, 1, 0, 0, 0, 0, 0), (284, .iadd, 1, 0, 0, 0, 0, 0), (285, .iaload, 1, 0, 0, 0, 0, 0), (286, .aload_n 0, 1, 0, 0, 0, 0, 0), (287, .iload_n 3, 1, 0, 0, 0, 0, 0), (288, .iconst 3, 1, 0, 0, 0, 0, 0), (289, .iadd, 1, 0, 0, 0, 0, 0), (290, .iaload, 1, 0, 0, 0, 0, 0), (291, .aload_n 0, 1, 0, 0, 0, 0, 0), (292, .iload_n 3, 1, 0, 0, 0, 0, 0), (293, .iconst 4, 1, 0, 0, 0, 0, 0), (294, .iadd, 1, 0, 0, 0, 0, 0), (295, .iaload, 1, 0, 0, 0, 0, 0), (296, .aload_n 0, 1, 0, 0, 0, 0, 0), (297, .iload_n 3, 1, 0, 0, 0, 0, 0), (298, .iconst 5, 1, 0, 0, 0, 0, 0), (299, .iadd, 1, 0, 0, 0, 0, 0), (300, .iaload, 1, 0, 0, 0, 0, 0), (301, .invokevirtual 26, 3, 113, 0, 852, 0, 0), (304, .if_icmp .eq 710, 3, 1014, 0, 0, 0, 0), (307, .iconst 0, 1, 0, 0, 0, 0, 0), (308, .ireturn, 1, 0, 0, 0, 0, 0), (309, .aload_n 1, 1, 0, 0, 0, 0, 0), (310, .aload_n 0, 1, 0, 0, 0, 0, 0), (311, .iload_n 3, 1, 0, 0, 0, 0, 0), (312, .iconst 1, 1, 0, 0, 0, 0, 0), (313, .iadd, 1, 0, 0, 0, 0, 0), (314, .iaload, 1, 0, 0, 0, 0, 0), (315, .invokevirtual 27, 3, 77, 0, 304, 0, 0), (318, .aload_n 2, 1, 0, 0, 0, 0, 0), (319, .aload_n 0, 1, 0, 0, 0, 0, 0), (320, .iload_n 3, 1, 0, 0, 0, 0, 0), (321, .iconst 1, 1, 0, 0, 0, 0, 0), (322, .iadd, 1, 0, 0, 0, 0, 0), (323, .iaload, 1, 0, 0, 0, 0, 0), (324, .invokevirtual 31, 3, 114, 0, 856, 0, 0), (327, .if_icmp .eq 687, 3, 1014, 0, 0, 0, 0), (330, .iconst 0, 1, 0, 0, 0, 0, 0), (331, .ireturn, 1, 0, 0, 0, 0, 0), (332, .aload_n 1, 1, 0, 0, 0, 0, 0), (333, .aload_n 0, 1, 0, 0, 0, 0, 0), (334, .iload_n 3, 1, 0, 0, 0, 0, 0), (335, .iconst 1, 1, 0, 0, 0, 0, 0), (336, .iadd, 1, 0, 0, 0, 0, 0), (337, .iaload, 1, 0, 0, 0, 0, 0), (338, .i2l, 1, 0, 0, 0, 0, 0), (339, .bipush 32, 2, 0, 0, 0, 0, 0), (341, .lshl, 1, 0, 0, 0, 0, 0), (342, .aload_n 0, 1, 0, 0, 0, 0, 0), (343, .iload_n 3, 1, 0, 0, 0, 0, 0), (344, .iconst 2, 1, 0, 0, 0, 0, 0), (345, .iadd, 1, 0, 0, 0, 0, 0), (346, .iaload, 1, 0, 0, 0, 0, 0), (347, .i2l, 1, 0, 0, 0, 0, 0), (348, .ldc2_w 32, 3, 0, 0, 1105, 0, 4294967295), (351, .land, 1, 0, 0, 0, 0, 0), (352, .lor, 1, 0, 0, 0, 0, 0), (353, .aload_n 0, 1, 0, 0, 0, 0, 0), (354, .iload_n 3, 1, 0, 0, 0, 0, 0), (355, .iconst 3, 1, 0, 0, 0, 0, 0), (356, .iadd, 1, 0, 0, 0, 0, 0), (357, .iaload, 1, 0, 0, 0, 0, 0), (358, .invokevirtual 34, 3, 78, 0, 313, 0, 0), (361, .aload_n 2, 1, 0, 0, 0, 0, 0), (362, .aload_n 0, 1, 0, 0, 0, 0, 0), (363, .iload_n 3, 1, 0, 0, 0, 0, 0), (364, .iconst 1, 1, 0, 0, 0, 0, 0), (365, .iadd, 1, 0, 0, 0, 0, 0), (366, .iaload, 1, 0, 0, 0, 0, 0), (367, .i2l, 1, 0, 0, 0, 0, 0), (368, .bipush 32, 2, 0, 0, 0, 0, 0), (370, .lshl, 1, 0, 0, 0, 0, 0), (371, .aload_n 0, 1, 0, 0, 0, 0, 0), (372, .iload_n 3, 1, 0, 0, 0, 0, 0), (373, .iconst 2, 1, 0, 0, 0, 0, 0), (374, .iadd, 1, 0, 0, 0, 0, 0), (375, .iaload, 1, 0, 0, 0, 0, 0), (376, .i2l, 1, 0, 0, 0, 0, 0), (377, .ldc2_w 32, 3, 0, 0, 1105, 0, 4294967295), (380, .land, 1, 0, 0, 0, 0, 0), (381, .lor, 1, 0, 0, 0, 0, 0), (382, .aload_n 0, 1, 0, 0, 0, 0, 0), (383, .iload_n 3, 1, 0, 0, 0, 0, 0), (384, .iconst 3, 1, 0, 0, 0, 0, 0), (385, .iadd, 1, 0, 0, 0, 0, 0), (386, .iaload, 1, 0, 0, 0, 0, 0), (387, .invokevirtual 38, 3, 115, 0, 860, 0, 0), (390, .if_icmp .eq 624, 3, 1014, 0, 0, 0, 0), (393, .iconst 0, 1, 0, 0, 0, 0, 0), (394, .ireturn, 1, 0, 0, 0, 0, 0), (395, .aload_n 1, 1, 0, 0, 0, 0, 0), (396, .invokevirtual 39, 3, 79, 0, 322, 0, 0), (399, .aload_n 2, 1, 0, 0, 0, 0, 0), (400, .invokevirtual 43, 3, 131, 0, 867, 0, 0), (403, .if_icmp .eq 611, 3, 1014, 0, 0, 0, 0), (406, .iconst 0, 1, 0, 0, 0, 0, 0), (407, .ireturn, 1, 0, 0, 0, 0, 0), (408, .aload_n 1, 1, 0, 0, 0, 0, 0), (409, .invokevirtual 44, 3, 80, 0, 461, 0, 0), (412, .aload_n 2, 1, 0, 0, 0, 0, 0), (413, .invokevirtual 47, 3, 132, 0, 938, 0, 0), (416, .if_icmp .eq 598, 3, 1014, 0, 0, 0, 0), (419, .iconst 0, 1, 0, 0, 0, 0, 0), (420, .ireturn, 1, 0, 0, 0, 0, 0), (421, .aload_n 1, 1, 0, 0, 0, 0, 0), (422, .aload_n 0, 1, 0, 0, 0, 0, 0), (423, .iload_n 3, 1, 0, 0, 0, 0, 0), (424, .iconst 1, 1, 0, 0, 0, 0, 0), (425, .iadd, 1, 0, 0, 0, 0, 0), (426, .iaload, 1, 0, 0, 0, 0, 0), (427, .invokevirtual 48, 3, 81, 0, 465, 0, 0), (430, .aload_n 2, 1, 0, 0, 0, 0, 0), (431, .aload_n 0, 1, 0, 0, 0, 0, 0), (432, .iload_n 3, 1, 0, 0, 0, 0, 0), (433, .iconst 1, 1, 0, 0, 0, 0, 0), (434, .iadd, 1, 0, 0, 0, 0, 0), (435, .iaload, 1, 0, 0, 0, 0, 0), (436, .invokevirtual 51, 3, 142, 0, 942, 0, 0), (439, .if_icmp .eq 575, 3, 1014, 0, 0, 0, 0), (442, .iconst 0, 1, 0, 0, 0, 0, 0), (443, .ireturn, 1, 0, 0, 0, 0, 0), (444, .aload_n 1, 1, 0, 0, 0, 0, 0), (445, .aload_n 0, 1, 0, 0, 0, 0, 0), (446, .iload_n 3, 1, 0, 0, 0, 0, 0), (447, .iconst 1, 1, 0, 0, 0, 0, 0), (448, .iadd, 1, 0, 0, 0, 0, 0), (449, .iaload, 1, 0, 0, 0, 0, 0), (450, .invokevirtual 52, 3, 82, 0, 502, 0, 0), (453, .aload_n 2, 1, 0, 0, 0, 0, 0), (454, .aload_n 0, 1, 0, 0, 0, 0, 0), (455, .iload_n 3, 1, 0, 0, 0, 0, 0), (456, .iconst 1, 1, 0, 0, 0, 0, 0), (457, .iadd, 1, 0, 0, 0, 0, 0), (458, .iaload, 1, 0, 0, 0, 0, 0), (459, .invokevirtual 55, 3, 143, 0, 975, 0, 0), (462, .if_icmp .eq 552, 3, 1014, 0, 0, 0, 0), (465, .iconst 0, 1, 0, 0, 0, 0, 0), (466, .ireturn, 1, 0, 0, 0, 0, 0), (467, .aload_n 1, 1, 0, 0, 0, 0, 0), (468, .aload_n 0, 1, 0, 0, 0, 0, 0), (469, .iload_n 3, 1, 0, 0, 0, 0, 0), (470, .iconst 1, 1, 0, 0, 0, 0, 0), (471, .iadd, 1, 0, 0, 0, 0, 0), (472, .iaload, 1, 0, 0, 0, 0, 0), (473, .invokevirtual 56, 3, 83, 0, 515, 0, 0), (476, .aload_n 2, 1, 0, 0, 0, 0, 0), (477, .aload_n 0, 1, 0, 0, 0, 0, 0), (478, .iload_n 3, 1, 0, 0, 0, 0, 0), (479, .iconst 1, 1, 0, 0, 0, 0, 0), (480, .iadd, 1, 0, 0, 0, 0, 0), (481, .iaload, 1, 0, 0, 0, 0, 0), (482, .invokevirtual 59, 3, 144, 0, 984, 0, 0), (485, .if_icmp .eq 529, 3, 1014, 0, 0, 0, 0), (488, .iconst 0, 1, 0, 0, 0, 0, 0), (489, .ireturn, 1, 0, 0, 0, 0, 0), (490, .aload_n 1, 1, 0, 0, 0, 0, 0), (491, .invokevirtual 60, 3, 84, 0, 523, 0, 0), (494, .aload_n 2, 1, 0, 0, 0, 0, 0), (495, .invokevirtual 63, 3, 145, 0, 988, 0, 0), (498, .if_icmp .eq 516, 3, 1014, 0, 0, 0, 0), (501, .iconst 0, 1, 0, 0, 0, 0, 0), (502, .ireturn, 1, 0, 0, 0, 0, 0), (503, .aload_n 1, 1, 0, 0, 0, 0, 0), (504, .aload_n 0, 1, 0, 0, 0, 0, 0), (505, .iload_n 3, 1, 0, 0, 0, 0, 0), (506, .iconst 1, 1, 0, 0, 0, 0, 0), (507, .iadd, 1, 0, 0, 0, 0, 0), (508, .iaload, 1, 0, 0, 0, 0, 0), (509, .aload_n 0, 1, 0, 0, 0, 0, 0), (510, .iload_n 3, 1, 0, 0, 0, 0, 0), (511, .iconst 2, 1, 0, 0, 0, 0, 0), (512, .iadd, 1, 0, 0, 0, 0, 0), (513, .iaload, 1, 0, 0, 0, 0, 0), (514, .invokevirtual 64, 3, 85, 0, 531, 0, 0), (517, .aload_n 2, 1, 0, 0, 0, 0, 0), (518, .aload_n 0, 1, 0, 0, 0, 0, 0), (519, .iload_n 3, 1, 0, 0, 0, 0, 0), (520, .iconst 1, 1, 0, 0, 0, 0, 0), (521, .iadd, 1, 0, 0, 0, 0, 0), (522, .iaload, 1, 0, 0, 0, 0, 0), (523, .aload_n 0, 1, 0, 0, 0, 0, 0), (524, .iload_n 3, 1, 0, 0, 0, 0, 0), (525, .iconst 2, 1, 0, 0, 0, 0, 0), (526, .iadd, 1, 0, 0, 0, 0, 0), (527, .iaload, 1, 0, 0, 0, 0, 0), (528, .invokevirtual 68, 3, 146, 0, 992, 0, 0), (531, .if_icmp .eq 483, 3, 1014, 0, 0, 0, 0), (534, .iconst 0, 1, 0, 0, 0, 0, 0), (535, .ireturn, 1, 0, 0, 0, 0, 0), (536, .aload_n 1, 1, 0, 0, 0, 0, 0), (537, .aload_n 0, 1, 0, 0, 0, 0, 0), (538, .iload_n 3, 1, 0, 0, 0, 0, 0), (539, .iconst 1, 1, 0, 0, 0, 0, 0), (540, .iadd, 1, 0, 0, 0, 0, 0), (541, .iaload, 1, 0, 0, 0, 0, 0), (542, .aload_n 0, 1, 0, 0, 0, 0, 0), (543, .iload_n 3, 1, 0, 0, 0, 0, 0), (544, .iconst 2, 1, 0, 0, 0, 0, 0), (545, .iadd, 1, 0, 0, 0, 0, 0), (546, .iaload, 1, 0, 0, 0, 0, 0), (547, .invokevirtual 69, 3, 86, 0, 536, 0, 0), (550, .aload_n 2, 1, 0, 0, 0, 0, 0), (551, .aload_n 0, 1, 0, 0, 0, 0, 0), (552, .iload_n 3, 1, 0, 0, 0, 0, 0), (553, .iconst 1, 1, 0, 0, 0, 0, 0), (554, .iadd, 1, 0, 0, 0, 0, 0), (555, .iaload, 1, 0, 0, 0, 0, 0), (556, .aload_n 0, 1, 0, 0, 0, 0, 0), (557, .iload_n 3, 1, 0, 0, 0, 0, 0), (558, .iconst 2, 1, 0, 0, 0, 0, 0), (559, .iadd, 1, 0, 0, 0, 0, 0), (560, .iaload, 1, 0, 0, 0, 0, 0), (561, .invokevirtual 72, 3, 147, 0, 997, 0, 0), (564, .if_icmp .eq 450, 3, 1014, 0, 0, 0, 0), (567, .iconst 0, 1, 0, 0, 0, 0, 0), (568, .ireturn, 1, 0, 0, 0, 0, 0), (569, .aload_n 1, 1, 0, 0, 0, 0, 0), (570, .aload_n 0, 1, 0, 0, 0, 0, 0), (571, .iload_n 3, 1, 0, 0, 0, 0, 0), (572, .iconst 1, 1, 0, 0, 0, 0, 0), (573, .iadd, 1, 0, 0, 0, 0, 0), (574, .iaload, 1, 0, 0, 0, 0, 0), (575, .aload_n 0, 1, 0, 0, 0, 0, 0), (576, .iload_n 3, 1, 0, 0, 0, 0, 0), (577, .iconst 2, 1, 0, 0, 0, 0, 0), (578, .iadd, 1, 0, 0, 0, 0, 0), (579, .iaload, 1, 0, 0, 0, 0, 0), (580, .aload_n 0, 1, 0, 0, 0, 0, 0), (581, .iload_n 3, 1, 0, 0, 0, 0, 0), (582, .iconst 3, 1, 0, 0, 0, 0, 0), (583, .iadd, 1, 0, 0, 0, 0, 0), (584, .iaload, 1, 0, 0, 0, 0, 0), (585, .invokevirtual 73, 3, 87, 0, 544, 0, 0), (588, .aload_n 2, 1, 0, 0, 0, 0, 0), (589, .aload_n 0, 1, 0, 0, 0, 0, 0), (590, .iload_n 3, 1, 0, 0, 0, 0, 0), (591, .iconst 1, 1, 0, 0, 0, 0, 0), (592, .iadd, 1, 0, 0, 0, 0, 0), (593, .iaload, 1, 0, 0, 0, 0, 0), (594, .aload_n 0, 1, 0, 0, 0, 0, 0), (595, .iload_n 3, 1, 0, 0, 0, 0, 0), (596, .iconst 2, 1, 0, 0, 0, 0, 0), (597, .iadd, 1, 0, 0, 0, 0, 0), (598, .iaload, 1, 0, 0, 0, 0, 0), (599, .aload_n 0, 1, 0, 0, 0, 0, 0), (600, .iload_n 3, 1, 0, 0, 0, 0, 0), (601, .iconst 3, 1, 0, 0, 0, 0, 0), (602, .iadd, 1, 0, 0, 0, 0, 0), (603, .iaload, 1, 0, 0, 0, 0, 0), (604, .invokevirtual 76, 3, 148, 0, 1004, 0, 0), (607, .if_icmp .eq 407, 3, 1014, 0, 0, 0, 0), (610, .iconst 0, 1, 0, 0, 0, 0, 0), (611, .ireturn, 1, 0, 0, 0, 0, 0), (612, .aload_n 1, 1, 0, 0, 0, 0, 0), (613, .aload_n 0, 1, 0, 0, 0, 0, 0), (614, .iload_n 3, 1, 0, 0, 0, 0, 0), (615, .iconst 1, 1, 0, 0, 0, 0, 0), (616, .iadd, 1, 0, 0, 0, 0, 0), (617, .iaload, 1, 0, 0, 0, 0, 0), (618, .aload_n 0, 1, 0, 0, 0, 0, 0), (619, .iload_n 3, 1, 0, 0, 0, 0, 0), (620, .iconst 2, 1, 0, 0, 0, 0, 0), (621, .iadd, 1, 0, 0, 0, 0, 0), (622, .iaload, 1, 0, 0, 0, 0, 0), (623, .invokevirtual 77, 3, 88, 0, 549, 0, 0), (626, .aload_n 2, 1, 0, 0, 0, 0, 0), (627, .aload_n 0, 1, 0, 0, 0, 0, 0), (628, .iload_n 3, 1, 0, 0, 0, 0, 0), (629, .iconst 1, 1, 0, 0, 0, 0, 0), (630, .iadd, 1, 0, 0, 0, 0, 0), (631, .iaload, 1, 0, 0, 0, 0, 0), (632, .aload_n 0, 1, 0, 0, 0, 0, 0), (633, .iload_n 3, 1, 0, 0, 0, 0, 0), (634, .iconst 2, 1, 0, 0, 0, 0, 0), (635, .iadd, 1, 0, 0, 0, 0, 0), (636, .iaload, 1, 0, 0, 0, 0, 0), (637, .invokevirtual 80, 3, 149, 0, 1008, 0, 0), (640, .if_icmp .eq 374, 3, 1014, 0, 0, 0, 0), (643, .iconst 0, 1, 0, 0, 0, 0, 0), (644, .ireturn, 1, 0, 0, 0, 0, 0), (645, .aload_n 1, 1, 0, 0, 0, 0, 0), (646, .aload_n 0, 1, 0, 0, 0, 0, 0), (647, .iload_n 3, 1, 0, 0, 0, 0, 0), (648, .iconst 1, 1, 0, 0, 0, 0, 0), (649, .iadd, 1, 0, 0, 0, 0, 0), (650, .iaload, 1, 0, 0, 0, 0, 0), (651, .aload_n 0, 1, 0, 0, 0, 0, 0), (652, .iload_n 3, 1, 0, 0, 0, 0, 0), (653, .iconst 2, 1, 0, 0, 0, 0, 0), (654, .iadd, 1, 0, 0, 0, 0, 0), (655, .iaload, 1, 0, 0, 0, 0, 0), (656, .invokevirtual 81, 3, 89, 0, 567, 0, 0), (659, .aload_n 2, 1, 0, 0, 0, 0, 0), (660, .aload_n 0, 1, 0, 0, 0, 0, 0), (661, .iload_n 3, 1, 0, 0, 0, 0, 0), (662, .iconst 1, 1, 0, 0, 0, 0, 0), (663, .iadd, 1, 0, 0, 0, 0, 0), (664, .iaload, 1, 0, 0, 0, 0, 0), (665, .aload_n 0, 1, 0, 0, 0, 0, 0), (666, .iload_n 3, 1, 0, 0, 0, 0, 0), (667, .iconst 2, 1, 0, 0, 0, 0, 0), (668, .iadd, 1, 0, 0, 0, 0, 0), (669, .iaload, 1, 0, 0, 0, 0, 0), (670, .invokevirtual 84, 3, 150, 0, 1012, 0, 0), (673, .if_icmp .eq 341, 3, 1014, 0, 0, 0, 0), (676, .iconst 0, 1, 0, 0, 0, 0, 0), (677, .ireturn, 1, 0, 0, 0, 0, 0), (678, .aload_n 1, 1, 0, 0, 0, 0, 0), (679, .aload_n 0, 1, 0, 0, 0, 0, 0), (680, .iload_n 3, 1, 0, 0, 0, 0, 0), (681, .iconst 1, 1, 0, 0, 0, 0, 0), (682, .iadd, 1, 0, 0, 0, 0, 0), (683, .iaload, 1, 0, 0, 0, 0, 0), (684, .aload_n 0, 1, 0, 0, 0, 0, 0), (685, .iload_n 3, 1, 0, 0, 0, 0, 0), (686, .iconst 2, 1, 0, 0, 0, 0, 0), (687, .iadd, 1, 0, 0, 0, 0, 0), (688, .iaload, 1, 0, 0, 0, 0, 0), (689, .aload_n 0, 1, 0, 0, 0, 0, 0), (690, .iload_n 3, 1, 0, 0, 0, 0, 0), (691, .iconst 3, 1, 0, 0, 0, 0, 0), (692, .iadd, 1, 0, 0, 0, 0, 0), (693, .iaload, 1, 0, 0, 0, 0, 0), (694, .invokevirtual 85, 3, 90, 0, 583, 0, 0), (697, .aload_n 2, 1, 0, 0, 0, 0, 0), (698, .aload_n 0, 1, 0, 0, 0, 0, 0), (699, .iload_n 3, 1, 0, 0, 0, 0, 0), (700, .iconst 1, 1, 0, 0, 0, 0, 0), (701, .iadd, 1, 0, 0, 0, 0, 0), (702, .iaload, 1, 0, 0, 0, 0, 0), (703, .aload_n 0, 1, 0, 0, 0, 0, 0), (704, .iload_n 3, 1, 0, 0, 0, 0, 0), (705, .iconst 2, 1, 0, 0, 0, 0, 0), (706, .iadd, 1, 0, 0, 0, 0, 0), (707, .iaload, 1, 0, 0, 0, 0, 0), (708, .aload_n 0, 1, 0, 0, 0, 0, 0), (709, .iload_n 3, 1, 0, 0, 0, 0, 0), (710, .iconst 3, 1, 0, 0, 0, 0, 0), (711, .iadd, 1, 0, 0, 0, 0, 0), (712, .iaload, 1, 0, 0, 0, 0, 0), (713, .invokevirtual 88, 3, 151, 0, 1016, 0, 0), (716, .if_icmp .eq 298, 3, 1014, 0, 0, 0, 0), (719, .iconst 0, 1, 0, 0, 0, 0, 0), (720, .ireturn, 1, 0, 0, 0, 0, 0), (721, .aload_n 1, 1, 0, 0, 0, 0, 0), (722, .aload_n 0, 1, 0, 0, 0, 0, 0), (723, .iload_n 3, 1, 0, 0, 0, 0, 0), (724, .iconst 1, 1, 0, 0, 0, 0, 0), (725, .iadd, 1, 0, 0, 0, 0, 0), (726, .iaload, 1, 0, 0, 0, 0, 0), (727, .invokevirtual 89, 3, 91, 0, 598, 0, 0), (730, .aload_n 2, 1, 0, 0, 0, 0, 0), (731, .aload_n 0, 1, 0, 0, 0, 0, 0), (732, .iload_n 3, 1, 0, 0, 0, 0, 0), (733, .iconst 1, 1, 0, 0, 0, 0, 0), (734, .iadd, 1, 0, 0, 0, 0, 0), (735, .iaload, 1, 0, 0, 0, 0, 0), (736, .invokevirtual 92, 3, 153, 0, 1020, 0, 0), (739, .if_icmp .eq 275, 3, 1014, 0, 0, 0, 0), (742, .iconst 0, 1, 0, 0, 0, 0, 0), (743, .ireturn, 1, 0, 0, 0, 0, 0), (744, .aload_n 1, 1, 0, 0, 0, 0, 0), (745, .aload_n 0, 1, 0, 0, 0, 0, 0), (746, .iload_n 3, 1, 0, 0, 0, 0, 0), (747, .iconst 1, 1, 0, 0, 0, 0, 0), (748, .iadd, 1, 0, 0, 0, 0, 0), (749, .iaload, 1, 0, 0, 0, 0, 0), (750, .invokevirtual 93, 3, 92, 0, 606, 0, 0), (753, .aload_n 2, 1, 0, 0, 0, 0, 0), (754, .aload_n 0, 1, 0, 0, 0, 0, 0), (755, .iload_n 3, 1, 0, 0, 0, 0, 0), (756, .iconst 1, 1, 0, 0, 0, 0, 0), (757, .iadd, 1, 0, 0, 0, 0, 0), (758, .iaload, 1, 0, 0, 0, 0, 0), (759, .invokevirtual 96, 3, 154, 0, 1028, 0, 0), (762, .if_icmp .eq 252, 3, 1014, 0, 0, 0, 0), (765, .iconst 0, 1, 0, 0, 0, 0, 0), (766, .ireturn, 1, 0, 0, 0, 0, 0), (767, .aload_n 1, 1, 0, 0, 0, 0, 0), (768, .aload_n 0, 1, 0, 0, 0, 0, 0), (769, .iload_n 3, 1, 0, 0, 0, 0, 0), (770, .iconst 1, 1, 0, 0, 0, 0, 0), (771, .iadd, 1, 0, 0, 0, 0, 0), (772, .iaload, 1, 0, 0, 0, 0, 0), (773, .aload_n 0, 1, 0, 0, 0, 0, 0), (774, .iload_n 3, 1, 0, 0, 0, 0, 0), (775, .iconst 2, 1, 0, 0, 0, 0, 0), (776, .iadd, 1, 0, 0, 0, 0, 0), (777, .iaload, 1, 0, 0, 0, 0, 0), (778, .aload_n 0, 1, 0, 0, 0, 0, 0), (779, .iload_n 3, 1, 0, 0, 0, 0, 0), (780, .iconst 3, 1, 0, 0, 0, 0, 0), (781, .iadd, 1, 0, 0, 0, 0, 0), (782, .iaload, 1, 0, 0, 0, 0, 0), (783, .aload_n 0, 1, 0, 0, 0, 0, 0), (784, .iload_n 3, 1, 0, 0, 0, 0, 0), (785, .iconst 4, 1, 0, 0, 0, 0, 0), (786, .iadd, 1, 0, 0, 0, 0, 0), (787, .iaload, 1, 0, 0, 0, 0, 0), (788, .invokevirtual 97, 3, 93, 0, 615, 0, 0), (791, .aload_n 2, 1, 0, 0, 0, 0, 0), (792, .aload_n 0, 1, 0, 0, 0, 0, 0), (793, .iload_n 3, 1, 0, 0, 0, 0, 0), (794, .iconst 1, 1, 0, 0, 0, 0, 0), (795, .iadd, 1, 0, 0, 0, 0, 0), (796, .iaload, 1, 0, 0, 0, 0, 0), (797, .aload_n 0, 1, 0, 0, 0, 0, 0), (798, .iload_n 3, 1, 0, 0, 0, 0, 0), (799, .iconst 2, 1, 0, 0, 0, 0, 0), (800, .iadd, 1, 0, 0, 0, 0, 0), (801, .iaload, 1, 0, 0, 0, 0, 0), (802, .aload_n 0, 1, 0, 0, 0, 0, 0), (803, .iload_n 3, 1, 0, 0, 0, 0, 0), (804, .iconst 3, 1, 0, 0, 0, 0, 0), (805, .iadd, 1, 0, 0, 0, 0, 0), (806, .iaload, 1, 0, 0, 0, 0, 0), (807, .aload_n 0, 1, 0, 0, 0, 0, 0), (808, .iload_n 3, 1, 0, 0, 0, 0, 0), (809, .iconst 4, 1, 0, 0, 0, 0, 0), (810, .iadd, 1, 0, 0, 0, 0, 0), (811, .iaload, 1, 0, 0, 0, 0, 0), (812, .invokevirtual 101, 3, 158, 0, 1032, 0, 0), (815, .if_icmp .eq 199, 3, 1014, 0, 0, 0, 0), (818, .iconst 0, 1, 0, 0, 0, 0, 0), (819, .ireturn, 1, 0, 0, 0, 0, 0), (820, .aload_n 1, 1, 0, 0, 0, 0, 0), (821, .aload_n 0, 1, 0, 0, 0, 0, 0), (822, .iload_n 3, 1, 0, 0, 0, 0, 0), (823, .iconst 1, 1, 0, 0, 0, 0, 0), (824, .iadd, 1, 0, 0, 0, 0, 0), (825, .iaload, 1, 0, 0, 0, 0, 0), (826, .invokevirtual 102, 3, 94, 0, 656, 0, 0), (829, .aload_n 2, 1, 0, 0, 0, 0, 0), (830, .aload_n 0, 1, 0, 0, 0, 0, 0), (831, .iload_n 3, 1, 0, 0, 0, 0, 0), (832, .iconst 1, 1, 0, 0, 0, 0, 0), (833, .iadd, 1, 0, 0, 0, 0, 0), (834, .iaload, 1, 0, 0, 0, 0, 0), (835, .invokevirtual 105, 3, 159, 0, 1049, 0, 0), (838, .if_icmp .eq 176, 3, 1014, 0, 0, 0, 0), (841, .iconst 0, 1, 0, 0, 0, 0, 0), (842, .ireturn, 1, 0, 0, 0, 0, 0), (843, .aload_n 1, 1, 0, 0, 0, 0, 0), (844, .aload_n 0, 1, 0, 0, 0, 0, 0), (845, .iload_n 3, 1, 0, 0, 0, 0, 0), (846, .iconst 1, 1, 0, 0, 0, 0, 0), (847, .iadd, 1, 0, 0, 0, 0, 0), (848, .iaload, 1, 0, 0, 0, 0, 0), (849, .invokevirtual 106, 3, 95, 0, 664, 0, 0), (852, .aload_n 2, 1, 0, 0, 0, 0, 0), (853, .aload_n 0, 1, 0, 0, 0, 0, 0), (854, .iload_n 3, 1, 0, 0, 0, 0, 0), (855, .iconst 1, 1, 0, 0, 0, 0, 0), (856, .iadd, 1, 0, 0, 0, 0, 0), (857, .iaload, 1, 0, 0, 0, 0, 0), (858, .invokevirtual 109, 3, 160, 0, 1053, 0, 0), (861, .if_icmp .eq 153, 3, 1014, 0, 0, 0, 0), (864, .iconst 0, 1, 0, 0, 0, 0, 0), (865, .ireturn, 1, 0, 0, 0, 0, 0), (866, .aload_n 1, 1, 0, 0, 0, 0, 0), (867, .aload_n 0, 1, 0, 0, 0, 0, 0), (868, .iload_n 3, 1, 0, 0, 0, 0, 0), (869, .iconst 1, 1, 0, 0, 0, 0, 0), (870, .iadd, 1, 0, 0, 0, 0, 0), (871, .iaload, 1, 0, 0, 0, 0, 0), (872, .invokevirtual 110, 3, 96, 0, 668, 0, 0), (875, .aload_n 2, 1, 0, 0, 0, 0, 0), (876, .aload_n 0, 1, 0, 0, 0, 0, 0), (877, .iload_n 3, 1, 0, 0, 0, 0, 0), (878, .iconst 1, 1, 0, 0, 0, 0, 0), (879, .iadd, 1, 0, 0, 0, 0, 0), (880, .iaload, 1, 0, 0, 0, 0, 0), (881, .invokevirtual 113, 3, 162, 0, 1057, 0, 0), (884, .if_icmp .eq 130, 3, 1014, 0, 0, 0, 0), (887, .iconst 0, 1, 0, 0, 0, 0, 0), (888, .ireturn, 1, 0, 0, 0, 0, 0), (889, .aload_n 1, 1, 0, 0, 0, 0, 0), (890, .aload_n 0, 1, 0, 0, 0, 0, 0), (891, .iload_n 3, 1, 0, 0, 0, 0, 0), (892, .iconst 1, 1, 0, 0, 0, 0, 0), (893, .iadd, 1, 0, 0, 0, 0, 0), (894, .iaload, 1, 0, 0, 0, 0, 0), (895, .aload_n 0, 1, 0, 0, 0, 0, 0), (896, .iload_n 3, 1, 0, 0, 0, 0, 0), (897, .iconst 2, 1, 0, 0, 0, 0, 0), (898, .iadd, 1, 0, 0, 0, 0, 0), (899, .iaload, 1, 0, 0, 0, 0, 0), (900, .invokevirtual 114, 3, 97, 0, 672, 0, 0), (903, .aload_n 2, 1, 0, 0, 0, 0, 0), (904, .aload_n 0, 1, 0, 0, 0, 0, 0), (905, .iload_n 3, 1, 0, 0, 0, 0, 0), (906, .iconst 1, 1, 0, 0, 0, 0, 0), (907, .iadd, 1, 0, 0, 0, 0, 0), (908, .iaload, 1, 0, 0, 0, 0, 0), (909, .aload_n 0, 1, 0, 0, 0, 0, 0), (910, .iload_n 3, 1, 0, 0, 0, 0, 0), (911, .iconst 2, 1, 0, 0, 0, 0, 0), (912, .iadd, 1, 0, 0, 0, 0, 0), (913, .iaload, 1, 0, 0, 0, 0, 0), (914, .invokevirtual 117, 3, 163, 0, 1061, 0, 0), (917, .if_icmp .eq 97, 3, 1014, 0, 0, 0, 0), (920, .iconst 0, 1, 0, 0, 0, 0, 0), (921, .ireturn, 1, 0, 0, 0, 0, 0), (922, .aload_n 1, 1, 0, 0, 0, 0, 0), (923, .aload_n 0, 1, 0, 0, 0, 0, 0), (924, .iload_n 3, 1, 0, 0, 0, 0, 0), (925, .iconst 1, 1, 0, 0, 0, 0, 0), (926, .iadd, 1, 0, 0, 0, 0, 0), (927, .iaload, 1, 0, 0, 0, 0, 0), (928, .aload_n 0, 1, 0, 0, 0, 0, 0), (929, .iload_n 3, 1, 0, 0, 0, 0, 0), (930, .iconst 2, 1, 0, 0, 0, 0, 0), (931, .iadd, 1, 0, 0, 0, 0, 0), (932, .iaload, 1, 0, 0, 0, 0, 0), (933, .invokevirtual 118, 3, 98, 0, 679, 0, 0), (936, .aload_n 2, 1, 0, 0, 0, 0, 0), (937, .aload_n 0, 1, 0, 0, 0, 0, 0), (938, .iload_n 3, 1, 0, 0, 0, 0, 0), (939, .iconst 1, 1, 0, 0, 0, 0, 0), (940, .iadd, 1, 0, 0, 0, 0, 0), (941, .iaload, 1, 0, 0, 0, 0, 0), (942, .aload_n 0, 1, 0, 0, 0, 0, 0), (943, .iload_n 3, 1, 0, 0, 0, 0, 0), (944, .iconst 2, 1, 0, 0, 0, 0, 0), (945, .iadd, 1, 0, 0, 0, 0, 0), (946, .iaload, 1, 0, 0, 0, 0, 0), (947, .invokevirtual 121, 3, 169, 0, 1069, 0, 0), (950, .if_icmp .eq 64, 3, 1014, 0, 0, 0, 0), (953, .iconst 0, 1, 0, 0, 0, 0, 0), (954, .ireturn, 1, 0, 0, 0, 0, 0), (955, .aload_n 1, 1, 0, 0, 0, 0, 0), (956, .aload_n 0, 1, 0, 0, 0, 0, 0), (957, .iload_n 3, 1, 0, 0, 0, 0, 0), (958, .iconst 1, 1, 0, 0, 0, 0, 0), (959, .iadd, 1, 0, 0, 0, 0, 0), (960, .iaload, 1, 0, 0, 0, 0, 0), (961, .invokevirtual 122, 3, 99, 0, 716, 0, 0), (964, .aload_n 2, 1, 0, 0, 0, 0, 0), (965, .aload_n 0, 1, 0, 0, 0, 0, 0), (966, .iload_n 3, 1, 0, 0, 0, 0, 0), (967, .iconst 1, 1, 0, 0, 0, 0, 0), (968, .iadd, 1, 0, 0, 0, 0, 0), (969, .iaload, 1, 0, 0, 0, 0, 0), (970, .invokevirtual 125, 3, 170, 0, 1093, 0, 0), (973, .if_icmp .eq 41, 3, 1014, 0, 0, 0, 0), (976, .iconst 0, 1, 0, 0, 0, 0, 0), (977, .ireturn, 1, 0, 0, 0, 0, 0), (978, .aload_n 1, 1, 0, 0, 0, 0, 0), (979, .aload_n 0, 1, 0, 0, 0, 0, 0), (980, .iload_n 3, 1, 0, 0, 0, 0, 0), (981, .iconst 1, 1, 0, 0, 0, 0, 0), (982, .iadd, 1, 0, 0, 0, 0, 0), (983, .iaload, 1, 0, 0, 0, 0, 0), (984, .invokevirtual 126, 3, 100, 0, 720, 0, 0), (987, .aload_n 2, 1, 0, 0, 0, 0, 0), (988, .aload_n 0, 1, 0, 0, 0, 0, 0), (989, .iload_n 3, 1, 0, 0, 0, 0, 0), (990, .iconst 1, 1, 0, 0, 0, 0, 0), (991, .iadd, 1, 0, 0, 0, 0, 0), (992, .iaload, 1, 0, 0, 0, 0, 0), (993, .invokevirtual 129, 3, 171, 0, 1097, 0, 0), (996, .if_icmp .eq 18, 3, 1014, 0, 0, 0, 0), (999, .iconst 0, 1, 0, 0, 0, 0, 0), (1000, .ireturn, 1, 0, 0, 0, 0, 0), (1001, .aload_n 1, 1, 0, 0, 0, 0, 0), (1002, .invokevirtual 130, 3, 101, 0, 728, 0, 0), (1005, .aload_n 2, 1, 0, 0, 0, 0, 0), (1006, .invokevirtual 133, 3, 172, 0, 1101, 0, 0), (1009, .if_icmp .eq 5, 3, 1014, 0, 0, 0, 0), (1012, .iconst 0, 1, 0, 0, 0, 0, 0), (1013, .ireturn, 1, 0, 0, 0, 0, 0), (1014, .iinc 3 6, 3, 0, 0, 0, 0, 0), (1017, .goto (-999), 3, 18, 0, 0, 0, 0), (1020, .iconst 1, 1, 0, 0, 0, 0, 0), (1021, .ireturn, 1, 0, 0, 0, 0, 0)]
def vm_progs : List (List vm_En) := [vm_p0, vm_p1, vm_p2, vm_p3, vm_p4, vm_p5, vm_p6, vm_p7, vm_p8, vm_p9, vm_p10, vm_p11, vm_p12, vm_p13, vm_p14, vm_p15, vm_p16, vm_p17, vm_p18, vm_p19, vm_p20, vm_p21, vm_p22, vm_p23, vm_p24, vm_p25, vm_p26, vm_p27, vm_p28, vm_p29, vm_p30, vm_p31, vm_p32, vm_p33, vm_p34, vm_p35, vm_p36, vm_p37, vm_p38, vm_p39, vm_p40, vm_p41, vm_p42, vm_p43, vm_p44, vm_p45, vm_p46, vm_p47, vm_p48, vm_p49, vm_p50, vm_p51, vm_p52, vm_p53, vm_p54, vm_p55, vm_p56, vm_p57, vm_p58, vm_p59, vm_p60, vm_p61, vm_p62, vm_p63, vm_p64, vm_p65, vm_p66, vm_p67, vm_p68, vm_p69, vm_p70, vm_p71, vm_p72, vm_p73, vm_p74, vm_p75, vm_p76, vm_p77, vm_p78, vm_p79, vm_p80, vm_p81, vm_p82, vm_p83, vm_p84, vm_p85, vm_p86, vm_p87, vm_p88, vm_p89, vm_p90, vm_p91, vm_p92, vm_p93, vm_p94, vm_p95, vm_p96, vm_p97, vm_p98, vm_p99, vm_p100, vm_p101, vm_p102, vm_p103, vm_p104, vm_p105, vm_p106, vm_p107, vm_p108, vm_p109, vm_p110, vm_p111, vm_p112, vm_p113, vm_p114, vm_p115, vm_p116, vm_p117, vm_p118, vm_p119, vm_p120, vm_p121, vm_p122, vm_p123, vm_p124, vm_p125, vm_p126, vm_p127, vm_p128, vm_p129, vm_p130, vm_p131, vm_p132, vm_p133, vm_p134, vm_p135, vm_p136, vm_p137, vm_p138, vm_p139, vm_p140, vm_p141, vm_p142, vm_p143, vm_p144, vm_p145, vm_p146, vm_p147, vm_p148, vm_p149, vm_p150, vm_p151, vm_p152, vm_p153, vm_p154, vm_p155, vm_p156, vm_p157, vm_p158, vm_p159, vm_p160, vm_p161, vm_p162, vm_p163, vm_p164, vm_p165, vm_p166, vm_p167, vm_p168, vm_p169, vm_p170, vm_p171, vm_p172, vm_p173, vm_p174, vm_p175, vm_p176, vm_p177, vm_p178, vm_p179, vm_p180]
def vm_ys : List (MethodName) := [yX0_init, yX0_forget, yX0_passTo, yX0_letPass, yX0_moveDawn, yX0_takeBack, yX0_keep, yX0_pay, yX1_init, yX1_begin, yX1_enter, yX1_size, yX1_mark, yX1_bakerSize, yX1_bakerMark, yX1_priestSize, yX1_priestMark, yX2_init, yX2_dearestFrom, yX2_surelyFrom, yX2_sumFrom, yX2_timesFrom, yX2_coins, yX2_fillBest, yX2_bestOf, yX2_dearest, yX2_runOut, yX2_dawnFor, yX2_forgetSeen, yX2_noteSeen, yX2_withWhom, yX2_fillCame, yX2_goFrom, yX2_fillGoesOn, yX2_canGoOn, yX2_nextTold, yX3_init, yX3_isNone, yX3_has, yX3_clear, yX3_addTrader, yX3_addWay, yX3_become, yX3_price, yX3_accepts, yX3_arrival, yX3_handed, yX4_init, yX4_isMissing, yX4_present, yX4_make, yX4_remove, yX4_lapse, yX4_lapseOfTwo, yX4_holds, yX4_item, yX4_put, yX4_move, yX5_init, yX5_append, yX5_readOnto, yX5_readNight, yX5_readPart, yX5_readTrader, yX5_readWay, yX5_readSort, yX5_readNumber, yX5_readSign, yX5_fail, yX5_isWord, yX5_next, yX5_isLetter, yX5_isFigure, yX6_init, yX6_row, yX6_set, yX6_copy, yX6_drop, yX6_feed, yX6_hill, yX6_fault, yX6_pass, yX6_waits, yX6_bribe, yX6_undo, yX6_trader, yX6_takes, yX6_there, yX6_worth, yX6_sure, yX6_most, yX6_last, yX6_crow, yX6_where, yX6_image, yX6_restore, yX6_kind, yX6_as, yX6_ask, yX6_trace, yX6_count, yX6_status, yX6_find, yX6_imageOf, yX6_isRow, yX6_isMinute, yX6_isOne, yX7_init, yX7_in, yX7_finding, yX7_isRow, yX7_row, yX7_set, yX7_copy, yX7_drop, yX7_feed, yX7_byteAt, yX7_isLetter, yX7_isFigure, yX7_next, yX7_begin, yX7_bad, yX7_must, yX7_name, yX7_figures, yX7_number, yX7_kindBy, yX7_mustEnd, yX7_begins, yX7_readTrader, yX7_readWay, yX7_hill, yX7_fault, yX7_isThere, yX7_isTrader, yX7_isMinute, yX7_of, yX7_priceOf, yX7_isTaken, yX7_thereIn, yX7_passedIn, yX7_keep, yX7_pass, yX7_waits, yX7_bribe, yX7_undo, yX7_trader, yX7_takes, yX7_there, yX7_worth, yX7_sure, yX7_most, yX7_lastOne, yX7_last, yX7_crow, yX7_isUnseen, yX7_layComes, yX7_layGoesOn, yX7_where, yX7_image, yX7_restore, yX7_isOf, yX7_kind, yX7_as, yX7_began, yX7_plainSize, yX7_priestSize, yX7_markOf, yX7_sizeOf, yX7_ask, yX7_trace, yX7_count, yX7_status, yJ0_length_8abf5, yJ0_charAt_5068e, yJ0_coder_7d493, yJ0_isLatin1_aae02, yJ0_checkIndex_df160, yJ1_charAt_3b067, yJ3_checkIndex_8e157, yL_law]
def vm_bs : List (ByteArray) := [cX0_init, cX0_forget, cX0_passTo, cX0_letPass, cX0_moveDawn, cX0_takeBack, cX0_keep, cX0_pay, cX1_init, cX1_begin, cX1_enter, cX1_size, cX1_mark, cX1_bakerSize, cX1_bakerMark, cX1_priestSize, cX1_priestMark, cX2_init, cX2_dearestFrom, cX2_surelyFrom, cX2_sumFrom, cX2_timesFrom, cX2_coins, cX2_fillBest, cX2_bestOf, cX2_dearest, cX2_runOut, cX2_dawnFor, cX2_forgetSeen, cX2_noteSeen, cX2_withWhom, cX2_fillCame, cX2_goFrom, cX2_fillGoesOn, cX2_canGoOn, cX2_nextTold, cX3_init, cX3_isNone, cX3_has, cX3_clear, cX3_addTrader, cX3_addWay, cX3_become, cX3_price, cX3_accepts, cX3_arrival, cX3_handed, cX4_init, cX4_isMissing, cX4_present, cX4_make, cX4_remove, cX4_lapse, cX4_lapseOfTwo, cX4_holds, cX4_item, cX4_put, cX4_move, cX5_init, cX5_append, cX5_readOnto, cX5_readNight, cX5_readPart, cX5_readTrader, cX5_readWay, cX5_readSort, cX5_readNumber, cX5_readSign, cX5_fail, cX5_isWord, cX5_next, cX5_isLetter, cX5_isFigure, cX6_init, cX6_row, cX6_set, cX6_copy, cX6_drop, cX6_feed, cX6_hill, cX6_fault, cX6_pass, cX6_waits, cX6_bribe, cX6_undo, cX6_trader, cX6_takes, cX6_there, cX6_worth, cX6_sure, cX6_most, cX6_last, cX6_crow, cX6_where, cX6_image, cX6_restore, cX6_kind, cX6_as, cX6_ask, cX6_trace, cX6_count, cX6_status, cX6_find, cX6_imageOf, cX6_isRow, cX6_isMinute, cX6_isOne, cX7_init, cX7_in, cX7_finding, cX7_isRow, cX7_row, cX7_set, cX7_copy, cX7_drop, cX7_feed, cX7_byteAt, cX7_isLetter, cX7_isFigure, cX7_next, cX7_begin, cX7_bad, cX7_must, cX7_name, cX7_figures, cX7_number, cX7_kindBy, cX7_mustEnd, cX7_begins, cX7_readTrader, cX7_readWay, cX7_hill, cX7_fault, cX7_isThere, cX7_isTrader, cX7_isMinute, cX7_of, cX7_priceOf, cX7_isTaken, cX7_thereIn, cX7_passedIn, cX7_keep, cX7_pass, cX7_waits, cX7_bribe, cX7_undo, cX7_trader, cX7_takes, cX7_there, cX7_worth, cX7_sure, cX7_most, cX7_lastOne, cX7_last, cX7_crow, cX7_isUnseen, cX7_layComes, cX7_layGoesOn, cX7_where, cX7_image, cX7_restore, cX7_isOf, cX7_kind, cX7_as, cX7_began, cX7_plainSize, cX7_priestSize, cX7_markOf, cX7_sizeOf, cX7_ask, cX7_trace, cX7_count, cX7_status, cJ0_length_8abf5, cJ0_charAt_5068e, cJ0_coder_7d493, cJ0_isLatin1_aae02, cJ0_checkIndex_df160, cJ1_charAt_3b067, cJ3_checkIndex_8e157, cL_law]
def vm_mls : List (Nat) := [2, 1, 4, 2, 2, 1, 3, 4, 2, 1, 2, 2, 2, 4, 5, 4, 2, 2, 6, 3, 3, 4, 1, 5, 10, 7, 4, 3, 2, 3, 2, 4, 6, 5, 6, 3, 1, 1, 2, 2, 4, 8, 2, 2, 4, 6, 6, 1, 2, 3, 5, 2, 4, 6, 4, 3, 5, 6, 1, 5, 4, 2, 2, 5, 6, 2, 3, 1, 2, 3, 1, 1, 1, 1, 4, 5, 7, 2, 4, 2, 1, 3, 2, 3, 1, 3, 3, 4, 3, 3, 4, 2, 2, 9, 2, 2, 2, 3, 3, 2, 2, 1, 2, 2, 1, 1, 2, 1, 6, 2, 1, 5, 4, 9, 2, 5, 2, 1, 1, 2, 1, 2, 2, 4, 3, 4, 2, 1, 3, 5, 6, 2, 1, 1, 2, 1, 3, 2, 3, 9, 5, 2, 4, 2, 3, 2, 3, 3, 4, 6, 9, 12, 5, 3, 5, 6, 5, 7, 9, 3, 3, 2, 2, 3, 2, 2, 3, 4, 4, 3, 2, 4, 1, 1, 2, 1, 1, 2, 2, 3, 4]
def vm_rets : List (Option FieldType) := [none, none, none, none, none, some .boolean, none, none, none, none, none, some .int, some .int, some .int, some .int, some .int, some .int, none, some .int, some .int, some .int, some .int, some .int, none, some .int, some .int, none, some .int, none, none, some .int, none, none, none, some .boolean, some .int, none, some .boolean, some .boolean, none, none, none, none, some .int, some .boolean, some .int, some .int, none, some .boolean, some .int, none, some .int, some .int, some .int, some .boolean, some .int, some .int, none, none, some .int, some .int, none, some .boolean, none, none, some .int, some .int, none, none, some .boolean, none, some .boolean, some .boolean, none, some .int, some .int, some .int, some .int, some .int, some .int, some .int, some .int, some .int, some .int, some .int, some .int, some .int, some .int, some .int, some .int, some .int, some .int, some .int, some .int, some .int, some .int, some .int, some .int, some .int, some .int, some .int, some .int, some .int, some (.object "BirchLeaf$Hill"), some .boolean, some .boolean, some .boolean, none, some .boolean, some .int, some .boolean, some .int, some .int, some .int, some .int, some .int, some .int, some .boolean, some .boolean, none, none, none, none, some .long, some .int, some .int, some .int, none, none, none, none, some .int, some .int, some .boolean, some .boolean, some .boolean, some .int, some .int, some .boolean, some .int, some .int, none, some .int, some .int, some .int, some .int, some .int, some .int, some .int, some .int, some .int, some .int, some .int, some .int, some .int, some .boolean, none, none, some .int, some .int, some .int, some .boolean, some .int, some .int, none, some .int, some .int, some .int, some .int, some .int, some .int, some .int, some .int, some .int, some .char, some .byte, some .boolean, none, some .char, some .int, some .boolean]
def vm_kinds : List (Nat) := [2, 0, 0, 0, 0, 0, 0, 0, 2, 0, 0, 0, 0, 0, 0, 0, 0, 2, 0, 0, 0, 0, 1, 0, 0, 0, 0, 0, 0, 0, 0, 0, 0, 0, 0, 0, 2, 0, 0, 0, 0, 0, 0, 0, 0, 0, 0, 2, 0, 0, 0, 0, 0, 0, 0, 0, 0, 0, 2, 0, 0, 0, 0, 0, 0, 0, 0, 0, 0, 0, 0, 1, 1, 2, 0, 0, 0, 0, 0, 0, 0, 0, 0, 0, 0, 0, 0, 0, 0, 0, 0, 0, 0, 0, 0, 0, 0, 0, 0, 0, 0, 0, 0, 0, 1, 1, 1, 2, 1, 0, 1, 0, 0, 0, 0, 0, 0, 1, 1, 0, 0, 0, 0, 0, 0, 0, 1, 0, 0, 0, 0, 0, 0, 0, 0, 1, 0, 0, 0, 0, 0, 0, 0, 0, 0, 0, 0, 0, 0, 0, 0, 0, 0, 0, 0, 0, 0, 0, 0, 0, 0, 1, 0, 0, 0, 0, 0, 0, 0, 0, 0, 0, 0, 0, 0, 0, 0, 1, 1, 1, 1]
def vm_nps : List (Nat) := [1, 0, 2, 1, 1, 0, 2, 3, 1, 0, 1, 1, 1, 1, 1, 1, 1, 1, 2, 2, 2, 2, 1, 2, 3, 3, 1, 1, 0, 2, 1, 0, 3, 0, 3, 1, 0, 0, 1, 0, 3, 4, 1, 1, 3, 3, 4, 0, 1, 0, 3, 1, 3, 5, 3, 2, 3, 5, 0, 2, 1, 1, 1, 1, 1, 0, 2, 0, 1, 1, 0, 1, 1, 0, 3, 3, 5, 1, 2, 0, 0, 1, 1, 1, 0, 2, 2, 3, 2, 2, 3, 1, 1, 4, 1, 1, 1, 2, 2, 1, 1, 0, 1, 1, 1, 1, 2, 0, 3, 1, 1, 3, 3, 5, 1, 2, 1, 1, 1, 0, 0, 1, 1, 0, 0, 2, 1, 0, 2, 0, 0, 0, 0, 0, 1, 1, 2, 1, 2, 3, 3, 0, 1, 1, 1, 0, 2, 2, 3, 2, 2, 3, 0, 1, 1, 3, 0, 0, 4, 1, 1, 2, 1, 2, 1, 1, 1, 1, 1, 2, 1, 1, 0, 0, 1, 0, 0, 2, 2, 3, 1]
def vm_owns : List (String) := [RX0, RX0, RX0, RX0, RX0, RX0, RX0, RX0, RX1, RX1, RX1, RX1, RX1, RX1, RX1, RX1, RX1, RX2, RX2, RX2, RX2, RX2, RX2, RX2, RX2, RX2, RX2, RX2, RX2, RX2, RX2, RX2, RX2, RX2, RX2, RX2, RX3, RX3, RX3, RX3, RX3, RX3, RX3, RX3, RX3, RX3, RX3, RX4, RX4, RX4, RX4, RX4, RX4, RX4, RX4, RX4, RX4, RX4, RX5, RX5, RX5, RX5, RX5, RX5, RX5, RX5, RX5, RX5, RX5, RX5, RX5, RX5, RX5, RX6, RX6, RX6, RX6, RX6, RX6, RX6, RX6, RX6, RX6, RX6, RX6, RX6, RX6, RX6, RX6, RX6, RX6, RX6, RX6, RX6, RX6, RX6, RX6, RX6, RX6, RX6, RX6, RX6, RX6, RX6, RX6, RX6, RX6, RX7, RX7, RX7, RX7, RX7, RX7, RX7, RX7, RX7, RX7, RX7, RX7, RX7, RX7, RX7, RX7, RX7, RX7, RX7, RX7, RX7, RX7, RX7, RX7, RX7, RX7, RX7, RX7, RX7, RX7, RX7, RX7, RX7, RX7, RX7, RX7, RX7, RX7, RX7, RX7, RX7, RX7, RX7, RX7, RX7, RX7, RX7, RX7, RX7, RX7, RX7, RX7, RX7, RX7, RX7, RX7, RX7, RX7, RX7, RX7, RX7, RX7, RX7, RX7, RX7, RX7, RJ0, RJ0, RJ0, RJ0, RJ0, RJ1, RJ3, RL]
def vm_rfs : List (Nat) := [1, 0, 2, 2, 2, 1, 1, 0, 1, 0, 0, 3, 3, 2, 1, 1, 2, 1, 3, 4, 4, 4, 0, 3, 2, 2, 3, 4, 0, 0, 4, 3, 2, 3, 2, 1, 1, 0, 0, 0, 0, 1, 1, 0, 0, 0, 1, 1, 0, 1, 0, 0, 1, 1, 0, 0, 0, 1, 1, 0, 8, 5, 7, 6, 3, 5, 2, 2, 0, 4, 1, 0, 0, 2, 1, 2, 2, 1, 1, 9, 0, 3, 3, 3, 2, 1, 1, 1, 4, 5, 5, 4, 5, 5, 2, 2, 1, 1, 4, 0, 2, 0, 0, 0, 0, 0, 0, 1, 0, 0, 1, 2, 2, 2, 2, 1, 0, 0, 0, 1, 2, 0, 2, 0, 0, 3, 0, 3, 3, 4, 4, 5, 0, 0, 1, 1, 0, 1, 1, 0, 2, 0, 3, 1, 1, 0, 2, 2, 2, 3, 3, 3, 3, 4, 4, 0, 3, 3, 4, 1, 1, 0, 2, 2, 0, 1, 2, 3, 4, 5, 1, 0, 0, 1, 3, 0, 0, 1, 2, 0, 10]
def vm_rls : List (Nat) := [20, 0, 43, 43, 43, 23, 21, 0, 20, 0, 0, 68, 65, 45, 21, 21, 44, 20, 76, 103, 103, 103, 0, 79, 50, 50, 76, 99, 0, 0, 99, 75, 50, 75, 50, 21, 20, 0, 0, 0, 0, 21, 48, 0, 0, 0, 25, 20, 0, 21, 0, 0, 23, 23, 0, 0, 0, 48, 20, 0, 173, 107, 152, 128, 62, 107, 40, 40, 0, 85, 20, 0, 0, 41, 24, 46, 73, 21, 24, 196, 0, 66, 64, 64, 43, 21, 23, 25, 101, 125, 126, 99, 121, 120, 69, 69, 21, 21, 89, 0, 43, 0, 0, 0, 0, 0, 0, 20, 0, 0, 25, 45, 45, 45, 45, 25, 0, 0, 0, 21, 42, 0, 42, 0, 0, 63, 0, 63, 63, 86, 86, 111, 0, 0, 25, 25, 0, 22, 22, 0, 44, 0, 68, 25, 25, 0, 46, 46, 46, 68, 68, 68, 68, 92, 92, 0, 68, 68, 94, 25, 25, 0, 46, 46, 0, 22, 43, 65, 88, 111, 25, 0, 0, 20, 64, 0, 0, 22, 43, 0, 217]
def vm_mcs : List (Nat) := [5, 0, 0, 0, 0, 0, 0, 0, 1, 0, 0, 0, 0, 0, 0, 0, 0, 4, 0, 0, 0, 0, 0, 0, 0, 0, 0, 0, 0, 0, 0, 0, 0, 0, 0, 0, 6, 0, 0, 0, 0, 0, 0, 0, 0, 0, 0, 3, 0, 0, 0, 0, 0, 0, 0, 0, 0, 0, 1, 0, 0, 0, 0, 0, 0, 0, 0, 0, 0, 0, 0, 0, 0, 47, 0, 0, 0, 0, 0, 0, 0, 0, 0, 0, 0, 0, 0, 0, 0, 0, 0, 0, 0, 0, 0, 0, 0, 0, 0, 0, 0, 0, 0, 0, 0, 0, 0, 16, 0, 0, 0, 0, 0, 0, 0, 0, 0, 0, 0, 0, 0, 0, 0, 0, 0, 0, 0, 0, 0, 0, 0, 0, 0, 0, 0, 0, 0, 0, 0, 0, 0, 0, 0, 0, 0, 0, 0, 0, 0, 0, 0, 0, 0, 0, 0, 0, 0, 0, 0, 0, 0, 0, 0, 0, 0, 0, 0, 0, 0, 0, 0, 0, 0, 0, 0, 0, 0, 0, 0, 0, 65]
def vm_mss : List (Nat) := [120, 0, 0, 0, 0, 0, 0, 0, 16, 0, 0, 0, 0, 0, 0, 0, 0, 549, 0, 0, 0, 0, 0, 0, 0, 0, 0, 0, 0, 0, 0, 0, 0, 0, 0, 0, 96, 0, 0, 0, 0, 0, 0, 0, 0, 0, 0, 336, 0, 0, 0, 0, 0, 0, 0, 0, 0, 0, 400, 0, 0, 0, 0, 0, 0, 0, 0, 0, 0, 0, 0, 0, 0, 1882, 0, 0, 0, 0, 0, 0, 0, 0, 0, 0, 0, 0, 0, 0, 0, 0, 0, 0, 0, 0, 0, 0, 0, 0, 0, 0, 0, 0, 0, 0, 0, 0, 0, 4623, 0, 0, 0, 0, 0, 0, 0, 0, 0, 0, 0, 0, 0, 0, 0, 0, 0, 0, 0, 0, 0, 0, 0, 0, 0, 0, 0, 0, 0, 0, 0, 0, 0, 0, 0, 0, 0, 0, 0, 0, 0, 0, 0, 0, 0, 0, 0, 0, 0, 0, 0, 0, 0, 0, 0, 0, 0, 0, 0, 0, 0, 0, 0, 0, 0, 0, 0, 0, 0, 0, 0, 0, 6545]
def vm_cis : List (Nat) := [0, 0, 0, 0, 0, 0, 0, 0, 1, 1, 1, 1, 1, 1, 1, 1, 1, 2, 2, 2, 2, 2, 2, 2, 2, 2, 2, 2, 2, 2, 2, 2, 2, 2, 2, 2, 3, 3, 3, 3, 3, 3, 3, 3, 3, 3, 3, 4, 4, 4, 4, 4, 4, 4, 4, 4, 4, 4, 5, 5, 5, 5, 5, 5, 5, 5, 5, 5, 5, 5, 5, 5, 5, 6, 6, 6, 6, 6, 6, 6, 6, 6, 6, 6, 6, 6, 6, 6, 6, 6, 6, 6, 6, 6, 6, 6, 6, 6, 6, 6, 6, 6, 6, 6, 6, 6, 6, 7, 7, 7, 7, 7, 7, 7, 7, 7, 7, 7, 7, 7, 7, 7, 7, 7, 7, 7, 7, 7, 7, 7, 7, 7, 7, 7, 7, 7, 7, 7, 7, 7, 7, 7, 7, 7, 7, 7, 7, 7, 7, 7, 7, 7, 7, 7, 7, 7, 7, 7, 7, 7, 7, 7, 7, 7, 7, 7, 7, 7, 7, 7, 7, 7, 7, 100, 100, 100, 100, 100, 200, 200, 200]
def vm_pcode : List (Nat) := [145, 460, 488, 514, 522, 530, 496, 501, 207, 686, 699, 690, 711, 695, 703, 707, 715, 177, 556, 574, 590, 597, 593, 578, 582, 560, 605, 613, 622, 630, 634, 638, 647, 651, 655, 642, 78, 509, 447, 333, 434, 443, 455, 492, 482, 477, 473, 27, 280, 727, 268, 312, 276, 296, 284, 626, 288, 300, 44, 320, 329, 337, 416, 421, 439, 425, 408, 412, 404, 352, 341, 344, 347, 19, 255, 272, 292, 307, 316, 325, 464, 468, 505, 518, 526, 534, 539, 547, 552, 570, 586, 601, 609, 618, 659, 667, 671, 675, 682, 719, 723, 731, 263, 663, 258, 542, 678, 736, 840, 846, 836, 833, 851, 855, 859, 863, 882, 886, 889, 878, 874, 902, 898, 893, 910, 906, 926, 914, 923, 919, 936, 870, 941, 982, 949, 1003, 965, 974, 961, 957, 953, 970, 945, 978, 987, 991, 995, 1000, 1007, 1011, 1015, 1019, 1027, 1023, 1031, 1044, 1040, 1048, 1035, 1052, 1056, 1068, 1060, 1064, 1084, 1088, 1080, 1092, 1076, 1072, 1096, 1100, 1104, 356, 366, 360, 370, 376, 373, 381, 0]
def vm_pinst : List (Nat) := [144, 458, 486, 512, 520, 528, 495, 500, 206, 684, 698, 688, 709, 694, 702, 706, 714, 176, 554, 572, 588, 595, 592, 577, 581, 559, 603, 611, 620, 628, 632, 637, 646, 650, 654, 641, 77, 507, 445, 331, 432, 441, 453, 490, 480, 475, 471, 26, 278, 725, 266, 310, 274, 294, 283, 624, 286, 298, 43, 318, 327, 336, 415, 420, 438, 424, 407, 411, 403, 351, 340, 343, 346, 18, 253, 270, 290, 305, 314, 323, 462, 466, 503, 516, 524, 532, 537, 545, 550, 568, 584, 599, 607, 616, 657, 665, 669, 673, 680, 717, 721, 729, 262, 662, 257, 541, 677, 735, 839, 845, 835, 831, 849, 853, 857, 861, 881, 885, 888, 877, 873, 901, 897, 892, 909, 905, 925, 913, 922, 918, 935, 868, 939, 981, 948, 1002, 964, 973, 960, 956, 952, 969, 943, 976, 985, 989, 993, 998, 1005, 1009, 1013, 1017, 1026, 1021, 1029, 1043, 1039, 1047, 1033, 1050, 1054, 1067, 1058, 1062, 1083, 1087, 1079, 1091, 1075, 1070, 1094, 1098, 1102, 354, 364, 358, 368, 375, 372, 380, 9999]
def vm_pini : List (Nat) := [5, 5, 5, 5, 5, 5, 5, 5, 7, 7, 7, 7, 7, 7, 7, 7, 7, 6, 6, 6, 6, 6, 6, 6, 6, 6, 6, 6, 6, 6, 6, 6, 6, 6, 6, 6, 4, 4, 4, 4, 4, 4, 4, 4, 4, 4, 4, 2, 2, 2, 2, 2, 2, 2, 2, 2, 2, 2, 3, 3, 3, 3, 3, 3, 3, 3, 3, 3, 3, 3, 3, 3, 3, 1, 1, 1, 1, 1, 1, 1, 1, 1, 1, 1, 1, 1, 1, 1, 1, 1, 1, 1, 1, 1, 1, 1, 1, 1, 1, 1, 1, 1, 1, 1, 1, 1, 1, 8, 8, 8, 8, 8, 8, 8, 8, 8, 8, 8, 8, 8, 8, 8, 8, 8, 8, 8, 8, 8, 8, 8, 8, 8, 8, 8, 8, 8, 8, 8, 8, 8, 8, 8, 8, 8, 8, 8, 8, 8, 8, 8, 8, 8, 8, 8, 8, 8, 8, 8, 8, 8, 8, 8, 8, 8, 8, 8, 8, 8, 8, 8, 8, 8, 8, 10, 10, 10, 10, 10, 11, 12, 0]
def vm_psel : List (Nat) := [0, 517, 545, 571, 579, 587, 12, 13, 0, 743, 24, 747, 768, 23, 25, 26, 27, 0, 613, 631, 647, 654, 0, 15, 16, 14, 662, 670, 679, 687, 691, 17, 19, 20, 21, 18, 0, 566, 504, 390, 491, 500, 512, 549, 539, 534, 530, 0, 337, 784, 325, 369, 333, 353, 1, 683, 345, 357, 0, 377, 386, 2, 8, 9, 11, 10, 6, 7, 5, 4, 3, 0, 0, 0, 312, 329, 349, 364, 373, 382, 521, 525, 562, 575, 583, 591, 596, 604, 609, 627, 643, 658, 666, 675, 716, 724, 728, 732, 739, 776, 780, 788, 0, 22, 0, 0, 0, 0, 0, 28, 0, 890, 908, 912, 916, 920, 31, 0, 0, 30, 29, 34, 33, 32, 36, 35, 0, 37, 39, 38, 40, 927, 998, 48, 41, 0, 45, 47, 44, 43, 42, 46, 1002, 1035, 1044, 1048, 1052, 1057, 1064, 1068, 1072, 1076, 49, 1080, 1088, 51, 50, 52, 1092, 1109, 1113, 0, 1117, 1121, 55, 56, 54, 57, 53, 1129, 1153, 1157, 1161, 413, 423, 417, 427, 0, 0, 0, 0]
def vm_strO : List (Nat) := [42, 71, 96, 98, 100, 102, 104, 79]
def vm_strB : List (List Int32) := [[110, 105, 103, 104, 116], [116, 114, 97, 100, 101, 114], [98, 97, 107, 101, 114], [109, 105, 108, 108, 101, 114], [107, 110, 111, 119, 101, 114], [112, 114, 105, 101, 115, 116], [98, 108, 105, 110, 100], [119, 97, 121]]
def vm_strT : List String := ["night", "trader", "baker", "miller", "knower", "priest", "blind", "way"]
end
section
/-! A SMALL MACHINE OF OUR OWN, over numbered cells: what it comes to, the real one comes to (part 05) -/
/-- a cell's shape: (0, class, fields) an object; (1, type, length) an array (types 0 int, 1 byte, 2 boolean) -/
abbrev vm_Sh : Type := Nat × Nat × Nat
abbrev vm_St : Type := List vm_Sh × (Nat → Nat → Option Nat) × (Nat → Nat → Int32)
def vm_prog (k : Nat) : List vm_En := vm_progs.getD k []
def vm_find : List vm_En → Nat → Option (Instr × Nat × Nat × Nat × Nat × Nat × Int)
  | [], _ => none
  | e :: l, pc => if e.1 = pc then some e.2 else vm_find l pc
def vm_ins (k pc : Nat) : Option (Instr × Nat × Nat × Nat × Nat × Nat × Int) := vm_find (vm_prog k) pc
def vm_y (k : Nat) : MethodName := vm_ys.getD k yL_law
def vm_b (k : Nat) : ByteArray := vm_bs.getD k code
def vm_ml (k : Nat) : Nat := vm_mls.getD k 0
def vm_ret (k : Nat) : Option FieldType := vm_rets.getD k none
def vm_kind (k : Nat) : Nat := vm_kinds.getD k 0
def vm_np (k : Nat) : Nat := vm_nps.getD k 0
def vm_own (k : Nat) : String := vm_owns.getD k ""
def vm_rf (k : Nat) : Nat := vm_rfs.getD k 0
def vm_rl (k : Nat) : Nat := vm_rls.getD k 0
def vm_mc (k : Nat) : Nat := vm_mcs.getD k 0
def vm_ms (k : Nat) : Nat := vm_mss.getD k 0
def vm_ci (k : Nat) : Nat := vm_cis.getD k 0
def vm_ty (ci : Nat) : Nat → FieldType := match ci with
  | 0 => tyX0
  | 1 => tyX1
  | 2 => tyX2
  | 3 => tyX3
  | 4 => tyX4
  | 5 => tyX5
  | 6 => tyX6
  | _ => tyX7
def vm_isI (ci j : Nat) : Bool := match vm_ty ci j with
  | .int => true
  | _ => false
def vm_rv (r : Option Nat) : Value := match r with
  | none => .null
  | some i => .ref i
/-- what a field holds -/
def vm_fv (σ : vm_St) (i ci j : Nat) : Value := if vm_isI ci j = true then .int (σ.2.2 i j) else vm_rv (σ.2.1 i j)
def vm_u2 {α : Type} (M : Nat → Nat → α) (i j : Nat) (v : α) : Nat → Nat → α := fun a b => if a = i ∧ b = j then v else M a b
def vm_lg (L : List Value) (i : Nat) : Value := L.getD i .null
/-- a value into a local; a long that loses its second half is lost -/
def vm_ls (L : List Value) (i : Nat) (v : Value) : List Value := match i with
  | 0 => L.set 0 v
  | j + 1 => match vm_lg L j with
    | .long _ => (L.set j .null).set (j + 1) v
    | .double _ => (L.set j .null).set (j + 1) v
    | _ => L.set (j + 1) v
def vm_ls2 (L : List Value) (i : Nat) (v : Value) : List Value := (vm_ls L i v).set (i + 1) .null
def vm_strN (i : Nat) : Nat := (vm_strB.getD i []).length
/-- an element that is read: the array of cell r at i -/
def vm_ald (X : Nat × (Nat → Int32)) (σ : vm_St) (t r : Nat) (i : Int32) : Option Int32 :=
  if r < 1000 then match σ.1[r]? with
    | some (1, t', n) => if t' = t ∨ (t = 1 ∧ t' = 2) then (if i < 0 ∨ n ≤ i.toNatClampNeg then none else some (σ.2.2 r i.toNatClampNeg)) else none
    | _ => none
  else if r = 2000 then (if t = 0 then (if i < 0 ∨ X.1 ≤ i.toNatClampNeg then none else some (X.2 i.toNatClampNeg)) else none)
  else if r % 2 = 1 ∧ r < 1016 then (if t = 1 then (if i < 0 ∨ vm_strN ((r - 1000) / 2) ≤ i.toNatClampNeg then none else some ((vm_strB.getD ((r - 1000) / 2) []).getD i.toNatClampNeg 0)) else none)
  else none
def vm_aln (X : Nat × (Nat → Int32)) (σ : vm_St) (r : Nat) : Option Nat :=
  if r < 1000 then match σ.1[r]? with
    | some (1, _, n) => some n
    | _ => none
  else if r = 2000 then some X.1
  else if r % 2 = 1 ∧ r < 1016 then some (vm_strN ((r - 1000) / 2))
  else none
def vm_cond (c : ClassFile.Cond) (x y : Int32) : Prop := match c with
  | .eq => x = y
  | .ne => ¬ x = y
  | .lt => x < y
  | .ge => y ≤ x
  | .gt => y < x
  | .le => x ≤ y
/-- one plain instruction -/
def vm_act (X : Nat × (Nat → Int32)) (i : Instr) (a b d : Nat) (z : Int) (pc : Nat) (L S : List Value) (σ : vm_St) : Option (Nat × List Value × List Value × vm_St) :=
  match i with
  | .iconst n => some (pc + 1, L, .int (Int32.ofInt n) :: S, σ)
  | .bipush n => some (pc + 2, L, .int (Int8.ofInt n).toInt32 :: S, σ)
  | .sipush n => some (pc + 3, L, .int (Int16.ofInt n).toInt32 :: S, σ)
  | .lconst n => some (pc + 1, L, .long (Int64.ofNat n) :: S, σ)
  | .ldc _ => if a = 0 then some (pc + 2, L, .int (Int32.ofInt z) :: S, σ) else some (pc + 2, L, .ref (1000 + 2 * b) :: S, σ)
  | .ldc2_w _ => some (pc + 3, L, .long (Int64.ofInt z) :: S, σ)
  | .iload_n n => match vm_lg L n with
    | .int x => some (pc + 1, L, .int x :: S, σ)
    | _ => none
  | .iload n => match vm_lg L n with
    | .int x => some (pc + 2, L, .int x :: S, σ)
    | _ => none
  | .lload_n n => match vm_lg L n with
    | .long x => some (pc + 1, L, .long x :: S, σ)
    | _ => none
  | .lload n => match vm_lg L n with
    | .long x => some (pc + 2, L, .long x :: S, σ)
    | _ => none
  | .aload_n n => match vm_lg L n with
    | .ref x => if x = 3000 then none else some (pc + 1, L, .ref x :: S, σ)
    | _ => none
  | .aload n => match vm_lg L n with
    | .ref x => if x = 3000 then none else some (pc + 2, L, .ref x :: S, σ)
    | _ => none
  | .istore_n n => match S with
    | .int x :: S => if (n : Nat) < L.length then some (pc + 1, vm_ls L n (.int x), S, σ) else none
    | _ => none
  | .istore n => match S with
    | .int x :: S => if n < L.length then some (pc + 2, vm_ls L n (.int x), S, σ) else none
    | _ => none
  | .lstore_n n => match S with
    | .long x :: S => if (n : Nat) + 1 < L.length then some (pc + 1, vm_ls2 L n (.long x), S, σ) else none
    | _ => none
  | .lstore n => match S with
    | .long x :: S => if n + 1 < L.length then some (pc + 2, vm_ls2 L n (.long x), S, σ) else none
    | _ => none
  | .astore_n n => match S with
    | .ref x :: S => if (n : Nat) < L.length ∧ x ≠ 3000 then some (pc + 1, vm_ls L n (.ref x), S, σ) else none
    | _ => none
  | .astore n => match S with
    | .ref x :: S => if n < L.length ∧ x ≠ 3000 then some (pc + 2, vm_ls L n (.ref x), S, σ) else none
    | _ => none
  | .iinc n m => match vm_lg L n with
    | .int x => if n < L.length then some (pc + 3, vm_ls L n (.int (x + Int32.ofInt m)), S, σ) else none
    | _ => none
  | .iadd => match S with
    | .int y :: .int x :: S => some (pc + 1, L, .int (x + y) :: S, σ)
    | _ => none
  | .isub => match S with
    | .int y :: .int x :: S => some (pc + 1, L, .int (x - y) :: S, σ)
    | _ => none
  | .imul => match S with
    | .int y :: .int x :: S => some (pc + 1, L, .int (x * y) :: S, σ)
    | _ => none
  | .idiv => match S with
    | .int y :: .int x :: S => if y = 0 then none else some (pc + 1, L, .int (x / y) :: S, σ)
    | _ => none
  | .irem => match S with
    | .int y :: .int x :: S => if y = 0 then none else some (pc + 1, L, .int (x - x / y * y) :: S, σ)
    | _ => none
  | .ineg => match S with
    | .int x :: S => some (pc + 1, L, .int (-x) :: S, σ)
    | _ => none
  | .iand => match S with
    | .int y :: .int x :: S => some (pc + 1, L, .int (x &&& y) :: S, σ)
    | _ => none
  | .ior => match S with
    | .int y :: .int x :: S => some (pc + 1, L, .int (x ||| y) :: S, σ)
    | _ => none
  | .ishl => match S with
    | .int y :: .int x :: S => some (pc + 1, L, .int (x <<< (y &&& 31)) :: S, σ)
    | _ => none
  | .ishr => match S with
    | .int y :: .int x :: S => some (pc + 1, L, .int (x >>> (y &&& 31)) :: S, σ)
    | _ => none
  | .ladd => match S with
    | .long y :: .long x :: S => some (pc + 1, L, .long (x + y) :: S, σ)
    | _ => none
  | .land => match S with
    | .long y :: .long x :: S => some (pc + 1, L, .long (x &&& y) :: S, σ)
    | _ => none
  | .lor => match S with
    | .long y :: .long x :: S => some (pc + 1, L, .long (x ||| y) :: S, σ)
    | _ => none
  | .lshl => match S with
    | .int y :: .long x :: S => some (pc + 1, L, .long (x <<< (y.toInt64 &&& 63)) :: S, σ)
    | _ => none
  | .lshr => match S with
    | .int y :: .long x :: S => some (pc + 1, L, .long (x >>> (y.toInt64 &&& 63)) :: S, σ)
    | _ => none
  | .lushr => match S with
    | .int y :: .long x :: S => some (pc + 1, L, .long (x.toUInt64 >>> (y.toInt64.toUInt64 &&& Int64.toUInt64 63)).toInt64 :: S, σ)
    | _ => none
  | .lcmp => match S with
    | .long y :: .long x :: S => some (pc + 1, L, .int (lg_cmp x y) :: S, σ)
    | _ => none
  | .i2l => match S with
    | .int x :: S => some (pc + 1, L, .long x.toInt64 :: S, σ)
    | _ => none
  | .l2i => match S with
    | .long x :: S => some (pc + 1, L, .int x.toInt32 :: S, σ)
    | _ => none
  | .i2b => match S with
    | .int x :: S => some (pc + 1, L, .int x.toInt8.toInt32 :: S, σ)
    | _ => none
  | .i2s => match S with
    | .int x :: S => some (pc + 1, L, .int x.toInt16.toInt32 :: S, σ)
    | _ => none
  | .i2c => match S with
    | .int x :: S => some (pc + 1, L, .int (x.toUInt32 % 65536).toInt32 :: S, σ)
    | _ => none
  | .dup => match S with
    | .ref x :: S => if x = 3000 then none else some (pc + 1, L, .ref x :: .ref x :: S, σ)
    | .int x :: S => some (pc + 1, L, .int x :: .int x :: S, σ)
    | _ => none
  | .dup2 => match S with
    | .int x :: .ref y :: S => if y = 3000 then none else some (pc + 1, L, .int x :: .ref y :: .int x :: .ref y :: S, σ)
    | _ => none
  | .pop => match S with
    | .int _ :: S => some (pc + 1, L, S, σ)
    | _ => none
  | .goto _ => some (a, L, S, σ)
  | .ifCond c _ => match S with
    | .int x :: S => match c with
      | .eq => some (if x = 0 then a else pc + 3, L, S, σ)
      | .ne => some (if x = 0 then pc + 3 else a, L, S, σ)
      | .lt => some (if x < 0 then a else pc + 3, L, S, σ)
      | .ge => some (if x < 0 then pc + 3 else a, L, S, σ)
      | .gt => some (if 0 < x then a else pc + 3, L, S, σ)
      | .le => some (if 0 < x then pc + 3 else a, L, S, σ)
    | _ => none
  | .if_icmp c _ => match S with
    | .int y :: .int x :: S => match c with
      | .eq => some (if x = y then a else pc + 3, L, S, σ)
      | .ne => some (if x = y then pc + 3 else a, L, S, σ)
      | .lt => some (if x < y then a else pc + 3, L, S, σ)
      | .ge => some (if x < y then pc + 3 else a, L, S, σ)
      | .gt => some (if y < x then a else pc + 3, L, S, σ)
      | .le => some (if y < x then pc + 3 else a, L, S, σ)
    | _ => none
  | .tableswitch df lo hi offs => match S with
    | .int x :: S => if x.toInt < lo ∨ hi < x.toInt then some (((pc : Int) + df).toNat, L, S, σ) else match offs[(x.toInt - lo).toNat]? with
      | some off => some (((pc : Int) + off).toNat, L, S, σ)
      | none => none
    | _ => none
  | .iaload => match S with
    | .int i :: .ref r :: S => match vm_ald X σ 0 r i with
      | some v => some (pc + 1, L, .int v :: S, σ)
      | none => none
    | _ => none
  | .baload => match S with
    | .int i :: .ref r :: S => match vm_ald X σ 1 r i with
      | some v => some (pc + 1, L, .int v :: S, σ)
      | none => none
    | _ => none
  | .arraylength => match S with
    | .ref r :: S => match vm_aln X σ r with
      | some n => some (pc + 1, L, .int (Int32.ofNat n) :: S, σ)
      | none => none
    | _ => none
  | .iastore => match S with
    | .int x :: .int i :: .ref r :: S => match σ.1[r]? with
      | some (1, 0, n) => if i < 0 ∨ n ≤ i.toNatClampNeg then none else some (pc + 1, L, S, (σ.1, σ.2.1, vm_u2 σ.2.2 r i.toNatClampNeg x))
      | _ => none
    | _ => none
  | .bastore => match S with
    | .int x :: .int i :: .ref r :: S => match σ.1[r]? with
      | some (1, 2, n) => if i < 0 ∨ n ≤ i.toNatClampNeg then none else some (pc + 1, L, S, (σ.1, σ.2.1, vm_u2 σ.2.2 r i.toNatClampNeg (vp_nar .boolean x)))
      | some (1, 1, n) => if i < 0 ∨ n ≤ i.toNatClampNeg then none else some (pc + 1, L, S, (σ.1, σ.2.1, vm_u2 σ.2.2 r i.toNatClampNeg (vp_nar .byte x)))
      | _ => none
    | _ => none
  | .getstatic _ => if a = 0 then some (pc + 3, L, .int 1 :: S, σ) else some (pc + 3, L, .ref 3000 :: S, σ)
  | .getfield _ => match S with
    | .ref r :: S =>
      if a = 100 then (if 1000 ≤ r ∧ r < 1016 ∧ r % 2 = 0 then some (pc + 3, L, .ref (r + 1) :: S, σ) else none)
      else if a = 101 then (if 1000 ≤ r ∧ r < 1016 ∧ r % 2 = 0 then some (pc + 3, L, .int 0 :: S, σ) else none)
      else match σ.1[r]? with
        | some (0, ci, n) => if ci = a ∧ b < n then some (pc + 3, L, vm_fv σ r a b :: S, σ) else none
        | _ => none
    | _ => none
  | .putfield _ => match S with
    | .int x :: .ref r :: S => match σ.1[r]? with
      | some (0, ci, n) => if ci = a ∧ b < n ∧ vm_isI a b = true then some (pc + 3, L, S, (σ.1, σ.2.1, vm_u2 σ.2.2 r b x)) else none
      | _ => none
    | .ref x :: .ref r :: S => match σ.1[r]? with
      | some (0, ci, n) => if ci = a ∧ b < n ∧ vm_isI a b = false ∧ x < 1000 then some (pc + 3, L, S, (σ.1, vm_u2 σ.2.1 r b (some x), σ.2.2)) else none
      | _ => none
    | _ => none
  | _ => none
/-- what a method answers, by its kind of return -/
def vm_rt (k : Nat) (i : Instr) (S : List Value) : Option (Option Value) := match i with
  | .return_ => match S, vm_ret k with
    | [], none => some none
    | _, _ => none
  | .lreturn => match S, vm_ret k with
    | [.long x], some .long => some (some (.long x))
    | _, _ => none
  | .areturn => match S, vm_ret k with
    | [.ref r], some (.object _) => if r < 1000 then some (some (.ref r)) else none
    | _, _ => none
  | .ireturn => match S, vm_ret k with
    | [.int x], some .int => some (some (.int x))
    | [.int x], some .boolean => if x = 0 ∨ x = 1 then some (some (.int x)) else none
    | [.int x], some .byte => if x.toInt8.toInt32 = x then some (some (.int x)) else none
    | [.int x], some .char => if (x.toUInt32 % 65536).toInt32 = x then some (some (.int x)) else none
    | _, _ => none
  | _ => none
def vm_sl : List Value → List Value
  | [] => []
  | v :: l => if v.category = 2 then v :: .null :: vm_sl l else v :: vm_sl l
def vm_entry (k : Nat) (args : List Value) : List Value := vm_sl args ++ List.replicate (vm_ml k - (vm_sl args).length) .null
def vm_wt (S : List Value) : Nat := (S.map fun v => v.category).sum
/-- the receiver is an object of the method's class -/
def vm_rc (σ : vm_St) (k : Nat) (v : Value) : Bool := match v with
  | .ref r => if r < 1000 then (match σ.1[r]? with
    | some (0, ci, _) => ci == vm_ci k
    | _ => false) else (vm_ci k == 100 && (decide (r < 1016) && r % 2 == 0))
  | _ => false
def vm_arr (t : ArrayType) : Option Nat := match t with
  | .int => some 0
  | .byte => some 1
  | .boolean => some 2
  | _ => none
def vm_new (σ : vm_St) (s : vm_Sh) : vm_St := (σ.1 ++ [s], (fun i j => if i = σ.1.length then none else σ.2.1 i j), (fun i j => if i = σ.1.length then 0 else σ.2.2 i j))
def vm_cpy (f g : Nat → Int32) (sp dp n : Nat) : Nat → Int32 := va_cpy f g sp dp n
/-- which kind of step: 0 plain, 1 end, 2 call, 3 new, 4 newarray -/
def vm_kd (i : Instr) : Nat := match i with
  | .ireturn => 1
  | .lreturn => 1
  | .areturn => 1
  | .return_ => 1
  | .invokevirtual _ => 2
  | .invokespecial _ => 2
  | .invokestatic _ => 2
  | .new _ => 3
  | .newarray _ => 4
  | _ => 0
/-- a step, and what comes behind it ('rn') -/
def vm_step (X : Nat × (Nat → Int32)) (rn : Nat → Nat → List Value → List Value → Nat → Nat → vm_St → Option (Option Value × vm_St)) (k pc : Nat) (L S : List Value) (bc bs : Nat) (σ : vm_St) : Option (Option Value × vm_St) :=
  match vm_ins k pc with
    | none => none
    | some (i, _, a, b, _, d, z) => match vm_kd i with
      | 0 => match vm_act X i a b d z pc L S σ with
        | none => none
        | some (pc', L', S', σ') => rn k pc' L' S' bc bs σ'
      | 1 => match vm_rt k i S with
        | none => none
        | some r => some (r, σ)
      | 2 =>
        if a = 1001 then match S with
          | .ref r :: S => if r = 3000 ∨ 8 < vm_wt S then none else rn k (pc + 3) L S bc bs σ
          | _ => none
        else if a = 1000 then match S with
          | .int m :: .int dp :: .ref r :: .int sp :: .ref q :: S => match σ.1[q]?, σ.1[r]? with
            | some (1, 0, n0), some (1, 0, n1) =>
              if (¬ sp < 0 ∧ ¬ dp < 0 ∧ ¬ m < 0) ∧ (sp.toNatClampNeg + m.toNatClampNeg ≤ n0 ∧ dp.toNatClampNeg + m.toNatClampNeg ≤ n1) ∧ vm_wt S ≤ 8 then
                rn k (pc + 3) L S bc bs (σ.1, σ.2.1, fun i => if i = r then va_cpy (σ.2.2 q) (σ.2.2 r) sp.toNatClampNeg dp.toNatClampNeg m.toNatClampNeg else σ.2.2 i)
              else none
            | _, _ => none
          | _ => none
        else if a = 1002 ∨ a = 1003 then match S with
          | .int y :: .int x :: S => if 8 < vm_wt S then none else rn k (pc + 3) L (.int (if a = 1002 then (if x < y then y else x) else (if y < x then y else x)) :: S) bc bs σ
          | _ => none
        else
          let na := if vm_kind a = 1 then vm_np a else vm_np a + 1
          let as := (S.take na).reverse
          let rest := S.drop na
          if as.length = na ∧ (vm_kind a = 1 ∨ vm_rc σ a (vm_lg as 0) = true) ∧ vm_mc a ≤ bc ∧ vm_ms a ≤ bs ∧ vm_wt rest ≤ 8 ∧ (vm_sl as).length ≤ vm_ml a then
            match rn a 0 (vm_entry a as) [] (vm_mc a) (vm_ms a) σ with
            | none => none
            | some (r, σ') => rn k (pc + 3) L (r.toList ++ rest) (bc - vm_mc a) (bs - vm_ms a) σ'
          else none
      | 3 => if 1 ≤ bc ∧ b ≤ bs ∧ σ.1.length < 1000 then rn k (pc + 3) L (.ref σ.1.length :: S) (bc - 1) (bs - b) (vm_new σ (0, a, b)) else none
      | _ => match i with
        | .newarray t => match vm_arr t with
          | none => none
          | some ti => match S with
            | .int x :: S => if ¬ x < 0 ∧ 1 ≤ bc ∧ x.toNatClampNeg ≤ bs ∧ x.toNatClampNeg ≤ 10000 ∧ σ.1.length < 1000 then rn k (pc + 2) L (.ref σ.1.length :: S) (bc - 1) (bs - x.toNatClampNeg) (vm_new σ (1, ti, x.toNatClampNeg)) else none
            | _ => none
        | _ => none
def vm_run (X : Nat × (Nat → Int32)) : Nat → Nat → Nat → List Value → List Value → Nat → Nat → vm_St → Option (Option Value × vm_St)
  | 0 => fun _ _ _ _ _ _ _ => none
  | n + 1 => vm_step X (vm_run X n)
end
section
/-! THE PROGRAM'S DATA IS THE PROGRAM: every entry is decoded so; every link's word stands in the tables at its place -/
def vm_cls (ci : Nat) : String × u_T × Nat := vwCl.getD ci (RX0, TX0, 0)
def vm_wd (c : Nat) (w : Cond) : Bool := if c < 240 then decide (tables_1_1[c - 0]? = some w) else if c < 480 then decide (tables_1_2[c - 240]? = some w) else if c < 720 then decide (tables_1_3[c - 480]? = some w) else if c < 960 then decide (tables_1_4[c - 720]? = some w) else decide (tables_1_5[c - 960]? = some w)
/-- how many bytes an instruction has (0: not said) -/
def vm_len (i : Instr) : Nat := match i with
  | .tableswitch .. => 0
  | .bipush _ => 2
  | .ldc _ => 2
  | .iload _ => 2
  | .lload _ => 2
  | .aload _ => 2
  | .istore _ => 2
  | .lstore _ => 2
  | .astore _ => 2
  | .newarray _ => 2
  | .sipush _ => 3
  | .ldc2_w _ => 3
  | .iinc .. => 3
  | .goto _ => 3
  | .ifCond .. => 3
  | .if_icmp .. => 3
  | .getstatic _ => 3
  | .getfield _ => 3
  | .putfield _ => 3
  | .invokevirtual _ => 3
  | .invokespecial _ => 3
  | .invokestatic _ => 3
  | .new _ => 3
  | _ => 1
def vm_chk (k : Nat) (e : vm_En) : Bool :=
  decide (decode (vm_b k) e.1 = .ok (e.2.1, e.2.2.1)) && ((vm_len e.2.1 == 0 || e.2.2.1 == vm_len e.2.1) &&
  match e with
  | (pc, i, len, a, b, c, d, z) => match i with
    | .getfield idx => if a = 100 then vm_wd c (.fieldLink (vm_own k) idx "java/lang/String" "value" "[B")
      else if a = 101 then vm_wd c (.fieldLink (vm_own k) idx "java/lang/String" "coder" "B")
      else decide (a < 8) && (decide (b < (vm_cls a).2.2) && (if d = 0 then vm_wd c (.fieldLink (vm_own k) idx ((vm_cls a).2.1 b).1 ((vm_cls a).2.1 b).2.1 ((vm_cls a).2.1 b).2.2.1)
        else vm_wd c (.fieldLinkNest (vm_own k) idx ((vm_cls a).2.1 b).1 ((vm_cls a).2.1 b).2.1 ((vm_cls a).2.1 b).2.2.1 "BirchLeaf")))
    | .putfield idx => decide (a < 8) && (decide (b < (vm_cls a).2.2) && (if d = 0 then vm_wd c (.fieldLink (vm_own k) idx ((vm_cls a).2.1 b).1 ((vm_cls a).2.1 b).2.1 ((vm_cls a).2.1 b).2.2.1) && ((vm_cls a).2.1 b).2.2.2 == false
        else if d = 1 then vm_wd c (.fieldLinkNest (vm_own k) idx ((vm_cls a).2.1 b).1 ((vm_cls a).2.1 b).2.1 ((vm_cls a).2.1 b).2.2.1 "BirchLeaf") && ((vm_cls a).2.1 b).2.2.2 == false
        else vm_wd c (.fieldLink (vm_own k) idx ((vm_cls a).2.1 b).1 ((vm_cls a).2.1 b).2.1 ((vm_cls a).2.1 b).2.2.1) && (((vm_cls a).2.1 b).2.2.2 == true && (decide ((vm_y k).name = "<init>") && decide (((vm_cls a).2.1 b).1 = vm_own k)))))
    | .getstatic idx => if a = 0 then vm_wd c (.fieldLink (vm_own k) idx "java/lang/String" "COMPACT_STRINGS" "Z") else decide (a = 1) && vm_wd c (.fieldLink (vm_own k) idx "jdk/internal/util/Preconditions" "SIOOBE_FORMATTER" "Ljava/util/function/BiFunction;")
    | .ldc idx => if a = 0 then vm_wd c (.constant (vm_own k) idx (Int32.ofInt z)) else decide (b < 8) && (decide (vm_strO.getD b 0 = idx) && (decide (vm_own k = RX5) && vm_wd c (.stringRef RX5 idx (vm_strT.getD b ""))))
    | .ldc2_w idx => vm_wd c (.constantLong (vm_own k) idx (Int64.ofInt z))
    | .goto off => decide ((pc : Int) + off = a)
    | .ifCond _ off => decide ((pc : Int) + off = a)
    | .if_icmp _ off => decide ((pc : Int) + off = a)
    | .tableswitch df _ _ offs => decide (0 ≤ (pc : Int) + df) && offs.all (fun o => decide (0 ≤ (pc : Int) + o))
    | .new idx => decide (a < 8) && (decide (b = (vm_cls a).2.2) && vm_wd c (.classLink (vm_own k) idx (vm_cls a).1))
    | .newarray _ => decide (len = 2)
    | .invokespecial idx => if a = 1001 then vm_wd c (.methodLink (vm_own k) idx objectInit) && (decide (1 ≤ vm_rf k) && decide (20 ≤ vm_rl k))
      else decide (a < 180) && (decide (vm_kind a = 2) && (decide (vm_rf a + 1 ≤ vm_rf k) && (decide (8 + (vm_ml a + 11) + vm_rl a ≤ vm_rl k) && (if d = 0 then vm_wd c (.methodLink (vm_own k) idx (vm_y a)) else vm_wd c (.methodLinkNest (vm_own k) idx (vm_y a) "BirchLeaf")))))
    | .invokevirtual idx => decide (a < 180) && (decide (vm_kind a = 0) && (decide (vm_rf a + 1 ≤ vm_rf k) && (decide (8 + (vm_ml a + 11) + vm_rl a ≤ vm_rl k) && vm_wd c (.methodLink (vm_own k) idx (vm_y a)))))
    | .invokestatic idx => if a = 1000 then vm_wd c (.methodLink (vm_own k) idx arraycopyName) && (decide (1 ≤ vm_rf k) && decide (8 + (nativeFrameWords "java/lang/System" "arraycopy" 5 + 11) ≤ vm_rl k))
      else if a = 1002 then vm_wd c (.methodLink (vm_own k) idx Lib.Math.max.name) && (decide (1 ≤ vm_rf k) && decide (21 ≤ vm_rl k))
      else if a = 1003 then vm_wd c (.methodLink (vm_own k) idx Lib.Math.min.name) && (decide (1 ≤ vm_rf k) && decide (21 ≤ vm_rl k))
      else decide (a < 180) && (decide (vm_kind a = 1) && (decide (vm_rf a + 1 ≤ vm_rf k) && (decide (8 + (vm_ml a + 11) + vm_rl a ≤ vm_rl k) && (if d = 0 then vm_wd c (.methodLink (vm_own k) idx (vm_y a)) else vm_wd c (.methodLinkNest (vm_own k) idx (vm_y a) "BirchLeaf")))))
    | _ => true)
def vm_chkR (lo n : Nat) : Bool := (List.range n).all (fun j => (vm_prog (lo + j)).all (vm_chk (lo + j)))
theorem vm_chkR_at {lo n k : Nat} (h : vm_chkR lo n = true) (h1 : lo ≤ k) (h2 : k < lo + n) {e : vm_En} (he : e ∈ vm_prog k) : vm_chk k e = true := by
  have h3 := List.all_eq_true.mp h (k - lo) (List.mem_range.mpr (by omega))
  rw [show lo + (k - lo) = k by omega] at h3
  exact List.all_eq_true.mp h3 e he
def vm_wdg (c : Nat) : Option Cond := if c < 240 then tables_1_1[c - 0]? else if c < 480 then tables_1_2[c - 240]? else if c < 720 then tables_1_3[c - 480]? else if c < 960 then tables_1_4[c - 720]? else tables_1_5[c - 960]?
/-- the callee's own words, at their places (its code word apart: its bytes are compared by name, below) -/
def vm_wd2 (c : Nat) (w : Cond) : Bool := if c < 58 then decide ((k2_sels lw_privs)[c]? = some w) else vm_wd (c - 58) w
def vm_chk3 (k : Nat) : Bool := vm_wd (vm_pinst.getD k 9999) (if vm_kind k = 1 then .static (vm_y k) else .instanceMethod (vm_y k)) && (vm_wd (vm_pini.getD k 9999) (.initialized (vm_own k)) &&
  (decide ((vm_y k).cls = vm_own k) && (decide ((vm_y k).cls ≠ "java/lang/invoke/MethodHandle" ∧ (vm_y k).cls ≠ "java/lang/invoke/VarHandle") && (decide ((parseMethodDescriptor (vm_y k).desc).map (fun d => d.parameters.length) = some (vm_np k)) && (plainName (vm_y k).cls &&
  ((if vm_kind k = 0 then vm_wd2 (vm_psel.getD k 9999) (.selects (vm_y k).cls (vm_y k) (vm_y k)) else true) && ((if vm_kind k = 2 then decide ((vm_y k).name = "<init>") else true) && ((if vm_kind k = 1 then true else if vm_ci k = 100 then decide (vm_own k = "java/lang/String") else decide (vm_ci k < 8) && decide (vm_own k = (vm_cls (vm_ci k)).1)) &&
  (if vm_kind k = 2 then decide (vm_ret k = none) else true)))))))))
def vm_cdP (k : Nat) : Prop := vm_wdg (vm_pcode.getD k 9999) = some (Cond.code (vm_y k) (vm_b k) (vm_ml k) (vm_ret k))
end
section
set_option maxRecDepth 100000 in
theorem vm_chk_r0 : vm_chkR 0 20 = true := by decide +kernel
set_option maxRecDepth 100000 in
theorem vm_chk_r1 : vm_chkR 20 20 = true := by decide +kernel
set_option maxRecDepth 100000 in
theorem vm_chk_r2 : vm_chkR 40 20 = true := by decide +kernel
set_option maxRecDepth 100000 in
theorem vm_chk_r3 : vm_chkR 60 20 = true := by decide +kernel
set_option maxRecDepth 100000 in
theorem vm_chk_r4 : vm_chkR 80 20 = true := by decide +kernel
end
section
set_option maxRecDepth 100000 in
theorem vm_chk_r5 : vm_chkR 100 20 = true := by decide +kernel
set_option maxRecDepth 100000 in
theorem vm_chk_r6 : vm_chkR 120 20 = true := by decide +kernel
set_option maxRecDepth 100000 in
theorem vm_chk_r7 : vm_chkR 140 20 = true := by decide +kernel
set_option maxRecDepth 100000 in
theorem vm_chk_r8 : vm_chkR 160 20 = true := by decide +kernel
end
section
set_option maxRecDepth 100000 in
theorem vm_chk_w0 : (((vm_prog 180).drop 0).take 60).all (vm_chk 180) = true := by decide +kernel
set_option maxRecDepth 100000 in
theorem vm_chk_w1 : (((vm_prog 180).drop 60).take 60).all (vm_chk 180) = true := by decide +kernel
set_option maxRecDepth 100000 in
theorem vm_chk_w2 : (((vm_prog 180).drop 120).take 60).all (vm_chk 180) = true := by decide +kernel
set_option maxRecDepth 100000 in
theorem vm_chk_w3 : (((vm_prog 180).drop 180).take 60).all (vm_chk 180) = true := by decide +kernel
set_option maxRecDepth 100000 in
theorem vm_chk_w4 : (((vm_prog 180).drop 240).take 60).all (vm_chk 180) = true := by decide +kernel
set_option maxRecDepth 100000 in
theorem vm_chk_w5 : (((vm_prog 180).drop 300).take 60).all (vm_chk 180) = true := by decide +kernel
set_option maxRecDepth 100000 in
theorem vm_chk_w6 : (((vm_prog 180).drop 360).take 60).all (vm_chk 180) = true := by decide +kernel
set_option maxRecDepth 100000 in
theorem vm_chk_w7 : (((vm_prog 180).drop 420).take 60).all (vm_chk 180) = true := by decide +kernel
set_option maxRecDepth 100000 in
theorem vm_chk_w8 : (((vm_prog 180).drop 480).take 60).all (vm_chk 180) = true := by decide +kernel
set_option maxRecDepth 100000 in
theorem vm_chk_w9 : (((vm_prog 180).drop 540).take 60).all (vm_chk 180) = true := by decide +kernel
set_option maxRecDepth 100000 in
theorem vm_chk_w10 : (((vm_prog 180).drop 600).take 60).all (vm_chk 180) = true := by decide +kernel
set_option maxRecDepth 100000 in
theorem vm_chk_w11 : (((vm_prog 180).drop 660).take 60).all (vm_chk 180) = true := by decide +kernel
theorem vm_chkW_at {lo n i : Nat} (h : (((vm_prog 180).drop lo).take n).all (vm_chk 180) = true) (h1 : lo ≤ i) (h2 : i < lo + n) (hi : i < (vm_prog 180).length) : vm_chk 180 (vm_prog 180)[i] = true := by
  refine List.all_eq_true.mp h _ (List.mem_of_getElem? (i := i - lo) ?_)
  rw [List.getElem?_take, if_pos (by omega), List.getElem?_drop, show lo + (i - lo) = i by omega, List.getElem?_eq_getElem hi]
theorem vm_chk_law {e : vm_En} (he : e ∈ vm_prog 180) : vm_chk 180 e = true := by
  obtain ⟨i, hi, rfl⟩ := List.mem_iff_getElem.mp he
  by_cases h0 : i < 60
  · exact vm_chkW_at vm_chk_w0 (by omega) (by omega) hi
  by_cases h1 : i < 120
  · exact vm_chkW_at vm_chk_w1 (by omega) (by omega) hi
  by_cases h2 : i < 180
  · exact vm_chkW_at vm_chk_w2 (by omega) (by omega) hi
  by_cases h3 : i < 240
  · exact vm_chkW_at vm_chk_w3 (by omega) (by omega) hi
  by_cases h4 : i < 300
  · exact vm_chkW_at vm_chk_w4 (by omega) (by omega) hi
  by_cases h5 : i < 360
  · exact vm_chkW_at vm_chk_w5 (by omega) (by omega) hi
  by_cases h6 : i < 420
  · exact vm_chkW_at vm_chk_w6 (by omega) (by omega) hi
  by_cases h7 : i < 480
  · exact vm_chkW_at vm_chk_w7 (by omega) (by omega) hi
  by_cases h8 : i < 540
  · exact vm_chkW_at vm_chk_w8 (by omega) (by omega) hi
  by_cases h9 : i < 600
  · exact vm_chkW_at vm_chk_w9 (by omega) (by omega) hi
  by_cases h10 : i < 660
  · exact vm_chkW_at vm_chk_w10 (by omega) (by omega) hi
  have hl : (vm_prog 180).length = 706 := by decide +kernel
  exact vm_chkW_at vm_chk_w11 (by omega) (by omega) hi
end
section
theorem vm_chk_all {k : Nat} (hk : k < 181) {e : vm_En} (he : e ∈ vm_prog k) : vm_chk k e = true := by
  by_cases h0 : k < 20
  · exact vm_chkR_at vm_chk_r0 (by omega) (by omega) he
  by_cases h1 : k < 40
  · exact vm_chkR_at vm_chk_r1 (by omega) (by omega) he
  by_cases h2 : k < 60
  · exact vm_chkR_at vm_chk_r2 (by omega) (by omega) he
  by_cases h3 : k < 80
  · exact vm_chkR_at vm_chk_r3 (by omega) (by omega) he
  by_cases h4 : k < 100
  · exact vm_chkR_at vm_chk_r4 (by omega) (by omega) he
  by_cases h5 : k < 120
  · exact vm_chkR_at vm_chk_r5 (by omega) (by omega) he
  by_cases h6 : k < 140
  · exact vm_chkR_at vm_chk_r6 (by omega) (by omega) he
  by_cases h7 : k < 160
  · exact vm_chkR_at vm_chk_r7 (by omega) (by omega) he
  by_cases h8 : k < 180
  · exact vm_chkR_at vm_chk_r8 (by omega) (by omega) he
  rw [show k = 180 by omega] at he ⊢
  exact vm_chk_law he
set_option maxRecDepth 100000 in
theorem vm_chk3_r0 : (List.range 20).all (fun j => vm_chk3 (0 + j)) = true := by decide +kernel
set_option maxRecDepth 100000 in
theorem vm_chk3_r1 : (List.range 20).all (fun j => vm_chk3 (20 + j)) = true := by decide +kernel
set_option maxRecDepth 100000 in
theorem vm_chk3_r2 : (List.range 20).all (fun j => vm_chk3 (40 + j)) = true := by decide +kernel
set_option maxRecDepth 100000 in
theorem vm_chk3_r3 : (List.range 20).all (fun j => vm_chk3 (60 + j)) = true := by decide +kernel
set_option maxRecDepth 100000 in
theorem vm_chk3_r4 : (List.range 20).all (fun j => vm_chk3 (80 + j)) = true := by decide +kernel
set_option maxRecDepth 100000 in
theorem vm_chk3_r5 : (List.range 20).all (fun j => vm_chk3 (100 + j)) = true := by decide +kernel
set_option maxRecDepth 100000 in
theorem vm_chk3_r6 : (List.range 20).all (fun j => vm_chk3 (120 + j)) = true := by decide +kernel
set_option maxRecDepth 100000 in
theorem vm_chk3_r7 : (List.range 20).all (fun j => vm_chk3 (140 + j)) = true := by decide +kernel
set_option maxRecDepth 100000 in
theorem vm_chk3_r8 : (List.range 20).all (fun j => vm_chk3 (160 + j)) = true := by decide +kernel
theorem vm_chk3_at {lo n k : Nat} (h : (List.range n).all (fun j => vm_chk3 (lo + j)) = true) (h1 : lo ≤ k) (h2 : k < lo + n) : vm_chk3 k = true := by
  have h3 := List.all_eq_true.mp h (k - lo) (List.mem_range.mpr (by omega))
  rwa [show lo + (k - lo) = k by omega] at h3
theorem vm_chk3_all {k : Nat} (hk : k < 180) : vm_chk3 k = true := by
  by_cases h0 : k < 20
  · exact vm_chk3_at vm_chk3_r0 (by omega) (by omega)
  by_cases h1 : k < 40
  · exact vm_chk3_at vm_chk3_r1 (by omega) (by omega)
  by_cases h2 : k < 60
  · exact vm_chk3_at vm_chk3_r2 (by omega) (by omega)
  by_cases h3 : k < 80
  · exact vm_chk3_at vm_chk3_r3 (by omega) (by omega)
  by_cases h4 : k < 100
  · exact vm_chk3_at vm_chk3_r4 (by omega) (by omega)
  by_cases h5 : k < 120
  · exact vm_chk3_at vm_chk3_r5 (by omega) (by omega)
  by_cases h6 : k < 140
  · exact vm_chk3_at vm_chk3_r6 (by omega) (by omega)
  by_cases h7 : k < 160
  · exact vm_chk3_at vm_chk3_r7 (by omega) (by omega)
  exact vm_chk3_at vm_chk3_r8 (by omega) (by omega)
end
section
set_option maxRecDepth 100000 in
theorem vm_cd_0 : vm_cdP 0 := rfl
set_option maxRecDepth 100000 in
theorem vm_cd_1 : vm_cdP 1 := rfl
set_option maxRecDepth 100000 in
theorem vm_cd_2 : vm_cdP 2 := rfl
set_option maxRecDepth 100000 in
theorem vm_cd_3 : vm_cdP 3 := rfl
set_option maxRecDepth 100000 in
theorem vm_cd_4 : vm_cdP 4 := rfl
set_option maxRecDepth 100000 in
theorem vm_cd_5 : vm_cdP 5 := rfl
set_option maxRecDepth 100000 in
theorem vm_cd_6 : vm_cdP 6 := rfl
set_option maxRecDepth 100000 in
theorem vm_cd_7 : vm_cdP 7 := rfl
set_option maxRecDepth 100000 in
theorem vm_cd_8 : vm_cdP 8 := rfl
set_option maxRecDepth 100000 in
theorem vm_cd_9 : vm_cdP 9 := rfl
set_option maxRecDepth 100000 in
theorem vm_cd_10 : vm_cdP 10 := rfl
set_option maxRecDepth 100000 in
theorem vm_cd_11 : vm_cdP 11 := rfl
set_option maxRecDepth 100000 in
theorem vm_cd_12 : vm_cdP 12 := rfl
set_option maxRecDepth 100000 in
theorem vm_cd_13 : vm_cdP 13 := rfl
set_option maxRecDepth 100000 in
theorem vm_cd_14 : vm_cdP 14 := rfl
set_option maxRecDepth 100000 in
theorem vm_cd_15 : vm_cdP 15 := rfl
set_option maxRecDepth 100000 in
theorem vm_cd_16 : vm_cdP 16 := rfl
set_option maxRecDepth 100000 in
theorem vm_cd_17 : vm_cdP 17 := rfl
set_option maxRecDepth 100000 in
theorem vm_cd_18 : vm_cdP 18 := rfl
set_option maxRecDepth 100000 in
theorem vm_cd_19 : vm_cdP 19 := rfl
set_option maxRecDepth 100000 in
theorem vm_cd_20 : vm_cdP 20 := rfl
set_option maxRecDepth 100000 in
theorem vm_cd_21 : vm_cdP 21 := rfl
set_option maxRecDepth 100000 in
theorem vm_cd_22 : vm_cdP 22 := rfl
set_option maxRecDepth 100000 in
theorem vm_cd_23 : vm_cdP 23 := rfl
set_option maxRecDepth 100000 in
theorem vm_cd_24 : vm_cdP 24 := rfl
set_option maxRecDepth 100000 in
theorem vm_cd_25 : vm_cdP 25 := rfl
set_option maxRecDepth 100000 in
theorem vm_cd_26 : vm_cdP 26 := rfl
set_option maxRecDepth 100000 in
theorem vm_cd_27 : vm_cdP 27 := rfl
set_option maxRecDepth 100000 in
theorem vm_cd_28 : vm_cdP 28 := rfl
set_option maxRecDepth 100000 in
theorem vm_cd_29 : vm_cdP 29 := rfl
set_option maxRecDepth 100000 in
theorem vm_cd_30 : vm_cdP 30 := rfl
set_option maxRecDepth 100000 in
theorem vm_cd_31 : vm_cdP 31 := rfl
set_option maxRecDepth 100000 in
theorem vm_cd_32 : vm_cdP 32 := rfl
set_option maxRecDepth 100000 in
theorem vm_cd_33 : vm_cdP 33 := rfl
set_option maxRecDepth 100000 in
theorem vm_cd_34 : vm_cdP 34 := rfl
set_option maxRecDepth 100000 in
theorem vm_cd_35 : vm_cdP 35 := rfl
set_option maxRecDepth 100000 in
theorem vm_cd_36 : vm_cdP 36 := rfl
set_option maxRecDepth 100000 in
theorem vm_cd_37 : vm_cdP 37 := rfl
set_option maxRecDepth 100000 in
theorem vm_cd_38 : vm_cdP 38 := rfl
set_option maxRecDepth 100000 in
theorem vm_cd_39 : vm_cdP 39 := rfl
set_option maxRecDepth 100000 in
theorem vm_cd_40 : vm_cdP 40 := rfl
set_option maxRecDepth 100000 in
theorem vm_cd_41 : vm_cdP 41 := rfl
set_option maxRecDepth 100000 in
theorem vm_cd_42 : vm_cdP 42 := rfl
set_option maxRecDepth 100000 in
theorem vm_cd_43 : vm_cdP 43 := rfl
set_option maxRecDepth 100000 in
theorem vm_cd_44 : vm_cdP 44 := rfl
set_option maxRecDepth 100000 in
theorem vm_cd_45 : vm_cdP 45 := rfl
set_option maxRecDepth 100000 in
theorem vm_cd_46 : vm_cdP 46 := rfl
set_option maxRecDepth 100000 in
theorem vm_cd_47 : vm_cdP 47 := rfl
set_option maxRecDepth 100000 in
theorem vm_cd_48 : vm_cdP 48 := rfl
set_option maxRecDepth 100000 in
theorem vm_cd_49 : vm_cdP 49 := rfl
set_option maxRecDepth 100000 in
theorem vm_cd_50 : vm_cdP 50 := rfl
set_option maxRecDepth 100000 in
theorem vm_cd_51 : vm_cdP 51 := rfl
set_option maxRecDepth 100000 in
theorem vm_cd_52 : vm_cdP 52 := rfl
set_option maxRecDepth 100000 in
theorem vm_cd_53 : vm_cdP 53 := rfl
set_option maxRecDepth 100000 in
theorem vm_cd_54 : vm_cdP 54 := rfl
set_option maxRecDepth 100000 in
theorem vm_cd_55 : vm_cdP 55 := rfl
set_option maxRecDepth 100000 in
theorem vm_cd_56 : vm_cdP 56 := rfl
set_option maxRecDepth 100000 in
theorem vm_cd_57 : vm_cdP 57 := rfl
set_option maxRecDepth 100000 in
theorem vm_cd_58 : vm_cdP 58 := rfl
set_option maxRecDepth 100000 in
theorem vm_cd_59 : vm_cdP 59 := rfl
set_option maxRecDepth 100000 in
theorem vm_cd_60 : vm_cdP 60 := rfl
set_option maxRecDepth 100000 in
theorem vm_cd_61 : vm_cdP 61 := rfl
set_option maxRecDepth 100000 in
theorem vm_cd_62 : vm_cdP 62 := rfl
set_option maxRecDepth 100000 in
theorem vm_cd_63 : vm_cdP 63 := rfl
set_option maxRecDepth 100000 in
theorem vm_cd_64 : vm_cdP 64 := rfl
set_option maxRecDepth 100000 in
theorem vm_cd_65 : vm_cdP 65 := rfl
set_option maxRecDepth 100000 in
theorem vm_cd_66 : vm_cdP 66 := rfl
set_option maxRecDepth 100000 in
theorem vm_cd_67 : vm_cdP 67 := rfl
set_option maxRecDepth 100000 in
theorem vm_cd_68 : vm_cdP 68 := rfl
set_option maxRecDepth 100000 in
theorem vm_cd_69 : vm_cdP 69 := rfl
set_option maxRecDepth 100000 in
theorem vm_cd_70 : vm_cdP 70 := rfl
set_option maxRecDepth 100000 in
theorem vm_cd_71 : vm_cdP 71 := rfl
set_option maxRecDepth 100000 in
theorem vm_cd_72 : vm_cdP 72 := rfl
set_option maxRecDepth 100000 in
theorem vm_cd_73 : vm_cdP 73 := rfl
set_option maxRecDepth 100000 in
theorem vm_cd_74 : vm_cdP 74 := rfl
set_option maxRecDepth 100000 in
theorem vm_cd_75 : vm_cdP 75 := rfl
set_option maxRecDepth 100000 in
theorem vm_cd_76 : vm_cdP 76 := rfl
set_option maxRecDepth 100000 in
theorem vm_cd_77 : vm_cdP 77 := rfl
set_option maxRecDepth 100000 in
theorem vm_cd_78 : vm_cdP 78 := rfl
set_option maxRecDepth 100000 in
theorem vm_cd_79 : vm_cdP 79 := rfl
set_option maxRecDepth 100000 in
theorem vm_cd_80 : vm_cdP 80 := rfl
set_option maxRecDepth 100000 in
theorem vm_cd_81 : vm_cdP 81 := rfl
set_option maxRecDepth 100000 in
theorem vm_cd_82 : vm_cdP 82 := rfl
set_option maxRecDepth 100000 in
theorem vm_cd_83 : vm_cdP 83 := rfl
set_option maxRecDepth 100000 in
theorem vm_cd_84 : vm_cdP 84 := rfl
set_option maxRecDepth 100000 in
theorem vm_cd_85 : vm_cdP 85 := rfl
set_option maxRecDepth 100000 in
theorem vm_cd_86 : vm_cdP 86 := rfl
set_option maxRecDepth 100000 in
theorem vm_cd_87 : vm_cdP 87 := rfl
set_option maxRecDepth 100000 in
theorem vm_cd_88 : vm_cdP 88 := rfl
set_option maxRecDepth 100000 in
theorem vm_cd_89 : vm_cdP 89 := rfl
set_option maxRecDepth 100000 in
theorem vm_cd_90 : vm_cdP 90 := rfl
set_option maxRecDepth 100000 in
theorem vm_cd_91 : vm_cdP 91 := rfl
set_option maxRecDepth 100000 in
theorem vm_cd_92 : vm_cdP 92 := rfl
set_option maxRecDepth 100000 in
theorem vm_cd_93 : vm_cdP 93 := rfl
set_option maxRecDepth 100000 in
theorem vm_cd_94 : vm_cdP 94 := rfl
set_option maxRecDepth 100000 in
theorem vm_cd_95 : vm_cdP 95 := rfl
set_option maxRecDepth 100000 in
theorem vm_cd_96 : vm_cdP 96 := rfl
set_option maxRecDepth 100000 in
theorem vm_cd_97 : vm_cdP 97 := rfl
set_option maxRecDepth 100000 in
theorem vm_cd_98 : vm_cdP 98 := rfl
set_option maxRecDepth 100000 in
theorem vm_cd_99 : vm_cdP 99 := rfl
set_option maxRecDepth 100000 in
theorem vm_cd_100 : vm_cdP 100 := rfl
set_option maxRecDepth 100000 in
theorem vm_cd_101 : vm_cdP 101 := rfl
set_option maxRecDepth 100000 in
theorem vm_cd_102 : vm_cdP 102 := rfl
set_option maxRecDepth 100000 in
theorem vm_cd_103 : vm_cdP 103 := rfl
set_option maxRecDepth 100000 in
theorem vm_cd_104 : vm_cdP 104 := rfl
set_option maxRecDepth 100000 in
theorem vm_cd_105 : vm_cdP 105 := rfl
set_option maxRecDepth 100000 in
theorem vm_cd_106 : vm_cdP 106 := rfl
set_option maxRecDepth 100000 in
theorem vm_cd_107 : vm_cdP 107 := rfl
set_option maxRecDepth 100000 in
theorem vm_cd_108 : vm_cdP 108 := rfl
set_option maxRecDepth 100000 in
theorem vm_cd_109 : vm_cdP 109 := rfl
set_option maxRecDepth 100000 in
theorem vm_cd_110 : vm_cdP 110 := rfl
set_option maxRecDepth 100000 in
theorem vm_cd_111 : vm_cdP 111 := rfl
set_option maxRecDepth 100000 in
theorem vm_cd_112 : vm_cdP 112 := rfl
set_option maxRecDepth 100000 in
theorem vm_cd_113 : vm_cdP 113 := rfl
set_option maxRecDepth 100000 in
theorem vm_cd_114 : vm_cdP 114 := rfl
set_option maxRecDepth 100000 in
theorem vm_cd_115 : vm_cdP 115 := rfl
set_option maxRecDepth 100000 in
theorem vm_cd_116 : vm_cdP 116 := rfl
set_option maxRecDepth 100000 in
theorem vm_cd_117 : vm_cdP 117 := rfl
set_option maxRecDepth 100000 in
theorem vm_cd_118 : vm_cdP 118 := rfl
set_option maxRecDepth 100000 in
theorem vm_cd_119 : vm_cdP 119 := rfl
set_option maxRecDepth 100000 in
theorem vm_cd_120 : vm_cdP 120 := rfl
set_option maxRecDepth 100000 in
theorem vm_cd_121 : vm_cdP 121 := rfl
set_option maxRecDepth 100000 in
theorem vm_cd_122 : vm_cdP 122 := rfl
set_option maxRecDepth 100000 in
theorem vm_cd_123 : vm_cdP 123 := rfl
set_option maxRecDepth 100000 in
theorem vm_cd_124 : vm_cdP 124 := rfl
set_option maxRecDepth 100000 in
theorem vm_cd_125 : vm_cdP 125 := rfl
set_option maxRecDepth 100000 in
theorem vm_cd_126 : vm_cdP 126 := rfl
set_option maxRecDepth 100000 in
theorem vm_cd_127 : vm_cdP 127 := rfl
set_option maxRecDepth 100000 in
theorem vm_cd_128 : vm_cdP 128 := rfl
set_option maxRecDepth 100000 in
theorem vm_cd_129 : vm_cdP 129 := rfl
set_option maxRecDepth 100000 in
theorem vm_cd_130 : vm_cdP 130 := rfl
set_option maxRecDepth 100000 in
theorem vm_cd_131 : vm_cdP 131 := rfl
set_option maxRecDepth 100000 in
theorem vm_cd_132 : vm_cdP 132 := rfl
set_option maxRecDepth 100000 in
theorem vm_cd_133 : vm_cdP 133 := rfl
set_option maxRecDepth 100000 in
theorem vm_cd_134 : vm_cdP 134 := rfl
set_option maxRecDepth 100000 in
theorem vm_cd_135 : vm_cdP 135 := rfl
set_option maxRecDepth 100000 in
theorem vm_cd_136 : vm_cdP 136 := rfl
set_option maxRecDepth 100000 in
theorem vm_cd_137 : vm_cdP 137 := rfl
set_option maxRecDepth 100000 in
theorem vm_cd_138 : vm_cdP 138 := rfl
set_option maxRecDepth 100000 in
theorem vm_cd_139 : vm_cdP 139 := rfl
set_option maxRecDepth 100000 in
theorem vm_cd_140 : vm_cdP 140 := rfl
set_option maxRecDepth 100000 in
theorem vm_cd_141 : vm_cdP 141 := rfl
set_option maxRecDepth 100000 in
theorem vm_cd_142 : vm_cdP 142 := rfl
set_option maxRecDepth 100000 in
theorem vm_cd_143 : vm_cdP 143 := rfl
set_option maxRecDepth 100000 in
theorem vm_cd_144 : vm_cdP 144 := rfl
set_option maxRecDepth 100000 in
theorem vm_cd_145 : vm_cdP 145 := rfl
set_option maxRecDepth 100000 in
theorem vm_cd_146 : vm_cdP 146 := rfl
set_option maxRecDepth 100000 in
theorem vm_cd_147 : vm_cdP 147 := rfl
set_option maxRecDepth 100000 in
theorem vm_cd_148 : vm_cdP 148 := rfl
set_option maxRecDepth 100000 in
theorem vm_cd_149 : vm_cdP 149 := rfl
set_option maxRecDepth 100000 in
theorem vm_cd_150 : vm_cdP 150 := rfl
set_option maxRecDepth 100000 in
theorem vm_cd_151 : vm_cdP 151 := rfl
set_option maxRecDepth 100000 in
theorem vm_cd_152 : vm_cdP 152 := rfl
set_option maxRecDepth 100000 in
theorem vm_cd_153 : vm_cdP 153 := rfl
set_option maxRecDepth 100000 in
theorem vm_cd_154 : vm_cdP 154 := rfl
set_option maxRecDepth 100000 in
theorem vm_cd_155 : vm_cdP 155 := rfl
set_option maxRecDepth 100000 in
theorem vm_cd_156 : vm_cdP 156 := rfl
set_option maxRecDepth 100000 in
theorem vm_cd_157 : vm_cdP 157 := rfl
set_option maxRecDepth 100000 in
theorem vm_cd_158 : vm_cdP 158 := rfl
set_option maxRecDepth 100000 in
theorem vm_cd_159 : vm_cdP 159 := rfl
set_option maxRecDepth 100000 in
theorem vm_cd_160 : vm_cdP 160 := rfl
set_option maxRecDepth 100000 in
theorem vm_cd_161 : vm_cdP 161 := rfl
set_option maxRecDepth 100000 in
theorem vm_cd_162 : vm_cdP 162 := rfl
set_option maxRecDepth 100000 in
theorem vm_cd_163 : vm_cdP 163 := rfl
set_option maxRecDepth 100000 in
theorem vm_cd_164 : vm_cdP 164 := rfl
set_option maxRecDepth 100000 in
theorem vm_cd_165 : vm_cdP 165 := rfl
set_option maxRecDepth 100000 in
theorem vm_cd_166 : vm_cdP 166 := rfl
set_option maxRecDepth 100000 in
theorem vm_cd_167 : vm_cdP 167 := rfl
set_option maxRecDepth 100000 in
theorem vm_cd_168 : vm_cdP 168 := rfl
set_option maxRecDepth 100000 in
theorem vm_cd_169 : vm_cdP 169 := rfl
set_option maxRecDepth 100000 in
theorem vm_cd_170 : vm_cdP 170 := rfl
set_option maxRecDepth 100000 in
theorem vm_cd_171 : vm_cdP 171 := rfl
set_option maxRecDepth 100000 in
theorem vm_cd_172 : vm_cdP 172 := rfl
set_option maxRecDepth 100000 in
theorem vm_cd_173 : vm_cdP 173 := rfl
set_option maxRecDepth 100000 in
theorem vm_cd_174 : vm_cdP 174 := rfl
set_option maxRecDepth 100000 in
theorem vm_cd_175 : vm_cdP 175 := rfl
set_option maxRecDepth 100000 in
theorem vm_cd_176 : vm_cdP 176 := rfl
set_option maxRecDepth 100000 in
theorem vm_cd_177 : vm_cdP 177 := rfl
set_option maxRecDepth 100000 in
theorem vm_cd_178 : vm_cdP 178 := rfl
set_option maxRecDepth 100000 in
theorem vm_cd_179 : vm_cdP 179 := rfl
theorem vm_cd_all {k : Nat} (hk : k < 180) : vm_cdP k := by
  by_cases h0 : k < 20
  · rcases (show k = 0 ∨ k = 1 ∨ k = 2 ∨ k = 3 ∨ k = 4 ∨ k = 5 ∨ k = 6 ∨ k = 7 ∨ k = 8 ∨ k = 9 ∨ k = 10 ∨ k = 11 ∨ k = 12 ∨ k = 13 ∨ k = 14 ∨ k = 15 ∨ k = 16 ∨ k = 17 ∨ k = 18 ∨ k = 19 by omega) with rfl | rfl | rfl | rfl | rfl | rfl | rfl | rfl | rfl | rfl | rfl | rfl | rfl | rfl | rfl | rfl | rfl | rfl | rfl | rfl
    · exact vm_cd_0
    · exact vm_cd_1
    · exact vm_cd_2
    · exact vm_cd_3
    · exact vm_cd_4
    · exact vm_cd_5
    · exact vm_cd_6
    · exact vm_cd_7
    · exact vm_cd_8
    · exact vm_cd_9
    · exact vm_cd_10
    · exact vm_cd_11
    · exact vm_cd_12
    · exact vm_cd_13
    · exact vm_cd_14
    · exact vm_cd_15
    · exact vm_cd_16
    · exact vm_cd_17
    · exact vm_cd_18
    · exact vm_cd_19
  by_cases h1 : k < 40
  · rcases (show k = 20 ∨ k = 21 ∨ k = 22 ∨ k = 23 ∨ k = 24 ∨ k = 25 ∨ k = 26 ∨ k = 27 ∨ k = 28 ∨ k = 29 ∨ k = 30 ∨ k = 31 ∨ k = 32 ∨ k = 33 ∨ k = 34 ∨ k = 35 ∨ k = 36 ∨ k = 37 ∨ k = 38 ∨ k = 39 by omega) with rfl | rfl | rfl | rfl | rfl | rfl | rfl | rfl | rfl | rfl | rfl | rfl | rfl | rfl | rfl | rfl | rfl | rfl | rfl | rfl
    · exact vm_cd_20
    · exact vm_cd_21
    · exact vm_cd_22
    · exact vm_cd_23
    · exact vm_cd_24
    · exact vm_cd_25
    · exact vm_cd_26
    · exact vm_cd_27
    · exact vm_cd_28
    · exact vm_cd_29
    · exact vm_cd_30
    · exact vm_cd_31
    · exact vm_cd_32
    · exact vm_cd_33
    · exact vm_cd_34
    · exact vm_cd_35
    · exact vm_cd_36
    · exact vm_cd_37
    · exact vm_cd_38
    · exact vm_cd_39
  by_cases h2 : k < 60
  · rcases (show k = 40 ∨ k = 41 ∨ k = 42 ∨ k = 43 ∨ k = 44 ∨ k = 45 ∨ k = 46 ∨ k = 47 ∨ k = 48 ∨ k = 49 ∨ k = 50 ∨ k = 51 ∨ k = 52 ∨ k = 53 ∨ k = 54 ∨ k = 55 ∨ k = 56 ∨ k = 57 ∨ k = 58 ∨ k = 59 by omega) with rfl | rfl | rfl | rfl | rfl | rfl | rfl | rfl | rfl | rfl | rfl | rfl | rfl | rfl | rfl | rfl | rfl | rfl | rfl | rfl
    · exact vm_cd_40
    · exact vm_cd_41
    · exact vm_cd_42
    · exact vm_cd_43
    · exact vm_cd_44
    · exact vm_cd_45
    · exact vm_cd_46
    · exact vm_cd_47
    · exact vm_cd_48
    · exact vm_cd_49
    · exact vm_cd_50
    · exact vm_cd_51
    · exact vm_cd_52
    · exact vm_cd_53
    · exact vm_cd_54
    · exact vm_cd_55
    · exact vm_cd_56
    · exact vm_cd_57
    · exact vm_cd_58
    · exact vm_cd_59
  by_cases h3 : k < 80
  · rcases (show k = 60 ∨ k = 61 ∨ k = 62 ∨ k = 63 ∨ k = 64 ∨ k = 65 ∨ k = 66 ∨ k = 67 ∨ k = 68 ∨ k = 69 ∨ k = 70 ∨ k = 71 ∨ k = 72 ∨ k = 73 ∨ k = 74 ∨ k = 75 ∨ k = 76 ∨ k = 77 ∨ k = 78 ∨ k = 79 by omega) with rfl | rfl | rfl | rfl | rfl | rfl | rfl | rfl | rfl | rfl | rfl | rfl | rfl | rfl | rfl | rfl | rfl | rfl | rfl | rfl
    · exact vm_cd_60
    · exact vm_cd_61
    · exact vm_cd_62
    · exact vm_cd_63
    · exact vm_cd_64
    · exact vm_cd_65
    · exact vm_cd_66
    · exact vm_cd_67
    · exact vm_cd_68
    · exact vm_cd_69
    · exact vm_cd_70
    · exact vm_cd_71
    · exact vm_cd_72
    · exact vm_cd_73
    · exact vm_cd_74
    · exact vm_cd_75
    · exact vm_cd_76
    · exact vm_cd_77
    · exact vm_cd_78
    · exact vm_cd_79
  by_cases h4 : k < 100
  · rcases (show k = 80 ∨ k = 81 ∨ k = 82 ∨ k = 83 ∨ k = 84 ∨ k = 85 ∨ k = 86 ∨ k = 87 ∨ k = 88 ∨ k = 89 ∨ k = 90 ∨ k = 91 ∨ k = 92 ∨ k = 93 ∨ k = 94 ∨ k = 95 ∨ k = 96 ∨ k = 97 ∨ k = 98 ∨ k = 99 by omega) with rfl | rfl | rfl | rfl | rfl | rfl | rfl | rfl | rfl | rfl | rfl | rfl | rfl | rfl | rfl | rfl | rfl | rfl | rfl | rfl
    · exact vm_cd_80
    · exact vm_cd_81
    · exact vm_cd_82
    · exact vm_cd_83
    · exact vm_cd_84
    · exact vm_cd_85
    · exact vm_cd_86
    · exact vm_cd_87
    · exact vm_cd_88
    · exact vm_cd_89
    · exact vm_cd_90
    · exact vm_cd_91
    · exact vm_cd_92
    · exact vm_cd_93
    · exact vm_cd_94
    · exact vm_cd_95
    · exact vm_cd_96
    · exact vm_cd_97
    · exact vm_cd_98
    · exact vm_cd_99
  by_cases h5 : k < 120
  · rcases (show k = 100 ∨ k = 101 ∨ k = 102 ∨ k = 103 ∨ k = 104 ∨ k = 105 ∨ k = 106 ∨ k = 107 ∨ k = 108 ∨ k = 109 ∨ k = 110 ∨ k = 111 ∨ k = 112 ∨ k = 113 ∨ k = 114 ∨ k = 115 ∨ k = 116 ∨ k = 117 ∨ k = 118 ∨ k = 119 by omega) with rfl | rfl | rfl | rfl | rfl | rfl | rfl | rfl | rfl | rfl | rfl | rfl | rfl | rfl | rfl | rfl | rfl | rfl | rfl | rfl
    · exact vm_cd_100
    · exact vm_cd_101
    · exact vm_cd_102
    · exact vm_cd_103
    · exact vm_cd_104
    · exact vm_cd_105
    · exact vm_cd_106
    · exact vm_cd_107
    · exact vm_cd_108
    · exact vm_cd_109
    · exact vm_cd_110
    · exact vm_cd_111
    · exact vm_cd_112
    · exact vm_cd_113
    · exact vm_cd_114
    · exact vm_cd_115
    · exact vm_cd_116
    · exact vm_cd_117
    · exact vm_cd_118
    · exact vm_cd_119
  by_cases h6 : k < 140
  · rcases (show k = 120 ∨ k = 121 ∨ k = 122 ∨ k = 123 ∨ k = 124 ∨ k = 125 ∨ k = 126 ∨ k = 127 ∨ k = 128 ∨ k = 129 ∨ k = 130 ∨ k = 131 ∨ k = 132 ∨ k = 133 ∨ k = 134 ∨ k = 135 ∨ k = 136 ∨ k = 137 ∨ k = 138 ∨ k = 139 by omega) with rfl | rfl | rfl | rfl | rfl | rfl | rfl | rfl | rfl | rfl | rfl | rfl | rfl | rfl | rfl | rfl | rfl | rfl | rfl | rfl
    · exact vm_cd_120
    · exact vm_cd_121
    · exact vm_cd_122
    · exact vm_cd_123
    · exact vm_cd_124
    · exact vm_cd_125
    · exact vm_cd_126
    · exact vm_cd_127
    · exact vm_cd_128
    · exact vm_cd_129
    · exact vm_cd_130
    · exact vm_cd_131
    · exact vm_cd_132
    · exact vm_cd_133
    · exact vm_cd_134
    · exact vm_cd_135
    · exact vm_cd_136
    · exact vm_cd_137
    · exact vm_cd_138
    · exact vm_cd_139
  by_cases h7 : k < 160
  · rcases (show k = 140 ∨ k = 141 ∨ k = 142 ∨ k = 143 ∨ k = 144 ∨ k = 145 ∨ k = 146 ∨ k = 147 ∨ k = 148 ∨ k = 149 ∨ k = 150 ∨ k = 151 ∨ k = 152 ∨ k = 153 ∨ k = 154 ∨ k = 155 ∨ k = 156 ∨ k = 157 ∨ k = 158 ∨ k = 159 by omega) with rfl | rfl | rfl | rfl | rfl | rfl | rfl | rfl | rfl | rfl | rfl | rfl | rfl | rfl | rfl | rfl | rfl | rfl | rfl | rfl
    · exact vm_cd_140
    · exact vm_cd_141
    · exact vm_cd_142
    · exact vm_cd_143
    · exact vm_cd_144
    · exact vm_cd_145
    · exact vm_cd_146
    · exact vm_cd_147
    · exact vm_cd_148
    · exact vm_cd_149
    · exact vm_cd_150
    · exact vm_cd_151
    · exact vm_cd_152
    · exact vm_cd_153
    · exact vm_cd_154
    · exact vm_cd_155
    · exact vm_cd_156
    · exact vm_cd_157
    · exact vm_cd_158
    · exact vm_cd_159
  by_cases h8 : k < 180
  · rcases (show k = 160 ∨ k = 161 ∨ k = 162 ∨ k = 163 ∨ k = 164 ∨ k = 165 ∨ k = 166 ∨ k = 167 ∨ k = 168 ∨ k = 169 ∨ k = 170 ∨ k = 171 ∨ k = 172 ∨ k = 173 ∨ k = 174 ∨ k = 175 ∨ k = 176 ∨ k = 177 ∨ k = 178 ∨ k = 179 by omega) with rfl | rfl | rfl | rfl | rfl | rfl | rfl | rfl | rfl | rfl | rfl | rfl | rfl | rfl | rfl | rfl | rfl | rfl | rfl | rfl
    · exact vm_cd_160
    · exact vm_cd_161
    · exact vm_cd_162
    · exact vm_cd_163
    · exact vm_cd_164
    · exact vm_cd_165
    · exact vm_cd_166
    · exact vm_cd_167
    · exact vm_cd_168
    · exact vm_cd_169
    · exact vm_cd_170
    · exact vm_cd_171
    · exact vm_cd_172
    · exact vm_cd_173
    · exact vm_cd_174
    · exact vm_cd_175
    · exact vm_cd_176
    · exact vm_cd_177
    · exact vm_cd_178
    · exact vm_cd_179
  omega
end
section
theorem vm_wd_t {c : Nat} {w : Cond} (h : vm_wd c w = true) : w ∈ tables_1 := by
  unfold vm_wd at h
  unfold tables_1
  repeat' split at h
  · exact List.mem_append_left _ (List.mem_of_getElem? (of_decide_eq_true h))
  · exact List.mem_append_right _ (List.mem_append_left _ (List.mem_of_getElem? (of_decide_eq_true h)))
  · exact List.mem_append_right _ (List.mem_append_right _ (List.mem_append_left _ (List.mem_of_getElem? (of_decide_eq_true h))))
  · exact List.mem_append_right _ (List.mem_append_right _ (List.mem_append_right _ (List.mem_append_left _ (List.mem_of_getElem? (of_decide_eq_true h)))))
  · exact List.mem_append_right _ (List.mem_append_right _ (List.mem_append_right _ (List.mem_append_right _ (List.mem_of_getElem? (of_decide_eq_true h)))))
theorem vm_wd_in {c : Nat} {w : Cond} (h : vm_wd c w = true) : w ∈ lw_tbl := List.mem_append_right _ (vm_wd_t h)
theorem vm_wd2_in {c : Nat} {w : Cond} (h : vm_wd2 c w = true) : w ∈ lw_tbl := by
  unfold vm_wd2 at h
  split at h
  · exact List.mem_append_left _ (List.mem_of_getElem? (of_decide_eq_true h))
  · exact vm_wd_in h
theorem vm_wdg_in {c : Nat} {w : Cond} (h : vm_wdg c = some w) : w ∈ lw_tbl := by
  refine List.mem_append_right _ ?_
  unfold vm_wdg at h
  unfold tables_1
  repeat' split at h
  · exact List.mem_append_left _ (List.mem_of_getElem? h)
  · exact List.mem_append_right _ (List.mem_append_left _ (List.mem_of_getElem? h))
  · exact List.mem_append_right _ (List.mem_append_right _ (List.mem_append_left _ (List.mem_of_getElem? h)))
  · exact List.mem_append_right _ (List.mem_append_right _ (List.mem_append_right _ (List.mem_append_left _ (List.mem_of_getElem? h))))
  · exact List.mem_append_right _ (List.mem_append_right _ (List.mem_append_right _ (List.mem_append_right _ (List.mem_of_getElem? h))))
def vm_TG : List Cond := lw_tbl.filter goodWord
theorem vm_TG_in {w : Cond} (h : w ∈ lw_tbl) (hg : goodWord w = true) : w ∈ vm_TG := List.mem_filter.mpr ⟨h, hg⟩
theorem vm_TG_ws : ∀ c < 8, ∀ w ∈ u_ws (vm_cls c).1 (vm_cls c).2.1 (vm_cls c).2.2, w ∈ tables_1 ∧ goodWord w = true := by
  have h : (List.range 8).all (fun c => (u_ws (vm_cls c).1 (vm_cls c).2.1 (vm_cls c).2.2).all (fun w => decide (w ∈ tables_1) && goodWord w)) = true := by decide +kernel
  intro c hc w hw
  have h1 := List.all_eq_true.mp (List.all_eq_true.mp h c (List.mem_range.mpr hc)) w hw
  simp only [Bool.and_eq_true, decide_eq_true_eq] at h1
  exact h1
theorem vm_ws_in {c : Nat} (hc : c < 8) : ∀ w ∈ u_ws (vm_cls c).1 (vm_cls c).2.1 (vm_cls c).2.2, w ∈ vm_TG := fun w hw => vm_TG_in (List.mem_append_right _ (vm_TG_ws c hc w hw).1) (vm_TG_ws c hc w hw).2
def vm_wsK (k : Nat) : List Cond := .code (vm_y k) (vm_b k) (vm_ml k) (vm_ret k) :: vm_TG
theorem vm_good_code {y : MethodName} {b : ByteArray} {m : Nat} {r : Option FieldType} : goodWord (.code y b m r) = true := by first | rfl | simp [goodWord, Cond.onTables, Cond.keeps, Cond.steady]
theorem vm_wsK_good {k : Nat} (hk : k < 180) : GoodIn vm_TG (vm_wsK k) := by
  intro w hw
  rcases List.mem_cons.mp hw with rfl | hw
  · exact ⟨vm_TG_in (vm_wdg_in (vm_cd_all hk)) vm_good_code, good_of_word vm_good_code⟩
  · exact ⟨hw, good_of_word (List.mem_filter.mp hw).2⟩
theorem vm_wd_g {c : Nat} {w : Cond} (h : vm_wd c w = true) (hg : goodWord w = true) : w ∈ vm_TG := vm_TG_in (vm_wd_in h) hg
theorem vm_cl_at {a : Nat} (h : a < 8) : vwCl[a]? = some ((vm_cls a).1, (vm_cls a).2.1, (vm_cls a).2.2) := by
  unfold vm_cls
  rw [List.getD_eq_getElem?_getD]
  cases hx : vwCl[a]? with
  | none => exact absurd (List.getElem?_eq_none_iff.mp hx) (by simp; omega)
  | some w => rfl
theorem vm_ty_ok : ∀ c, c < 8 → ∀ k, k < (vm_cls c).2.2 → parseFieldDescriptor ((vm_cls c).2.1 k).2.2.1 = some (vm_ty c k) := by
  intro c hc
  match c, hc with
  | 0, _ => exact tyX0_ok
  | 1, _ => exact tyX1_ok
  | 2, _ => exact tyX2_ok
  | 3, _ => exact tyX3_ok
  | 4, _ => exact tyX4_ok
  | 5, _ => exact tyX5_ok
  | 6, _ => exact tyX6_ok
  | 7, _ => exact tyX7_ok
theorem vm_nm_ok : ∀ c, c < 8 → ∀ a, a < (vm_cls c).2.2 → ∀ b, b < (vm_cls c).2.2 → a ≠ b → ((vm_cls c).2.1 a).2.1 ≠ ((vm_cls c).2.1 b).2.1 := by
  intro c hc
  match c, hc with
  | 0, _ => exact nmX0
  | 1, _ => exact nmX1
  | 2, _ => exact nmX2
  | 3, _ => exact nmX3
  | 4, _ => exact nmX4
  | 5, _ => exact nmX5
  | 6, _ => exact nmX6
  | 7, _ => exact nmX7
theorem vm_ty_kind : ∀ c, c < 8 → ∀ k, k < (vm_cls c).2.2 → vm_ty c k = .int ∨ (vm_isI c k = false ∧ ((∃ n, vm_ty c k = .object n) ∨ ∃ t, vm_ty c k = .array t)) := by
  have h : (List.range 8).all (fun c => (List.range (vm_cls c).2.2).all (fun k => match vm_ty c k with
    | .int => true
    | .object _ => true
    | .array _ => true
    | _ => false)) = true := by decide +kernel
  intro c hc k hk
  have h1 := List.all_eq_true.mp (List.all_eq_true.mp h c (List.mem_range.mpr hc)) k (List.mem_range.mpr hk)
  unfold vm_isI
  cases hx : vm_ty c k <;> simp_all
end
section
/-! THE WORLD: numbered cells at real addresses -/
abbrev vm_G : Type := Nat × va_G × (Nat → ClassId) × (Nat → Nat) × (Nat → Nat) × Nat × Value
abbrev vm_D (G : vm_G) : va_G := G.2.1
abbrev vm_cA (G : vm_G) : Nat → ClassId := G.2.2.1
abbrev vm_aK (G : vm_G) : Nat → Nat := G.2.2.2.1
abbrev vm_aV (G : vm_G) : Nat → Nat := G.2.2.2.2.1
abbrev vm_bb (G : vm_G) : Nat := G.2.2.2.2.2.1
abbrev vm_fm (G : vm_G) : Value := G.2.2.2.2.2.2
abbrev vm_A (G : vm_G) : Nat → Prop := fun q => G.1 ≤ q
def vm_mp (G : vm_G) (i : Nat) : Value :=
  if i < 1000 then .ref (G.1 + i) else if i = 2000 then .ref (vm_bb G) else if i = 3000 then vm_fm G
  else if i % 2 = 0 then .ref (vm_aK G ((i - 1000) / 2)) else .ref (vm_aV G ((i - 1000) / 2))
def vm_v (G : vm_G) (v : Value) : Value := match v with
  | .ref i => vm_mp G i
  | .int x => .int x
  | .long x => .long x
  | .null => .null
  | .float x => .float x
  | .double x => .double x
  | .retAddr x => .retAddr x
theorem vm_mp_ref (G : vm_G) {i : Nat} (h : i ≠ 3000) : ∃ a, vm_mp G i = .ref a := by
  unfold vm_mp
  repeat' split
  all_goals first | exact ⟨_, rfl⟩ | contradiction
theorem vm_mp_lt (G : vm_G) {i : Nat} (h : i < 1000) : vm_mp G i = .ref (G.1 + i) := by unfold vm_mp; rw [if_pos h]
theorem vm_mp_scr (G : vm_G) : vm_mp G 2000 = .ref (vm_bb G) := rfl
theorem vm_mp_str (G : vm_G) {j : Nat} (h : j < 8) : vm_mp G (1000 + 2 * j) = .ref (vm_aK G j) := by
  unfold vm_mp
  rw [if_neg (by omega), if_neg (by omega), if_neg (by omega), if_pos (by omega), show (1000 + 2 * j - 1000) / 2 = j by omega]
theorem vm_mp_strv (G : vm_G) {j : Nat} (h : j < 8) : vm_mp G (1001 + 2 * j) = .ref (vm_aV G j) := by
  unfold vm_mp
  rw [if_neg (by omega), if_neg (by omega), if_neg (by omega), if_neg (by omega), show (1001 + 2 * j - 1000) / 2 = j by omega]
def vm_tyA (t : Nat) : FieldType := match t with
  | 0 => .int
  | 1 => .byte
  | _ => .boolean
def vm_ce (G : vm_G) (σ : vm_St) (i : Nat) (s : vm_Sh) : va_E :=
  if s.1 = 0 then .inr (s.2.1, (List.range s.2.2).map (fun j => vm_v G (vm_fv σ i s.2.1 j))) else .inl (vm_cA G s.2.1, s.2.2, .inl (σ.2.2 i))
def vm_ws (G : vm_G) (σ : vm_St) : va_W := (List.range σ.1.length).map (fun i => (G.1 + i, vm_ce G σ i (σ.1.getD i (0, 0, 0))))
theorem vm_ws_at (G : vm_G) {σ : vm_St} {r : Nat} {s : vm_Sh} (h : σ.1[r]? = some s) : (vm_ws G σ)[r]? = some (G.1 + r, vm_ce G σ r s) := by
  have hr : r < σ.1.length := (List.getElem?_eq_some_iff.mp h).1
  have h2 : σ.1[r] = s := (List.getElem?_eq_some_iff.mp h).2
  simp [vm_ws, hr, List.getD, h2]
theorem vm_ws_len (G : vm_G) (σ : vm_St) : (vm_ws G σ).length = σ.1.length := by simp [vm_ws]
theorem vm_ws_get (G : vm_G) {σ : vm_St} {r : Nat} {q : Nat × va_E} (h : (vm_ws G σ)[r]? = some q) : ∃ s, σ.1[r]? = some s ∧ q = (G.1 + r, vm_ce G σ r s) := by
  have hr : r < (vm_ws G σ).length := (List.getElem?_eq_some_iff.mp h).1
  rw [vm_ws_len] at hr
  refine ⟨σ.1[r], List.getElem?_eq_getElem hr, ?_⟩
  have h1 := vm_ws_at G (σ := σ) (List.getElem?_eq_getElem hr)
  exact Option.some.inj (h.symm.trans h1)
theorem vm_ce_same (G : vm_G) {σ σ' : vm_St} {i : Nat} (h1 : σ'.2.1 i = σ.2.1 i) (h2 : σ'.2.2 i = σ.2.2 i) (s : vm_Sh) : vm_ce G σ' i s = vm_ce G σ i s := by
  simp only [vm_ce, vm_fv, h1, h2]
theorem vm_ws_set (G : vm_G) {σ σ' : vm_St} {r : Nat} {s : vm_Sh} (h : σ.1[r]? = some s) (h0 : σ'.1 = σ.1) (h1 : ∀ i, i ≠ r → σ'.2.1 i = σ.2.1 i) (h2 : ∀ i, i ≠ r → σ'.2.2 i = σ.2.2 i) : vm_ws G σ' = (vm_ws G σ).set r (G.1 + r, vm_ce G σ' r s) := by
  apply List.ext_getElem?
  intro i
  by_cases hi : i = r
  · subst hi
    rw [vm_ws_at G (by rw [h0]; exact h), List.getElem?_set_self (by rw [vm_ws_len]; exact (List.getElem?_eq_some_iff.mp h).1)]
  · rw [List.getElem?_set_ne (Ne.symm hi)]
    by_cases hl : i < σ.1.length
    · rw [vm_ws_at G (by rw [h0]; exact List.getElem?_eq_getElem hl), vm_ws_at G (List.getElem?_eq_getElem hl), vm_ce_same G (h1 i hi) (h2 i hi)]
    · rw [List.getElem?_eq_none (by rw [vm_ws_len, h0]; omega), List.getElem?_eq_none (by rw [vm_ws_len]; omega)]
theorem vm_ws_D (G : vm_G) (σ : vm_St) : va_D (vm_A G) (vm_ws G σ) := by
  refine ⟨fun i j p q hi hj hpq => ?_, fun k q hk => ?_⟩
  · obtain ⟨s1, -, rfl⟩ := vm_ws_get G hi
    obtain ⟨s2, -, rfl⟩ := vm_ws_get G hj
    have : G.1 + i = G.1 + j := hpq
    omega
  · obtain ⟨s1, -, rfl⟩ := vm_ws_get G hk
    exact Nat.le_add_right _ _
def vm_nw (w : Cond) : Bool := match w with
  | .fieldLinkNest .. => true
  | .methodLinkNest .. => true
  | _ => false
abbrev vm_tys (G : vm_G) : List (ClassId × FieldType) := [(vm_cA G 0, .int), (vm_cA G 1, .byte), (vm_cA G 2, .boolean)]
def vm_KW (G : vm_G) (U : State) : Prop := va_K (vm_D G) vwCl (vm_tys G) U ∧ (∀ w ∈ tables_1, vm_nw w = true → va_Nw w U) ∧ ∀ i, i < 8 → vk_R RX5 (vm_strO.getD i 0) (vm_strT.getD i "") (vm_aK G i) U
def vm_XW (G : vm_G) (X : Nat × (Nat → Int32)) (U : State) (H : Heap) : Prop := va_X (vm_bb G) X.1 X.2 U H ∧ vm_bb G < G.1 ∧ vk_S 8 (vm_strB.map List.length) vm_strB (vm_aK G) (vm_aV G) (vm_A G) U H ∧
  va_Z "java/lang/String" "COMPACT_STRINGS" "Z" (.int 1) (vm_A G) U H ∧ va_Z "jdk/internal/util/Preconditions" "SIOOBE_FORMATTER" "Ljava/util/function/BiFunction;" (vm_fm G) (vm_A G) U H ∧ (vm_fm G = .null ∨ ∃ a, vm_fm G = .ref a)
def vm_WF (σ : vm_St) : Prop := σ.1.length ≤ 1000 ∧ ∀ (r : Nat) (s : vm_Sh), σ.1[r]? = some s → (s.1 = 0 ∧ s.2.1 < 8 ∧ s.2.2 = (vm_cls s.2.1).2.2) ∨ (s.1 = 1 ∧ s.2.1 < 3)
def vm_PW (G : vm_G) (σ : vm_St) (H : Heap) : Prop := va_P (vm_D G) vwCl (vm_ws G σ) H ∧ G.1 + σ.1.length = H.size ∧ vm_WF σ
theorem vm_KW.warm {G : vm_G} {s U : State} (hW : s.WarmedH U.vm) (h : vm_KW G s) : vm_KW G U := by
  refine ⟨va_K.moved hW.alike h.1, fun w hw hn => ?_, fun i hi => (h.2.2 i hi).warm hW⟩
  have h1 := h.2.1 w hw hn
  cases w <;> first | (cases hn; done) | exact va_Nw.warmF hW h1 | exact va_Nw.warmM hW h1
theorem vm_XW.warm {G : vm_G} {X : Nat × (Nat → Int32)} {s U : State} {H : Heap} (hW : s.vm.Alike U.vm) (h : vm_XW G X s H) : vm_XW G X U H :=
  ⟨va_X.moved hW h.1, h.2.1, vk_S.moved hW h.2.2.1, va_Z.moved hW h.2.2.2.1, va_Z.moved hW h.2.2.2.2.1, h.2.2.2.2.2⟩
theorem vm_XW.kept {G : vm_G} {X : Nat × (Nat → Int32)} {s : State} {H H1 : Heap} (h : vm_XW G X s H) (hb : vm_bb G < H.size) (hq : ∀ a : Nat, a < H.size → ¬ vm_A G a → H1[a]? = H[a]?) : vm_XW G X s H1 :=
  ⟨va_X.kept h.1 (hq _ hb (Nat.not_le.mpr h.2.1)), h.2.1, vk_S.kept h.2.2.1 hq, va_Z.kept h.2.2.2.1 hq, va_Z.kept h.2.2.2.2.1 hq, h.2.2.2.2.2⟩
theorem vm_XW.lt {G : vm_G} {X : Nat × (Nat → Int32)} {s : State} {H : Heap} (h : vm_XW G X s H) : vm_bb G < H.size := by
  obtain ⟨⟨scr, h1, -⟩, -⟩ := h
  exact (Array.getElem?_eq_some_iff.mp h1).1
/-! locals -/
def vm_LV (G : vm_G) (ls : Array Slot) (n : Nat) (L : List Value) : Prop := ls.size = n ∧ lv_wf ls ∧ L.length = n ∧ ∀ (i : Nat) (v : Value), L[i]? = some v → v ≠ .null → ls[i]? = some (.val (vm_v G v))
def vm_ll (G : vm_G) (L : List Value) : List (Nat × Value) := (List.range L.length).filterMap (fun j => match vm_lg L j with
  | .null => none
  | v => some (j, vm_v G v))
theorem vm_lg_get {L : List Value} {i : Nat} {v : Value} (h : vm_lg L i = v) (hv : v ≠ .null) : L[i]? = some v := by
  unfold vm_lg at h
  rw [List.getD_eq_getElem?_getD] at h
  cases hx : L[i]? with
  | none => rw [hx] at h; exact absurd h.symm hv
  | some w => rw [hx] at h; exact congrArg some h
theorem vm_ll_mem {G : vm_G} {L : List Value} {i : Nat} {w : Value} : (i, w) ∈ vm_ll G L ↔ ∃ v, L[i]? = some v ∧ v ≠ .null ∧ w = vm_v G v := by
  unfold vm_ll
  rw [List.mem_filterMap]
  constructor
  · rintro ⟨j, hj, hm⟩
    split at hm
    · cases hm
    · next v hv =>
      cases hm
      exact ⟨_, vm_lg_get rfl (fun e => hv e), fun e => hv e, rfl⟩
  · rintro ⟨v, h1, h2, rfl⟩
    refine ⟨i, List.mem_range.mpr (List.getElem?_eq_some_iff.mp h1).1, ?_⟩
    have h3 : vm_lg L i = v := by unfold vm_lg; rw [List.getD_eq_getElem?_getD, h1]; rfl
    rw [h3]
    cases v <;> first | rfl | exact absurd rfl h2
theorem vm_LV.has {G : vm_G} {ls : Array Slot} {n : Nat} {L : List Value} (h : vm_LV G ls n L) : lv_has ls n (vm_ll G L) := by
  refine ⟨h.1, h.2.1, fun q hq => ?_⟩
  obtain ⟨v, h1, h2, h3⟩ := vm_ll_mem.mp (show (q.1, q.2) ∈ vm_ll G L from hq)
  rw [h3]
  exact h.2.2.2 _ _ h1 h2
theorem vm_LV.at {G : vm_G} {ls : Array Slot} {n : Nat} {L : List Value} (h : vm_LV G ls n L) {i : Nat} {v : Value} (hv : vm_lg L i = v) (hn : v ≠ .null) : ls[i]? = some (.val (vm_v G v)) := h.2.2.2 _ _ (vm_lg_get hv hn) hn
theorem vm_v_cat (G : vm_G) (hf : vm_fm G = .null ∨ ∃ a, vm_fm G = .ref a) (v : Value) : (vm_v G v).category = v.category := by
  cases v with
  | ref i =>
    show (vm_mp G i).category = 1
    unfold vm_mp
    repeat' split
    · rfl
    · rfl
    · rcases hf with h | ⟨a, h⟩ <;> rw [h] <;> rfl
    · rfl
    · rfl
  | _ => rfl
theorem vm_ls_len (L : List Value) (i : Nat) (v : Value) : (vm_ls L i v).length = L.length := by
  unfold vm_ls
  repeat' split
  all_goals simp
theorem vm_ls_get {L : List Value} {i j : Nat} {v w : Value} (hj : j ≠ i) (h : (vm_ls L i v)[j]? = some w) (hw : w ≠ .null) : L[j]? = some w ∧ ¬ (j + 1 = i ∧ w.category = 2) := by
  unfold vm_ls at h
  split at h
  · rw [List.getElem?_set_ne (Ne.symm hj)] at h
    exact ⟨h, fun q => by omega⟩
  · next k =>
    have key : ∀ (z : Value), vm_lg L k = z → z.category = 2 → ((L.set k .null).set (k + 1) v)[j]? = some w → L[j]? = some w ∧ ¬ (j + 1 = k + 1 ∧ w.category = 2) := by
      intro z hz hc h
      rw [List.getElem?_set_ne (Ne.symm hj)] at h
      by_cases hjk : j = k
      · subst hjk
        by_cases hl : j < L.length
        · rw [List.getElem?_set_self hl] at h
          exact absurd (Option.some.inj h).symm hw
        · rw [List.getElem?_eq_none (by simp; omega)] at h
          cases h
      · rw [List.getElem?_set_ne (Ne.symm hjk)] at h
        exact ⟨h, fun q => by omega⟩
    have key2 : ∀ (z : Value), vm_lg L k = z → ¬ z.category = 2 → (L.set (k + 1) v)[j]? = some w → L[j]? = some w ∧ ¬ (j + 1 = k + 1 ∧ w.category = 2) := by
      intro z hz hc h9
      rw [List.getElem?_set_ne (Ne.symm hj)] at h9
      refine ⟨h9, fun q => ?_⟩
      have e : j = k := by omega
      have e2 : vm_lg L k = w := by unfold vm_lg; rw [List.getD_eq_getElem?_getD, ← e, h9]; rfl
      rw [← hz, e2] at hc
      exact hc q.2
    split at h
    · next x hx => exact key _ hx rfl h
    · next x hx => exact key _ hx rfl h
    · next hx1 hx2 =>
      refine key2 _ rfl ?_ h
      cases hz : vm_lg L k with
      | long x => exact absurd hz (hx1 x)
      | double x => exact absurd hz (hx2 x)
      | _ => simp [Value.category]
theorem vm_ls_self {L : List Value} {i : Nat} {v : Value} (hi : i < L.length) : (vm_ls L i v)[i]? = some v := by
  unfold vm_ls
  repeat' split
  all_goals (rw [List.getElem?_set_self]; first | exact hi | (simp; exact hi))
theorem vm_LV.st1 {G : vm_G} (hf : vm_fm G = .null ∨ ∃ a, vm_fm G = .ref a) {ls ls' : Array Slot} {n : Nat} {L : List Value} {i : Nat} {v : Value} (h : vm_LV G ls n L) (hi : i < L.length)
    (h2 : lv_has ls' n ((i, vm_v G v) :: (vm_ll G L).filter (fun q => !(q.1 == i) && !(q.1 + 1 == i && q.2.category == 2)))) : vm_LV G ls' n (vm_ls L i v) := by
  refine ⟨h2.1, h2.2.1, by rw [vm_ls_len]; exact h.2.2.1, fun j w hj hw => ?_⟩
  by_cases hji : j = i
  · subst hji
    rw [vm_ls_self hi] at hj
    cases hj
    exact h2.2.2 _ List.mem_cons_self
  · obtain ⟨g1, g2⟩ := vm_ls_get hji hj hw
    refine h2.2.2 (j, vm_v G w) (List.mem_cons_of_mem _ (List.mem_filter.mpr ⟨vm_ll_mem.mpr ⟨w, g1, hw, rfl⟩, ?_⟩))
    have : ¬ (j + 1 = i ∧ (vm_v G w).category = 2) := by rw [vm_v_cat G hf]; exact g2
    by_cases a : j + 1 = i
    · have hc : ¬ (vm_v G w).category = 2 := fun q => this ⟨a, q⟩
      simp [hji, hc]
    · simp [hji, a]
theorem vm_LV.st2 {G : vm_G} (hf : vm_fm G = .null ∨ ∃ a, vm_fm G = .ref a) {ls ls' : Array Slot} {n : Nat} {L : List Value} {i : Nat} {v : Value} (h : vm_LV G ls n L) (hi : i + 1 < L.length)
    (h2 : lv_has ls' n ((i, vm_v G v) :: (vm_ll G L).filter (fun q => !(q.1 == i) && (!(q.1 == i + 1) && !(q.1 + 1 == i && q.2.category == 2))))) : vm_LV G ls' n (vm_ls2 L i v) := by
  unfold vm_ls2
  refine ⟨h2.1, h2.2.1, by rw [List.length_set, vm_ls_len]; exact h.2.2.1, fun j w hj hw => ?_⟩
  by_cases hj1 : j = i + 1
  · subst hj1
    rw [List.getElem?_set_self (by rw [vm_ls_len]; exact hi)] at hj
    exact absurd (Option.some.inj hj).symm hw
  rw [List.getElem?_set_ne (Ne.symm hj1)] at hj
  by_cases hji : j = i
  · subst hji
    rw [vm_ls_self (by omega)] at hj
    cases hj
    exact h2.2.2 _ List.mem_cons_self
  · obtain ⟨g1, g2⟩ := vm_ls_get hji hj hw
    refine h2.2.2 (j, vm_v G w) (List.mem_cons_of_mem _ (List.mem_filter.mpr ⟨vm_ll_mem.mpr ⟨w, g1, hw, rfl⟩, ?_⟩))
    have : ¬ (j + 1 = i ∧ (vm_v G w).category = 2) := by rw [vm_v_cat G hf]; exact g2
    by_cases a : j + 1 = i
    · have hc : ¬ (vm_v G w).category = 2 := fun q => this ⟨a, q⟩
      simp [hji, hj1, hc]
    · simp [hji, hj1, a]
end
section
/-! A PLAIN STEP OF OURS IS A STEP OF THE MACHINE -/
section VMA
variable {p : Program} {l : Launch} {e : Env} {R : Room} {s : State} {m : MethodId} {args : Array Value} {below : List Frame} {meth : Method} {c : Code} {H : Heap} {locs : List Loc} {cells slots : Nat} {Q : State → Prop}
variable {G : vm_G} {X : Nat × (Nat → Int32)} {k : Nat}
def vm_C (G : vm_G) (X : Nat × (Nat → Int32)) (k : Nat) (p : Program) (s : State) (m : MethodId) (args : Array Value) (meth : Method) (c : Code) : Prop :=
  p.tables.exec = Jvm.exec ∧ c.code = vm_b k ∧ c.maxLocals = vm_ml k ∧ s.vm.findClass (vm_own k) = some m.cls ∧ (∀ w ∈ vm_TG, w.before args s = true) ∧ ((vm_y k).name = "<init>" → meth.name = "<init>") ∧ vm_KW G s ∧ vm_XW G X s s.heap ∧ k < 181
theorem vm_ce_o (G : vm_G) (σ : vm_St) (r ci n : Nat) : vm_ce G σ r (0, ci, n) = .inr (ci, (List.range n).map (fun j => vm_v G (vm_fv σ r ci j))) := rfl
theorem vm_ce_a (G : vm_G) (σ : vm_St) (r t n : Nat) : vm_ce G σ r (1, t, n) = .inl (vm_cA G t, n, .inl (σ.2.2 r)) := rfl
theorem vm_stk_ref {G : vm_G} {r : Nat} {σ : vm_St} {H : Heap} (hP : vm_PW G σ H) {s : vm_Sh} (h : σ.1[r]? = some s) : vm_v G (.ref r) = .ref (G.1 + r) := by
  have h1 : r < σ.1.length := (List.getElem?_eq_some_iff.mp h).1
  have h2 := hP.2.2.1
  exact vm_mp_lt G (by omega)
theorem vm_getf (C : vm_C G X k p s m args meth c) {σ : vm_St} (hP : vm_PW G σ H) {pc r a b len cx d idx : Nat} {z : Int} {ls : Array Slot} {rest : List Value} (ha1 : ¬ a = 100) (ha2 : ¬ a = 101)
    (hck : vm_chk k (pc, .getfield idx, len, a, b, cx, d, z) = true) {n : Nat} (hr : σ.1[r]? = some (0, a, n)) (hb : b < n)
    (kk : W p l e R s m args below meth c H locs cells slots Q (F0 m (pc + 3) ls (vm_v G (vm_fv σ r a b) :: rest))) : W p l e R s m args below meth c H locs cells slots Q (F0 m pc ls (vm_v G (.ref r) :: rest)) := by
  obtain ⟨hx, hbc, hml, hown, hts, hin, hK, hX, hk⟩ := C
  simp only [vm_chk, vm_len, Bool.and_eq_true, decide_eq_true_eq, Bool.or_eq_true, beq_iff_eq, if_neg ha1, if_neg ha2] at hck
  obtain ⟨hd, hlen, ha, hbn, hw⟩ := hck
  have hlen : len = 3 := by omega
  subst hlen
  rw [vm_stk_ref hP hr]
  have hat := vm_ws_at G hr
  rw [vm_ce_o] at hat
  by_cases hd0 : d = 0
  · rw [if_pos hd0] at hw
    exact va_get (D := vm_D G) (ci := a) (v := vm_v G (vm_fv σ r a b)) (C := (vm_cls a).1) (T := (vm_cls a).2.1) (N := (vm_cls a).2.2) hx hbc hts (vm_ws_in ha) hown hK.1 hP.1 r hat (vm_cl_at ha) b hbn (hts _ (vm_wd_g hw (by first | rfl | simp [goodWord, Cond.onTables, Cond.keeps, Cond.steady]))) (fun _ h9 => h9) (by simp [hb]) hd kk
  · rw [if_neg hd0] at hw
    exact va_getN (D := vm_D G) (ci := a) (v := vm_v G (vm_fv σ r a b)) (C := (vm_cls a).1) (T := (vm_cls a).2.1) (N := (vm_cls a).2.2) hx hbc hts (vm_ws_in ha) hown hK.1 hP.1 r hat (vm_cl_at ha) b hbn (va_Nw.use rfl (hK.2.1 _ (vm_wd_t hw) rfl)) (fun _ h9 => h9) (by simp [hb]) hd kk
end VMA
end
section
section VMB
variable {p : Program} {l : Launch} {e : Env} {R : Room} {s : State} {m : MethodId} {args : Array Value} {below : List Frame} {meth : Method} {c : Code} {H : Heap} {locs : List Loc} {cells slots : Nat} {Q : State → Prop}
variable {G : vm_G} {X : Nat × (Nat → Int32)} {k : Nat}
theorem vm_map_set {n b : Nat} (hb : b < n) {f g : Nat → Value} {v : Value} (h : ∀ j, j < n → g j = if j = b then v else f j) : (List.range n).map g = ((List.range n).map f).set b v := by
  apply List.ext_getElem?
  intro i
  by_cases hi : i = b
  · subst hi
    rw [List.getElem?_set_self (by simp; exact hb)]
    simp [hb, h i hb]
  · rw [List.getElem?_set_ne (Ne.symm hi)]
    by_cases hl : i < n
    · simp [hl, h i hl, hi]
    · simp [hl]
theorem vm_WF_same {σ σ' : vm_St} (h : vm_WF σ) (h0 : σ'.1 = σ.1) : vm_WF σ' := by unfold vm_WF; rw [h0]; exact h
theorem vm_putf (C : vm_C G X k p s m args meth c) {σ σ' : vm_St} (hP : vm_PW G σ H) (hS : va_S (vm_A G) s.heap H locs) {pc r a b len cx d idx : Nat} {z : Int} {ls : Array Slot} {rest : List Value}
    (hck : vm_chk k (pc, .putfield idx, len, a, b, cx, d, z) = true) {n : Nat} (hr : σ.1[r]? = some (0, a, n)) (hb : b < n) {v : Value} (h0 : σ'.1 = σ.1) (h1 : ∀ i, i ≠ r → σ'.2.1 i = σ.2.1 i) (h2 : ∀ i, i ≠ r → σ'.2.2 i = σ.2.2 i)
    (hfs : ∀ j, j < n → vm_v G (vm_fv σ' r a j) = if j = b then v else vm_v G (vm_fv σ r a j)) (hn : narrow (vm_ty a b) v = v) (hfit : fits (vm_ty a b) v = true)
    (kk : ∀ (H' : Heap) (locs' : List Loc), vm_PW G σ' H' → va_S (vm_A G) s.heap H' locs' → W p l e R s m args below meth c H' locs' cells slots Q (F0 m (pc + 3) ls rest)) : W p l e R s m args below meth c H locs cells slots Q (F0 m pc ls (v :: vm_v G (.ref r) :: rest)) := by
  obtain ⟨hx, hbc, hml, hown, hts, hin, hK, hX, hk⟩ := C
  simp only [vm_chk, vm_len, Bool.and_eq_true, decide_eq_true_eq, Bool.or_eq_true, beq_iff_eq] at hck
  obtain ⟨hd, hlen, ha, hbn, hw⟩ := hck
  have hlen : len = 3 := by omega
  subst hlen
  rw [vm_stk_ref hP hr]
  have hat := vm_ws_at G hr
  rw [vm_ce_o] at hat
  have hin8 := vm_ws_in ha
  have hap := va_apart (own := vm_own k) (s := s) (args := args) hts hin8 (vm_ty a) (vm_ty_ok a ha) (vm_nm_ok a ha) hK.1 (vm_cl_at ha)
  obtain ⟨r', hr1, cell, q1, q2, q3, q4⟩ := hP.1 r _ hat
  have hre : r' = ((vm_cls a).1, (vm_cls a).2.1, (vm_cls a).2.2) := Option.some.inj (hr1.symm.trans (vm_cl_at ha))
  subst hre
  obtain ⟨hSl, hfc, kC, hkC, hkind⟩ := hK.1.1 a _ (vm_cl_at ha)
  obtain ⟨cf, kf, fi, f, hi, hsl⟩ := hSl b hbn
  have hst := (u_facts hfc hkC (u_lays hts hin8 hbn) hi).1
  have hlay := hts _ (hin8 _ (u_in_lay hbn))
  unfold u_lay at hlay
  have hset : vm_ws G σ' = (vm_ws G σ).set r (G.1 + r, .inr (a, ((List.range n).map (fun j => vm_v G (vm_fv σ r a j))).set b v)) := by
    rw [vm_ws_set G hr h0 h1 h2, vm_ce_o, vm_map_set hb hfs]
  have fin : ∀ (H' : Heap), H'[G.1 + r]? = some (cell.setSlot f.slot v) → H'.size = H.size → (∀ q, q ≠ G.1 + r → H'[q]? = H[q]?) → vm_PW G σ' H' ∧ va_S (vm_A G) s.heap H' (locs ++ [⟨G.1 + r, f.slot⟩]) := by
    intro H' e1 e2 e3
    rw [hsl] at e1
    refine ⟨⟨?_, by rw [h0, e2]; exact hP.2.1, vm_WF_same hP.2.2 h0⟩, hS.put e2 e3 (Nat.le_add_right _ _)⟩
    rw [hset]
    exact hP.1.set (vm_ws_D G σ) hat ⟨_, vm_cl_at ha, t_OB.to (V := updV (vp_V _) b v) ⟨_, e1, q2, q3, t_set q4 hap hbn v⟩ (fun j _ => vp_updV_set (by simp; exact hb) v j)⟩ e3
  by_cases hd0 : d = 0
  · rw [if_pos hd0] at hw
    simp only [Bool.and_eq_true, beq_iff_eq] at hw
    obtain ⟨hw, hfin⟩ := hw
    rw [if_neg (by rw [hfin]; decide)] at hlay
    have h6 := u_store hfc hkC hkind hlay hi (vm_ty_ok a ha b hbn) hn hfit
    refine W.putK hx hbc (f := f) ⟨hown, hts _ (vm_wd_g hw (by first | rfl | simp [goodWord, Cond.onTables, Cond.keeps, Cond.steady])), ⟨_, _, _, hi⟩, hst⟩ (by rw [q2]; exact h6) q1 q3 (by rw [hsl]; exact k2_hasslot (q4 b hbn)) rfl rfl hd fun H' e1 e2 e3 => ?_
    exact kk H' _ (fin H' e1 e2 e3).1 (fin H' e1 e2 e3).2
  · rw [if_neg hd0] at hw
    by_cases hd1 : d = 1
    · rw [if_pos hd1] at hw
      simp only [Bool.and_eq_true, beq_iff_eq] at hw
      obtain ⟨hw, hfin⟩ := hw
      rw [if_neg (by rw [hfin]; decide)] at hlay
      have h6 := u_store hfc hkC hkind hlay hi (vm_ty_ok a ha b hbn) hn hfit
      refine va_WputK hx hbc (f := f) hown (va_Nw.use rfl (hK.2.1 _ (vm_wd_t hw) rfl)) hi hst (by rw [q2]; exact h6) q1 q3 (by rw [hsl]; exact k2_hasslot (q4 b hbn)) rfl rfl hd fun H' e1 e2 e3 => ?_
      exact kk H' _ (fin H' e1 e2 e3).1 (fin H' e1 e2 e3).2
    · rw [if_neg hd1] at hw
      simp only [Bool.and_eq_true, beq_iff_eq, decide_eq_true_eq] at hw
      obtain ⟨hw, hfin, hnm, hdecl⟩ := hw
      rw [if_pos hfin] at hlay
      have hcf : m.cls = cf := by
        obtain ⟨_, _, c', _, _, _, -, -, hf', -, -, -, hown2, -⟩ := Cond.laysFinal_spec hlay
        have e1 : c' = cf := by have := hi.symm.trans hf'; simp at this; exact this.1.symm
        rw [hdecl] at hown2
        rw [← e1]; exact Option.some.inj (hown.symm.trans hown2)
      have h6 := u_fits hfc hkC hkind (Or.inr hlay) hi (vm_ty_ok a ha b hbn) hn hfit
      refine W.putFinK hx hbc hown (hts _ (vm_wd_g hw (by first | rfl | simp [goodWord, Cond.onTables, Cond.keeps, Cond.steady]))) hi hst hcf (hin hnm) (by rw [q2]; exact h6) q1 q3 (by rw [hsl]; exact k2_hasslot (q4 b hbn)) rfl rfl hd fun H' e1 e2 e3 => ?_
      exact kk H' _ (fin H' e1 e2 e3).1 (fin H' e1 e2 e3).2
theorem vm_upd_up (f : Nat → Int32) (j : Nat) (x : Int32) : (fun q => updV (fun j => Value.int (f j)) j (.int x) q) = fun q => Value.int (upd f j x q) := by
  funext q
  by_cases hq : q = j
  · subst hq; simp [updV, upd]
  · simp [updV, upd, hq]
/-- what an array's store does to the world -/
theorem vm_ast {σ σ' : vm_St} (hP : vm_PW G σ H) (hS : va_S (vm_A G) s.heap H locs) {r t n j : Nat} {x : Int32} (hr : σ.1[r]? = some (1, t, n)) (hσ : σ' = (σ.1, σ.2.1, vm_u2 σ.2.2 r j x)) {H' : Heap}
    (e1 : H'[G.1 + r]? = some ((arrV (vm_cA G t) n (fun j => .int (σ.2.2 r j))).setSlot j (.int x))) (e2 : H'.size = H.size) (e3 : ∀ q, q ≠ G.1 + r → H'[q]? = H[q]?) :
    vm_PW G σ' H' ∧ va_S (vm_A G) s.heap H' (locs ++ [⟨G.1 + r, j⟩]) := by
  subst hσ
  have hat := vm_ws_at G hr
  rw [vm_ce_a] at hat
  refine ⟨⟨?_, by rw [e2]; exact hP.2.1, hP.2.2⟩, hS.put e2 e3 (Nat.le_add_right _ _)⟩
  rw [vm_ws_set G (σ' := (σ.1, σ.2.1, vm_u2 σ.2.2 r j x)) hr rfl (fun _ _ => rfl) (fun i hi => by funext b; simp [vm_u2, hi]), vm_ce_a]
  refine hP.1.set (vm_ws_D G σ) hat ?_ e3
  show H'[G.1 + r]? = some (vp_cell _ _)
  rw [e1, vp_cell_i, arrV_store]
  congr 2
  funext q
  by_cases hq : q = j
  · subst hq; simp [updV, vm_u2]
  · simp [updV, vm_u2, hq]
end VMB
end
section
section VMC
variable {p : Program} {l : Launch} {e : Env} {R : Room} {s : State} {m : MethodId} {args : Array Value} {below : List Frame} {meth : Method} {c : Code} {H : Heap} {locs : List Loc} {cells slots : Nat} {Q : State → Prop}
variable {G : vm_G} {X : Nat × (Nat → Int32)} {k : Nat}
theorem vm_dec {k pc len a b cx d : Nat} {i : Instr} {z : Int} (h : vm_chk k (pc, i, len, a, b, cx, d, z) = true) {n : Nat} (hl : vm_len i = n) (hn : n ≠ 0) : decode (vm_b k) pc = .ok (i, n) := by
  unfold vm_chk at h
  simp only [Bool.and_eq_true, decide_eq_true_eq, Bool.or_eq_true, beq_iff_eq] at h
  obtain ⟨h1, h2, -⟩ := h
  rw [h1]
  have : len = n := by rcases h2 with h2 | h2 <;> omega
  rw [this]
theorem vm_g1 {k pc len a b cx d : Nat} {off : Int} {z : Int} (h : vm_chk k (pc, .goto off, len, a, b, cx, d, z) = true) : (pc : Int) + off = a := by
  simp only [vm_chk, Bool.and_eq_true, decide_eq_true_eq] at h
  exact h.2.2
theorem vm_g2 {k pc len a b cx d : Nat} {off : Int} {z : Int} {q : ClassFile.Cond} (h : vm_chk k (pc, .ifCond q off, len, a, b, cx, d, z) = true) : (pc : Int) + off = a := by
  simp only [vm_chk, Bool.and_eq_true, decide_eq_true_eq] at h
  exact h.2.2
theorem vm_g3 {k pc len a b cx d : Nat} {off : Int} {z : Int} {q : ClassFile.Cond} (h : vm_chk k (pc, .if_icmp q off, len, a, b, cx, d, z) = true) : (pc : Int) + off = a := by
  simp only [vm_chk, Bool.and_eq_true, decide_eq_true_eq] at h
  exact h.2.2
theorem vm_in_of {i : Int32} {n : Nat} (h : ¬ (i < 0 ∨ n ≤ i.toNatClampNeg)) : vp_in i n := h
theorem vm_strN_len {j : Nat} : (vm_strB.map List.length).getD j 0 = vm_strN j := by
  unfold vm_strN
  simp only [List.getD_eq_getElem?_getD, List.getElem?_map]
  cases vm_strB[j]? <;> rfl
theorem vm_o1 {r : Nat} (h1 : ¬ r < 1000) (h2 : r % 2 = 1 ∧ r < 1016) : (r - 1000) / 2 < 8 := by omega
theorem vm_o2 {r : Nat} (h1 : ¬ r < 1000) (h2 : r % 2 = 1 ∧ r < 1016) (G : vm_G) : vm_v G (.ref r) = .ref (vm_aV G ((r - 1000) / 2)) := by
  show vm_mp G r = _
  unfold vm_mp
  rw [if_neg h1, if_neg (by omega), if_neg (by omega), if_neg (by omega)]
theorem vm_o3 {r : Nat} (h : 1000 ≤ r ∧ r < 1016 ∧ r % 2 = 0) (G : vm_G) : (r - 1000) / 2 < 8 ∧ vm_v G (.ref r) = .ref (vm_aK G ((r - 1000) / 2)) ∧ vm_v G (.ref (r + 1)) = .ref (vm_aV G ((r - 1000) / 2)) := by
  refine ⟨by omega, ?_, ?_⟩
  · show vm_mp G r = _
    unfold vm_mp
    rw [if_neg (by omega), if_neg (by omega), if_neg (by omega), if_pos (by omega)]
  · show vm_mp G (r + 1) = _
    unfold vm_mp
    rw [if_neg (by omega), if_neg (by omega), if_neg (by omega), if_neg (by omega), show (r + 1 - 1000) / 2 = (r - 1000) / 2 by omega]
theorem vm_own_f (C : vm_C G X k p s m args meth c) : vm_fm G = .null ∨ ∃ a, vm_fm G = .ref a := C.2.2.2.2.2.2.2.1.2.2.2.2.2
theorem vm_narb (x : Int32) : narrow .boolean (.int x) = .int (vp_nar .boolean x) := by first | rfl | simp [vp_nar, narrow]
theorem vm_nary (x : Int32) : narrow .byte (.int x) = .int (vp_nar .byte x) := by first | rfl | simp [vp_nar, narrow]
set_option maxHeartbeats 4000000 in
theorem vm_act_ok (C : vm_C G X k p s m args meth c) {σ σ' : vm_St} (hP : vm_PW G σ H) (hS : va_S (vm_A G) s.heap H locs) {ls : Array Slot} {L L' S S' : List Value} (hL : vm_LV G ls (vm_ml k) L)
    {i : Instr} {len a b cx d pc pc' : Nat} {z : Int} (hck : vm_chk k (pc, i, len, a, b, cx, d, z) = true) (hrun : vm_act X i a b d z pc L S σ = some (pc', L', S', σ'))
    (kk : ∀ (H' : Heap) (locs' : List Loc) (ls' : Array Slot), vm_PW G σ' H' → va_S (vm_A G) s.heap H' locs' → vm_LV G ls' (vm_ml k) L' → W p l e R s m args below meth c H' locs' cells slots Q (F0 m pc' ls' (S'.map (vm_v G)))) :
    W p l e R s m args below meth c H locs cells slots Q (F0 m pc ls (S.map (vm_v G))) := by
  have hf := vm_own_f C
  obtain ⟨hx, hbc, hml, hown, hts, hin, hK, hX, hk⟩ := id C
  have hLl := hL.2.2.1
  cases i with
  | iconst n =>
    simp only [vm_act] at hrun
    simp only [Option.some.injEq, Prod.mk.injEq] at hrun; obtain ⟨rfl, rfl, rfl, rfl⟩ := hrun
    exact lv_iconst hx hbc (vm_dec hck rfl (by decide)) rfl (kk H locs ls hP hS hL)
  | bipush n =>
    simp only [vm_act] at hrun
    simp only [Option.some.injEq, Prod.mk.injEq] at hrun; obtain ⟨rfl, rfl, rfl, rfl⟩ := hrun
    exact lv_bipush hx hbc (vm_dec hck rfl (by decide)) rfl (kk H locs ls hP hS hL)
  | sipush n =>
    simp only [vm_act] at hrun
    simp only [Option.some.injEq, Prod.mk.injEq] at hrun; obtain ⟨rfl, rfl, rfl, rfl⟩ := hrun
    exact lv_sipush hx hbc (vm_dec hck rfl (by decide)) rfl (kk H locs ls hP hS hL)
  | lconst n =>
    simp only [vm_act] at hrun
    simp only [Option.some.injEq, Prod.mk.injEq] at hrun; obtain ⟨rfl, rfl, rfl, rfl⟩ := hrun
    exact lv_lconst hx hbc (vm_dec hck rfl (by decide)) rfl (kk H locs ls hP hS hL)
  | ldc idx =>
    simp only [vm_act] at hrun
    simp only [vm_chk, Bool.and_eq_true, decide_eq_true_eq] at hck
    have hd := hck.1
    have hd2 : len = 2 := by have := hck.2.1; simp [vm_len] at this; exact this
    subst hd2
    have hw := hck.2.2
    split at hrun
    · next ha => simp only [Option.some.injEq, Prod.mk.injEq] at hrun; obtain ⟨rfl, rfl, rfl, rfl⟩ := hrun; rw [if_pos ha] at hw; exact lv_ldc hx hbc hown (hts _ (vm_wd_g hw (by first | rfl | simp [goodWord, Cond.onTables, Cond.keeps, Cond.steady]))) hd (kk H locs ls hP hS hL)
    · next ha =>
      simp only [Option.some.injEq, Prod.mk.injEq] at hrun; obtain ⟨rfl, rfl, rfl, rfl⟩ := hrun
      rw [if_neg ha] at hw
      simp only [Bool.and_eq_true, decide_eq_true_eq] at hw
      obtain ⟨hb8, hix, how, -⟩ := hw
      have h9 := kk H locs ls hP hS hL
      rw [List.map_cons, show vm_v G (.ref (1000 + 2 * b)) = .ref (vm_aK G b) from vm_mp_str G hb8] at h9
      have hR := hK.2.2 b hb8
      rw [hix] at hR
      exact va_ldcS hx hbc (by rw [← how]; exact hown) hR hd h9
  | ldc2_w idx =>
    simp only [vm_act] at hrun
    simp only [Option.some.injEq, Prod.mk.injEq] at hrun; obtain ⟨rfl, rfl, rfl, rfl⟩ := hrun
    have hd := vm_dec (n := 3) hck rfl (by decide)
    simp only [vm_chk, Bool.and_eq_true, decide_eq_true_eq] at hck
    exact lv_ldc2 hx hbc hown (hts _ (vm_wd_g hck.2.2 (by first | rfl | simp [goodWord, Cond.onTables, Cond.keeps, Cond.steady]))) hd (kk H locs ls hP hS hL)
  | iload_n n =>
    simp only [vm_act] at hrun
    split at hrun
    · next x hv => simp only [Option.some.injEq, Prod.mk.injEq] at hrun; obtain ⟨rfl, rfl, rfl, rfl⟩ := hrun; exact lv_iload_n hx hbc (vm_dec hck rfl (by decide)) rfl (hL.at hv (fun h => by cases h)) (kk H locs ls hP hS hL)
    · cases hrun
  | iload n =>
    simp only [vm_act] at hrun
    split at hrun
    · next x hv => simp only [Option.some.injEq, Prod.mk.injEq] at hrun; obtain ⟨rfl, rfl, rfl, rfl⟩ := hrun; exact lv_iload hx hbc (vm_dec hck rfl (by decide)) (hL.at hv (fun h => by cases h)) (kk H locs ls hP hS hL)
    · cases hrun
  | lload_n n =>
    simp only [vm_act] at hrun
    split at hrun
    · next x hv => simp only [Option.some.injEq, Prod.mk.injEq] at hrun; obtain ⟨rfl, rfl, rfl, rfl⟩ := hrun; exact lv_lload_n hx hbc (vm_dec hck rfl (by decide)) rfl (hL.at hv (fun h => by cases h)) (kk H locs ls hP hS hL)
    · cases hrun
  | lload n =>
    simp only [vm_act] at hrun
    split at hrun
    · next x hv => simp only [Option.some.injEq, Prod.mk.injEq] at hrun; obtain ⟨rfl, rfl, rfl, rfl⟩ := hrun; exact lv_lload hx hbc (vm_dec hck rfl (by decide)) (hL.at hv (fun h => by cases h)) (kk H locs ls hP hS hL)
    · cases hrun
  | aload_n n =>
    simp only [vm_act] at hrun
    split at hrun
    · next x hv =>
      split at hrun
      · cases hrun
      · next hne =>
        simp only [Option.some.injEq, Prod.mk.injEq] at hrun; obtain ⟨rfl, rfl, rfl, rfl⟩ := hrun
        obtain ⟨q, hq⟩ := vm_mp_ref G hne
        have h1 := hL.at hv (fun h => by cases h)
        have h9 := kk H locs ls hP hS hL
        rw [show vm_v G (.ref x) = .ref q from hq] at h1
        rw [List.map_cons, show vm_v G (.ref x) = .ref q from hq] at h9
        exact lv_aload_n hx hbc (vm_dec hck rfl (by decide)) rfl h1 h9
    · cases hrun
  | aload n =>
    simp only [vm_act] at hrun
    split at hrun
    · next x hv =>
      split at hrun
      · cases hrun
      · next hne =>
        simp only [Option.some.injEq, Prod.mk.injEq] at hrun; obtain ⟨rfl, rfl, rfl, rfl⟩ := hrun
        obtain ⟨q, hq⟩ := vm_mp_ref G hne
        have h1 := hL.at hv (fun h => by cases h)
        have h9 := kk H locs ls hP hS hL
        rw [show vm_v G (.ref x) = .ref q from hq] at h1
        rw [List.map_cons, show vm_v G (.ref x) = .ref q from hq] at h9
        exact lv_aload hx hbc (vm_dec hck rfl (by decide)) h1 h9
    · cases hrun
  | istore_n n =>
    simp only [vm_act] at hrun
    split at hrun
    · split at hrun
      · next x S hlt => simp only [Option.some.injEq, Prod.mk.injEq] at hrun; obtain ⟨rfl, rfl, rfl, rfl⟩ := hrun; exact lv_istore_n hx hbc (vm_dec hck rfl (by decide)) rfl hL.has (by rw [← hLl]; exact hlt) rfl (fun ls2 h2 => kk H locs ls2 hP hS (vm_LV.st1 (v := .int x) hf hL hlt h2))
      · cases hrun
    · cases hrun
  | istore n =>
    simp only [vm_act] at hrun
    split at hrun
    · split at hrun
      · next x S hlt => simp only [Option.some.injEq, Prod.mk.injEq] at hrun; obtain ⟨rfl, rfl, rfl, rfl⟩ := hrun; exact lv_istore hx hbc (vm_dec hck rfl (by decide)) hL.has (by rw [← hLl]; exact hlt) rfl (fun ls2 h2 => kk H locs ls2 hP hS (vm_LV.st1 (v := .int x) hf hL hlt h2))
      · cases hrun
    · cases hrun
  | lstore_n n =>
    simp only [vm_act] at hrun
    split at hrun
    · split at hrun
      · next x S hlt => simp only [Option.some.injEq, Prod.mk.injEq] at hrun; obtain ⟨rfl, rfl, rfl, rfl⟩ := hrun; exact lv_lstore_n hx hbc (vm_dec hck rfl (by decide)) rfl hL.has (by rw [← hLl]; exact hlt) rfl (fun ls2 h2 => kk H locs ls2 hP hS (vm_LV.st2 (v := .long x) hf hL hlt h2))
      · cases hrun
    · cases hrun
  | lstore n =>
    simp only [vm_act] at hrun
    split at hrun
    · split at hrun
      · next x S hlt => simp only [Option.some.injEq, Prod.mk.injEq] at hrun; obtain ⟨rfl, rfl, rfl, rfl⟩ := hrun; exact lv_lstore hx hbc (vm_dec hck rfl (by decide)) hL.has (by rw [← hLl]; exact hlt) rfl (fun ls2 h2 => kk H locs ls2 hP hS (vm_LV.st2 (v := .long x) hf hL hlt h2))
      · cases hrun
    · cases hrun
  | astore_n n =>
    simp only [vm_act] at hrun
    split at hrun
    · split at hrun
      · next x S hlt =>
        simp only [Option.some.injEq, Prod.mk.injEq] at hrun; obtain ⟨rfl, rfl, rfl, rfl⟩ := hrun
        obtain ⟨q, hq⟩ := vm_mp_ref G hlt.2
        rw [List.map_cons, show vm_v G (.ref x) = .ref q from hq]
        exact lv_astore_n hx hbc (vm_dec hck rfl (by decide)) rfl hL.has (by rw [← hLl]; exact hlt.1) rfl (fun ls2 h2 => kk H locs ls2 hP hS (vm_LV.st1 (v := .ref x) hf hL hlt.1 (by rw [show vm_v G (.ref x) = .ref q from hq]; exact h2)))
      · cases hrun
    · cases hrun
  | astore n =>
    simp only [vm_act] at hrun
    split at hrun
    · split at hrun
      · next x S hlt =>
        simp only [Option.some.injEq, Prod.mk.injEq] at hrun; obtain ⟨rfl, rfl, rfl, rfl⟩ := hrun
        obtain ⟨q, hq⟩ := vm_mp_ref G hlt.2
        rw [List.map_cons, show vm_v G (.ref x) = .ref q from hq]
        exact lv_astore hx hbc (vm_dec hck rfl (by decide)) hL.has (by rw [← hLl]; exact hlt.1) rfl (fun ls2 h2 => kk H locs ls2 hP hS (vm_LV.st1 (v := .ref x) hf hL hlt.1 (by rw [show vm_v G (.ref x) = .ref q from hq]; exact h2)))
      · cases hrun
    · cases hrun
  | iinc n j =>
    simp only [vm_act] at hrun
    split at hrun
    · next x hv =>
      split at hrun
      · next hlt =>
        simp only [Option.some.injEq, Prod.mk.injEq] at hrun; obtain ⟨rfl, rfl, rfl, rfl⟩ := hrun
        obtain ⟨q, hq⟩ := List.getElem?_of_mem (vm_ll_mem.mpr ⟨.int x, vm_lg_get hv (fun h => by cases h), (fun h => by cases h), rfl⟩ : (n, vm_v G (.int x)) ∈ vm_ll G L)
        exact lv_iinc (k := q) hx hbc (vm_dec hck rfl (by decide)) hL.has hq rfl (by rw [← hLl]; exact hlt) rfl (fun ls2 h2 => kk H locs ls2 hP hS (vm_LV.st1 (v := .int (x + Int32.ofInt j)) hf hL hlt h2))
      · cases hrun
    · cases hrun
  | iadd =>
    simp only [vm_act] at hrun
    split at hrun
    · simp only [Option.some.injEq, Prod.mk.injEq] at hrun; obtain ⟨rfl, rfl, rfl, rfl⟩ := hrun; exact lv_iadd hx hbc (vm_dec hck rfl (by decide)) (kk H locs ls hP hS hL)
    · cases hrun
  | isub =>
    simp only [vm_act] at hrun
    split at hrun
    · simp only [Option.some.injEq, Prod.mk.injEq] at hrun; obtain ⟨rfl, rfl, rfl, rfl⟩ := hrun; exact lv_isub hx hbc (vm_dec hck rfl (by decide)) (kk H locs ls hP hS hL)
    · cases hrun
  | imul =>
    simp only [vm_act] at hrun
    split at hrun
    · simp only [Option.some.injEq, Prod.mk.injEq] at hrun; obtain ⟨rfl, rfl, rfl, rfl⟩ := hrun; exact lv_imul hx hbc (vm_dec hck rfl (by decide)) (kk H locs ls hP hS hL)
    · cases hrun
  | ineg =>
    simp only [vm_act] at hrun
    split at hrun
    · simp only [Option.some.injEq, Prod.mk.injEq] at hrun; obtain ⟨rfl, rfl, rfl, rfl⟩ := hrun; exact lv_ineg hx hbc (vm_dec hck rfl (by decide)) (kk H locs ls hP hS hL)
    · cases hrun
  | iand =>
    simp only [vm_act] at hrun
    split at hrun
    · simp only [Option.some.injEq, Prod.mk.injEq] at hrun; obtain ⟨rfl, rfl, rfl, rfl⟩ := hrun; exact lv_iand hx hbc (vm_dec hck rfl (by decide)) (kk H locs ls hP hS hL)
    · cases hrun
  | ior =>
    simp only [vm_act] at hrun
    split at hrun
    · simp only [Option.some.injEq, Prod.mk.injEq] at hrun; obtain ⟨rfl, rfl, rfl, rfl⟩ := hrun; exact lv_ior hx hbc (vm_dec hck rfl (by decide)) (kk H locs ls hP hS hL)
    · cases hrun
  | ishl =>
    simp only [vm_act] at hrun
    split at hrun
    · simp only [Option.some.injEq, Prod.mk.injEq] at hrun; obtain ⟨rfl, rfl, rfl, rfl⟩ := hrun; exact lv_ishl hx hbc (vm_dec hck rfl (by decide)) (kk H locs ls hP hS hL)
    · cases hrun
  | ishr =>
    simp only [vm_act] at hrun
    split at hrun
    · simp only [Option.some.injEq, Prod.mk.injEq] at hrun; obtain ⟨rfl, rfl, rfl, rfl⟩ := hrun; exact lv_ishr hx hbc (vm_dec hck rfl (by decide)) (kk H locs ls hP hS hL)
    · cases hrun
  | ladd =>
    simp only [vm_act] at hrun
    split at hrun
    · simp only [Option.some.injEq, Prod.mk.injEq] at hrun; obtain ⟨rfl, rfl, rfl, rfl⟩ := hrun; exact lv_ladd hx hbc (vm_dec hck rfl (by decide)) (kk H locs ls hP hS hL)
    · cases hrun
  | land =>
    simp only [vm_act] at hrun
    split at hrun
    · simp only [Option.some.injEq, Prod.mk.injEq] at hrun; obtain ⟨rfl, rfl, rfl, rfl⟩ := hrun; exact lv_land hx hbc (vm_dec hck rfl (by decide)) (kk H locs ls hP hS hL)
    · cases hrun
  | lor =>
    simp only [vm_act] at hrun
    split at hrun
    · simp only [Option.some.injEq, Prod.mk.injEq] at hrun; obtain ⟨rfl, rfl, rfl, rfl⟩ := hrun; exact lv_lor hx hbc (vm_dec hck rfl (by decide)) (kk H locs ls hP hS hL)
    · cases hrun
  | lcmp =>
    simp only [vm_act] at hrun
    split at hrun
    · simp only [Option.some.injEq, Prod.mk.injEq] at hrun; obtain ⟨rfl, rfl, rfl, rfl⟩ := hrun; exact W.lcmp hx hbc (vm_dec hck rfl (by decide)) (kk H locs ls hP hS hL)
    · cases hrun
  | lshl =>
    simp only [vm_act] at hrun
    split at hrun
    · simp only [Option.some.injEq, Prod.mk.injEq] at hrun; obtain ⟨rfl, rfl, rfl, rfl⟩ := hrun; exact lv_lshl hx hbc (vm_dec hck rfl (by decide)) rfl (kk H locs ls hP hS hL)
    · cases hrun
  | lshr =>
    simp only [vm_act] at hrun
    split at hrun
    · simp only [Option.some.injEq, Prod.mk.injEq] at hrun; obtain ⟨rfl, rfl, rfl, rfl⟩ := hrun; exact lv_lshr hx hbc (vm_dec hck rfl (by decide)) rfl (kk H locs ls hP hS hL)
    · cases hrun
  | lushr =>
    simp only [vm_act] at hrun
    split at hrun
    · simp only [Option.some.injEq, Prod.mk.injEq] at hrun; obtain ⟨rfl, rfl, rfl, rfl⟩ := hrun; exact lv_lushr hx hbc (vm_dec hck rfl (by decide)) rfl (kk H locs ls hP hS hL)
    · cases hrun
  | i2l =>
    simp only [vm_act] at hrun
    split at hrun
    · simp only [Option.some.injEq, Prod.mk.injEq] at hrun; obtain ⟨rfl, rfl, rfl, rfl⟩ := hrun; exact lv_i2l hx hbc (vm_dec hck rfl (by decide)) rfl (kk H locs ls hP hS hL)
    · cases hrun
  | l2i =>
    simp only [vm_act] at hrun
    split at hrun
    · simp only [Option.some.injEq, Prod.mk.injEq] at hrun; obtain ⟨rfl, rfl, rfl, rfl⟩ := hrun; exact lv_l2i hx hbc (vm_dec hck rfl (by decide)) rfl (kk H locs ls hP hS hL)
    · cases hrun
  | i2b =>
    simp only [vm_act] at hrun
    split at hrun
    · simp only [Option.some.injEq, Prod.mk.injEq] at hrun; obtain ⟨rfl, rfl, rfl, rfl⟩ := hrun; exact lv_i2b hx hbc (vm_dec hck rfl (by decide)) rfl (kk H locs ls hP hS hL)
    · cases hrun
  | i2s =>
    simp only [vm_act] at hrun
    split at hrun
    · simp only [Option.some.injEq, Prod.mk.injEq] at hrun; obtain ⟨rfl, rfl, rfl, rfl⟩ := hrun; exact lv_i2s hx hbc (vm_dec hck rfl (by decide)) rfl (kk H locs ls hP hS hL)
    · cases hrun
  | i2c =>
    simp only [vm_act] at hrun
    split at hrun
    · simp only [Option.some.injEq, Prod.mk.injEq] at hrun; obtain ⟨rfl, rfl, rfl, rfl⟩ := hrun; exact lv_i2c hx hbc (vm_dec hck rfl (by decide)) rfl (kk H locs ls hP hS hL)
    · cases hrun
  | idiv =>
    simp only [vm_act] at hrun
    split at hrun
    · split at hrun
      · cases hrun
      · next hne => simp only [Option.some.injEq, Prod.mk.injEq] at hrun; obtain ⟨rfl, rfl, rfl, rfl⟩ := hrun; exact lv_idiv hx hbc (vm_dec hck rfl (by decide)) hne (kk H locs ls hP hS hL)
    · cases hrun
  | irem =>
    simp only [vm_act] at hrun
    split at hrun
    · split at hrun
      · cases hrun
      · next hne => simp only [Option.some.injEq, Prod.mk.injEq] at hrun; obtain ⟨rfl, rfl, rfl, rfl⟩ := hrun; exact lv_irem hx hbc (vm_dec hck rfl (by decide)) hne (kk H locs ls hP hS hL)
    · cases hrun
  | dup =>
    simp only [vm_act] at hrun
    split at hrun
    · split at hrun
      · cases hrun
      · next x S hne => simp only [Option.some.injEq, Prod.mk.injEq] at hrun; obtain ⟨rfl, rfl, rfl, rfl⟩ := hrun; exact lv_dup hx hbc (vm_dec hck rfl (by decide)) (by rw [vm_v_cat G hf]; rfl) (kk H locs ls hP hS hL)
    · simp only [Option.some.injEq, Prod.mk.injEq] at hrun; obtain ⟨rfl, rfl, rfl, rfl⟩ := hrun; exact lv_dup hx hbc (vm_dec hck rfl (by decide)) rfl (kk H locs ls hP hS hL)
    · cases hrun
  | dup2 =>
    simp only [vm_act] at hrun
    split at hrun
    · split at hrun
      · cases hrun
      · next x y S hne => simp only [Option.some.injEq, Prod.mk.injEq] at hrun; obtain ⟨rfl, rfl, rfl, rfl⟩ := hrun; exact lv_dup2_11 hx hbc (vm_dec hck rfl (by decide)) rfl (by rw [vm_v_cat G hf]; rfl) (kk H locs ls hP hS hL)
    · cases hrun
  | pop =>
    simp only [vm_act] at hrun
    split at hrun
    · simp only [Option.some.injEq, Prod.mk.injEq] at hrun; obtain ⟨rfl, rfl, rfl, rfl⟩ := hrun; exact lv_pop hx hbc (vm_dec hck rfl (by decide)) rfl (kk H locs ls hP hS hL)
    · cases hrun
  | goto off =>
    simp only [vm_act] at hrun
    simp only [Option.some.injEq, Prod.mk.injEq] at hrun; obtain ⟨rfl, rfl, rfl, rfl⟩ := hrun
    exact lv_goto hx hbc (vm_dec hck rfl (by decide)) (vm_g1 hck) (kk H locs ls hP hS hL)
  | ifCond q off =>
    simp only [vm_act] at hrun
    split at hrun
    · cases q with
      | eq => simp only at hrun; simp only [Option.some.injEq, Prod.mk.injEq] at hrun; obtain ⟨rfl, rfl, rfl, rfl⟩ := hrun; exact lv_if_eq hx hbc (vm_dec hck rfl (by decide)) (vm_g2 hck) (fun h => by have h9 := kk H locs ls hP hS hL; rw [if_pos h] at h9; exact h9) (fun h => by have h9 := kk H locs ls hP hS hL; rw [if_neg h] at h9; exact h9)
      | ne => simp only at hrun; simp only [Option.some.injEq, Prod.mk.injEq] at hrun; obtain ⟨rfl, rfl, rfl, rfl⟩ := hrun; exact lv_if_ne hx hbc (vm_dec hck rfl (by decide)) (vm_g2 hck) (fun h => by have h9 := kk H locs ls hP hS hL; rw [if_neg h] at h9; exact h9) (fun h => by have h9 := kk H locs ls hP hS hL; rw [if_pos h] at h9; exact h9)
      | lt => simp only at hrun; simp only [Option.some.injEq, Prod.mk.injEq] at hrun; obtain ⟨rfl, rfl, rfl, rfl⟩ := hrun; exact lv_if_lt hx hbc (vm_dec hck rfl (by decide)) (vm_g2 hck) (fun h => by have h9 := kk H locs ls hP hS hL; rw [if_pos h] at h9; exact h9) (fun h => by have h9 := kk H locs ls hP hS hL; rw [if_neg h] at h9; exact h9)
      | ge => simp only at hrun; simp only [Option.some.injEq, Prod.mk.injEq] at hrun; obtain ⟨rfl, rfl, rfl, rfl⟩ := hrun; exact lv_if_ge hx hbc (vm_dec hck rfl (by decide)) (vm_g2 hck) (fun h => by have h9 := kk H locs ls hP hS hL; rw [if_neg (Int32.not_lt.mpr h)] at h9; exact h9) (fun h => by have h9 := kk H locs ls hP hS hL; rw [if_pos (Int32.not_le.mp h)] at h9; exact h9)
      | gt => simp only at hrun; simp only [Option.some.injEq, Prod.mk.injEq] at hrun; obtain ⟨rfl, rfl, rfl, rfl⟩ := hrun; exact lv_if_gt hx hbc (vm_dec hck rfl (by decide)) (vm_g2 hck) (fun h => by have h9 := kk H locs ls hP hS hL; rw [if_pos h] at h9; exact h9) (fun h => by have h9 := kk H locs ls hP hS hL; rw [if_neg h] at h9; exact h9)
      | le => simp only at hrun; simp only [Option.some.injEq, Prod.mk.injEq] at hrun; obtain ⟨rfl, rfl, rfl, rfl⟩ := hrun; exact lv_if_le hx hbc (vm_dec hck rfl (by decide)) (vm_g2 hck) (fun h => by have h9 := kk H locs ls hP hS hL; rw [if_neg (Int32.not_lt.mpr h)] at h9; exact h9) (fun h => by have h9 := kk H locs ls hP hS hL; rw [if_pos (Int32.not_le.mp h)] at h9; exact h9)
    · cases hrun
  | if_icmp q off =>
    simp only [vm_act] at hrun
    split at hrun
    · cases q with
      | eq => simp only at hrun; simp only [Option.some.injEq, Prod.mk.injEq] at hrun; obtain ⟨rfl, rfl, rfl, rfl⟩ := hrun; exact lv_icmp_eq hx hbc (vm_dec hck rfl (by decide)) (vm_g3 hck) (fun h => by have h9 := kk H locs ls hP hS hL; rw [if_pos h] at h9; exact h9) (fun h => by have h9 := kk H locs ls hP hS hL; rw [if_neg h] at h9; exact h9)
      | ne => simp only at hrun; simp only [Option.some.injEq, Prod.mk.injEq] at hrun; obtain ⟨rfl, rfl, rfl, rfl⟩ := hrun; exact lv_icmp_ne hx hbc (vm_dec hck rfl (by decide)) (vm_g3 hck) (fun h => by have h9 := kk H locs ls hP hS hL; rw [if_neg h] at h9; exact h9) (fun h => by have h9 := kk H locs ls hP hS hL; rw [if_pos h] at h9; exact h9)
      | lt => simp only at hrun; simp only [Option.some.injEq, Prod.mk.injEq] at hrun; obtain ⟨rfl, rfl, rfl, rfl⟩ := hrun; exact lv_icmp_lt hx hbc (vm_dec hck rfl (by decide)) (vm_g3 hck) (fun h => by have h9 := kk H locs ls hP hS hL; rw [if_pos h] at h9; exact h9) (fun h => by have h9 := kk H locs ls hP hS hL; rw [if_neg h] at h9; exact h9)
      | ge => simp only at hrun; simp only [Option.some.injEq, Prod.mk.injEq] at hrun; obtain ⟨rfl, rfl, rfl, rfl⟩ := hrun; exact lv_icmp_ge hx hbc (vm_dec hck rfl (by decide)) (vm_g3 hck) (fun h => by have h9 := kk H locs ls hP hS hL; rw [if_neg (Int32.not_lt.mpr h)] at h9; exact h9) (fun h => by have h9 := kk H locs ls hP hS hL; rw [if_pos (Int32.not_le.mp h)] at h9; exact h9)
      | gt => simp only at hrun; simp only [Option.some.injEq, Prod.mk.injEq] at hrun; obtain ⟨rfl, rfl, rfl, rfl⟩ := hrun; exact lv_icmp_gt hx hbc (vm_dec hck rfl (by decide)) (vm_g3 hck) (fun h => by have h9 := kk H locs ls hP hS hL; rw [if_pos h] at h9; exact h9) (fun h => by have h9 := kk H locs ls hP hS hL; rw [if_neg h] at h9; exact h9)
      | le => simp only at hrun; simp only [Option.some.injEq, Prod.mk.injEq] at hrun; obtain ⟨rfl, rfl, rfl, rfl⟩ := hrun; exact lv_icmp_le hx hbc (vm_dec hck rfl (by decide)) (vm_g3 hck) (fun h => by have h9 := kk H locs ls hP hS hL; rw [if_neg (Int32.not_lt.mpr h)] at h9; exact h9) (fun h => by have h9 := kk H locs ls hP hS hL; rw [if_pos (Int32.not_le.mp h)] at h9; exact h9)
    · cases hrun
  | tableswitch df lo hi offs =>
    simp only [vm_act] at hrun
    simp only [vm_chk, Bool.and_eq_true, decide_eq_true_eq] at hck
    obtain ⟨hd, -, h1, h2⟩ := hck
    split at hrun
    · split at hrun
      · next x S hout => simp only [Option.some.injEq, Prod.mk.injEq] at hrun; obtain ⟨rfl, rfl, rfl, rfl⟩ := hrun; exact lv_tableOut hx hbc hd hout (by omega) (kk H locs ls hP hS hL)
      · next x S hout =>
        split at hrun
        · next off hoff =>
          simp only [Option.some.injEq, Prod.mk.injEq] at hrun; obtain ⟨rfl, rfl, rfl, rfl⟩ := hrun
          have h3 : 0 ≤ (pc : Int) + off := by
            have h4 := Array.all_eq_true'.mp h2 off (Array.mem_of_getElem? hoff)
            exact of_decide_eq_true h4
          exact lv_tableIn hx hbc hd (fun q => hout (Or.inl q)) (fun q => hout (Or.inr q)) hoff (by omega) (kk H locs ls hP hS hL)
        · cases hrun
    · cases hrun
  | iaload =>
    simp only [vm_act] at hrun
    split at hrun
    · next j r S =>
      split at hrun
      · next v hv =>
        simp only [Option.some.injEq, Prod.mk.injEq] at hrun; obtain ⟨rfl, rfl, rfl, rfl⟩ := hrun
        unfold vm_ald at hv
        split at hv
        · next hlt =>
          split at hv
          · next t n hr =>
            split at hv
            · next ht =>
              split at hv
              · cases hv
              · next hin =>
                cases hv
                have hat := vm_ws_at G hr
                rw [vm_ce_a] at hat
                rw [List.map_cons, List.map_cons, vm_stk_ref hP hr]
                rcases ht with rfl | ⟨h, -⟩
                · exact va_iald hx hbc hK.1 hP.1 r 0 hat rfl hin (vm_dec hck rfl (by decide)) (kk H locs ls hP hS hL)
                · exact absurd h (by decide)
            · cases hv
          · cases hv
        · rename_i hlt; split at hv
          · next h20 =>
            subst h20
            rw [if_pos rfl] at hv
            split at hv
            · cases hv
            · next hin => cases hv; exact va_sld hx hbc hX.1 hX.lt (Nat.not_le.mpr hX.2.1) hS hin (vm_dec hck rfl (by decide)) (kk H locs ls hP hS hL)
          · split at hv
            · next h => rw [if_neg (by decide)] at hv; cases hv
            · cases hv
      · cases hrun
    · cases hrun
  | baload =>
    simp only [vm_act] at hrun
    split at hrun
    · next j r S =>
      split at hrun
      · next v hv =>
        simp only [Option.some.injEq, Prod.mk.injEq] at hrun; obtain ⟨rfl, rfl, rfl, rfl⟩ := hrun
        unfold vm_ald at hv
        split at hv
        · next hlt =>
          split at hv
          · next t n hr =>
            split at hv
            · next ht =>
              split at hv
              · cases hv
              · next hin =>
                cases hv
                have hat := vm_ws_at G hr
                rw [vm_ce_a] at hat
                rw [List.map_cons, List.map_cons, vm_stk_ref hP hr]
                rcases ht with rfl | ⟨-, rfl⟩
                · exact va_bald hx hbc hK.1 hP.1 r 1 hat rfl hin (vm_dec hck rfl (by decide)) (kk H locs ls hP hS hL)
                · exact va_zald hx hbc hK.1 hP.1 r 2 hat rfl hin (vm_dec hck rfl (by decide)) (kk H locs ls hP hS hL)
            · cases hv
          · cases hv
        · rename_i hlt; split at hv
          · rw [if_neg (by decide)] at hv; cases hv
          · split at hv
            · next hodd =>
              rw [if_pos rfl] at hv
              split at hv
              · cases hv
              · next hin =>
                cases hv
                have hj8 := vm_o1 hlt hodd
                rw [List.map_cons, List.map_cons, vm_o2 hlt hodd G]
                have hE := (hX.2.2.1.1 _ hj8).2.2.2
                rw [vm_strN_len] at hE
                exact va_tb hx hbc hE hS hin rfl (vm_dec hck rfl (by decide)) (kk H locs ls hP hS hL)
            · cases hv
      · cases hrun
    · cases hrun
  | arraylength =>
    simp only [vm_act] at hrun
    split at hrun
    · next r S =>
      split at hrun
      · next n hv =>
        simp only [Option.some.injEq, Prod.mk.injEq] at hrun; obtain ⟨rfl, rfl, rfl, rfl⟩ := hrun
        unfold vm_aln at hv
        split at hv
        · next hlt =>
          split at hv
          · next t n hr =>
            cases hv
            have hat := vm_ws_at G hr
            rw [vm_ce_a] at hat
            rw [List.map_cons, vm_stk_ref hP hr]
            have ht : t < 3 := by
              rcases hP.2.2.2 r _ hr with h | h
              · exact absurd h.1 (by show ¬ (1 : Nat) = 0; decide)
              · exact h.2
            match t, ht with
            | 0, _ => exact va_alen hx hbc hK.1 hP.1 r 0 hat rfl rfl (vm_dec hck rfl (by decide)) (kk H locs ls hP hS hL)
            | 1, _ => exact va_alen hx hbc hK.1 hP.1 r 1 hat rfl rfl (vm_dec hck rfl (by decide)) (kk H locs ls hP hS hL)
            | 2, _ => exact va_alen hx hbc hK.1 hP.1 r 2 hat rfl rfl (vm_dec hck rfl (by decide)) (kk H locs ls hP hS hL)
          · cases hv
        · rename_i hlt; split at hv
          · next h20 => cases hv; subst h20; exact va_slen hx hbc hX.1 hX.lt (Nat.not_le.mpr hX.2.1) hS (vm_dec hck rfl (by decide)) (kk H locs ls hP hS hL)
          · split at hv
            · next hodd =>
              cases hv
              have hj8 := vm_o1 hlt hodd
              rw [List.map_cons, vm_o2 hlt hodd G]
              have hE := (hX.2.2.1.1 _ hj8).2.2.2
              rw [vm_strN_len] at hE
              exact va_tlen hx hbc hE hS rfl (vm_dec hck rfl (by decide)) (kk H locs ls hP hS hL)
            · cases hv
      · cases hrun
    · cases hrun
  | iastore =>
    simp only [vm_act] at hrun
    split at hrun
    · next x j r S =>
      split at hrun
      · next n hr =>
        split at hrun
        · cases hrun
        · next hin =>
          simp only [Option.some.injEq, Prod.mk.injEq] at hrun; obtain ⟨rfl, rfl, rfl, rfl⟩ := hrun
          have hat := vm_ws_at G hr
          rw [vm_ce_a] at hat
          rw [List.map_cons, List.map_cons, List.map_cons, vm_stk_ref hP hr]
          refine W.iast hx hbc (hP.1 r _ hat) ((hK.1.2 0 _ rfl).1 n (fun j => .int (σ.2.2 r j))) (fun q => by cases q) (by show ¬ (j < 0 ∨ (arrV _ _ _).slots.size ≤ _); rw [arrV_size]; exact hin) rfl rfl (vm_dec hck rfl (by decide)) fun H1 e1 e2 e3 => ?_
          obtain ⟨g1, g2⟩ := vm_ast hP hS hr rfl e1 e2 e3
          exact kk H1 _ ls g1 g2 hL
      · cases hrun
    · cases hrun
  | bastore =>
    simp only [vm_act] at hrun
    split at hrun
    · next x j r S =>
      split at hrun
      · next n hr =>
        split at hrun
        · cases hrun
        · next hin =>
          simp only [Option.some.injEq, Prod.mk.injEq] at hrun; obtain ⟨rfl, rfl, rfl, rfl⟩ := hrun
          have hat := vm_ws_at G hr
          rw [vm_ce_a] at hat
          rw [List.map_cons, List.map_cons, List.map_cons, vm_stk_ref hP hr]
          refine W.zast hx hbc (hP.1 r _ hat) ((hK.1.2 2 _ rfl).1 n (fun j => .int (σ.2.2 r j))) (fun q => by cases q) (by show ¬ (j < 0 ∨ (arrV _ _ _).slots.size ≤ _); rw [arrV_size]; exact hin) rfl rfl (vm_dec hck rfl (by decide)) fun H1 e1 e2 e3 => ?_
          rw [vm_narb] at e1
          obtain ⟨g1, g2⟩ := vm_ast hP hS hr rfl e1 e2 e3
          exact kk H1 _ ls g1 g2 hL
      · next n hr =>
        split at hrun
        · cases hrun
        · next hin =>
          simp only [Option.some.injEq, Prod.mk.injEq] at hrun; obtain ⟨rfl, rfl, rfl, rfl⟩ := hrun
          have hat := vm_ws_at G hr
          rw [vm_ce_a] at hat
          rw [List.map_cons, List.map_cons, List.map_cons, vm_stk_ref hP hr]
          refine W.bast hx hbc (hP.1 r _ hat) ((hK.1.2 1 _ rfl).1 n (fun j => .int (σ.2.2 r j))) (fun q => by cases q) (by show ¬ (j < 0 ∨ (arrV _ _ _).slots.size ≤ _); rw [arrV_size]; exact hin) rfl rfl (vm_dec hck rfl (by decide)) fun H1 e1 e2 e3 => ?_
          rw [vm_nary] at e1
          obtain ⟨g1, g2⟩ := vm_ast hP hS hr rfl e1 e2 e3
          exact kk H1 _ ls g1 g2 hL
      · cases hrun
    · cases hrun
  | getstatic idx =>
    simp only [vm_act] at hrun
    have hd := vm_dec (n := 3) hck rfl (by decide)
    simp only [vm_chk, Bool.and_eq_true, decide_eq_true_eq] at hck
    have hw := hck.2.2
    split at hrun
    · next ha => simp only [Option.some.injEq, Prod.mk.injEq] at hrun; obtain ⟨rfl, rfl, rfl, rfl⟩ := hrun; rw [if_pos ha] at hw; exact va_gets hx hbc hX.2.2.2.1 hS hown (hts _ (vm_wd_g hw (by first | rfl | simp [goodWord, Cond.onTables, Cond.keeps, Cond.steady]))) (fun _ h9 => h9) hd (kk H locs ls hP hS hL)
    · next ha =>
      simp only [Option.some.injEq, Prod.mk.injEq] at hrun; obtain ⟨rfl, rfl, rfl, rfl⟩ := hrun
      rw [if_neg ha] at hw
      simp only [Bool.and_eq_true, decide_eq_true_eq] at hw
      exact va_gets hx hbc hX.2.2.2.2.1 hS hown (hts _ (vm_wd_g hw.2 (by first | rfl | simp [goodWord, Cond.onTables, Cond.keeps, Cond.steady]))) (fun _ h9 => h9) hd (kk H locs ls hP hS hL)
  | getfield idx =>
    simp only [vm_act] at hrun
    split at hrun
    · next r S =>
      split at hrun
      · next ha =>
        split at hrun
        · next hr =>
          simp only [Option.some.injEq, Prod.mk.injEq] at hrun; obtain ⟨rfl, rfl, rfl, rfl⟩ := hrun
          have hd := vm_dec (n := 3) hck rfl (by decide)
          simp only [vm_chk, Bool.and_eq_true, decide_eq_true_eq, if_pos ha] at hck
          obtain ⟨hj8, e1, e2⟩ := vm_o3 hr G
          have h9 := kk H locs ls hP hS hL
          rw [List.map_cons, e2] at h9
          rw [List.map_cons, e1]
          exact vk_getf hx hbc (hX.2.2.1.1 _ hj8).2.2.1 hS hown (hts _ (vm_wd_g hck.2.2 (by first | rfl | simp [goodWord, Cond.onTables, Cond.keeps, Cond.steady]))) (fun _ h9 => h9) hd h9
        · cases hrun
      · next ha =>
        split at hrun
        · next ha1 =>
          split at hrun
          · next hr =>
            simp only [Option.some.injEq, Prod.mk.injEq] at hrun; obtain ⟨rfl, rfl, rfl, rfl⟩ := hrun
            have hd := vm_dec (n := 3) hck rfl (by decide)
            simp only [vm_chk, Bool.and_eq_true, decide_eq_true_eq, if_neg ha, if_pos ha1] at hck
            obtain ⟨hj8, e1, e2⟩ := vm_o3 hr G
            rw [List.map_cons, e1]
            exact vk_getf hx hbc (hX.2.2.1.1 _ hj8).2.1 hS hown (hts _ (vm_wd_g hck.2.2 (by first | rfl | simp [goodWord, Cond.onTables, Cond.keeps, Cond.steady]))) (fun _ h9 => h9) hd (kk H locs ls hP hS hL)
          · cases hrun
        · next ha1 =>
          split at hrun
          · next ci n hr =>
            split at hrun
            · next hcb =>
              simp only [Option.some.injEq, Prod.mk.injEq] at hrun; obtain ⟨rfl, rfl, rfl, rfl⟩ := hrun
              obtain ⟨rfl, hb⟩ := hcb
              exact vm_getf C hP ha ha1 hck hr hb (kk H locs ls hP hS hL)
            · cases hrun
          · cases hrun
    · cases hrun
  | putfield idx =>
    simp only [vm_act] at hrun
    split at hrun
    · next x r S =>
      split at hrun
      · next ci n hr =>
        split at hrun
        · next hcb =>
          simp only [Option.some.injEq, Prod.mk.injEq] at hrun; obtain ⟨rfl, rfl, rfl, rfl⟩ := hrun
          obtain ⟨rfl, hb, hI⟩ := hcb
          have hty : vm_ty ci b = .int := by
            unfold vm_isI at hI
            split at hI
            · assumption
            · cases hI
          exact vm_putf C hP hS hck hr hb (σ' := (σ.1, σ.2.1, vm_u2 σ.2.2 r b x)) (v := .int x) rfl (fun _ _ => rfl) (fun i hi => by funext j; simp [vm_u2, hi])
            (fun j hj => by
              by_cases hjb : j = b
              · subst hjb; simp [vm_fv, hI, vm_u2, vm_v]
              · rw [if_neg hjb]; unfold vm_fv; simp [vm_u2, hjb]) (by rw [hty]; rfl) (by rw [hty]; rfl) (fun H' locs' h1 h2 => kk H' locs' ls h1 h2 hL)
        · cases hrun
      · cases hrun
    · next x r S =>
      split at hrun
      · next ci n hr =>
        split at hrun
        · next hcb =>
          simp only [Option.some.injEq, Prod.mk.injEq] at hrun; obtain ⟨rfl, rfl, rfl, rfl⟩ := hrun
          obtain ⟨rfl, hb, hI, hx1⟩ := hcb
          have hck2 := hck
          simp only [vm_chk, Bool.and_eq_true, decide_eq_true_eq] at hck2
          have hty := vm_ty_kind ci hck2.2.2.1 b hck2.2.2.2.1
          have hty2 : (∃ n, vm_ty ci b = .object n) ∨ ∃ t, vm_ty ci b = .array t := by
            rcases hty with h | h
            · exact absurd hI (by unfold vm_isI; rw [h]; decide)
            · exact h.2
          exact vm_putf C hP hS hck hr hb (σ' := (σ.1, vm_u2 σ.2.1 r b (some x), σ.2.2)) (v := vm_v G (.ref x)) rfl (fun i hi => by funext j; simp [vm_u2, hi]) (fun _ _ => rfl)
            (fun j hj => by
              by_cases hjb : j = b
              · subst hjb; simp [vm_fv, hI, vm_u2, vm_rv]
              · rw [if_neg hjb]; unfold vm_fv; simp [vm_u2, hjb])
            (by rw [show vm_v G (.ref x) = .ref (G.1 + x) from vm_mp_lt G hx1]; rcases hty2 with ⟨n, h⟩ | ⟨t, h⟩ <;> rw [h] <;> rfl) (by rw [show vm_v G (.ref x) = .ref (G.1 + x) from vm_mp_lt G hx1]; rcases hty2 with ⟨n, h⟩ | ⟨t, h⟩ <;> rw [h] <;> rfl) (fun H' locs' h1 h2 => kk H' locs' ls h1 h2 hL)
        · cases hrun
      · cases hrun
    · cases hrun
  | _ => exact absurd hrun (by simp [vm_act])
end VMC
end
section
/-! CALLS: contracts out of our machine's runs -/
section VMD
variable {p : Program} {l : Launch} {e : Env} {R : Room} {s : State} {m : MethodId} {args : Array Value} {below : List Frame} {meth : Method} {c : Code} {H : Heap} {locs : List Loc} {cells slots : Nat} {Q : State → Prop}
variable {G : vm_G} {X : Nat × (Nat → Int32)} {k : Nat}
def vm_B (G : vm_G) (X : Nat × (Nat → Int32)) (σ : vm_St) : State → Prop := fun U => vm_KW G U ∧ vm_XW G X U U.heap ∧ vm_PW G σ U.heap
def vm_Qp (G : vm_G) (r : Option Value) (σ : vm_St) : Array Value → State → Outcome → State → Prop := fun _ st oc t => (oc = .returned (r.map (vm_v G)) ∧ vm_PW G σ t.heap) ∧ va_F (vm_A G) st t
def vm_rm (k : Nat) : Room := { frames := vm_rf k, cells := vm_mc k, slots := vm_ms k, locals := vm_rl k }
theorem vm_blind {av : List Value} {σ : vm_St} : FrameBlind (va_Pc av (vm_B G X σ)) := by
  intro a U g mk q
  obtain ⟨q1, q2, q3, q4⟩ := q
  exact ⟨q1, vm_KW.warm (U := U.calling g mk a) (State.WarmedH.refl U) q2, vm_XW.warm (U := U.calling g mk a) (Vm.Alike.refl U.vm) q3, q4⟩
theorem vm_pre (C : vm_C G X k p s m args meth c) {σ : vm_St} (hP : vm_PW G σ H) (hS : va_S (vm_A G) s.heap H locs) (av : List Value) : ∀ U : State, U.heap = H → s.WarmedH U.vm → va_Pc av (vm_B G X σ) av.toArray U := by
  intro U hU hW
  obtain ⟨hx, hb, hml, hown, hts, hin, hK, hX, hk⟩ := C
  refine ⟨rfl, hK.warm hW, ?_, by rw [hU]; exact hP⟩
  rw [hU]
  exact (hX.kept hX.lt (fun a h1 h2 => hS.2.1 a h1 h2)).warm hW.alike
theorem vm_callx {σ : vm_St} {r : Option Value} {pc : Nat} {ls : Array Slot} {st0 rest : List Value} {mc ms : Nat} {a : Array Value} (hr : va_Run p l e R s m args below meth c H locs cells slots mc ms (F0 m pc ls st0) rest (vm_Qp G r σ a) (vm_A G))
    (hS : va_S (vm_A G) s.heap H locs)
    (kk : ∀ (H1 : Heap) (locs1 : List Loc), vm_PW G σ H1 → va_S (vm_A G) s.heap H1 locs1 → W p l e R s m args below meth c H1 locs1 (cells + mc) (slots + ms) Q (F0 m (pc + 3) ls ((r.map (vm_v G)).toList ++ rest))) :
    W p l e R s m args below meth c H locs cells slots Q (F0 m pc ls st0) := by
  intro T hT X'
  obtain ⟨v, st₀, t, T', L, h0, X', hL, e1, e2, ⟨⟨hv, hp⟩, hz, hk⟩, st⟩ := hr T hT X'
  cases hv
  rw [h0] at hz hk
  obtain ⟨t2, a1, b1⟩ := kk T'.heap (locs ++ L) (by rw [e1]; exact hp)
    ⟨Nat.le_trans hS.1 (by rw [e1]; exact hz), fun q h1 h2 => by rw [e1, hk q (Nat.lt_of_lt_of_le h1 hS.1) h2]; exact hS.2.1 q h1 h2, fun q hq => by
      rcases List.mem_append.mp hq with h | h
      · exact hS.2.2 q h
      · exact hL q h⟩ T' rfl X'
  exact ⟨t2, st t2 a1, b1⟩
theorem vm_wt_map (hf : vm_fm G = .null ∨ ∃ a, vm_fm G = .ref a) (S : List Value) : ((S.map (vm_v G)).map fun v => v.category).sum = vm_wt S := by
  unfold vm_wt
  rw [List.map_map]
  congr 1
  apply List.map_congr_left
  intro v _
  exact vm_v_cat G hf v
/-- what is asked at a call -/
def vm_K3 (k a : Nat) : Prop := a < 180 ∧ vm_rf a + 1 ≤ vm_rf k ∧ 8 + (vm_ml a + 11) + vm_rl a ≤ vm_rl k
theorem vm_ccB (C : vm_C G X k p s m args meth c) {a idx : Nat} (h3 : vm_K3 k a) (hRf : vm_rf k ≤ R.frames) (hRl : vm_rl k ≤ R.locals) (hlink : (Cond.methodLink (vm_own k) idx (vm_y a)).before args s = true) :
    CallB R s args (vm_own k) idx (vm_y a) (vm_b a) (vm_ml a) (vm_ret a) (vm_wsK a) (vm_rm a) (vm_mc a) (vm_ms a) (vm_np a) := by
  obtain ⟨hx, hb, hml, hown, hts, hin, hK, hX, hk⟩ := C
  have h2 := vm_chk3_all h3.1
  unfold vm_chk3 at h2
  simp only [Bool.and_eq_true, decide_eq_true_eq] at h2
  obtain ⟨w2, w3, w4, w5, w6, w7, w8⟩ := h2
  refine callB_of (vm_np a) hts (vm_wsK_good h3.1) rfl rfl rfl ?_ hlink ⟨w5.1, w5.2, w6⟩ ⟨Nat.le_trans h3.2.1 hRf, Nat.le_trans h3.2.2 hRl⟩
  rw [w4]
  exact hts _ (vm_wd_g w3 (by first | rfl | simp [goodWord, Cond.onTables, Cond.keeps, Cond.steady]))
theorem vm_ccN (C : vm_C G X k p s m args meth c) {a idx : Nat} (h3 : vm_K3 k a) (hRf : vm_rf k ≤ R.frames) (hRl : vm_rl k ≤ R.locals) (hlink : va_Nw (.methodLinkNest (vm_own k) idx (vm_y a) "BirchLeaf") s) :
    va_CN R s args (vm_own k) idx (vm_y a) "BirchLeaf" (vm_b a) (vm_ml a) (vm_ret a) (vm_wsK a) (vm_rm a) (vm_mc a) (vm_ms a) (vm_np a) := by
  obtain ⟨hx, hb, hml, hown, hts, hin, hK, hX, hk⟩ := C
  have h2 := vm_chk3_all h3.1
  unfold vm_chk3 at h2
  simp only [Bool.and_eq_true, decide_eq_true_eq] at h2
  obtain ⟨w2, w3, w4, w5, w6, w7, w8⟩ := h2
  refine va_cnB (vm_np a) hts (vm_wsK_good h3.1) rfl rfl rfl hlink ?_ ⟨w5.1, w5.2, w6⟩ ⟨Nat.le_trans h3.2.1 hRf, Nat.le_trans h3.2.2 hRl⟩
  rw [w4]
  exact hts _ (vm_wd_g w3 (by first | rfl | simp [goodWord, Cond.onTables, Cond.keeps, Cond.steady]))
theorem vm_cInst (C : vm_C G X k p s m args meth c) {a : Nat} (ha : a < 180) (hkd : vm_kind a ≠ 1) : (Cond.instanceMethod (vm_y a)).before args s = true := by
  have h2 := vm_chk3_all ha
  unfold vm_chk3 at h2
  simp only [Bool.and_eq_true, decide_eq_true_eq, if_neg hkd] at h2
  exact C.2.2.2.2.1 _ (vm_wd_g h2.1 (by first | rfl | simp [goodWord, Cond.onTables, Cond.keeps, Cond.steady]))
theorem vm_cStat (C : vm_C G X k p s m args meth c) {a : Nat} (ha : a < 180) (hkd : vm_kind a = 1) : (Cond.static (vm_y a)).before args s = true := by
  have h2 := vm_chk3_all ha
  unfold vm_chk3 at h2
  simp only [Bool.and_eq_true, decide_eq_true_eq, if_pos hkd] at h2
  exact C.2.2.2.2.1 _ (vm_wd_g h2.1 (by first | rfl | simp [goodWord, Cond.onTables, Cond.keeps, Cond.steady]))
theorem vm_cSel (C : vm_C G X k p s m args meth c) {a : Nat} (ha : a < 180) (hkd : vm_kind a = 0) : (Cond.selects (vm_own a) (vm_y a) (vm_y a)).before args s = true := by
  have h2 := vm_chk3_all ha
  unfold vm_chk3 at h2
  simp only [Bool.and_eq_true, decide_eq_true_eq, if_pos hkd] at h2
  obtain ⟨w2, w3, w4, w5, w6, w7, w8, w9⟩ := h2
  rw [← w4]
  exact C.2.2.2.2.1 _ (vm_TG_in (vm_wd2_in w8) (by first | rfl | simp [goodWord, Cond.onTables, Cond.keeps, Cond.steady]))
theorem vm_recv (C : vm_C G X k p s m args meth c) {σ : vm_St} (hP : vm_PW G σ H) (hS : va_S (vm_A G) s.heap H locs) {a : Nat} (ha : a < 180) (hkd : vm_kind a ≠ 1) {v : Value} (hr : vm_rc σ a v = true) :
    ∃ b : Nat, vm_v G v = .ref b ∧ ∃ cellB : Cell, H[b]? = some cellB ∧ cellB.vm.isStatics = false ∧ s.vm.findClass (vm_own a) = some cellB.cls := by
  obtain ⟨hx, hb, hml, hown, hts, hin, hK, hX, hk⟩ := C
  have h2 := vm_chk3_all ha
  unfold vm_chk3 at h2
  simp only [Bool.and_eq_true, decide_eq_true_eq, if_neg hkd] at h2
  obtain ⟨w2, w3, w4, w5, w6, w7, w8, w9, w10, w11⟩ := h2
  unfold vm_rc at hr
  split at hr
  · next r =>
    split at hr
    · next hlt =>
      split at hr
      · next ci n hci =>
        have hci2 : ci = vm_ci a := by simpa using hr
        rcases hP.2.2.2 r _ hci with h | h
        · have h8 : ci < 8 := h.2.1
          have hn : ¬ vm_ci a = 100 := by omega
          rw [if_neg hn] at w10
          simp only [Bool.and_eq_true, decide_eq_true_eq] at w10
          have hat := vm_ws_at G hci
          rw [vm_ce_o] at hat
          refine ⟨G.1 + r, vm_mp_lt G hlt, ?_⟩
          have := va_recv hK.1 hP.1 (vm_cl_at h8) hat
          rw [w10.2, ← hci2]
          exact this
        · exact absurd h.1 (by show ¬ (0 : Nat) = 1; decide)
      · cases hr
    · next hlt =>
      simp only [Bool.and_eq_true, decide_eq_true_eq, beq_iff_eq] at hr
      obtain ⟨h100, h1016, heven⟩ := hr
      rw [if_pos h100] at w10
      obtain ⟨hj8, e1, -⟩ := vm_o3 (r := r) ⟨by exact Nat.not_lt.mp hlt, h1016, heven⟩ G
      refine ⟨_, e1, ?_⟩
      rw [of_decide_eq_true w10]
      exact vk_recv hX.2.2.1 hj8 hS
  · cases hr
theorem vm_S_split {S : List Value} {n : Nat} (h : (S.take n).length = n) : S = (S.take n) ++ S.drop n := (List.take_append_drop n S).symm
end VMD
end
section
section VME
variable {p : Program} {l : Launch} {e : Env} {R : Room} {s : State} {m : MethodId} {args : Array Value} {below : List Frame} {meth : Method} {c : Code} {H : Heap} {locs : List Loc} {cells slots : Nat} {Q : State → Prop}
variable {G : vm_G} {X : Nat × (Nat → Int32)} {k : Nat}
theorem vm_find_mem : ∀ {l : List vm_En} {pc : Nat} {q : Instr × Nat × Nat × Nat × Nat × Nat × Int}, vm_find l pc = some q → (pc, q) ∈ l
  | [], _, _, h => by cases h
  | e :: l, pc, q, h => by
    unfold vm_find at h
    split at h
    · next he => cases h; rw [← he]; exact List.mem_cons_self
    · exact List.mem_cons_of_mem _ (vm_find_mem h)
theorem vm_ins_ck {k pc : Nat} (hk : k < 181) {i : Instr} {len a b cx d : Nat} {z : Int} (h : vm_ins k pc = some (i, len, a, b, cx, d, z)) : vm_chk k (pc, i, len, a, b, cx, d, z) = true := vm_chk_all hk (vm_find_mem h)
theorem vm_sl_get (hf : vm_fm G = .null ∨ ∃ a, vm_fm G = .ref a) : ∀ (as : List Value) (o i : Nat) (w : Value), (vm_sl as)[i]? = some w → w ≠ .null → (o + i, vm_v G w) ∈ lv_args o (as.map (vm_v G))
  | [], _, _, _, h, _ => by simp [vm_sl] at h
  | v :: vs, o, i, w, h, hw => by
    unfold vm_sl at h
    rw [List.map_cons, lv_args, vm_v_cat G hf]
    split at h
    · next hc =>
      rw [if_pos hc]
      match i, h with
      | 0, h => cases h; exact List.mem_cons_self
      | 1, h => cases h; exact absurd rfl hw
      | i + 2, h =>
        have := vm_sl_get hf vs (o + 2) i w h hw
        rw [show o + (i + 2) = o + 2 + i by omega]
        exact List.mem_cons_of_mem _ this
    · next hc =>
      rw [if_neg hc]
      match i, h with
      | 0, h => cases h; exact List.mem_cons_self
      | i + 1, h =>
        have := vm_sl_get hf vs (o + 1) i w h hw
        rw [show o + (i + 1) = o + 1 + i by omega]
        exact List.mem_cons_of_mem _ this
theorem vm_sl_len (hf : vm_fm G = .null ∨ ∃ a, vm_fm G = .ref a) : ∀ (as : List Value), (lg_sl (as.map (vm_v G))).length = (vm_sl as).length
  | [] => rfl
  | v :: vs => by
    have h := vm_sl_len hf vs
    unfold lg_sl at h ⊢
    unfold vm_sl
    rw [List.map_cons, List.flatMap_cons, vm_v_cat G hf, List.length_append, h]
    split
    · simp; omega
    · simp; omega
theorem vm_entry_LV (hf : vm_fm G = .null ∨ ∃ a, vm_fm G = .ref a) {ls : Array Slot} {as : List Value} (hle : (vm_sl as).length ≤ vm_ml k) (h : lv_has ls (vm_ml k) (lv_args 0 (as.map (vm_v G)))) : vm_LV G ls (vm_ml k) (vm_entry k as) := by
  refine ⟨h.1, h.2.1, by simp [vm_entry]; omega, fun i v hi hv => ?_⟩
  unfold vm_entry at hi
  by_cases hl : i < (vm_sl as).length
  · rw [List.getElem?_append_left hl] at hi
    have h1 := vm_sl_get hf as 0 i v hi hv
    rw [Nat.zero_add] at h1
    exact h.2.2 _ h1
  · rw [List.getElem?_append_right (by omega)] at hi
    rw [List.getElem?_replicate] at hi
    split at hi
    · cases hi; exact absurd rfl hv
    · cases hi
/-- what a run of our machine promises of the real one -/
def vm_OK (l : Launch) (G : vm_G) (X : Nat × (Nat → Int32)) (n : Nat) : Prop :=
  ∀ (k pc : Nat) (L S : List Value) (bc bs : Nat) (σ σ' : vm_St) (r : Option Value), vm_run X n k pc L S bc bs σ = some (r, σ') →
  ∀ (p : Program) (e : Env) (R : Room) (s : State) (m : MethodId) (args : Array Value) (below : List Frame) (meth : Method) (c : Code) (H : Heap) (locs : List Loc) (cells slots : Nat) (Q : State → Prop) (ls : Array Slot),
    vm_C G X k p s m args meth c → vm_rf k ≤ R.frames → vm_rl k ≤ R.locals → vm_PW G σ H → va_S (vm_A G) s.heap H locs → vm_LV G ls (vm_ml k) L → cells + bc ≤ R.cells → slots + bs ≤ R.slots →
    (∀ (i : Instr) (len a b cx d : Nat) (z : Int) (pc' : Nat) (S' : List Value) (H' : Heap) (locs' : List Loc) (ls' : Array Slot) (cells' slots' : Nat), vm_chk k (pc', i, len, a, b, cx, d, z) = true → vm_rt k i S' = some r → vm_PW G σ' H' → va_S (vm_A G) s.heap H' locs' → cells' ≤ cells + bc → slots' ≤ slots + bs →
      W p l e R s m args below meth c H' locs' cells' slots' Q (F0 m pc' ls' (S'.map (vm_v G)))) →
    W p l e R s m args below meth c H locs cells slots Q (F0 m pc ls (S.map (vm_v G)))
theorem vm_len_ret {i : Instr} {k : Nat} {S : List Value} {r : Option Value} (h : vm_rt k i S = some r) : vm_len i = 1 := by
  cases i <;> first | rfl | (simp [vm_rt] at h; done)
/-- the end of a method -/
theorem vm_leave (hx : p.tables.exec = Jvm.exec) (hb : c.code = vm_b k) (hr : meth.sig.returnType = vm_ret k) (hlocks : meth.locks = false) {r : Option Value} {Qc : Array Value → State → Outcome → State → Prop} {free : Addr → Prop}
    {i : Instr} {len a b cx d pc : Nat} {z : Int} {S : List Value} {ls : Array Slot} (hck : vm_chk k (pc, i, len, a, b, cx, d, z) = true) (hrt : vm_rt k i S = some r)
    (hq : ∀ t : State, t.heap = H → s.WarmedH t.vm → Qc args s (.returned (r.map (vm_v G))) t) (hf : ∀ q ∈ locs, free q.base) :
    W p l e R s m args below meth c H locs cells slots (MQ below Qc args s cells slots free) (F0 m pc ls (S.map (vm_v G))) := by
  have hd := vm_dec hck (vm_len_ret hrt) (by decide)
  cases i with
  | ireturn =>
    simp only [vm_rt] at hrt
    split at hrt
    · next x he => cases hrt; exact W.iret hx hb (by rw [hr, he]) hq hf hd
    · next x he =>
      split at hrt
      · next h01 => cases hrt; exact W.zret hx hb (ty := .boolean) (by rw [hr, he]) (by rcases h01 with rfl | rfl <;> rfl) hq hf hd
      · cases hrt
    · next x he =>
      split at hrt
      · next h01 => cases hrt; exact W.zret hx hb (ty := .byte) (by rw [hr, he]) (by first | (rw [vm_nary]; done) | (rw [vm_nary]; congr 1; done) | (rw [vm_nary]; congr 1; rw [← h01]; exact pk_vb _)) hq hf hd
      · cases hrt
    · next x he =>
      split at hrt
      · next h01 => cases hrt; exact W.zret hx hb (ty := .char) (by rw [hr, he]) (by rw [← h01]; exact pk_nc _) hq hf hd
      · cases hrt
    · cases hrt
  | lreturn =>
    simp only [vm_rt] at hrt
    split at hrt
    · next x he => cases hrt; exact W.lret hx hb (by rw [hr, he]) hq hf hd
    · cases hrt
  | areturn =>
    simp only [vm_rt] at hrt
    split at hrt
    · next x nn he =>
      split at hrt
      · next hlt =>
        cases hrt
        exact W.aret hx hb (rt := .object nn) (by rw [hr, he]) (Or.inl ⟨_, rfl⟩) (Or.inr ⟨_, vm_mp_lt G hlt⟩) hq hf hd
      · cases hrt
    · cases hrt
  | return_ =>
    simp only [vm_rt] at hrt
    split at hrt
    · next he => cases hrt; exact W.vret hx hb (by rw [hr, he]) hq hf hd
    · cases hrt
  | _ => exact absurd hrt (by simp [vm_rt])
/-- the contract of a method, out of its run -/
theorem vm_met {n : Nat} (ih : vm_OK l G X n) {a : Nat} (ha : a < 180) {as : List Value} (hle : (vm_sl as).length ≤ vm_ml a) {σ σ' : vm_St} {r : Option Value} (hrun : vm_run X n a 0 (vm_entry a as) [] (vm_mc a) (vm_ms a) σ = some (r, σ')) :
    Met l (vm_y a) (vm_wsK a) (vm_rm a) (va_Pc (as.map (vm_v G)) (vm_B G X σ)) (vm_Qp G r σ') (vm_mc a) (vm_ms a) (vm_A G) := by
  have h2 := vm_chk3_all ha
  unfold vm_chk3 at h2
  simp only [Bool.and_eq_true, decide_eq_true_eq] at h2
  obtain ⟨w2, w3, w4, w5, w6, w7, w8⟩ := h2
  refine Met.ofW (cc := vm_b a) (maxL := vm_ml a) (ret := vm_ret a) w7 rfl ?_
  intro p e s m args below meth c s₁ B hml hv
  obtain ⟨rfl, hK, hX, hP⟩ := hv
  have hx := B.exec
  have hb := B.bytes
  have hr := B.returns
  have hts0 := atoms_spec (ws := vm_wsK a) B.pre
  have hts : ∀ w ∈ vm_TG, w.before _ s = true := fun w hw => hts0 w (List.mem_cons_of_mem _ hw)
  have hown : s.vm.findClass (vm_y a).cls = some m.cls := findClass_of_methodNamed B.named
  rw [w4] at hown
  have hlocks := B.notSynchronized
  have hnm : meth.name = (vm_y a).name := (name_of_methodNamed B.named B.method).1
  have hf := hX.2.2.2.2.2
  have hl := lv_entry (as.map (vm_v G)) (n := vm_ml a) (by rw [vm_sl_len hf]; exact hle)
  rw [lg_entry_eq]
  generalize (lg_sl (as.map (vm_v G)) ++ List.replicate (vm_ml a - (lg_sl (as.map (vm_v G))).length) Slot.unset).toArray = ls at hl ⊢
  have C : vm_C G X a p s m _ meth c := ⟨hx, hb, hml, hown, hts, (fun h => hnm.trans h), hK, hX, by omega⟩
  refine ih a 0 (vm_entry a as) [] (vm_mc a) (vm_ms a) σ σ' r hrun p e _ s m _ below meth c s.heap [] 0 0 _ ls C (Nat.le_refl _) (Nat.le_refl _) hP va_S.rf (vm_entry_LV hf hle hl) (by rw [Nat.zero_add]; exact Nat.le_refl _) (by rw [Nat.zero_add]; exact Nat.le_refl _) ?_
  intro i len a' b cx d z pc' S' H' locs' ls' cells' slots' hck hrt hP' hS' h1 h2
  refine W.widen (k := vm_mc a) (n := vm_ms a) (by omega) (by omega) ?_
  exact vm_leave hx hb hr hlocks hck hrt (fun t ht hW => ⟨⟨rfl, by rw [ht]; exact hP'⟩, hS'.F ht⟩) (fun q hq => hS'.2.2 q hq)
end VME
end
section
/-! what makes cells, and the row that copies a stretch of an array -/
section VMF
variable {p : Program} {l : Launch} {e : Env} {R : Room} {s : State} {m : MethodId} {args : Array Value} {below : List Frame} {meth : Method} {c : Code} {H : Heap} {locs : List Loc} {cells slots : Nat} {Q : State → Prop}
variable {G : vm_G} {X : Nat × (Nat → Int32)} {k : Nat}
theorem vm_cl_words : ∀ c, c < 8 → (Cond.instantiable (vm_cls c).1 (vm_cls c).2.2 ∈ tables_1 ∧ goodWord (Cond.instantiable (vm_cls c).1 (vm_cls c).2.2) = true) ∧ (Cond.initialized (vm_cls c).1 ∈ tables_1 ∧ goodWord (Cond.initialized (vm_cls c).1) = true) := by
  have h : (List.range 8).all (fun c => (decide (Cond.instantiable (vm_cls c).1 (vm_cls c).2.2 ∈ tables_1) && goodWord (Cond.instantiable (vm_cls c).1 (vm_cls c).2.2)) && (decide (Cond.initialized (vm_cls c).1 ∈ tables_1) && goodWord (Cond.initialized (vm_cls c).1))) = true := by decide +kernel
  intro c hc
  have h1 := List.all_eq_true.mp h c (List.mem_range.mpr hc)
  simp only [Bool.and_eq_true, decide_eq_true_eq] at h1
  exact h1
theorem vm_words3 : ∀ w ∈ [Cond.arrayClass .int, Cond.arrayClass .byte, Cond.arrayClass .boolean, Cond.instanceMethod objectInit, Cond.native arraycopyName, Cond.static arraycopyName, Cond.initialized "java/lang/System"], w ∈ vm_TG := by
  have h : [Cond.arrayClass .int, Cond.arrayClass .byte, Cond.arrayClass .boolean, Cond.instanceMethod objectInit, Cond.native arraycopyName, Cond.static arraycopyName, Cond.initialized "java/lang/System"].all (fun w => decide (w ∈ tables_1) && goodWord w) = true := by decide +kernel
  intro w hw
  have h1 := List.all_eq_true.mp h w hw
  simp only [Bool.and_eq_true, decide_eq_true_eq] at h1
  exact vm_TG_in (List.mem_append_right _ h1.1) h1.2
theorem vm_words4 : Cond.code objectInit ⟨#[0xb1]⟩ 1 none ∈ vm_TG := by
  have h : decide (Cond.code objectInit ⟨#[0xb1]⟩ 1 none ∈ tables_1) = true := by decide +kernel
  exact vm_TG_in (List.mem_append_right _ (of_decide_eq_true h)) vm_good_code
theorem vm_words5 : ∀ w ∈ [Cond.static Lib.Math.max.name, Cond.static Lib.Math.min.name, Cond.initialized "java/lang/Math"], w ∈ vm_TG := by
  have h : [Cond.static Lib.Math.max.name, Cond.static Lib.Math.min.name, Cond.initialized "java/lang/Math"].all (fun w => decide (w ∈ tables_1) && goodWord w) = true := by decide +kernel
  intro w hw
  have h1 := List.all_eq_true.mp h w hw
  simp only [Bool.and_eq_true, decide_eq_true_eq] at h1
  exact vm_TG_in (List.mem_append_right _ h1.1) h1.2
theorem vm_words6 : Cond.code Lib.Math.max.name Lib.Math.max.code 2 (some .int) ∈ vm_TG ∧ Cond.code Lib.Math.min.name Lib.Math.min.code 2 (some .int) ∈ vm_TG := by
  have h : decide (Cond.code Lib.Math.max.name Lib.Math.max.code 2 (some .int) ∈ tables_1) && decide (Cond.code Lib.Math.min.name Lib.Math.min.code 2 (some .int) ∈ tables_1) = true := by decide +kernel
  simp only [Bool.and_eq_true, decide_eq_true_eq] at h
  exact ⟨vm_TG_in (List.mem_append_right _ h.1) vm_good_code, vm_TG_in (List.mem_append_right _ h.2) vm_good_code⟩
theorem vm_ws_new (G : vm_G) (σ : vm_St) (sh : vm_Sh) : vm_ws G (vm_new σ sh) = vm_ws G σ ++ [(G.1 + σ.1.length, vm_ce G (vm_new σ sh) σ.1.length sh)] := by
  apply List.ext_getElem?
  intro i
  by_cases hl : i < σ.1.length
  · rw [List.getElem?_append_left (by rw [vm_ws_len]; exact hl)]
    have h1 : (vm_new σ sh).1[i]? = some σ.1[i] := by
      show (σ.1 ++ [sh])[i]? = _
      rw [List.getElem?_append_left hl, List.getElem?_eq_getElem hl]
    rw [vm_ws_at G h1, vm_ws_at G (List.getElem?_eq_getElem hl)]
    have e : vm_ce G (vm_new σ sh) i σ.1[i] = vm_ce G σ i σ.1[i] := vm_ce_same G (by funext j; simp [vm_new, Nat.ne_of_lt hl]) (by funext j; simp [vm_new, Nat.ne_of_lt hl]) _
    rw [e]
  · rw [List.getElem?_append_right (by rw [vm_ws_len]; omega), vm_ws_len]
    by_cases he : i = σ.1.length
    · subst he
      have h1 : (vm_new σ sh).1[σ.1.length]? = some sh := by
        show (σ.1 ++ [sh])[_]? = _
        rw [List.getElem?_append_right (Nat.le_refl _), Nat.sub_self]
        rfl
      rw [vm_ws_at G h1, Nat.sub_self]
      rfl
    · rw [List.getElem?_eq_none (by rw [vm_ws_len]; show (σ.1 ++ [sh]).length ≤ i; rw [List.length_append]; simp; omega), List.getElem?_eq_none (by simp; omega)]
/-- the world behind a new cell -/
theorem vm_grown {σ : vm_St} (hP : vm_PW G σ H) (hS : va_S (vm_A G) s.heap H locs) {sh : vm_Sh} (hlt : σ.1.length < 1000) (hok : (sh.1 = 0 ∧ sh.2.1 < 8 ∧ sh.2.2 = (vm_cls sh.2.1).2.2) ∨ (sh.1 = 1 ∧ sh.2.1 < 3)) {H' : Heap}
    (e1 : va_at (vm_D G) vwCl (H.size, vm_ce G (vm_new σ sh) σ.1.length sh) H') (e2 : H'.size = H.size + 1) (e3 : ∀ q, q < H.size → H'[q]? = H[q]?) : vm_PW G (vm_new σ sh) H' ∧ va_S (vm_A G) s.heap H' locs := by
  refine ⟨⟨?_, ?_, ?_, ?_⟩, Nat.le_trans hS.1 (by omega), fun x h1 h2 => (e3 x (Nat.lt_of_lt_of_le h1 hS.1)).trans (hS.2.1 x h1 h2), hS.2.2⟩
  · rw [vm_ws_new]
    refine (hP.1.kept (fun k x hx => e3 x.1 ((hP.1 k x hx).lt))).app (fun k x hx => ?_)
    have hz : k < 1 := (List.getElem?_eq_some_iff.mp hx).1
    rw [show k = 0 by omega] at hx
    cases hx
    rw [hP.2.1]
    exact e1
  · show G.1 + (σ.1 ++ [sh]).length = _
    rw [e2, ← hP.2.1, List.length_append]
    rfl
  · show (σ.1 ++ [sh]).length ≤ 1000
    rw [List.length_append]
    show σ.1.length + 1 ≤ 1000
    omega
  · intro r s' hr
    by_cases hl : r < σ.1.length
    · have h1 : σ.1[r]? = some s' := by
        rw [← hr]
        show _ = (σ.1 ++ [sh])[r]?
        rw [List.getElem?_append_left hl]
      exact hP.2.2.2 r s' h1
    · have h1 : (σ.1 ++ [sh])[r]? = some s' := hr
      rw [List.getElem?_append_right (by omega)] at h1
      have hz : r - σ.1.length < 1 := (List.getElem?_eq_some_iff.mp h1).1
      rw [show r - σ.1.length = 0 by omega] at h1
      cases h1
      exact hok
theorem vm_newO (C : vm_C G X k p s m args meth c) {σ : vm_St} (hP : vm_PW G σ H) (hS : va_S (vm_A G) s.heap H locs) {ls : Array Slot} {pc len a b cx d idx : Nat} {z : Int} {rest : List Value} (hck : vm_chk k (pc, .new idx, len, a, b, cx, d, z) = true)
    (hlt : σ.1.length < 1000) (hc : cells + 1 ≤ R.cells) (hs : slots + b ≤ R.slots)
    (kk : ∀ (H' : Heap), vm_PW G (vm_new σ (0, a, b)) H' → va_S (vm_A G) s.heap H' locs → W p l e R s m args below meth c H' locs (cells + 1) (slots + b) Q (F0 m (pc + 3) ls (vm_v G (.ref σ.1.length) :: rest))) : W p l e R s m args below meth c H locs cells slots Q (F0 m pc ls rest) := by
  obtain ⟨hx, hbc, hml, hown, hts, hin, hK, hX, hk⟩ := C
  have hd := vm_dec hck (n := 3) rfl (by decide)
  simp only [vm_chk, Bool.and_eq_true, decide_eq_true_eq] at hck
  obtain ⟨-, -, ha, hb, hw⟩ := hck
  subst hb
  have hw2 := vm_cl_words a ha
  have hKn := hK.1.1 a _ (vm_cl_at ha)
  refine W.newcK hx hbc hown (hts _ (vm_wd_g hw (by first | rfl | simp [goodWord, Cond.onTables, Cond.keeps, Cond.steady]))) (hts _ (vm_TG_in (List.mem_append_right _ hw2.1.1) hw2.1.2)) (hts _ (vm_TG_in (List.mem_append_right _ hw2.2.1) hw2.2.2)) rfl hd hc hs hKn.2.1 rfl fun H1 kC hkC e1 z1 o1 => ?_
  have hg := vm_grown (s := s) (locs := locs) (sh := (0, a, (vm_cls a).2.2)) hP hS hlt (Or.inl ⟨rfl, ha, rfl⟩) (H' := H1) (by
    rw [vm_ce_o]
    refine ⟨_, vm_cl_at ha, (u_born (vm_ty a) hts (vm_ws_in ha) hKn hkC e1 (vm_ty_ok a ha)).to (fun j hj => ?_)⟩
    have hj' : j < (vm_cls a).2.2 := hj
    have e : vp_V ((List.range (vm_cls a).2.2).map (fun j => vm_v G (vm_fv (vm_new σ (0, a, (vm_cls a).2.2)) σ.1.length a j))) j = vm_v G (vm_fv (vm_new σ (0, a, (vm_cls a).2.2)) σ.1.length a j) := by
      unfold vp_V
      simp [List.getD, hj']
    rw [e]
    unfold vm_fv
    rcases vm_ty_kind a ha j hj' with h | ⟨h, h'⟩
    · rw [if_pos (by unfold vm_isI; rw [h]), h]
      simp [vm_new, vm_v, defaultValue]
    · rw [if_neg (by rw [h]; decide)]
      rcases h' with ⟨n, h'⟩ | ⟨n, h'⟩ <;> rw [h'] <;> simp [vm_new, vm_v, vm_rv, defaultValue]) z1 o1
  have h9 := kk H1 hg.1 hg.2
  rw [show vm_v G (.ref σ.1.length) = .ref H.size by rw [← hP.2.1]; exact vm_mp_lt G hlt] at h9
  exact h9
theorem vm_newA (C : vm_C G X k p s m args meth c) {σ : vm_St} (hP : vm_PW G σ H) (hS : va_S (vm_A G) s.heap H locs) {ls : Array Slot} {pc len a b cx d ti : Nat} {t : ArrayType} {z : Int} {rest : List Value} {x : Int32} (hck : vm_chk k (pc, .newarray t, len, a, b, cx, d, z) = true)
    (hti : vm_arr t = some ti) (hx0 : ¬ x < 0) (hxb : x.toNatClampNeg ≤ 10000) (hlt : σ.1.length < 1000) (hc : cells + 1 ≤ R.cells) (hs : slots + x.toNatClampNeg ≤ R.slots)
    (kk : ∀ (H' : Heap), vm_PW G (vm_new σ (1, ti, x.toNatClampNeg)) H' → va_S (vm_A G) s.heap H' locs → W p l e R s m args below meth c H' locs (cells + 1) (slots + x.toNatClampNeg) Q (F0 m (pc + 2) ls (vm_v G (.ref σ.1.length) :: rest))) : W p l e R s m args below meth c H locs cells slots Q (F0 m pc ls (.int x :: rest)) := by
  obtain ⟨hx, hbc, hml, hown, hts, hin, hK, hX, hk⟩ := C
  have hd := vm_dec hck (n := 2) rfl (by decide)
  have key : ∀ (ty : FieldType), newarray.typeOf t = ty → ty = vm_tyA ti → ti < 3 → defaultValue ty = .int 0 → componentBytes ty ≤ 8 → (Cond.arrayClass ty ∈ vm_TG) → (∀ cA, s.vm.findClass ("[" ++ ty.toString) = some cA → cA = vm_cA G ti) → W p l e R s m args below meth c H locs cells slots Q (F0 m pc ls (.int x :: rest)) := by
    intro ty hty h1 h3 h0 hcb hw hca
    refine va_newaK hx hbc (by rw [hty]; exact hts _ hw) rfl hd rfl hx0 rfl (by
      rw [hty]
      calc x.toNatClampNeg * componentBytes ty ≤ 10000 * 8 := Nat.mul_le_mul hxb hcb
        _ ≤ 536870912 := by decide) hc hs rfl fun H1 cA e1 z1 o1 hAr hNm => ?_
    rw [hty] at e1 hNm
    have hcA := hca cA hNm
    subst hcA
    have hg := vm_grown (s := s) (locs := locs) (sh := (1, ti, x.toNatClampNeg)) hP hS hlt (Or.inr ⟨rfl, h3⟩) (H' := H1) (by
      rw [vm_ce_a]
      show H1[H.size]? = some (vp_cell _ _)
      rw [e1, vp_cell_i, h0]
      congr 2
      funext j
      simp [vm_new]) z1 o1
    have h9 := kk H1 hg.1 hg.2
    rw [show vm_v G (.ref σ.1.length) = .ref H.size by rw [← hP.2.1]; exact vm_mp_lt G hlt] at h9
    exact h9
  cases t with
  | int => cases hti; exact key .int rfl rfl (by decide) rfl (by decide) (vm_words3 _ (by simp)) (fun cA h => Option.some.inj (h.symm.trans (hK.1.2 0 _ rfl).2))
  | byte => cases hti; exact key .byte rfl rfl (by decide) rfl (by decide) (vm_words3 _ (by simp)) (fun cA h => Option.some.inj (h.symm.trans (hK.1.2 1 _ rfl).2))
  | boolean => cases hti; exact key .boolean rfl rfl (by decide) rfl (by decide) (vm_words3 _ (by simp)) (fun cA h => Option.some.inj (h.symm.trans (hK.1.2 2 _ rfl).2))
  | _ => cases hti
theorem vm_nn (z : Int32) (hz : ¬ z < 0) : z.toInt = (z.toNatClampNeg : Int) := by
  have hz0 : (0 : Int) ≤ z.toInt := by
    have := Int32.not_lt.mp hz
    simpa using Int32.le_iff_toInt_le.mp this
  show z.toInt = ((z.toInt.toNat : Nat) : Int)
  omega
theorem vm_copy (C : vm_C G X k p s m args meth c) {σ : vm_St} (hP : vm_PW G σ H) (hS : va_S (vm_A G) s.heap H locs) {ls : Array Slot} (hls : ls.size = vm_ml k) {pc idx q r n0 n1 : Nat} {rest : List Value} {sp dp n : Int32}
    (hlink : (Cond.methodLink (vm_own k) idx arraycopyName).before args s = true) (hq : σ.1[q]? = some (1, 0, n0)) (hr : σ.1[r]? = some (1, 0, n1)) (h1 : ¬ sp < 0) (h2 : ¬ dp < 0) (h3 : ¬ n < 0) (h4 : sp.toNatClampNeg + n.toNatClampNeg ≤ n0) (h5 : dp.toNatClampNeg + n.toNatClampNeg ≤ n1)
    (hR1 : 1 ≤ R.frames) (hR2 : vm_wt rest + (nativeFrameWords "java/lang/System" "arraycopy" 5 + 11) ≤ R.locals) (hdg : decode (vm_b k) pc = .ok (.invokestatic idx, 3))
    (kk : ∀ (H' : Heap) (locs' : List Loc), vm_PW G (σ.1, σ.2.1, fun i => if i = r then va_cpy (σ.2.2 q) (σ.2.2 r) sp.toNatClampNeg dp.toNatClampNeg n.toNatClampNeg else σ.2.2 i) H' → va_S (vm_A G) s.heap H' locs' → W p l e R s m args below meth c H' locs' cells slots Q (F0 m (pc + 3) ls (rest.map (vm_v G)))) :
    W p l e R s m args below meth c H locs cells slots Q (F0 m pc ls ((Value.int n :: .int dp :: .ref r :: .int sp :: .ref q :: rest).map (vm_v G))) := by
  have hf := vm_own_f C
  obtain ⟨hx, hbc, hml, hown, hts, hin, hK, hX, hk⟩ := C
  have eq : vm_v G (.ref q) = .ref (G.1 + q) := vm_stk_ref hP hq
  have er : vm_v G (.ref r) = .ref (G.1 + r) := vm_stk_ref hP hr
  have est : (Value.int n :: .int dp :: .ref r :: .int sp :: .ref q :: rest).map (vm_v G) = Value.int n :: .int dp :: .ref (G.1 + r) :: .int sp :: .ref (G.1 + q) :: rest.map (vm_v G) := by
    simp only [List.map_cons, eq, er]
    rfl
  rw [est]
  have hatq := vm_ws_at G hq
  have hatr := vm_ws_at G hr
  rw [vm_ce_a] at hatq hatr
  have hc0 : H[G.1 + q]? = some (vp_cell (vm_cA G 0) (n0, .inl (σ.2.2 q))) := hP.1 q _ hatq
  have hc1 : H[G.1 + r]? = some (vp_cell (vm_cA G 0) (n1, .inl (σ.2.2 r))) := hP.1 r _ hatr
  intro T hT X9
  obtain ⟨-, k0, hk0, cm0, hkk0⟩ := (hK.1.2 0 _ rfl).1 n0 (fun j => .int (σ.2.2 q j))
  obtain ⟨-, k1, hk1, cm1, hkk1⟩ := (hK.1.2 0 _ rfl).1 n1 (fun j => .int (σ.2.2 r j))
  obtain ⟨vm', X', step⟩ := X9.arraycopy hx hown hlink (hts _ (vm_words3 _ (by simp))) (hts _ (vm_words3 _ (by simp))) (hts _ (vm_words3 _ (by simp))) (src := G.1 + q) (dst := G.1 + r) (cs := vp_cell (vm_cA G 0) (n0, .inl (σ.2.2 q))) (cd := vp_cell (vm_cA G 0) (n1, .inl (σ.2.2 r))) (srcPos := sp) (destPos := dp) (n := n) (by rw [hT]; exact hc0) (by rw [hT]; exact hc1)
    (fun _ h => by cases h) (fun _ h => by cases h) (fun h => by cases h) (fun h => by cases h) hk0 hk1 hkk0 hkk1 (by simp [refKind]) h1 h2 h3
    (by rw [vm_nn sp h1, vm_nn n h3]; show ¬ _ > ((arrV (vm_cA G 0) n0 (fun j => .int (σ.2.2 q j))).slots.size : Int); rw [arrV_size]; omega)
    (by rw [vm_nn dp h2, vm_nn n h3]; show ¬ _ > ((arrV (vm_cA G 0) n1 (fun j => .int (σ.2.2 r j))).slots.size : Int); rw [arrV_size]; omega)
    (fun vm₁ _ i hi => by
      have e9 : (vp_cell (vm_cA G 0) (n0, .inl (σ.2.2 q))).slots.getD (sp.toNatClampNeg + i) .null = .int (σ.2.2 q (sp.toNatClampNeg + i)) := by
        show (arrV (vm_cA G 0) n0 (fun j => .int (σ.2.2 q j))).slots.getD _ _ = _
        rw [Array.getD_eq_getD_getElem?, arrV_read _ _ (by omega)]
        rfl
      rw [e9]
      exact ⟨rfl, trivial⟩)
    (g := F0 m pc ls (Value.int n :: .int dp :: .ref (G.1 + r) :: .int sp :: .ref (G.1 + q) :: rest.map (vm_v G))) rfl (by rw [hml]; exact hls) (rest := rest.map (vm_v G)) rfl (by rw [hbc]; exact hdg) hR1 (by rw [vm_wt_map hf]; show 2 * 0 + _ + _ ≤ _; omega)
  have ecp : copied (vp_cell (vm_cA G 0) (n0, .inl (σ.2.2 q))) (vp_cell (vm_cA G 0) (n1, .inl (σ.2.2 r))) sp dp n = vp_cell (vm_cA G 0) (n1, .inl (va_cpy (σ.2.2 q) (σ.2.2 r) sp.toNatClampNeg dp.toNatClampNeg n.toNatClampNeg)) := va_copied (fun z => .int z) (vm_cA G 0) (vm_cA G 0) (σ.2.2 q) (σ.2.2 r) h4
  rw [ecp] at X' step
  have hlr : G.1 + r < H.size := (Array.getElem?_eq_some_iff.mp hc1).1
  generalize hnc : vp_cell (vm_cA G 0) (n1, .inl (va_cpy (σ.2.2 q) (σ.2.2 r) sp.toNatClampNeg dp.toNatClampNeg n.toNatClampNeg)) = nc at X' step
  have hheap : ((T.setVm vm').setCell (G.1 + r) nc).heap = H.setIfInBounds (G.1 + r) nc := by rw [← hT]; rfl
  have oq : ∀ x : Nat, x ≠ G.1 + r → (H.setIfInBounds (G.1 + r) nc)[x]? = H[x]? := fun x hxr => by simp [Array.getElem?_setIfInBounds, Ne.symm hxr]
  have hnew : (H.setIfInBounds (G.1 + r) nc)[G.1 + r]? = some nc := by simp [Array.getElem?_setIfInBounds, hlr]
  obtain ⟨t, a1, b1⟩ := kk (H.setIfInBounds (G.1 + r) nc) _ ⟨by
      rw [vm_ws_set G (σ' := (σ.1, σ.2.1, fun i => if i = r then va_cpy (σ.2.2 q) (σ.2.2 r) sp.toNatClampNeg dp.toNatClampNeg n.toNatClampNeg else σ.2.2 i)) hr rfl (fun _ _ => rfl) (fun i hi => by simp [hi]), vm_ce_a]
      refine hP.1.set (vm_ws_D G σ) hatr ?_ oq
      show (H.setIfInBounds (G.1 + r) nc)[G.1 + r]? = some (vp_cell _ _)
      rw [hnew, ← hnc]
      simp, by simp; exact hP.2.1, hP.2.2⟩ ⟨by simp; exact hS.1, fun x g1 g2 => by
      rw [oq x (fun e9 => g2 (by rw [e9]; exact Nat.le_add_right _ _))]
      exact hS.2.1 x g1 g2, fun x hx9 => by
      rcases List.mem_append.mp hx9 with h | h
      · exact hS.2.2 x h
      · obtain ⟨z, -, hz⟩ := List.mem_map.mp h
        rw [← hz]
        exact Nat.le_add_right _ _⟩ _ hheap X'
  exact ⟨t, step t a1, b1⟩
end VMF
end
section
section VMR
variable {G : vm_G} {X : Nat × (Nat → Int32)}
theorem vm_kd_2 {i : Instr} (h : vm_kd i = 2) : (∃ idx, i = .invokevirtual idx) ∨ (∃ idx, i = .invokespecial idx) ∨ ∃ idx, i = .invokestatic idx := by
  cases i <;> first | (simp [vm_kd] at h; done) | exact Or.inl ⟨_, rfl⟩ | exact Or.inr (Or.inl ⟨_, rfl⟩) | exact Or.inr (Or.inr ⟨_, rfl⟩)
theorem vm_kd_3 {i : Instr} (h : vm_kd i = 3) : ∃ idx, i = .new idx := by
  cases i <;> first | (simp [vm_kd] at h; done) | exact ⟨_, rfl⟩
theorem vm_rev_take {S : List Value} {n : Nat} {as : List Value} (h : (S.take n).reverse = as) : S = as.reverse ++ S.drop n := by
  rw [← h, List.reverse_reverse]
  exact (List.take_append_drop n S).symm
set_option maxHeartbeats 4000000 in
theorem vm_run_ok (l : Launch) (G : vm_G) (X : Nat × (Nat → Int32)) : ∀ n, vm_OK l G X n := by
  intro n
  induction n with
  | zero => intro k pc L S bc bs σ σ' r h; cases h
  | succ n ih =>
    intro k pc L S bc bs σ σ' r hrun p e R s m args below meth c H locs cells slots Q ls C hRf hRl hP hS hL hbc hbs hret
    have hf := vm_own_f C
    obtain ⟨hx, hb, hml, hown, hts, hin, hK, hX, hk⟩ := id C
    cases hi : vm_ins k pc with
    | none => exact absurd (show vm_step X (vm_run X n) k pc L S bc bs σ = some (r, σ') from hrun) (by unfold vm_step; rw [hi]; simp)
    | some q =>
      obtain ⟨i, len, a, b, cx, d, z⟩ := q
      have hck := vm_ins_ck hk hi
      replace hrun : vm_step X (vm_run X n) k pc L S bc bs σ = some (r, σ') := hrun
      unfold vm_step at hrun
      rw [hi] at hrun
      dsimp only at hrun
      split at hrun
      · split at hrun
        · cases hrun
        · next pc' L' S' σ1 hact =>
          exact vm_act_ok C hP hS hL hck hact (fun H' locs' ls' h1 h2 h3 => ih k pc' L' S' bc bs σ1 σ' r hrun p e R s m args below meth c H' locs' cells slots Q ls' C hRf hRl h1 h2 h3 hbc hbs hret)
      · split at hrun
        · cases hrun
        · next r' hrt =>
          cases hrun
          exact hret i len a b cx d z pc S H locs ls cells slots hck hrt hP hS (Nat.le_add_right _ _) (Nat.le_add_right _ _)
      · next hkd =>
        by_cases ha1 : a = 1001
        · rw [if_pos ha1] at hrun
          split at hrun
          · next rr S0 =>
            split at hrun
            · cases hrun
            · next hno =>
              rcases vm_kd_2 hkd with ⟨idx, rfl⟩ | ⟨idx, rfl⟩ | ⟨idx, rfl⟩
              · simp only [vm_chk, Bool.and_eq_true, decide_eq_true_eq] at hck
                omega
              · have hd := vm_dec hck (n := 3) rfl (by decide)
                simp only [vm_chk, Bool.and_eq_true, decide_eq_true_eq, if_pos ha1] at hck
                obtain ⟨-, -, hw, h1f, h20⟩ := hck
                obtain ⟨qa, hqa⟩ := vm_mp_ref G (i := rr) (fun h => hno (Or.inl h))
                have hwt : vm_wt S0 ≤ 8 := by
                  apply Nat.not_lt.mp
                  exact fun h => hno (Or.inr h)
                rw [List.map_cons, show vm_v G (.ref rr) = .ref qa from hqa]
                refine W.objInit hx hb hown (hts _ (vm_wd_g hw (by first | rfl | simp [goodWord, Cond.onTables, Cond.keeps, Cond.steady]))) (hts _ (vm_words3 _ (by simp))) (hts _ vm_words4) rfl (by rw [hml]; exact hL.1) rfl hd (by omega) ?_ ?_
                · rw [vm_wt_map hf]
                  show 2 * 0 + _ + 12 ≤ _
                  omega
                · exact ih k (pc + 3) L S0 bc bs σ σ' r hrun p e R s m args below meth c H locs cells slots Q ls C hRf hRl hP hS hL hbc hbs hret
              · simp only [vm_chk, Bool.and_eq_true, decide_eq_true_eq, if_neg (show ¬ a = 1000 by omega), if_neg (show ¬ a = 1002 by omega), if_neg (show ¬ a = 1003 by omega)] at hck
                omega
          · cases hrun
        · rw [if_neg ha1] at hrun
          by_cases ha2 : a = 1000
          · rw [if_pos ha2] at hrun
            split at hrun
            · next mm dp rr sp qq S0 =>
              split at hrun
              · next n0 n1 hq hr =>
                split at hrun
                · next hcnd =>
                  obtain ⟨⟨h1, h2, h3⟩, ⟨h4, h5⟩, hwt⟩ := hcnd
                  rcases vm_kd_2 hkd with ⟨idx, rfl⟩ | ⟨idx, rfl⟩ | ⟨idx, rfl⟩
                  · simp only [vm_chk, Bool.and_eq_true, decide_eq_true_eq] at hck
                    omega
                  · simp only [vm_chk, Bool.and_eq_true, decide_eq_true_eq, if_neg ha1] at hck
                    omega
                  · have hd := vm_dec hck (n := 3) rfl (by decide)
                    simp only [vm_chk, Bool.and_eq_true, decide_eq_true_eq, if_pos ha2] at hck
                    obtain ⟨-, -, hw, h1f, h20⟩ := hck
                    exact vm_copy C hP hS hL.1 (hts _ (vm_wd_g hw (by first | rfl | simp [goodWord, Cond.onTables, Cond.keeps, Cond.steady]))) hq hr h1 h2 h3 h4 h5 (by omega) (by omega) hd
                      (fun H' locs' g1 g2 => ih k (pc + 3) L S0 bc bs _ σ' r hrun p e R s m args below meth c H' locs' cells slots Q ls C hRf hRl g1 g2 hL hbc hbs hret)
                · cases hrun
              · cases hrun
            · cases hrun
          · rw [if_neg ha2] at hrun
            split at hrun
            · next ha3 =>
              split at hrun
              · next y x S0 =>
                split at hrun
                · cases hrun
                · next hno =>
                  have hwt : vm_wt S0 ≤ 8 := Nat.not_lt.mp hno
                  rcases vm_kd_2 hkd with ⟨idx, rfl⟩ | ⟨idx, rfl⟩ | ⟨idx, rfl⟩
                  · simp only [vm_chk, Bool.and_eq_true, decide_eq_true_eq] at hck
                    omega
                  · simp only [vm_chk, Bool.and_eq_true, decide_eq_true_eq, if_neg ha1] at hck
                    omega
                  · have hd := vm_dec hck (n := 3) rfl (by decide)
                    have k9 := ih k (pc + 3) L _ bc bs σ σ' r hrun p e R s m args below meth c H locs cells slots Q ls C hRf hRl hP hS hL hbc hbs hret
                    rcases ha3 with ha3 | ha3
                    · simp only [vm_chk, Bool.and_eq_true, decide_eq_true_eq, if_neg ha2, if_pos ha3] at hck
                      obtain ⟨-, -, hw, h1f, h20⟩ := hck
                      rw [if_pos ha3] at k9
                      exact va_mmax hx hb (by rw [hml]; exact hL.1.symm) hown (hts _ (vm_wd_g hw (by first | rfl | simp [goodWord, Cond.onTables, Cond.keeps, Cond.steady]))) (hts _ (vm_words5 _ (by simp))) (hts _ (vm_words5 _ (by simp))) (hts _ vm_words6.1) (by omega) (by rw [vm_wt_map hf]; omega) (by omega) (by omega) hd k9
                    · simp only [vm_chk, Bool.and_eq_true, decide_eq_true_eq, if_neg ha2, if_neg (show ¬ a = 1002 by omega), if_pos ha3] at hck
                      obtain ⟨-, -, hw, h1f, h20⟩ := hck
                      rw [if_neg (show ¬ a = 1002 by omega)] at k9
                      exact va_mmin hx hb (by rw [hml]; exact hL.1.symm) hown (hts _ (vm_wd_g hw (by first | rfl | simp [goodWord, Cond.onTables, Cond.keeps, Cond.steady]))) (hts _ (vm_words5 _ (by simp))) (hts _ (vm_words5 _ (by simp))) (hts _ vm_words6.2) (by omega) (by rw [vm_wt_map hf]; omega) (by omega) (by omega) hd k9
              · cases hrun
            next ha3 =>
            generalize hna : (if vm_kind a = 1 then vm_np a else vm_np a + 1) = na at hrun
            generalize has : (S.take na).reverse = as at hrun
            split at hrun
            · next hcnd =>
              obtain ⟨hlen, hrc, hmc, hms, hwt, hsl⟩ := hcnd
              have hS9 := vm_rev_take has
              split at hrun
              · cases hrun
              · next r1 σ1 hcall =>
                have goal2 : ∀ (H1 : Heap) (locs1 : List Loc), vm_PW G σ1 H1 → va_S (vm_A G) s.heap H1 locs1 → W p l e R s m args below meth c H1 locs1 (cells + vm_mc a) (slots + vm_ms a) Q (F0 m (pc + 3) ls ((r1.map (vm_v G)).toList ++ (S.drop na).map (vm_v G))) := by
                  intro H1 locs1 g1 g2
                  have e9 : (r1.map (vm_v G)).toList ++ (S.drop na).map (vm_v G) = (r1.toList ++ S.drop na).map (vm_v G) := by
                    rw [List.map_append]
                    cases r1 <;> rfl
                  rw [e9]
                  refine ih k (pc + 3) L (r1.toList ++ S.drop na) (bc - vm_mc a) (bs - vm_ms a) σ1 σ' r hrun p e R s m args below meth c H1 locs1 (cells + vm_mc a) (slots + vm_ms a) Q ls C hRf hRl g1 g2 hL (by omega) (by omega) ?_
                  intro i len a' b cx d z pc' S' H' locs' ls' cells' slots' q1 q2 q3 q4 q5 q6
                  exact hret i len a' b cx d z pc' S' H' locs' ls' cells' slots' q1 q2 q3 q4 (by omega) (by omega)
                have fits : cells + vm_mc a ≤ R.cells ∧ slots + vm_ms a ≤ R.slots := ⟨by omega, by omega⟩
                have room : 2 * (F0 m pc ls (S.map (vm_v G))).monitorRoom + (((S.drop na).map (vm_v G)).map fun v => v.category).sum ≤ 8 := by
                  rw [vm_wt_map hf]
                  show 2 * 0 + _ ≤ 8
                  omega
                have fix : CallFix p m c (vm_b k) (vm_ml k) s args vm_TG (vm_own k) := ⟨hx, hb, hml, hown, hts⟩
                have recvSplit : vm_kind a ≠ 1 → a < 180 → ∃ (bb : Nat) (As : List Value), as.map (vm_v G) = .ref bb :: As ∧ As.length = vm_np a ∧ S.map (vm_v G) = As.reverse ++ .ref bb :: (S.drop na).map (vm_v G) ∧ ∃ cellB : Cell, H[bb]? = some cellB ∧ cellB.vm.isStatics = false ∧ s.vm.findClass (vm_own a) = some cellB.cls := by
                  intro hk1 ha180
                  rw [if_neg hk1] at hna
                  have hrc' : vm_rc σ a (vm_lg as 0) = true := by
                    rcases hrc with h | h
                    · exact absurd h hk1
                    · exact h
                  obtain ⟨bb, hbb, hcell⟩ := vm_recv C hP hS ha180 hk1 hrc'
                  cases as with
                  | nil => simp at hlen; omega
                  | cons v0 as' =>
                    have hv0 : vm_v G v0 = .ref bb := hbb
                    refine ⟨bb, as'.map (vm_v G), by rw [List.map_cons, hv0], by rw [List.length_map]; simp at hlen; omega, ?_, hcell⟩
                    conv => lhs; rw [hS9]
                    rw [List.map_append, List.reverse_cons, List.map_append, List.map_reverse, List.append_assoc, List.map_cons, hv0]
                    rfl
                rcases vm_kd_2 hkd with ⟨idx, rfl⟩ | ⟨idx, rfl⟩ | ⟨idx, rfl⟩
                · have hd := vm_dec hck (n := 3) rfl (by decide)
                  simp only [vm_chk, Bool.and_eq_true, decide_eq_true_eq] at hck
                  obtain ⟨-, -, ha180, hk0, hr1, hr2, hw⟩ := hck
                  have hM := vm_met (l := l) (G := G) ih ha180 hsl hcall
                  obtain ⟨bb, As, e1, e2, e3, hcell⟩ := recvSplit (by omega) ha180
                  rw [e1] at hM
                  have cb := vm_ccB (R := R) (idx := idx) C ⟨ha180, hr1, hr2⟩ hRf hRl (hts _ (vm_wd_g hw (by first | rfl | simp [goodWord, Cond.onTables, Cond.keeps, Cond.steady])))
                  refine vm_callx (va_runV (C := vm_own a) (As := As) (b := bb) (rest := (S.drop na).map (vm_v G)) fix hM ⟨cb, vm_cInst C ha180 (by omega), vm_cSel C ha180 hk0⟩ ⟨vm_blind, hcell, vm_pre C hP hS _⟩ rfl e2 hL.1 e3 room hd fits) hS goal2
                · have hd := vm_dec hck (n := 3) rfl (by decide)
                  simp only [vm_chk, Bool.and_eq_true, decide_eq_true_eq, if_neg ha1] at hck
                  obtain ⟨-, -, ha180, hk2, hr1, hr2, hw⟩ := hck
                  have hM := vm_met (l := l) (G := G) ih ha180 hsl hcall
                  obtain ⟨bb, As, e1, e2, e3, hcell⟩ := recvSplit (by omega) ha180
                  rw [e1] at hM
                  have h2 := vm_chk3_all ha180
                  unfold vm_chk3 at h2
                  simp only [Bool.and_eq_true, decide_eq_true_eq, if_pos hk2] at h2
                  obtain ⟨w2, w3, w4, w5, w6, w7, w8, w9, w10, w11⟩ := h2
                  split at hw
                  · next hd0 =>
                    have cb := vm_ccB (R := R) (idx := idx) C ⟨ha180, hr1, hr2⟩ hRf hRl (hts _ (vm_wd_g hw (by first | rfl | simp [goodWord, Cond.onTables, Cond.keeps, Cond.steady])))
                    rw [w11] at cb
                    refine vm_callx (va_runI (As := As) (b := bb) (rest := (S.drop na).map (vm_v G)) fix hM ⟨cb, w9, vm_cInst C ha180 (by omega)⟩ ⟨vm_blind, vm_pre C hP hS _⟩ rfl e2 hL.1 e3 room hd fits) hS goal2
                  · next hd0 =>
                    have cb := vm_ccN (R := R) (idx := idx) C ⟨ha180, hr1, hr2⟩ hRf hRl (hK.2.1 _ (vm_wd_t hw) rfl)
                    rw [w11] at cb
                    refine vm_callx (va_runIN (As := As) (b := bb) (rest := (S.drop na).map (vm_v G)) fix hM ⟨cb, w9, vm_cInst C ha180 (by omega)⟩ ⟨vm_blind, vm_pre C hP hS _⟩ rfl e2 hL.1 e3 room hd fits) hS goal2
                · have hd := vm_dec hck (n := 3) rfl (by decide)
                  simp only [vm_chk, Bool.and_eq_true, decide_eq_true_eq, if_neg ha2, if_neg (show ¬ a = 1002 from fun h => ha3 (Or.inl h)), if_neg (show ¬ a = 1003 from fun h => ha3 (Or.inr h))] at hck
                  obtain ⟨-, -, ha180, hk1, hr1, hr2, hw⟩ := hck
                  have hM := vm_met (l := l) (G := G) ih ha180 hsl hcall
                  rw [if_pos hk1] at hna
                  have e2 : (as.map (vm_v G)).length = vm_np a := by rw [List.length_map, hlen, hna]
                  have e3 : S.map (vm_v G) = (as.map (vm_v G)).reverse ++ (S.drop na).map (vm_v G) := by
                    conv => lhs; rw [hS9]
                    rw [List.map_append, List.map_reverse]
                  split at hw
                  · next hd0 =>
                    have cb := vm_ccB (R := R) (idx := idx) C ⟨ha180, hr1, hr2⟩ hRf hRl (hts _ (vm_wd_g hw (by first | rfl | simp [goodWord, Cond.onTables, Cond.keeps, Cond.steady])))
                    refine vm_callx (va_runS (As := as.map (vm_v G)) (rest := (S.drop na).map (vm_v G)) fix hM ⟨cb, vm_cStat C ha180 hk1⟩ ⟨vm_blind, vm_pre C hP hS _⟩ rfl e2 hL.1 e3 room hd fits) hS goal2
                  · next hd0 =>
                    have cb := vm_ccN (R := R) (idx := idx) C ⟨ha180, hr1, hr2⟩ hRf hRl (hK.2.1 _ (vm_wd_t hw) rfl)
                    refine vm_callx (va_runSN (As := as.map (vm_v G)) (rest := (S.drop na).map (vm_v G)) fix hM ⟨cb, vm_cStat C ha180 hk1, trivial⟩ ⟨vm_blind, vm_pre C hP hS _⟩ rfl e2 hL.1 e3 room hd fits) hS goal2
            · cases hrun
      · next hkd =>
        obtain ⟨idx, rfl⟩ := vm_kd_3 hkd
        split at hrun
        · next hcnd =>
          obtain ⟨h1, h2, h3⟩ := hcnd
          refine vm_newO C hP hS hck h3 (by omega) (by omega) (fun H' g1 g2 => ?_)
          refine ih k (pc + 3) L (.ref σ.1.length :: S) (bc - 1) (bs - b) _ σ' r hrun p e R s m args below meth c H' locs (cells + 1) (slots + b) Q ls C hRf hRl g1 g2 hL (by omega) (by omega) ?_
          intro i len a' b' cx d z pc' S' H' locs' ls' cells' slots' q1 q2 q3 q4 q5 q6
          exact hret i len a' b' cx d z pc' S' H' locs' ls' cells' slots' q1 q2 q3 q4 (by omega) (by omega)
        · cases hrun
      · split at hrun
        · next t =>
          split at hrun
          · cases hrun
          · next ti hti =>
            split at hrun
            · next x S0 =>
              split at hrun
              · next hcnd =>
                obtain ⟨h0, h1, h2, h3, h4⟩ := hcnd
                refine vm_newA C hP hS hck hti h0 h3 h4 (by omega) (by omega) (fun H' g1 g2 => ?_)
                refine ih k (pc + 2) L (.ref σ.1.length :: S0) (bc - 1) (bs - x.toNatClampNeg) _ σ' r hrun p e R s m args below meth c H' locs (cells + 1) (slots + x.toNatClampNeg) Q ls C hRf hRl g1 g2 hL (by omega) (by omega) ?_
                intro i len a' b' cx d z pc' S' H' locs' ls' cells' slots' q1 q2 q3 q4 q5 q6
                exact hret i len a' b' cx d z pc' S' H' locs' ls' cells' slots' q1 q2 q3 q4 (by omega) (by omega)
              · cases hrun
            · cases hrun
        · cases hrun
end VMR
end
section
/-- every entry stands at its own number -/
def vm_nd : List vm_En → Bool
  | [] => true
  | e :: l => l.all (fun q => decide (q.1 ≠ e.1)) && vm_nd l
set_option maxRecDepth 100000 in
theorem vm_nd_all : (List.range 181).all (fun k => vm_nd (vm_prog k)) = true := by decide +kernel
end
section
/-! RUNS, SAID BACKWARDS -/
section VMW
variable {X : Nat × (Nat → Int32)}
theorem vm_step_mono {rn rn' : Nat → Nat → List Value → List Value → Nat → Nat → vm_St → Option (Option Value × vm_St)} (h : ∀ k pc L S bc bs σ x, rn k pc L S bc bs σ = some x → rn' k pc L S bc bs σ = some x) {k pc : Nat} {L S : List Value} {bc bs : Nat} {σ : vm_St} {x : Option Value × vm_St}
    (hs : vm_step X rn k pc L S bc bs σ = some x) : vm_step X rn' k pc L S bc bs σ = some x := by
  unfold vm_step at hs ⊢
  cases hi : vm_ins k pc with
  | none => rw [hi] at hs; cases hs
  | some q =>
    obtain ⟨i, len, a, b, cx, d, z⟩ := q
    rw [hi] at hs
    dsimp only at hs ⊢
    split at hs
    · split at hs
      · cases hs
      · next hkd pc' L' S' σ1 hact => exact h _ _ _ _ _ _ _ _ hs
    · exact hs
    · by_cases ha1 : a = 1001
      · rw [if_pos ha1] at hs ⊢
        split at hs
        · split at hs
          · cases hs
          · next hno => rw [if_neg hno]; exact h _ _ _ _ _ _ _ _ hs
        · cases hs
      · rw [if_neg ha1] at hs ⊢
        by_cases ha2 : a = 1000
        · rw [if_pos ha2] at hs ⊢
          split at hs
          · split at hs
            · next h1 h2 =>
              split at hs
              · next hc => rw [if_pos hc]; exact h _ _ _ _ _ _ _ _ hs
              · cases hs
            · cases hs
          · cases hs
        · rw [if_neg ha2] at hs ⊢
          by_cases ha3 : a = 1002 ∨ a = 1003
          · rw [if_pos ha3] at hs ⊢
            split at hs
            · split at hs
              · cases hs
              · next hno => rw [if_neg hno]; exact h _ _ _ _ _ _ _ _ hs
            · cases hs
          rw [if_neg ha3] at hs ⊢
          generalize hna : (if vm_kind a = 1 then vm_np a else vm_np a + 1) = na at hs ⊢
          split at hs
          · next hc =>
            rw [if_pos hc]
            split at hs
            · cases hs
            · next r1 σ1 hcall =>
              rw [h _ _ _ _ _ _ _ _ hcall]
              exact h _ _ _ _ _ _ _ _ hs
          · cases hs
    · split at hs
      · next hc => rw [if_pos hc]; exact h _ _ _ _ _ _ _ _ hs
      · cases hs
    · split at hs
      · split at hs
        · cases hs
        · split at hs
          · split at hs
            · next hc => rw [if_pos hc]; exact h _ _ _ _ _ _ _ _ hs
            · cases hs
          · cases hs
      · cases hs
theorem vm_run_mono1 : ∀ (n k pc : Nat) (L S : List Value) (bc bs : Nat) (σ : vm_St) (x : Option Value × vm_St), vm_run X n k pc L S bc bs σ = some x → vm_run X (n + 1) k pc L S bc bs σ = some x := by
  intro n
  induction n with
  | zero => intro k pc L S bc bs σ x h; cases h
  | succ n ih => intro k pc L S bc bs σ x h; exact vm_step_mono ih h
theorem vm_run_mono {n m k pc : Nat} {L S : List Value} {bc bs : Nat} {σ : vm_St} {x : Option Value × vm_St} (hnm : n ≤ m) (h : vm_run X n k pc L S bc bs σ = some x) : vm_run X m k pc L S bc bs σ = some x := by
  obtain ⟨d, rfl⟩ := Nat.exists_eq_add_of_le hnm
  induction d with
  | zero => exact h
  | succ d ih => exact vm_run_mono1 _ _ _ _ _ _ _ _ _ (ih (Nat.le_add_right _ _))
def vm_WP (X : Nat × (Nat → Int32)) (k pc : Nat) (L S : List Value) (bc bs : Nat) (σ : vm_St) (Q : Option Value → vm_St → Prop) : Prop := ∃ (n : Nat) (r : Option Value) (σ' : vm_St), vm_run X n k pc L S bc bs σ = some (r, σ') ∧ Q r σ'
theorem vm_WP.mono {k pc : Nat} {L S : List Value} {bc bs : Nat} {σ : vm_St} {Q Q' : Option Value → vm_St → Prop} (h : vm_WP X k pc L S bc bs σ Q) (hq : ∀ r σ', Q r σ' → Q' r σ') : vm_WP X k pc L S bc bs σ Q' := by
  obtain ⟨n, r, σ', h1, h2⟩ := h
  exact ⟨n, r, σ', h1, hq _ _ h2⟩
theorem vm_find_of : ∀ {l : List vm_En} (_ : vm_nd l = true) {j : Nat} {e : vm_En}, l[j]? = some e → vm_find l e.1 = some e.2
  | [], _, j, e, h => by simp at h
  | q :: l, hn, 0, e, h => by
    cases h
    unfold vm_find
    rw [if_pos rfl]
  | q :: l, hn, j + 1, e, h => by
    unfold vm_nd at hn
    simp only [Bool.and_eq_true] at hn
    have h1 : l[j]? = some e := h
    have h2 := List.all_eq_true.mp hn.1 e (List.mem_of_getElem? h1)
    have h3 : e.1 ≠ q.1 := of_decide_eq_true h2
    unfold vm_find
    rw [if_neg (Ne.symm h3)]
    exact vm_find_of hn.2 h1
theorem vm_ins_of {k j : Nat} {e : vm_En} (h : (vm_prog k)[j]? = some e) : vm_ins k e.1 = some e.2 := by
  by_cases hk : k < 181
  · exact vm_find_of (List.all_eq_true.mp vm_nd_all k (List.mem_range.mpr hk)) h
  · have hl : vm_progs.length = 181 := rfl
    unfold vm_prog at h
    have hn : vm_progs[k]? = none := List.getElem?_eq_none (by rw [hl]; omega)
    rw [List.getD_eq_getElem?_getD, hn] at h
    simp at h
/-- a stretch of plain instructions -/
def vm_seq (X : Nat × (Nat → Int32)) : List vm_En → Nat → List Value → List Value → vm_St → Option (Nat × List Value × List Value × vm_St)
  | [], pc, L, S, σ => some (pc, L, S, σ)
  | (p, i, _, a, b, _, d, z) :: l, pc, L, S, σ => if p = pc ∧ vm_kd i = 0 then match vm_act X i a b d z pc L S σ with
      | some (pc', L', S', σ') => vm_seq X l pc' L' S' σ'
      | none => none
    else none
theorem vm_WP.act {k pc pc' : Nat} {L S L' S' : List Value} {bc bs : Nat} {σ σ' : vm_St} {Q : Option Value → vm_St → Prop} {i : Instr} {len a b cx d : Nat} {z : Int} (hi : vm_ins k pc = some (i, len, a, b, cx, d, z)) (hk : vm_kd i = 0)
    (ha : vm_act X i a b d z pc L S σ = some (pc', L', S', σ')) (h : vm_WP X k pc' L' S' bc bs σ' Q) : vm_WP X k pc L S bc bs σ Q := by
  obtain ⟨n, r, σ2, h1, h2⟩ := h
  refine ⟨n + 1, r, σ2, ?_, h2⟩
  show vm_step X (vm_run X n) k pc L S bc bs σ = _
  unfold vm_step
  rw [hi]
  (try dsimp only)
  rw [hk]
  (try dsimp only)
  rw [ha]
  exact h1
theorem vm_WP.seqL {k : Nat} {bc bs : Nat} {Q : Option Value → vm_St → Prop} : ∀ (l : List vm_En) (_ : ∀ e ∈ l, vm_ins k e.1 = some e.2) {pc pc' : Nat} {L S L' S' : List Value} {σ σ' : vm_St}, vm_seq X l pc L S σ = some (pc', L', S', σ') → vm_WP X k pc' L' S' bc bs σ' Q → vm_WP X k pc L S bc bs σ Q
  | [], _, pc, pc', L, S, L', S', σ, σ', hs, h => by cases hs; exact h
  | (p, i, len, a, b, cx, d, z) :: l, hl, pc, pc', L, S, L', S', σ, σ', hs, h => by
    unfold vm_seq at hs
    split at hs
    · next hc =>
      obtain ⟨rfl, hk⟩ := hc
      split at hs
      · next pc1 L1 S1 σ1 hact =>
        exact vm_WP.act (hl _ List.mem_cons_self) hk hact (vm_WP.seqL l (fun e he => hl e (List.mem_cons_of_mem _ he)) hs h)
      · cases hs
    · cases hs
theorem vm_WP.seq (j n : Nat) {k : Nat} {bc bs : Nat} {Q : Option Value → vm_St → Prop} {pc pc' : Nat} {L S L' S' : List Value} {σ σ' : vm_St} (hs : vm_seq X (((vm_prog k).drop j).take n) pc L S σ = some (pc', L', S', σ')) (h : vm_WP X k pc' L' S' bc bs σ' Q) : vm_WP X k pc L S bc bs σ Q := by
  refine vm_WP.seqL _ (fun e he => ?_) hs h
  obtain ⟨i, hi⟩ := List.getElem?_of_mem (List.mem_of_mem_drop (List.mem_of_mem_take he))
  exact vm_ins_of hi
theorem vm_WP.if (j : Nat) {k : Nat} {bc bs : Nat} {Q : Option Value → vm_St → Prop} {pc t1 t2 : Nat} {L S S' : List Value} {σ : vm_St} {i : Instr} {len a b cx d : Nat} {z : Int} {c : Prop} [Decidable c] (hj : (vm_prog k)[j]? = some (pc, i, len, a, b, cx, d, z)) (hk : vm_kd i = 0)
    (ha : vm_act X i a b d z pc L S σ = some (if c then t1 else t2, L, S', σ)) (h1 : c → vm_WP X k t1 L S' bc bs σ Q) (h2 : ¬ c → vm_WP X k t2 L S' bc bs σ Q) : vm_WP X k pc L S bc bs σ Q := by
  refine vm_WP.act (vm_ins_of hj) hk ha ?_
  by_cases hc : c
  · rw [if_pos hc]; exact h1 hc
  · rw [if_neg hc]; exact h2 hc
theorem vm_WP.ret (j : Nat) {k : Nat} {bc bs : Nat} {Q : Option Value → vm_St → Prop} {pc : Nat} {L S : List Value} {σ : vm_St} {i : Instr} {len a b cx d : Nat} {z : Int} {r : Option Value} (hj : (vm_prog k)[j]? = some (pc, i, len, a, b, cx, d, z)) (hk : vm_kd i = 1)
    (hr : vm_rt k i S = some r) (h : Q r σ) : vm_WP X k pc L S bc bs σ Q := by
  refine ⟨1, r, σ, ?_, h⟩
  show vm_step X (vm_run X 0) k pc L S bc bs σ = _
  unfold vm_step
  rw [vm_ins_of hj]
  (try dsimp only)
  rw [hk]
  (try dsimp only)
  rw [hr]
  rfl
theorem vm_WP.call (j : Nat) {k : Nat} {bc bs : Nat} {Q : Option Value → vm_St → Prop} {pc : Nat} {L S : List Value} {σ : vm_St} {i : Instr} {len a b cx d : Nat} {z : Int} (as rest L0 : List Value) (hj : (vm_prog k)[j]? = some (pc, i, len, a, b, cx, d, z)) (hk : vm_kd i = 2) (ha : a < 1000)
    (has : (S.take (if vm_kind a = 1 then vm_np a else vm_np a + 1)).reverse = as) (hrest : S.drop (if vm_kind a = 1 then vm_np a else vm_np a + 1) = rest)
    (hc : as.length = (if vm_kind a = 1 then vm_np a else vm_np a + 1) ∧ (vm_kind a = 1 ∨ vm_rc σ a (vm_lg as 0) = true) ∧ vm_mc a ≤ bc ∧ vm_ms a ≤ bs ∧ vm_wt rest ≤ 8 ∧ (vm_sl as).length ≤ vm_ml a) (hL : vm_entry a as = L0)
    (h : vm_WP X a 0 L0 [] (vm_mc a) (vm_ms a) σ (fun r σ' => vm_WP X k (pc + 3) L (r.toList ++ rest) (bc - vm_mc a) (bs - vm_ms a) σ' Q)) : vm_WP X k pc L S bc bs σ Q := by
  subst hL
  obtain ⟨n, r, σ1, h1, m, r2, σ2, h2, h3⟩ := h
  refine ⟨max n m + 1, r2, σ2, ?_, h3⟩
  show vm_step X (vm_run X (max n m)) k pc L S bc bs σ = _
  unfold vm_step
  rw [vm_ins_of hj]
  (try dsimp only)
  rw [hk]
  (try dsimp only)
  rw [if_neg (by omega), if_neg (by omega), if_neg (by omega), has, hrest, if_pos hc, vm_run_mono (Nat.le_max_left n m) h1]
  exact vm_run_mono (Nat.le_max_right n m) h2
theorem vm_WP.ald (j : Nat) {k : Nat} {bc bs : Nat} {Q : Option Value → vm_St → Prop} {pc : Nat} {L S : List Value} {σ : vm_St} {i : Instr} {len a b cx d : Nat} {z : Int} {r t n : Nat} {x : Int32} (hj : (vm_prog k)[j]? = some (pc, i, len, a, b, cx, d, z)) (hi : (i = .iaload ∧ t = 0) ∨ (i = .baload ∧ (t = 1 ∨ t = 2))) (hr : r < 1000) (hs : σ.1[r]? = some (1, t, n)) (hx : vp_in x n)
    (h : vm_WP X k (pc + 1) L (.int (σ.2.2 r x.toNatClampNeg) :: S) bc bs σ Q) : vm_WP X k pc L (.int x :: .ref r :: S) bc bs σ Q := by
  rcases hi with ⟨rfl, rfl⟩ | ⟨rfl, ht⟩
  · refine vm_WP.act (vm_ins_of hj) rfl ?_ h
    simp only [vm_act, vm_ald]
    rw [if_pos hr, hs]
    simp only [true_or, if_true]
    rw [if_neg hx]
  · refine vm_WP.act (vm_ins_of hj) rfl ?_ h
    simp only [vm_act, vm_ald]
    rw [if_pos hr, hs]
    unfold vp_in at hx
    rcases ht with rfl | rfl
    · simp [hx]
    · simp [hx]
theorem vm_WP.ast (j : Nat) {k : Nat} {bc bs : Nat} {Q : Option Value → vm_St → Prop} {pc : Nat} {L S : List Value} {σ : vm_St} {len a b cx d : Nat} {z : Int} {r n : Nat} {x v : Int32} (hj : (vm_prog k)[j]? = some (pc, .iastore, len, a, b, cx, d, z)) (hs : σ.1[r]? = some (1, 0, n)) (hx : vp_in x n)
    (h : vm_WP X k (pc + 1) L S bc bs (σ.1, σ.2.1, vm_u2 σ.2.2 r x.toNatClampNeg v) Q) : vm_WP X k pc L (.int v :: .int x :: .ref r :: S) bc bs σ Q := by
  refine vm_WP.act (vm_ins_of hj) rfl ?_ h
  unfold vp_in at hx
  simp [vm_act, hs, hx]
theorem vm_WP.bst (j : Nat) {k : Nat} {bc bs : Nat} {Q : Option Value → vm_St → Prop} {pc : Nat} {L S : List Value} {σ : vm_St} {len a b cx d : Nat} {z : Int} {r n : Nat} {x v w : Int32} (hj : (vm_prog k)[j]? = some (pc, .bastore, len, a, b, cx, d, z)) {t : Nat} (ht : t = 1 ∨ t = 2) (hs : σ.1[r]? = some (1, t, n)) (hx : vp_in x n) (hw : vp_nar (vm_tyA t) v = w)
    (h : vm_WP X k (pc + 1) L S bc bs (σ.1, σ.2.1, vm_u2 σ.2.2 r x.toNatClampNeg w) Q) : vm_WP X k pc L (.int v :: .int x :: .ref r :: S) bc bs σ Q := by
  subst hw
  refine vm_WP.act (vm_ins_of hj) rfl ?_ h
  unfold vp_in at hx
  rcases ht with rfl | rfl
  · simp [vm_act, hs, hx, vm_tyA]
  · simp [vm_act, hs, hx, vm_tyA]
theorem vm_WP.copy (j : Nat) {k : Nat} {bc bs : Nat} {Q : Option Value → vm_St → Prop} {pc : Nat} {L S : List Value} {σ : vm_St} {i : Instr} {len b cx d : Nat} {z : Int} {q r n0 n1 : Nat} {sp dp m : Int32} (hj : (vm_prog k)[j]? = some (pc, i, len, 1000, b, cx, d, z)) (hk : vm_kd i = 2) (hq : σ.1[q]? = some (1, 0, n0)) (hr : σ.1[r]? = some (1, 0, n1))
    (h1 : ¬ sp < 0) (h2 : ¬ dp < 0) (h3 : ¬ m < 0) (h4 : sp.toNatClampNeg + m.toNatClampNeg ≤ n0) (h5 : dp.toNatClampNeg + m.toNatClampNeg ≤ n1) (h6 : vm_wt S ≤ 8)
    (h : vm_WP X k (pc + 3) L S bc bs (σ.1, σ.2.1, fun i => if i = r then va_cpy (σ.2.2 q) (σ.2.2 r) sp.toNatClampNeg dp.toNatClampNeg m.toNatClampNeg else σ.2.2 i) Q) : vm_WP X k pc L (.int m :: .int dp :: .ref r :: .int sp :: .ref q :: S) bc bs σ Q := by
  obtain ⟨n, r2, σ2, g1, g2⟩ := h
  refine ⟨n + 1, r2, σ2, ?_, g2⟩
  show vm_step X (vm_run X n) k pc L _ bc bs σ = _
  unfold vm_step
  rw [vm_ins_of hj]
  (try dsimp only)
  rw [hk]
  (try dsimp only)
  rw [if_neg (by decide), if_pos rfl]
  (try dsimp only)
  rw [hq, hr]
  (try dsimp only)
  exact (if_pos (show (¬ sp < 0 ∧ ¬ dp < 0 ∧ ¬ m < 0) ∧ (sp.toNatClampNeg + m.toNatClampNeg ≤ n0 ∧ dp.toNatClampNeg + m.toNatClampNeg ≤ n1) ∧ vm_wt S ≤ 8 from ⟨⟨h1, h2, h3⟩, ⟨h4, h5⟩, h6⟩)).trans g1
theorem vm_WP.mm (j : Nat) {k : Nat} {bc bs : Nat} {Q : Option Value → vm_St → Prop} {pc : Nat} {L S : List Value} {σ : vm_St} {i : Instr} {len a b cx d : Nat} {z : Int} {x y w : Int32} (hj : (vm_prog k)[j]? = some (pc, i, len, a, b, cx, d, z)) (hk : vm_kd i = 2) (ha : a = 1002 ∨ a = 1003) (hw : (if a = 1002 then (if x < y then y else x) else (if y < x then y else x)) = w) (h6 : vm_wt S ≤ 8)
    (h : vm_WP X k (pc + 3) L (.int w :: S) bc bs σ Q) : vm_WP X k pc L (.int y :: .int x :: S) bc bs σ Q := by
  subst hw
  obtain ⟨n, r2, σ2, g1, g2⟩ := h
  refine ⟨n + 1, r2, σ2, ?_, g2⟩
  show vm_step X (vm_run X n) k pc L _ bc bs σ = _
  unfold vm_step
  rw [vm_ins_of hj]
  (try dsimp only)
  rw [hk]
  (try dsimp only)
  rw [if_neg (by omega), if_neg (by omega), if_pos ha]
  (try dsimp only)
  rw [if_neg (by omega)]
  exact g1
end VMW
end
section
/-! RUNS OVER THE MADE WORLD: shapes and references stand, ints move -/
abbrev vm_M : Type := Nat → Nat → Int32
def vm_SH : List vm_Sh := [(0, 6, 10), (0, 4, 3), (1, 0, 8), (1, 0, 8), (1, 0, 320), (0, 5, 8), (1, 1, 400), (0, 3, 12), (1, 0, 6), (1, 0, 6), (1, 0, 6), (1, 0, 6), (1, 0, 36), (1, 0, 36), (0, 3, 12), (1, 0, 6), (1, 0, 6), (1, 0, 6), (1, 0, 6), (1, 0, 36), (1, 0, 36), (0, 3, 12), (1, 0, 6), (1, 0, 6), (1, 0, 6), (1, 0, 6), (1, 0, 36), (1, 0, 36), (0, 3, 12), (1, 0, 6), (1, 0, 6), (1, 0, 6), (1, 0, 6), (1, 0, 36), (1, 0, 36), (0, 0, 8), (1, 0, 24), (1, 0, 24), (1, 0, 24), (1, 0, 24), (1, 0, 24), (0, 2, 7), (1, 0, 366), (1, 0, 61), (1, 0, 61), (1, 0, 61), (0, 1, 3), (1, 0, 16), (0, 7, 30), (1, 0, 8), (1, 0, 8), (1, 0, 320), (1, 0, 70), (1, 0, 70), (1, 0, 1680), (1, 0, 400), (1, 0, 372), (1, 0, 372), (1, 0, 372), (1, 0, 61), (1, 2, 366), (1, 2, 366), (1, 2, 2), (1, 0, 140), (1, 0, 16)]
def vm_RTl : List (List (Option Nat)) := [[some 1, some 5, some 7, some 14, some 21, some 28, some 35, some 41, some 46], [some 2, some 3, some 4], [], [], [], [some 6], [], [none, none, none, none, none, none, some 8, some 9, some 10, some 11, some 12, some 13], [], [], [], [], [], [], [none, none, none, none, none, none, some 15, some 16, some 17, some 18, some 19, some 20], [], [], [], [], [], [], [none, none, none, none, none, none, some 22, some 23, some 24, some 25, some 26, some 27], [], [], [], [], [], [], [none, none, none, none, none, none, some 29, some 30, some 31, some 32, some 33, some 34], [], [], [], [], [], [], [some 7, none, none, some 36, some 37, some 38, some 39, some 40], [], [], [], [], [], [some 7, none, none, some 42, some 43, some 44, some 45], [], [], [], [], [some 7, some 47], [], [none, none, some 49, some 50, some 51, some 52, some 53, some 54, none, some 55, none, none, none, none, none, none, none, none, none, some 56, some 57, some 58, none, some 59, some 60, some 61, some 62, some 63, some 64], [], [], [], [], [], [], [], [], [], [], [], [], [], [], [], []]
def vm_RT (i j : Nat) : Option Nat := (vm_RTl.getD i []).getD j none
def vm_WM (X : Nat × (Nat → Int32)) (k pc : Nat) (L S : List Value) (M : vm_M) (Q : Option Value → vm_M → Prop) : Prop := vm_WP X k pc L S 0 0 (vm_SH, vm_RT, M) (fun r σ' => ∃ M', σ' = (vm_SH, vm_RT, M') ∧ Q r M')
def vm_qi (P : Int32 → vm_M → Prop) : Option Value → vm_M → Prop := fun r M => ∃ v : Int32, r = some (.int v) ∧ P v M
def vm_ql (P : Int64 → vm_M → Prop) : Option Value → vm_M → Prop := fun r M => ∃ v : Int64, r = some (.long v) ∧ P v M
def vm_qv (P : vm_M → Prop) : Option Value → vm_M → Prop := fun r M => r = none ∧ P M
def vm_cp (M : vm_M) (q r sp dp n : Nat) : vm_M := fun i => if i = r then va_cpy (M q) (M r) sp dp n else M i
section VMM
variable {X : Nat × (Nat → Int32)} {k pc pc' : Nat} {L S L' S' : List Value} {M M' : vm_M} {Q : Option Value → vm_M → Prop}
theorem vm_WM.mono {Q' : Option Value → vm_M → Prop} (h : vm_WM X k pc L S M Q) (hq : ∀ r M', Q r M' → Q' r M') : vm_WM X k pc L S M Q' :=
  vm_WP.mono h (fun r σ' ⟨M', e, h⟩ => ⟨M', e, hq _ _ h⟩)
theorem vm_WM.seq (j n : Nat) (hs : vm_seq X (((vm_prog k).drop j).take n) pc L S (vm_SH, vm_RT, M) = some (pc', L', S', (vm_SH, vm_RT, M'))) (h : vm_WM X k pc' L' S' M' Q) : vm_WM X k pc L S M Q := vm_WP.seq j n hs h
theorem vm_WM.if (j : Nat) {t1 t2 : Nat} {i : Instr} {len a b cx d : Nat} {z : Int} {c : Prop} [Decidable c] (hj : (vm_prog k)[j]? = some (pc, i, len, a, b, cx, d, z)) (hk : vm_kd i = 0)
    (ha : vm_act X i a b d z pc L S (vm_SH, vm_RT, M) = some (if c then t1 else t2, L, S', (vm_SH, vm_RT, M))) (h1 : c → vm_WM X k t1 L S' M Q) (h2 : ¬ c → vm_WM X k t2 L S' M Q) : vm_WM X k pc L S M Q := vm_WP.if j hj hk ha h1 h2
theorem vm_WM.ret (j : Nat) {i : Instr} {len a b cx d : Nat} {z : Int} {r : Option Value} (hj : (vm_prog k)[j]? = some (pc, i, len, a, b, cx, d, z)) (hk : vm_kd i = 1) (hr : vm_rt k i S = some r) (h : Q r M) : vm_WM X k pc L S M Q := vm_WP.ret j hj hk hr ⟨M, rfl, h⟩
theorem vm_WM.call (j : Nat) {i : Instr} {len a b cx d : Nat} {z : Int} (as rest L0 : List Value) (hj : (vm_prog k)[j]? = some (pc, i, len, a, b, cx, d, z)) (hk : vm_kd i = 2) (ha : a < 1000)
    (has : (S.take (if vm_kind a = 1 then vm_np a else vm_np a + 1)).reverse = as) (hrest : S.drop (if vm_kind a = 1 then vm_np a else vm_np a + 1) = rest)
    (hc : as.length = (if vm_kind a = 1 then vm_np a else vm_np a + 1) ∧ (vm_kind a = 1 ∨ vm_rc (vm_SH, vm_RT, M) a (vm_lg as 0) = true) ∧ vm_wt rest ≤ 8 ∧ (vm_sl as).length ≤ vm_ml a) (hL : vm_entry a as = L0) (hmc : vm_mc a = 0) (hms : vm_ms a = 0)
    (h : vm_WM X a 0 L0 [] M (fun r M' => vm_WM X k (pc + 3) L (r.toList ++ rest) M' Q)) : vm_WM X k pc L S M Q := by
  refine vm_WP.call j as rest L0 hj hk ha has hrest ⟨hc.1, hc.2.1, by omega, by omega, hc.2.2⟩ hL ?_
  rw [hmc, hms]
  exact vm_WP.mono h (fun r σ' ⟨M', e, h⟩ => by subst e; exact h)
theorem vm_WM.theni {k' : Nat} {L0 : List Value} {P : Int32 → vm_M → Prop} {rest : List Value} (h : vm_WM X k' 0 L0 [] M (vm_qi P)) (hn : ∀ v M', P v M' → vm_WM X k pc L (.int v :: rest) M' Q) : vm_WM X k' 0 L0 [] M (fun r M' => vm_WM X k pc L (r.toList ++ rest) M' Q) :=
  h.mono (fun r M' ⟨v, e, h⟩ => by subst e; exact hn v M' h)
theorem vm_WM.thenl {k' : Nat} {L0 : List Value} {P : Int64 → vm_M → Prop} {rest : List Value} (h : vm_WM X k' 0 L0 [] M (vm_ql P)) (hn : ∀ v M', P v M' → vm_WM X k pc L (.long v :: rest) M' Q) : vm_WM X k' 0 L0 [] M (fun r M' => vm_WM X k pc L (r.toList ++ rest) M' Q) :=
  h.mono (fun r M' ⟨v, e, h⟩ => by subst e; exact hn v M' h)
theorem vm_WM.thenv {k' : Nat} {L0 : List Value} {P : vm_M → Prop} {rest : List Value} (h : vm_WM X k' 0 L0 [] M (vm_qv P)) (hn : ∀ M', P M' → vm_WM X k pc L rest M' Q) : vm_WM X k' 0 L0 [] M (fun r M' => vm_WM X k pc L (r.toList ++ rest) M' Q) :=
  h.mono (fun r M' ⟨e, h⟩ => by subst e; exact hn M' h)
theorem vm_WM.ald (j : Nat) {i : Instr} {len a b cx d : Nat} {z : Int} {r t n jj : Nat} {x : Int32} (hj : (vm_prog k)[j]? = some (pc, i, len, a, b, cx, d, z)) (hi : (i = .iaload ∧ t = 0) ∨ (i = .baload ∧ (t = 1 ∨ t = 2))) (hr : r < 1000) (hs : vm_SH[r]? = some (1, t, n)) (hx : x = nI jj) (hjj : jj < n)
    (h : vm_WM X k (pc + 1) L (.int (M r jj) :: S) M Q) : vm_WM X k pc L (.int x :: .ref r :: S) M Q := by
  have hn : n < 10000 := by
    have h1 : vm_SH.all (fun s => decide (s.2.2 < 10000)) = true := by decide
    exact of_decide_eq_true (List.all_eq_true.mp h1 _ (List.mem_of_getElem? hs))
  subst hx
  refine vm_WP.ald j hj hi hr hs (vp_in_nI hjj (by omega)) ?_
  rw [nI_clamp (by omega)]
  exact h
theorem vm_WM.ast (j : Nat) {len a b cx d : Nat} {z : Int} {r n jj : Nat} {x v : Int32} (hj : (vm_prog k)[j]? = some (pc, .iastore, len, a, b, cx, d, z)) (hs : vm_SH[r]? = some (1, 0, n)) (hx : x = nI jj) (hjj : jj < n)
    (h : vm_WM X k (pc + 1) L S (vm_u2 M r jj v) Q) : vm_WM X k pc L (.int v :: .int x :: .ref r :: S) M Q := by
  have hn : n < 10000 := by
    have h1 : vm_SH.all (fun s => decide (s.2.2 < 10000)) = true := by decide
    exact of_decide_eq_true (List.all_eq_true.mp h1 _ (List.mem_of_getElem? hs))
  subst hx
  refine vm_WP.ast j hj hs (vp_in_nI hjj (by omega)) ?_
  rw [nI_clamp (by omega)]
  exact h
theorem vm_WM.bst (j : Nat) {len a b cx d : Nat} {z : Int} {r n t jj : Nat} {x v w : Int32} (hj : (vm_prog k)[j]? = some (pc, .bastore, len, a, b, cx, d, z)) (ht : t = 1 ∨ t = 2) (hw : vp_nar (vm_tyA t) v = w) (hs : vm_SH[r]? = some (1, t, n)) (hx : x = nI jj) (hjj : jj < n)
    (h : vm_WM X k (pc + 1) L S (vm_u2 M r jj w) Q) : vm_WM X k pc L (.int v :: .int x :: .ref r :: S) M Q := by
  have hn : n < 10000 := by
    have h1 : vm_SH.all (fun s => decide (s.2.2 < 10000)) = true := by decide
    exact of_decide_eq_true (List.all_eq_true.mp h1 _ (List.mem_of_getElem? hs))
  subst hx
  refine vm_WP.bst j hj ht hs (vp_in_nI hjj (by omega)) hw ?_
  rw [nI_clamp (by omega)]
  exact h
theorem vm_WM.copy (j : Nat) {i : Instr} {len b cx d : Nat} {z : Int} {q r n0 n1 : Nat} {sp dp m : Int32} (hj : (vm_prog k)[j]? = some (pc, i, len, 1000, b, cx, d, z)) (hk : vm_kd i = 2) (hq : vm_SH[q]? = some (1, 0, n0)) (hr : vm_SH[r]? = some (1, 0, n1))
    (h1 : ¬ sp < 0) (h2 : ¬ dp < 0) (h3 : ¬ m < 0) (h4 : sp.toNatClampNeg + m.toNatClampNeg ≤ n0) (h5 : dp.toNatClampNeg + m.toNatClampNeg ≤ n1) (h6 : vm_wt S ≤ 8)
    (h : vm_WM X k (pc + 3) L S (vm_cp M q r sp.toNatClampNeg dp.toNatClampNeg m.toNatClampNeg) Q) : vm_WM X k pc L (.int m :: .int dp :: .ref r :: .int sp :: .ref q :: S) M Q := vm_WP.copy j hj hk hq hr h1 h2 h3 h4 h5 h6 h
theorem vm_WM.sld (j : Nat) {len a b cx d : Nat} {z : Int} {x : Int32} {jj : Nat} (hX : X.1 < 10000) (hj : (vm_prog k)[j]? = some (pc, .iaload, len, a, b, cx, d, z)) (hx : x = nI jj) (hjj : jj < X.1) (h : vm_WM X k (pc + 1) L (.int (X.2 jj) :: S) M Q) : vm_WM X k pc L (.int x :: .ref 2000 :: S) M Q := by
  subst hx
  refine vm_WP.act (vm_ins_of hj) rfl ?_ h
  have h9 := vp_in_nI hjj (by omega)
  unfold vp_in at h9
  have hc := nI_clamp (show jj < 2 ^ 31 by omega)
  rw [hc] at h9
  simp [vm_act, vm_ald, hc, h9]
theorem vm_WM.sbl (j : Nat) {len a b cx d : Nat} {z : Int} {x : Int32} {si jj : Nat} (hj : (vm_prog k)[j]? = some (pc, .baload, len, a, b, cx, d, z)) (hsi : si < 8) (hx : x = nI jj) (hjj : jj < vm_strN si) (h : vm_WM X k (pc + 1) L (.int ((vm_strB.getD si []).getD jj 0) :: S) M Q) : vm_WM X k pc L (.int x :: .ref (1001 + 2 * si) :: S) M Q := by
  subst hx
  have hn : vm_strN si < 100 := by
    match si, hsi with
    | 0, _ => decide
    | 1, _ => decide
    | 2, _ => decide
    | 3, _ => decide
    | 4, _ => decide
    | 5, _ => decide
    | 6, _ => decide
    | 7, _ => decide
  refine vm_WP.act (vm_ins_of hj) rfl ?_ h
  have h9 := vp_in_nI hjj (by omega)
  unfold vp_in at h9
  have hc := nI_clamp (show jj < 2 ^ 31 by omega)
  rw [hc] at h9
  have e1 : ¬ 1001 + 2 * si < 1000 := by omega
  have e2 : ¬ 1001 + 2 * si = 2000 := by omega
  have e3 : (1001 + 2 * si) % 2 = 1 ∧ 1001 + 2 * si < 1016 := by omega
  have e4 : (1001 + 2 * si - 1000) / 2 = si := by omega
  simp only [vm_act, vm_ald]
  rw [if_neg e1, if_neg e2, if_pos e3, e4, hc]
  simp [h9]
theorem vm_WM.copyv (js jd jm : Nat) (j : Nat) {i : Instr} {len b cx d : Nat} {z : Int} {q r n0 n1 : Nat} {sp dp m : Int32} (hj : (vm_prog k)[j]? = some (pc, i, len, 1000, b, cx, d, z)) (hk : vm_kd i = 2) (hq : vm_SH[q]? = some (1, 0, n0)) (hr : vm_SH[r]? = some (1, 0, n1))
    (h1 : sp = nI js) (h2 : dp = nI jd) (h3 : m = nI jm) (h4 : js + jm ≤ n0) (h5 : jd + jm ≤ n1) (h6 : vm_wt S ≤ 8)
    (h : vm_WM X k (pc + 3) L S (vm_cp M q r js jd jm) Q) : vm_WM X k pc L (.int m :: .int dp :: .ref r :: .int sp :: .ref q :: S) M Q := by
  have hb : ∀ (r n : Nat), vm_SH[r]? = some (1, 0, n) → n < 10000 := by
    intro r n hs
    have h1 : vm_SH.all (fun s => decide (s.2.2 < 10000)) = true := by decide
    exact of_decide_eq_true (List.all_eq_true.mp h1 _ (List.mem_of_getElem? hs))
  have hb0 := hb _ _ hq
  have hb1 := hb _ _ hr
  subst h1; subst h2; subst h3
  refine vm_WM.copy j hj hk hq hr (nI_pos (by omega)) (nI_pos (by omega)) (nI_pos (by omega)) (by rw [nI_clamp (by omega), nI_clamp (by omega)]; exact h4) (by rw [nI_clamp (by omega), nI_clamp (by omega)]; exact h5) h6 ?_
  rw [nI_clamp (by omega), nI_clamp (by omega), nI_clamp (by omega)]
  exact h
theorem vm_WM.tso (t : Nat) (j : Nat) {len a b cx d : Nat} {z : Int} {x : Int32} {df lo hi : Int} {offs : Array Int} (hj : (vm_prog k)[j]? = some (pc, .tableswitch df lo hi offs, len, a, b, cx, d, z)) (ho : x.toInt < lo ∨ hi < x.toInt) (ht : ((pc : Int) + df).toNat = t) (h : vm_WM X k t L S M Q) : vm_WM X k pc L (.int x :: S) M Q := by
  refine vm_WP.act (vm_ins_of hj) rfl ?_ h
  simp only [vm_act]
  rw [if_pos ho, ht]
theorem vm_WM.tsi (t : Nat) (v : Nat) (j : Nat) {len a b cx d : Nat} {z : Int} {x : Int32} {df lo hi : Int} {offs : Array Int} (hj : (vm_prog k)[j]? = some (pc, .tableswitch df lo hi offs, len, a, b, cx, d, z)) (hx : x = nI v) (hv : v < 10000 ∧ lo ≤ (v : Int) ∧ (v : Int) ≤ hi)
    (ht : (match offs[((v : Int) - lo).toNat]? with | some off => some ((pc : Int) + off).toNat | none => none) = some t) (h : vm_WM X k t L S M Q) : vm_WM X k pc L (.int x :: S) M Q := by
  subst hx
  have e : (nI v).toInt = (v : Int) := nI_toInt (by omega)
  refine vm_WP.act (vm_ins_of hj) rfl ?_ h
  simp only [vm_act]
  rw [e, if_neg (by omega)]
  cases ho : offs[((v : Int) - lo).toNat]? with
  | none => rw [ho] at ht; cases ht
  | some off => rw [ho] at ht; cases ht; rfl
theorem vm_sw_no {x : Int32} {lo n : Nat} (hn : lo + n < 10000) (h : ∀ q, q < n → ¬ x = nI (lo + q)) : x.toInt < (lo : Int) ∨ ((lo : Int) + n - 1) < x.toInt := by
  by_cases h1 : x.toInt < (lo : Int)
  · exact Or.inl h1
  · by_cases h2 : ((lo : Int) + n - 1) < x.toInt
    · exact Or.inr h2
    · exact absurd (Int32.toInt_inj.mp (by rw [nI_toInt (by omega)]; omega)) (h (x.toInt - lo).toNat (by omega))
theorem vm_rtZ {x : Int32} {k : Nat} (hk : vm_ret k = some .boolean) (h : x = 0 ∨ x = 1) : vm_rt k .ireturn [.int x] = some (some (.int x)) := by
  simp only [vm_rt, hk]
  rw [if_pos h]
theorem vm_WM.mm (w : Int32) (j : Nat) {i : Instr} {len a b cx d : Nat} {z : Int} {x y : Int32} (hj : (vm_prog k)[j]? = some (pc, i, len, a, b, cx, d, z)) (hk : vm_kd i = 2) (ha : a = 1002 ∨ a = 1003) (hw : (if a = 1002 then (if x < y then y else x) else (if y < x then y else x)) = w) (h6 : vm_wt S ≤ 8)
    (h : vm_WM X k (pc + 3) L (.int w :: S) M Q) : vm_WM X k pc L (.int y :: .int x :: S) M Q := vm_WP.mm j hj hk ha hw h6 h
end VMM
end
