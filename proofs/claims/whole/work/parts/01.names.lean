-- ===== PART A: goes FIRST, ahead of the names: the tables' words, and 'selects' of the private methods out of them =====
/-- a private method of a class that the tables say can be made, by its rows of tables_1 -/
def lw_okq (q : MethodName × Nat) : Prop := (q.1.cls ≠ "java/lang/invoke/MethodHandle" ∧ q.1.cls ≠ "java/lang/invoke/VarHandle") ∧ Cond.instantiable q.1.cls q.2 ∈ tables_1 ∧ Cond.privateMethod q.1 ∈ tables_1 ∧ Cond.instanceMethod q.1 ∈ tables_1
theorem lw_p0 : lw_okq (⟨"AfterOffice$Ways", "fillFew", "()V"⟩, 9) := ⟨⟨by decide +kernel, by decide +kernel⟩, List.mem_of_getElem? (i := 475) (by decide +kernel), List.mem_of_getElem? (i := 481) (by decide +kernel), List.mem_of_getElem? (i := 482) (by decide +kernel)⟩
theorem lw_p1 : lw_okq (⟨"AfterOffice$Tokens", "scanOne", "(LAfterOffice$Tape;I)I"⟩, 5) := ⟨⟨by decide +kernel, by decide +kernel⟩, List.mem_of_getElem? (i := 49) (by decide +kernel), List.mem_of_getElem? (i := 608) (by decide +kernel), List.mem_of_getElem? (i := 609) (by decide +kernel)⟩
theorem lw_p2 : lw_okq (⟨"AfterOffice$Tokens", "scanWord", "(LAfterOffice$Tape;I)I"⟩, 5) := ⟨⟨by decide +kernel, by decide +kernel⟩, List.mem_of_getElem? (i := 49) (by decide +kernel), List.mem_of_getElem? (i := 613) (by decide +kernel), List.mem_of_getElem? (i := 614) (by decide +kernel)⟩
theorem lw_p3 : lw_okq (⟨"AfterOffice$Tokens", "wordKind", "(J)I"⟩, 5) := ⟨⟨by decide +kernel, by decide +kernel⟩, List.mem_of_getElem? (i := 49) (by decide +kernel), List.mem_of_getElem? (i := 617) (by decide +kernel), List.mem_of_getElem? (i := 618) (by decide +kernel)⟩
theorem lw_p4 : lw_okq (⟨"AfterOffice$Tokens", "scanInt", "(LAfterOffice$Tape;I)I"⟩, 5) := ⟨⟨by decide +kernel, by decide +kernel⟩, List.mem_of_getElem? (i := 49) (by decide +kernel), List.mem_of_getElem? (i := 621) (by decide +kernel), List.mem_of_getElem? (i := 622) (by decide +kernel)⟩
theorem lw_p5 : lw_okq (⟨"AfterOffice$Parser", "tell", "()Z"⟩, 10) := ⟨⟨by decide +kernel, by decide +kernel⟩, List.mem_of_getElem? (i := 267) (by decide +kernel), List.mem_of_getElem? (i := 637) (by decide +kernel), List.mem_of_getElem? (i := 638) (by decide +kernel)⟩
theorem lw_p6 : lw_okq (⟨"AfterOffice$Parser", "tellPerson", "()Z"⟩, 10) := ⟨⟨by decide +kernel, by decide +kernel⟩, List.mem_of_getElem? (i := 267) (by decide +kernel), List.mem_of_getElem? (i := 641) (by decide +kernel), List.mem_of_getElem? (i := 642) (by decide +kernel)⟩
theorem lw_p7 : lw_okq (⟨"AfterOffice$Parser", "stop", "(I)Z"⟩, 10) := ⟨⟨by decide +kernel, by decide +kernel⟩, List.mem_of_getElem? (i := 267) (by decide +kernel), List.mem_of_getElem? (i := 645) (by decide +kernel), List.mem_of_getElem? (i := 646) (by decide +kernel)⟩
theorem lw_p8 : lw_okq (⟨"AfterOffice$Parser", "take", "(I)Z"⟩, 10) := ⟨⟨by decide +kernel, by decide +kernel⟩, List.mem_of_getElem? (i := 267) (by decide +kernel), List.mem_of_getElem? (i := 649) (by decide +kernel), List.mem_of_getElem? (i := 650) (by decide +kernel)⟩
theorem lw_p9 : lw_okq (⟨"AfterOffice$Parser", "takeNewName", "([JI)Z"⟩, 10) := ⟨⟨by decide +kernel, by decide +kernel⟩, List.mem_of_getElem? (i := 267) (by decide +kernel), List.mem_of_getElem? (i := 653) (by decide +kernel), List.mem_of_getElem? (i := 654) (by decide +kernel)⟩
theorem lw_p10 : lw_okq (⟨"AfterOffice$Parser", "mark", "(II)V"⟩, 10) := ⟨⟨by decide +kernel, by decide +kernel⟩, List.mem_of_getElem? (i := 267) (by decide +kernel), List.mem_of_getElem? (i := 660) (by decide +kernel), List.mem_of_getElem? (i := 661) (by decide +kernel)⟩
theorem lw_p11 : lw_okq (⟨"AfterOffice$Parser", "takeInt", "(II)I"⟩, 10) := ⟨⟨by decide +kernel, by decide +kernel⟩, List.mem_of_getElem? (i := 267) (by decide +kernel), List.mem_of_getElem? (i := 664) (by decide +kernel), List.mem_of_getElem? (i := 665) (by decide +kernel)⟩
theorem lw_p12 : lw_okq (⟨"AfterOffice$Parser", "tellClerk", "()Z"⟩, 10) := ⟨⟨by decide +kernel, by decide +kernel⟩, List.mem_of_getElem? (i := 267) (by decide +kernel), List.mem_of_getElem? (i := 669) (by decide +kernel), List.mem_of_getElem? (i := 670) (by decide +kernel)⟩
theorem lw_p13 : lw_okq (⟨"AfterOffice$Parser", "tellBarred", "()Z"⟩, 10) := ⟨⟨by decide +kernel, by decide +kernel⟩, List.mem_of_getElem? (i := 267) (by decide +kernel), List.mem_of_getElem? (i := 673) (by decide +kernel), List.mem_of_getElem? (i := 674) (by decide +kernel)⟩
theorem lw_p14 : lw_okq (⟨"AfterOffice$Parser", "takeTold", "([JI)I"⟩, 10) := ⟨⟨by decide +kernel, by decide +kernel⟩, List.mem_of_getElem? (i := 267) (by decide +kernel), List.mem_of_getElem? (i := 677) (by decide +kernel), List.mem_of_getElem? (i := 678) (by decide +kernel)⟩
theorem lw_p15 : lw_okq (⟨"AfterOffice$Parser", "tellLetter", "()Z"⟩, 10) := ⟨⟨by decide +kernel, by decide +kernel⟩, List.mem_of_getElem? (i := 267) (by decide +kernel), List.mem_of_getElem? (i := 681) (by decide +kernel), List.mem_of_getElem? (i := 682) (by decide +kernel)⟩
def lw_privs_1 : List (MethodName × Nat) := [(⟨"AfterOffice$Ways", "fillFew", "()V"⟩, 9), (⟨"AfterOffice$Tokens", "scanOne", "(LAfterOffice$Tape;I)I"⟩, 5), (⟨"AfterOffice$Tokens", "scanWord", "(LAfterOffice$Tape;I)I"⟩, 5), (⟨"AfterOffice$Tokens", "wordKind", "(J)I"⟩, 5), (⟨"AfterOffice$Tokens", "scanInt", "(LAfterOffice$Tape;I)I"⟩, 5), (⟨"AfterOffice$Parser", "tell", "()Z"⟩, 10), (⟨"AfterOffice$Parser", "tellPerson", "()Z"⟩, 10), (⟨"AfterOffice$Parser", "stop", "(I)Z"⟩, 10), (⟨"AfterOffice$Parser", "take", "(I)Z"⟩, 10), (⟨"AfterOffice$Parser", "takeNewName", "([JI)Z"⟩, 10), (⟨"AfterOffice$Parser", "mark", "(II)V"⟩, 10), (⟨"AfterOffice$Parser", "takeInt", "(II)I"⟩, 10), (⟨"AfterOffice$Parser", "tellClerk", "()Z"⟩, 10), (⟨"AfterOffice$Parser", "tellBarred", "()Z"⟩, 10), (⟨"AfterOffice$Parser", "takeTold", "([JI)I"⟩, 10), (⟨"AfterOffice$Parser", "tellLetter", "()Z"⟩, 10)]
theorem lw_r1 : ∀ q ∈ lw_privs_1, lw_okq q := List.forall_mem_cons.mpr ⟨lw_p0, List.forall_mem_cons.mpr ⟨lw_p1, List.forall_mem_cons.mpr ⟨lw_p2, List.forall_mem_cons.mpr ⟨lw_p3, List.forall_mem_cons.mpr ⟨lw_p4, List.forall_mem_cons.mpr ⟨lw_p5, List.forall_mem_cons.mpr ⟨lw_p6, List.forall_mem_cons.mpr ⟨lw_p7, List.forall_mem_cons.mpr ⟨lw_p8, List.forall_mem_cons.mpr ⟨lw_p9, List.forall_mem_cons.mpr ⟨lw_p10, List.forall_mem_cons.mpr ⟨lw_p11, List.forall_mem_cons.mpr ⟨lw_p12, List.forall_mem_cons.mpr ⟨lw_p13, List.forall_mem_cons.mpr ⟨lw_p14, List.forall_mem_cons.mpr ⟨lw_p15, fun _ h => absurd h List.not_mem_nil⟩⟩⟩⟩⟩⟩⟩⟩⟩⟩⟩⟩⟩⟩⟩⟩
theorem lw_p16 : lw_okq (⟨"AfterOffice$Parser", "takeLetterInts", "(LAfterOffice$Letter;)Z"⟩, 10) := ⟨⟨by decide +kernel, by decide +kernel⟩, List.mem_of_getElem? (i := 267) (by decide +kernel), List.mem_of_getElem? (i := 685) (by decide +kernel), List.mem_of_getElem? (i := 686) (by decide +kernel)⟩
theorem lw_p17 : lw_okq (⟨"AfterOffice$Parser", "condition", "()Z"⟩, 10) := ⟨⟨by decide +kernel, by decide +kernel⟩, List.mem_of_getElem? (i := 267) (by decide +kernel), List.mem_of_getElem? (i := 689) (by decide +kernel), List.mem_of_getElem? (i := 690) (by decide +kernel)⟩
theorem lw_p18 : lw_okq (⟨"AfterOffice$Parser", "literal", "()Z"⟩, 10) := ⟨⟨by decide +kernel, by decide +kernel⟩, List.mem_of_getElem? (i := 267) (by decide +kernel), List.mem_of_getElem? (i := 693) (by decide +kernel), List.mem_of_getElem? (i := 694) (by decide +kernel)⟩
theorem lw_p19 : lw_okq (⟨"AfterOffice$Parser", "emit", "(II)V"⟩, 10) := ⟨⟨by decide +kernel, by decide +kernel⟩, List.mem_of_getElem? (i := 267) (by decide +kernel), List.mem_of_getElem? (i := 697) (by decide +kernel), List.mem_of_getElem? (i := 698) (by decide +kernel)⟩
theorem lw_p20 : lw_okq (⟨"AfterOffice$Parser", "expression", "()Z"⟩, 10) := ⟨⟨by decide +kernel, by decide +kernel⟩, List.mem_of_getElem? (i := 267) (by decide +kernel), List.mem_of_getElem? (i := 701) (by decide +kernel), List.mem_of_getElem? (i := 702) (by decide +kernel)⟩
theorem lw_p21 : lw_okq (⟨"AfterOffice$Parser", "tellProof", "()Z"⟩, 10) := ⟨⟨by decide +kernel, by decide +kernel⟩, List.mem_of_getElem? (i := 267) (by decide +kernel), List.mem_of_getElem? (i := 711) (by decide +kernel), List.mem_of_getElem? (i := 712) (by decide +kernel)⟩
theorem lw_p22 : lw_okq (⟨"AfterOffice$Parser", "tellRule", "(I)Z"⟩, 10) := ⟨⟨by decide +kernel, by decide +kernel⟩, List.mem_of_getElem? (i := 267) (by decide +kernel), List.mem_of_getElem? (i := 715) (by decide +kernel), List.mem_of_getElem? (i := 716) (by decide +kernel)⟩
theorem lw_p23 : lw_okq (⟨"AfterOffice$Parser", "settleRead", "(LAfterOffice$Letter;I)V"⟩, 10) := ⟨⟨by decide +kernel, by decide +kernel⟩, List.mem_of_getElem? (i := 267) (by decide +kernel), List.mem_of_getElem? (i := 723) (by decide +kernel), List.mem_of_getElem? (i := 724) (by decide +kernel)⟩
theorem lw_p24 : lw_okq (⟨"AfterOffice$Reckoner", "ruled", "(IIIII)I"⟩, 8) := ⟨⟨by decide +kernel, by decide +kernel⟩, List.mem_of_getElem? (i := 306) (by decide +kernel), List.mem_of_getElem? (i := 742) (by decide +kernel), List.mem_of_getElem? (i := 743) (by decide +kernel)⟩
theorem lw_p25 : lw_okq (⟨"AfterOffice$Reckoner", "execute", "(II)I"⟩, 8) := ⟨⟨by decide +kernel, by decide +kernel⟩, List.mem_of_getElem? (i := 306) (by decide +kernel), List.mem_of_getElem? (i := 746) (by decide +kernel), List.mem_of_getElem? (i := 747) (by decide +kernel)⟩
theorem lw_p26 : lw_okq (⟨"AfterOffice$Reckoner", "valueOf", "(II)I"⟩, 8) := ⟨⟨by decide +kernel, by decide +kernel⟩, List.mem_of_getElem? (i := 306) (by decide +kernel), List.mem_of_getElem? (i := 751) (by decide +kernel), List.mem_of_getElem? (i := 752) (by decide +kernel)⟩
theorem lw_p27 : lw_okq (⟨"AfterOffice$Reckoner", "compared", "(III)I"⟩, 8) := ⟨⟨by decide +kernel, by decide +kernel⟩, List.mem_of_getElem? (i := 306) (by decide +kernel), List.mem_of_getElem? (i := 755) (by decide +kernel), List.mem_of_getElem? (i := 756) (by decide +kernel)⟩
theorem lw_p28 : lw_okq (⟨"AfterOffice$Reckoner", "joined", "(III)I"⟩, 8) := ⟨⟨by decide +kernel, by decide +kernel⟩, List.mem_of_getElem? (i := 306) (by decide +kernel), List.mem_of_getElem? (i := 759) (by decide +kernel), List.mem_of_getElem? (i := 760) (by decide +kernel)⟩
theorem lw_p29 : lw_okq (⟨"AfterOffice", "isLetter", "(I)Z"⟩, 13) := ⟨⟨by decide +kernel, by decide +kernel⟩, List.mem_of_getElem? (i := 25) (by decide +kernel), List.mem_of_getElem? (i := 778) (by decide +kernel), List.mem_of_getElem? (i := 779) (by decide +kernel)⟩
theorem lw_p30 : lw_okq (⟨"AfterOffice", "isPerson", "(I)Z"⟩, 13) := ⟨⟨by decide +kernel, by decide +kernel⟩, List.mem_of_getElem? (i := 25) (by decide +kernel), List.mem_of_getElem? (i := 786) (by decide +kernel), List.mem_of_getElem? (i := 787) (by decide +kernel)⟩
theorem lw_p31 : lw_okq (⟨"AfterOffice", "isYear", "(I)Z"⟩, 13) := ⟨⟨by decide +kernel, by decide +kernel⟩, List.mem_of_getElem? (i := 25) (by decide +kernel), List.mem_of_getElem? (i := 790) (by decide +kernel), List.mem_of_getElem? (i := 791) (by decide +kernel)⟩
def lw_privs_2 : List (MethodName × Nat) := [(⟨"AfterOffice$Parser", "takeLetterInts", "(LAfterOffice$Letter;)Z"⟩, 10), (⟨"AfterOffice$Parser", "condition", "()Z"⟩, 10), (⟨"AfterOffice$Parser", "literal", "()Z"⟩, 10), (⟨"AfterOffice$Parser", "emit", "(II)V"⟩, 10), (⟨"AfterOffice$Parser", "expression", "()Z"⟩, 10), (⟨"AfterOffice$Parser", "tellProof", "()Z"⟩, 10), (⟨"AfterOffice$Parser", "tellRule", "(I)Z"⟩, 10), (⟨"AfterOffice$Parser", "settleRead", "(LAfterOffice$Letter;I)V"⟩, 10), (⟨"AfterOffice$Reckoner", "ruled", "(IIIII)I"⟩, 8), (⟨"AfterOffice$Reckoner", "execute", "(II)I"⟩, 8), (⟨"AfterOffice$Reckoner", "valueOf", "(II)I"⟩, 8), (⟨"AfterOffice$Reckoner", "compared", "(III)I"⟩, 8), (⟨"AfterOffice$Reckoner", "joined", "(III)I"⟩, 8), (⟨"AfterOffice", "isLetter", "(I)Z"⟩, 13), (⟨"AfterOffice", "isPerson", "(I)Z"⟩, 13), (⟨"AfterOffice", "isYear", "(I)Z"⟩, 13)]
theorem lw_r2 : ∀ q ∈ lw_privs_2, lw_okq q := List.forall_mem_cons.mpr ⟨lw_p16, List.forall_mem_cons.mpr ⟨lw_p17, List.forall_mem_cons.mpr ⟨lw_p18, List.forall_mem_cons.mpr ⟨lw_p19, List.forall_mem_cons.mpr ⟨lw_p20, List.forall_mem_cons.mpr ⟨lw_p21, List.forall_mem_cons.mpr ⟨lw_p22, List.forall_mem_cons.mpr ⟨lw_p23, List.forall_mem_cons.mpr ⟨lw_p24, List.forall_mem_cons.mpr ⟨lw_p25, List.forall_mem_cons.mpr ⟨lw_p26, List.forall_mem_cons.mpr ⟨lw_p27, List.forall_mem_cons.mpr ⟨lw_p28, List.forall_mem_cons.mpr ⟨lw_p29, List.forall_mem_cons.mpr ⟨lw_p30, List.forall_mem_cons.mpr ⟨lw_p31, fun _ h => absurd h List.not_mem_nil⟩⟩⟩⟩⟩⟩⟩⟩⟩⟩⟩⟩⟩⟩⟩⟩
theorem lw_p32 : lw_okq (⟨"AfterOffice", "isKnown", "(I)Z"⟩, 13) := ⟨⟨by decide +kernel, by decide +kernel⟩, List.mem_of_getElem? (i := 25) (by decide +kernel), List.mem_of_getElem? (i := 861) (by decide +kernel), List.mem_of_getElem? (i := 862) (by decide +kernel)⟩
theorem lw_p33 : lw_okq (⟨"AfterOffice$Facts", "annulledBy", "(I)J"⟩, 7) := ⟨⟨by decide +kernel, by decide +kernel⟩, List.mem_of_getElem? (i := 337) (by decide +kernel), List.mem_of_getElem? (i := 869) (by decide +kernel), List.mem_of_getElem? (i := 870) (by decide +kernel)⟩
theorem lw_p34 : lw_okq (⟨"AfterOffice$Facts", "counts", "(IJ)Z"⟩, 7) := ⟨⟨by decide +kernel, by decide +kernel⟩, List.mem_of_getElem? (i := 337) (by decide +kernel), List.mem_of_getElem? (i := 873) (by decide +kernel), List.mem_of_getElem? (i := 874) (by decide +kernel)⟩
theorem lw_p35 : lw_okq (⟨"AfterOffice", "isLook", "(I)Z"⟩, 13) := ⟨⟨by decide +kernel, by decide +kernel⟩, List.mem_of_getElem? (i := 25) (by decide +kernel), List.mem_of_getElem? (i := 882) (by decide +kernel), List.mem_of_getElem? (i := 883) (by decide +kernel)⟩
theorem lw_p36 : lw_okq (⟨"AfterOffice$Course", "takeFact", "(II)V"⟩, 15) := ⟨⟨by decide +kernel, by decide +kernel⟩, List.mem_of_getElem? (i := 382) (by decide +kernel), List.mem_of_getElem? (i := 908) (by decide +kernel), List.mem_of_getElem? (i := 909) (by decide +kernel)⟩
theorem lw_p37 : lw_okq (⟨"AfterOffice$Course", "endAs", "(III)V"⟩, 15) := ⟨⟨by decide +kernel, by decide +kernel⟩, List.mem_of_getElem? (i := 382) (by decide +kernel), List.mem_of_getElem? (i := 913) (by decide +kernel), List.mem_of_getElem? (i := 914) (by decide +kernel)⟩
theorem lw_p38 : lw_okq (⟨"AfterOffice$Course", "floodShelf", "(II)V"⟩, 15) := ⟨⟨by decide +kernel, by decide +kernel⟩, List.mem_of_getElem? (i := 382) (by decide +kernel), List.mem_of_getElem? (i := 921) (by decide +kernel), List.mem_of_getElem? (i := 922) (by decide +kernel)⟩
theorem lw_p39 : lw_okq (⟨"AfterOffice$Course", "firstDue", "(I)I"⟩, 15) := ⟨⟨by decide +kernel, by decide +kernel⟩, List.mem_of_getElem? (i := 382) (by decide +kernel), List.mem_of_getElem? (i := 934) (by decide +kernel), List.mem_of_getElem? (i := 935) (by decide +kernel)⟩
theorem lw_p40 : lw_okq (⟨"AfterOffice$Courses", "bothHave", "(II)Z"⟩, 9) := ⟨⟨by decide +kernel, by decide +kernel⟩, List.mem_of_getElem? (i := 376) (by decide +kernel), List.mem_of_getElem? (i := 995) (by decide +kernel), List.mem_of_getElem? (i := 996) (by decide +kernel)⟩
theorem lw_p41 : lw_okq (⟨"AfterOffice$Courses", "allInTime", "(I)Z"⟩, 9) := ⟨⟨by decide +kernel, by decide +kernel⟩, List.mem_of_getElem? (i := 376) (by decide +kernel), List.mem_of_getElem? (i := 1007) (by decide +kernel), List.mem_of_getElem? (i := 1008) (by decide +kernel)⟩
theorem lw_p42 : lw_okq (⟨"AfterOffice$Courses", "trySecondLooks", "(I)V"⟩, 9) := ⟨⟨by decide +kernel, by decide +kernel⟩, List.mem_of_getElem? (i := 376) (by decide +kernel), List.mem_of_getElem? (i := 1057) (by decide +kernel), List.mem_of_getElem? (i := 1058) (by decide +kernel)⟩
theorem lw_p43 : lw_okq (⟨"AfterOffice", "areThere", "(II)Z"⟩, 13) := ⟨⟨by decide +kernel, by decide +kernel⟩, List.mem_of_getElem? (i := 25) (by decide +kernel), List.mem_of_getElem? (i := 1070) (by decide +kernel), List.mem_of_getElem? (i := 1071) (by decide +kernel)⟩
theorem lw_p44 : lw_okq (⟨"AfterOffice$Ways", "seekNeedOf", "(LAfterOffice$Letter;IIIII)Z"⟩, 9) := ⟨⟨by decide +kernel, by decide +kernel⟩, List.mem_of_getElem? (i := 475) (by decide +kernel), List.mem_of_getElem? (i := 1078) (by decide +kernel), List.mem_of_getElem? (i := 1079) (by decide +kernel)⟩
theorem lw_p45 : lw_okq (⟨"AfterOffice$Rings", "follow", "()V"⟩, 2) := ⟨⟨by decide +kernel, by decide +kernel⟩, List.mem_of_getElem? (i := 520) (by decide +kernel), List.mem_of_getElem? (i := 1101) (by decide +kernel), List.mem_of_getElem? (i := 1102) (by decide +kernel)⟩
theorem lw_p46 : lw_okq (⟨"AfterOffice$Rings", "mutual", "(I)I"⟩, 2) := ⟨⟨by decide +kernel, by decide +kernel⟩, List.mem_of_getElem? (i := 520) (by decide +kernel), List.mem_of_getElem? (i := 1106) (by decide +kernel), List.mem_of_getElem? (i := 1107) (by decide +kernel)⟩
theorem lw_p47 : lw_okq (⟨"AfterOffice$Rings", "leavesRings", "(I)Z"⟩, 2) := ⟨⟨by decide +kernel, by decide +kernel⟩, List.mem_of_getElem? (i := 520) (by decide +kernel), List.mem_of_getElem? (i := 1131) (by decide +kernel), List.mem_of_getElem? (i := 1132) (by decide +kernel)⟩
def lw_privs_3 : List (MethodName × Nat) := [(⟨"AfterOffice", "isKnown", "(I)Z"⟩, 13), (⟨"AfterOffice$Facts", "annulledBy", "(I)J"⟩, 7), (⟨"AfterOffice$Facts", "counts", "(IJ)Z"⟩, 7), (⟨"AfterOffice", "isLook", "(I)Z"⟩, 13), (⟨"AfterOffice$Course", "takeFact", "(II)V"⟩, 15), (⟨"AfterOffice$Course", "endAs", "(III)V"⟩, 15), (⟨"AfterOffice$Course", "floodShelf", "(II)V"⟩, 15), (⟨"AfterOffice$Course", "firstDue", "(I)I"⟩, 15), (⟨"AfterOffice$Courses", "bothHave", "(II)Z"⟩, 9), (⟨"AfterOffice$Courses", "allInTime", "(I)Z"⟩, 9), (⟨"AfterOffice$Courses", "trySecondLooks", "(I)V"⟩, 9), (⟨"AfterOffice", "areThere", "(II)Z"⟩, 13), (⟨"AfterOffice$Ways", "seekNeedOf", "(LAfterOffice$Letter;IIIII)Z"⟩, 9), (⟨"AfterOffice$Rings", "follow", "()V"⟩, 2), (⟨"AfterOffice$Rings", "mutual", "(I)I"⟩, 2), (⟨"AfterOffice$Rings", "leavesRings", "(I)Z"⟩, 2)]
theorem lw_r3 : ∀ q ∈ lw_privs_3, lw_okq q := List.forall_mem_cons.mpr ⟨lw_p32, List.forall_mem_cons.mpr ⟨lw_p33, List.forall_mem_cons.mpr ⟨lw_p34, List.forall_mem_cons.mpr ⟨lw_p35, List.forall_mem_cons.mpr ⟨lw_p36, List.forall_mem_cons.mpr ⟨lw_p37, List.forall_mem_cons.mpr ⟨lw_p38, List.forall_mem_cons.mpr ⟨lw_p39, List.forall_mem_cons.mpr ⟨lw_p40, List.forall_mem_cons.mpr ⟨lw_p41, List.forall_mem_cons.mpr ⟨lw_p42, List.forall_mem_cons.mpr ⟨lw_p43, List.forall_mem_cons.mpr ⟨lw_p44, List.forall_mem_cons.mpr ⟨lw_p45, List.forall_mem_cons.mpr ⟨lw_p46, List.forall_mem_cons.mpr ⟨lw_p47, fun _ h => absurd h List.not_mem_nil⟩⟩⟩⟩⟩⟩⟩⟩⟩⟩⟩⟩⟩⟩⟩⟩
theorem lw_p48 : lw_okq (⟨"AfterOffice$Ways", "cameTo", "(I)J"⟩, 9) := ⟨⟨by decide +kernel, by decide +kernel⟩, List.mem_of_getElem? (i := 475) (by decide +kernel), List.mem_of_getElem? (i := 1146) (by decide +kernel), List.mem_of_getElem? (i := 1147) (by decide +kernel)⟩
theorem lw_p49 : lw_okq (⟨"AfterOffice$Ways", "lookAtAll", "(IIIJ)J"⟩, 9) := ⟨⟨by decide +kernel, by decide +kernel⟩, List.mem_of_getElem? (i := 475) (by decide +kernel), List.mem_of_getElem? (i := 1151) (by decide +kernel), List.mem_of_getElem? (i := 1152) (by decide +kernel)⟩
theorem lw_p50 : lw_okq (⟨"AfterOffice$Ways", "lookUp", "(III)I"⟩, 9) := ⟨⟨by decide +kernel, by decide +kernel⟩, List.mem_of_getElem? (i := 475) (by decide +kernel), List.mem_of_getElem? (i := 1159) (by decide +kernel), List.mem_of_getElem? (i := 1160) (by decide +kernel)⟩
theorem lw_p51 : lw_okq (⟨"AfterOffice$Ways", "firstDue", "(III)I"⟩, 9) := ⟨⟨by decide +kernel, by decide +kernel⟩, List.mem_of_getElem? (i := 475) (by decide +kernel), List.mem_of_getElem? (i := 1163) (by decide +kernel), List.mem_of_getElem? (i := 1164) (by decide +kernel)⟩
theorem lw_p52 : lw_okq (⟨"AfterOffice$Ways", "waysTo", "(III)J"⟩, 9) := ⟨⟨by decide +kernel, by decide +kernel⟩, List.mem_of_getElem? (i := 475) (by decide +kernel), List.mem_of_getElem? (i := 1187) (by decide +kernel), List.mem_of_getElem? (i := 1188) (by decide +kernel)⟩
theorem lw_p53 : lw_okq (⟨"AfterOffice$Ways", "oddsOfNext", "(IIII)J"⟩, 9) := ⟨⟨by decide +kernel, by decide +kernel⟩, List.mem_of_getElem? (i := 475) (by decide +kernel), List.mem_of_getElem? (i := 1192) (by decide +kernel), List.mem_of_getElem? (i := 1193) (by decide +kernel)⟩
theorem lw_p54 : lw_okq (⟨"AfterOfficeModel", "put", "(I)V"⟩, 92) := ⟨⟨by decide +kernel, by decide +kernel⟩, List.mem_of_getElem? (i := 1238) (by decide +kernel), List.mem_of_getElem? (i := 1532) (by decide +kernel), List.mem_of_getElem? (i := 1533) (by decide +kernel)⟩
theorem lw_p55 : lw_okq (⟨"AfterOfficeModel", "cut", "()V"⟩, 92) := ⟨⟨by decide +kernel, by decide +kernel⟩, List.mem_of_getElem? (i := 1238) (by decide +kernel), List.mem_of_getElem? (i := 1544) (by decide +kernel), List.mem_of_getElem? (i := 1545) (by decide +kernel)⟩
theorem lw_p56 : lw_okq (⟨"AfterOfficeModel", "byteAt", "(I)I"⟩, 92) := ⟨⟨by decide +kernel, by decide +kernel⟩, List.mem_of_getElem? (i := 1238) (by decide +kernel), List.mem_of_getElem? (i := 1548) (by decide +kernel), List.mem_of_getElem? (i := 1549) (by decide +kernel)⟩
theorem lw_p57 : lw_okq (⟨"AfterOfficeModel", "token", "(IIIJ)V"⟩, 92) := ⟨⟨by decide +kernel, by decide +kernel⟩, List.mem_of_getElem? (i := 1238) (by decide +kernel), List.mem_of_getElem? (i := 1552) (by decide +kernel), List.mem_of_getElem? (i := 1553) (by decide +kernel)⟩
theorem lw_p58 : lw_okq (⟨"AfterOfficeModel", "sign", "(III)I"⟩, 92) := ⟨⟨by decide +kernel, by decide +kernel⟩, List.mem_of_getElem? (i := 1238) (by decide +kernel), List.mem_of_getElem? (i := 1562) (by decide +kernel), List.mem_of_getElem? (i := 1563) (by decide +kernel)⟩
theorem lw_p59 : lw_okq (⟨"AfterOfficeModel", "is", "(I)Z"⟩, 92) := ⟨⟨by decide +kernel, by decide +kernel⟩, List.mem_of_getElem? (i := 1238) (by decide +kernel), List.mem_of_getElem? (i := 1566) (by decide +kernel), List.mem_of_getElem? (i := 1567) (by decide +kernel)⟩
theorem lw_p60 : lw_okq (⟨"AfterOfficeModel", "tell", "()V"⟩, 92) := ⟨⟨by decide +kernel, by decide +kernel⟩, List.mem_of_getElem? (i := 1238) (by decide +kernel), List.mem_of_getElem? (i := 1570) (by decide +kernel), List.mem_of_getElem? (i := 1571) (by decide +kernel)⟩
theorem lw_p61 : lw_okq (⟨"AfterOfficeModel", "fail", "(I)V"⟩, 92) := ⟨⟨by decide +kernel, by decide +kernel⟩, List.mem_of_getElem? (i := 1238) (by decide +kernel), List.mem_of_getElem? (i := 1574) (by decide +kernel), List.mem_of_getElem? (i := 1575) (by decide +kernel)⟩
theorem lw_p62 : lw_okq (⟨"AfterOfficeModel", "tellPerson", "()V"⟩, 92) := ⟨⟨by decide +kernel, by decide +kernel⟩, List.mem_of_getElem? (i := 1238) (by decide +kernel), List.mem_of_getElem? (i := 1578) (by decide +kernel), List.mem_of_getElem? (i := 1579) (by decide +kernel)⟩
theorem lw_p63 : lw_okq (⟨"AfterOfficeModel", "goesOn", "()V"⟩, 92) := ⟨⟨by decide +kernel, by decide +kernel⟩, List.mem_of_getElem? (i := 1238) (by decide +kernel), List.mem_of_getElem? (i := 1582) (by decide +kernel), List.mem_of_getElem? (i := 1583) (by decide +kernel)⟩
def lw_privs_4 : List (MethodName × Nat) := [(⟨"AfterOffice$Ways", "cameTo", "(I)J"⟩, 9), (⟨"AfterOffice$Ways", "lookAtAll", "(IIIJ)J"⟩, 9), (⟨"AfterOffice$Ways", "lookUp", "(III)I"⟩, 9), (⟨"AfterOffice$Ways", "firstDue", "(III)I"⟩, 9), (⟨"AfterOffice$Ways", "waysTo", "(III)J"⟩, 9), (⟨"AfterOffice$Ways", "oddsOfNext", "(IIII)J"⟩, 9), (⟨"AfterOfficeModel", "put", "(I)V"⟩, 92), (⟨"AfterOfficeModel", "cut", "()V"⟩, 92), (⟨"AfterOfficeModel", "byteAt", "(I)I"⟩, 92), (⟨"AfterOfficeModel", "token", "(IIIJ)V"⟩, 92), (⟨"AfterOfficeModel", "sign", "(III)I"⟩, 92), (⟨"AfterOfficeModel", "is", "(I)Z"⟩, 92), (⟨"AfterOfficeModel", "tell", "()V"⟩, 92), (⟨"AfterOfficeModel", "fail", "(I)V"⟩, 92), (⟨"AfterOfficeModel", "tellPerson", "()V"⟩, 92), (⟨"AfterOfficeModel", "goesOn", "()V"⟩, 92)]
theorem lw_r4 : ∀ q ∈ lw_privs_4, lw_okq q := List.forall_mem_cons.mpr ⟨lw_p48, List.forall_mem_cons.mpr ⟨lw_p49, List.forall_mem_cons.mpr ⟨lw_p50, List.forall_mem_cons.mpr ⟨lw_p51, List.forall_mem_cons.mpr ⟨lw_p52, List.forall_mem_cons.mpr ⟨lw_p53, List.forall_mem_cons.mpr ⟨lw_p54, List.forall_mem_cons.mpr ⟨lw_p55, List.forall_mem_cons.mpr ⟨lw_p56, List.forall_mem_cons.mpr ⟨lw_p57, List.forall_mem_cons.mpr ⟨lw_p58, List.forall_mem_cons.mpr ⟨lw_p59, List.forall_mem_cons.mpr ⟨lw_p60, List.forall_mem_cons.mpr ⟨lw_p61, List.forall_mem_cons.mpr ⟨lw_p62, List.forall_mem_cons.mpr ⟨lw_p63, fun _ h => absurd h List.not_mem_nil⟩⟩⟩⟩⟩⟩⟩⟩⟩⟩⟩⟩⟩⟩⟩⟩
theorem lw_p64 : lw_okq (⟨"AfterOfficeModel", "named", "()I"⟩, 92) := ⟨⟨by decide +kernel, by decide +kernel⟩, List.mem_of_getElem? (i := 1238) (by decide +kernel), List.mem_of_getElem? (i := 1586) (by decide +kernel), List.mem_of_getElem? (i := 1587) (by decide +kernel)⟩
theorem lw_p65 : lw_okq (⟨"AfterOfficeModel", "must", "(I)V"⟩, 92) := ⟨⟨by decide +kernel, by decide +kernel⟩, List.mem_of_getElem? (i := 1238) (by decide +kernel), List.mem_of_getElem? (i := 1590) (by decide +kernel), List.mem_of_getElem? (i := 1591) (by decide +kernel)⟩
theorem lw_p66 : lw_okq (⟨"AfterOfficeModel", "amiss", "(II)V"⟩, 92) := ⟨⟨by decide +kernel, by decide +kernel⟩, List.mem_of_getElem? (i := 1238) (by decide +kernel), List.mem_of_getElem? (i := 1594) (by decide +kernel), List.mem_of_getElem? (i := 1595) (by decide +kernel)⟩
theorem lw_p67 : lw_okq (⟨"AfterOfficeModel", "bounded", "(II)I"⟩, 92) := ⟨⟨by decide +kernel, by decide +kernel⟩, List.mem_of_getElem? (i := 1238) (by decide +kernel), List.mem_of_getElem? (i := 1598) (by decide +kernel), List.mem_of_getElem? (i := 1599) (by decide +kernel)⟩
theorem lw_p68 : lw_okq (⟨"AfterOfficeModel", "notes", "(III)V"⟩, 92) := ⟨⟨by decide +kernel, by decide +kernel⟩, List.mem_of_getElem? (i := 1238) (by decide +kernel), List.mem_of_getElem? (i := 1602) (by decide +kernel), List.mem_of_getElem? (i := 1603) (by decide +kernel)⟩
theorem lw_p69 : lw_okq (⟨"AfterOfficeModel", "tellClerk", "()V"⟩, 92) := ⟨⟨by decide +kernel, by decide +kernel⟩, List.mem_of_getElem? (i := 1238) (by decide +kernel), List.mem_of_getElem? (i := 1606) (by decide +kernel), List.mem_of_getElem? (i := 1607) (by decide +kernel)⟩
theorem lw_p70 : lw_okq (⟨"AfterOfficeModel", "tellBar", "()V"⟩, 92) := ⟨⟨by decide +kernel, by decide +kernel⟩, List.mem_of_getElem? (i := 1238) (by decide +kernel), List.mem_of_getElem? (i := 1610) (by decide +kernel), List.mem_of_getElem? (i := 1611) (by decide +kernel)⟩
theorem lw_p71 : lw_okq (⟨"AfterOfficeModel", "known", "(I)I"⟩, 92) := ⟨⟨by decide +kernel, by decide +kernel⟩, List.mem_of_getElem? (i := 1238) (by decide +kernel), List.mem_of_getElem? (i := 1614) (by decide +kernel), List.mem_of_getElem? (i := 1615) (by decide +kernel)⟩
theorem lw_p72 : lw_okq (⟨"AfterOfficeModel", "find", "(II)I"⟩, 92) := ⟨⟨by decide +kernel, by decide +kernel⟩, List.mem_of_getElem? (i := 1238) (by decide +kernel), List.mem_of_getElem? (i := 1618) (by decide +kernel), List.mem_of_getElem? (i := 1619) (by decide +kernel)⟩
theorem lw_p73 : lw_okq (⟨"AfterOfficeModel", "tellLetter", "()V"⟩, 92) := ⟨⟨by decide +kernel, by decide +kernel⟩, List.mem_of_getElem? (i := 1238) (by decide +kernel), List.mem_of_getElem? (i := 1622) (by decide +kernel), List.mem_of_getElem? (i := 1623) (by decide +kernel)⟩
theorem lw_p74 : lw_okq (⟨"AfterOfficeModel", "condition", "()V"⟩, 92) := ⟨⟨by decide +kernel, by decide +kernel⟩, List.mem_of_getElem? (i := 1238) (by decide +kernel), List.mem_of_getElem? (i := 1626) (by decide +kernel), List.mem_of_getElem? (i := 1627) (by decide +kernel)⟩
theorem lw_p75 : lw_okq (⟨"AfterOfficeModel", "literal", "(Z)V"⟩, 92) := ⟨⟨by decide +kernel, by decide +kernel⟩, List.mem_of_getElem? (i := 1238) (by decide +kernel), List.mem_of_getElem? (i := 1630) (by decide +kernel), List.mem_of_getElem? (i := 1631) (by decide +kernel)⟩
theorem lw_p76 : lw_okq (⟨"AfterOfficeModel", "expression", "()V"⟩, 92) := ⟨⟨by decide +kernel, by decide +kernel⟩, List.mem_of_getElem? (i := 1238) (by decide +kernel), List.mem_of_getElem? (i := 1634) (by decide +kernel), List.mem_of_getElem? (i := 1635) (by decide +kernel)⟩
theorem lw_p77 : lw_okq (⟨"AfterOfficeModel", "unit", "()V"⟩, 92) := ⟨⟨by decide +kernel, by decide +kernel⟩, List.mem_of_getElem? (i := 1238) (by decide +kernel), List.mem_of_getElem? (i := 1638) (by decide +kernel), List.mem_of_getElem? (i := 1639) (by decide +kernel)⟩
theorem lw_p78 : lw_okq (⟨"AfterOfficeModel", "emit", "(II)V"⟩, 92) := ⟨⟨by decide +kernel, by decide +kernel⟩, List.mem_of_getElem? (i := 1238) (by decide +kernel), List.mem_of_getElem? (i := 1642) (by decide +kernel), List.mem_of_getElem? (i := 1643) (by decide +kernel)⟩
theorem lw_p79 : lw_okq (⟨"AfterOfficeModel", "comesOut", "(Z)V"⟩, 92) := ⟨⟨by decide +kernel, by decide +kernel⟩, List.mem_of_getElem? (i := 1238) (by decide +kernel), List.mem_of_getElem? (i := 1646) (by decide +kernel), List.mem_of_getElem? (i := 1647) (by decide +kernel)⟩
def lw_privs_5 : List (MethodName × Nat) := [(⟨"AfterOfficeModel", "named", "()I"⟩, 92), (⟨"AfterOfficeModel", "must", "(I)V"⟩, 92), (⟨"AfterOfficeModel", "amiss", "(II)V"⟩, 92), (⟨"AfterOfficeModel", "bounded", "(II)I"⟩, 92), (⟨"AfterOfficeModel", "notes", "(III)V"⟩, 92), (⟨"AfterOfficeModel", "tellClerk", "()V"⟩, 92), (⟨"AfterOfficeModel", "tellBar", "()V"⟩, 92), (⟨"AfterOfficeModel", "known", "(I)I"⟩, 92), (⟨"AfterOfficeModel", "find", "(II)I"⟩, 92), (⟨"AfterOfficeModel", "tellLetter", "()V"⟩, 92), (⟨"AfterOfficeModel", "condition", "()V"⟩, 92), (⟨"AfterOfficeModel", "literal", "(Z)V"⟩, 92), (⟨"AfterOfficeModel", "expression", "()V"⟩, 92), (⟨"AfterOfficeModel", "unit", "()V"⟩, 92), (⟨"AfterOfficeModel", "emit", "(II)V"⟩, 92), (⟨"AfterOfficeModel", "comesOut", "(Z)V"⟩, 92)]
theorem lw_r5 : ∀ q ∈ lw_privs_5, lw_okq q := List.forall_mem_cons.mpr ⟨lw_p64, List.forall_mem_cons.mpr ⟨lw_p65, List.forall_mem_cons.mpr ⟨lw_p66, List.forall_mem_cons.mpr ⟨lw_p67, List.forall_mem_cons.mpr ⟨lw_p68, List.forall_mem_cons.mpr ⟨lw_p69, List.forall_mem_cons.mpr ⟨lw_p70, List.forall_mem_cons.mpr ⟨lw_p71, List.forall_mem_cons.mpr ⟨lw_p72, List.forall_mem_cons.mpr ⟨lw_p73, List.forall_mem_cons.mpr ⟨lw_p74, List.forall_mem_cons.mpr ⟨lw_p75, List.forall_mem_cons.mpr ⟨lw_p76, List.forall_mem_cons.mpr ⟨lw_p77, List.forall_mem_cons.mpr ⟨lw_p78, List.forall_mem_cons.mpr ⟨lw_p79, fun _ h => absurd h List.not_mem_nil⟩⟩⟩⟩⟩⟩⟩⟩⟩⟩⟩⟩⟩⟩⟩⟩
theorem lw_p80 : lw_okq (⟨"AfterOfficeModel", "findsRead", "()V"⟩, 92) := ⟨⟨by decide +kernel, by decide +kernel⟩, List.mem_of_getElem? (i := 1238) (by decide +kernel), List.mem_of_getElem? (i := 1650) (by decide +kernel), List.mem_of_getElem? (i := 1651) (by decide +kernel)⟩
theorem lw_p81 : lw_okq (⟨"AfterOfficeModel", "hasLetter", "(I)Z"⟩, 92) := ⟨⟨by decide +kernel, by decide +kernel⟩, List.mem_of_getElem? (i := 1238) (by decide +kernel), List.mem_of_getElem? (i := 1662) (by decide +kernel), List.mem_of_getElem? (i := 1663) (by decide +kernel)⟩
theorem lw_p82 : lw_okq (⟨"AfterOfficeModel", "writer", "(I)I"⟩, 92) := ⟨⟨by decide +kernel, by decide +kernel⟩, List.mem_of_getElem? (i := 1238) (by decide +kernel), List.mem_of_getElem? (i := 1669) (by decide +kernel), List.mem_of_getElem? (i := 1670) (by decide +kernel)⟩
theorem lw_p83 : lw_okq (⟨"AfterOfficeModel", "reader", "(I)I"⟩, 92) := ⟨⟨by decide +kernel, by decide +kernel⟩, List.mem_of_getElem? (i := 1238) (by decide +kernel), List.mem_of_getElem? (i := 1673) (by decide +kernel), List.mem_of_getElem? (i := 1674) (by decide +kernel)⟩
theorem lw_p84 : lw_okq (⟨"AfterOfficeModel", "isPerson", "(I)Z"⟩, 92) := ⟨⟨by decide +kernel, by decide +kernel⟩, List.mem_of_getElem? (i := 1238) (by decide +kernel), List.mem_of_getElem? (i := 1681) (by decide +kernel), List.mem_of_getElem? (i := 1682) (by decide +kernel)⟩
theorem lw_p85 : lw_okq (⟨"AfterOfficeModel", "diesBy", "(II)I"⟩, 92) := ⟨⟨by decide +kernel, by decide +kernel⟩, List.mem_of_getElem? (i := 1238) (by decide +kernel), List.mem_of_getElem? (i := 1688) (by decide +kernel), List.mem_of_getElem? (i := 1689) (by decide +kernel)⟩
theorem lw_p86 : lw_okq (⟨"AfterOfficeModel", "sees", "(IIII)V"⟩, 92) := ⟨⟨by decide +kernel, by decide +kernel⟩, List.mem_of_getElem? (i := 1238) (by decide +kernel), List.mem_of_getElem? (i := 1692) (by decide +kernel), List.mem_of_getElem? (i := 1693) (by decide +kernel)⟩
theorem lw_p87 : lw_okq (⟨"AfterOfficeModel", "says", "(III)I"⟩, 92) := ⟨⟨by decide +kernel, by decide +kernel⟩, List.mem_of_getElem? (i := 1238) (by decide +kernel), List.mem_of_getElem? (i := 1696) (by decide +kernel), List.mem_of_getElem? (i := 1697) (by decide +kernel)⟩
theorem lw_p88 : lw_okq (⟨"AfterOfficeModel", "termOf", "(II)I"⟩, 92) := ⟨⟨by decide +kernel, by decide +kernel⟩, List.mem_of_getElem? (i := 1238) (by decide +kernel), List.mem_of_getElem? (i := 1700) (by decide +kernel), List.mem_of_getElem? (i := 1701) (by decide +kernel)⟩
theorem lw_p89 : lw_okq (⟨"AfterOfficeModel", "feeOf", "(II)I"⟩, 92) := ⟨⟨by decide +kernel, by decide +kernel⟩, List.mem_of_getElem? (i := 1238) (by decide +kernel), List.mem_of_getElem? (i := 1711) (by decide +kernel), List.mem_of_getElem? (i := 1712) (by decide +kernel)⟩
theorem lw_p90 : lw_okq (⟨"AfterOfficeModel", "isBarred", "(II)Z"⟩, 92) := ⟨⟨by decide +kernel, by decide +kernel⟩, List.mem_of_getElem? (i := 1238) (by decide +kernel), List.mem_of_getElem? (i := 1723) (by decide +kernel), List.mem_of_getElem? (i := 1724) (by decide +kernel)⟩
theorem lw_p91 : lw_okq (⟨"AfterOfficeModel", "canCome", "(I)Z"⟩, 92) := ⟨⟨by decide +kernel, by decide +kernel⟩, List.mem_of_getElem? (i := 1238) (by decide +kernel), List.mem_of_getElem? (i := 1731) (by decide +kernel), List.mem_of_getElem? (i := 1732) (by decide +kernel)⟩
theorem lw_p92 : lw_okq (⟨"AfterOfficeModel", "comes", "(IIII)I"⟩, 92) := ⟨⟨by decide +kernel, by decide +kernel⟩, List.mem_of_getElem? (i := 1238) (by decide +kernel), List.mem_of_getElem? (i := 1735) (by decide +kernel), List.mem_of_getElem? (i := 1736) (by decide +kernel)⟩
theorem lw_p93 : lw_okq (⟨"AfterOfficeModel", "isKnown", "(I)Z"⟩, 92) := ⟨⟨by decide +kernel, by decide +kernel⟩, List.mem_of_getElem? (i := 1238) (by decide +kernel), List.mem_of_getElem? (i := 1771) (by decide +kernel), List.mem_of_getElem? (i := 1772) (by decide +kernel)⟩
theorem lw_p94 : lw_okq (⟨"AfterOfficeModel", "weightOf", "(III)I"⟩, 92) := ⟨⟨by decide +kernel, by decide +kernel⟩, List.mem_of_getElem? (i := 1238) (by decide +kernel), List.mem_of_getElem? (i := 1775) (by decide +kernel), List.mem_of_getElem? (i := 1776) (by decide +kernel)⟩
theorem lw_p95 : lw_okq (⟨"AfterOfficeModel", "counts", "(II)Z"⟩, 92) := ⟨⟨by decide +kernel, by decide +kernel⟩, List.mem_of_getElem? (i := 1238) (by decide +kernel), List.mem_of_getElem? (i := 1779) (by decide +kernel), List.mem_of_getElem? (i := 1780) (by decide +kernel)⟩
def lw_privs_6 : List (MethodName × Nat) := [(⟨"AfterOfficeModel", "findsRead", "()V"⟩, 92), (⟨"AfterOfficeModel", "hasLetter", "(I)Z"⟩, 92), (⟨"AfterOfficeModel", "writer", "(I)I"⟩, 92), (⟨"AfterOfficeModel", "reader", "(I)I"⟩, 92), (⟨"AfterOfficeModel", "isPerson", "(I)Z"⟩, 92), (⟨"AfterOfficeModel", "diesBy", "(II)I"⟩, 92), (⟨"AfterOfficeModel", "sees", "(IIII)V"⟩, 92), (⟨"AfterOfficeModel", "says", "(III)I"⟩, 92), (⟨"AfterOfficeModel", "termOf", "(II)I"⟩, 92), (⟨"AfterOfficeModel", "feeOf", "(II)I"⟩, 92), (⟨"AfterOfficeModel", "isBarred", "(II)Z"⟩, 92), (⟨"AfterOfficeModel", "canCome", "(I)Z"⟩, 92), (⟨"AfterOfficeModel", "comes", "(IIII)I"⟩, 92), (⟨"AfterOfficeModel", "isKnown", "(I)Z"⟩, 92), (⟨"AfterOfficeModel", "weightOf", "(III)I"⟩, 92), (⟨"AfterOfficeModel", "counts", "(II)Z"⟩, 92)]
theorem lw_r6 : ∀ q ∈ lw_privs_6, lw_okq q := List.forall_mem_cons.mpr ⟨lw_p80, List.forall_mem_cons.mpr ⟨lw_p81, List.forall_mem_cons.mpr ⟨lw_p82, List.forall_mem_cons.mpr ⟨lw_p83, List.forall_mem_cons.mpr ⟨lw_p84, List.forall_mem_cons.mpr ⟨lw_p85, List.forall_mem_cons.mpr ⟨lw_p86, List.forall_mem_cons.mpr ⟨lw_p87, List.forall_mem_cons.mpr ⟨lw_p88, List.forall_mem_cons.mpr ⟨lw_p89, List.forall_mem_cons.mpr ⟨lw_p90, List.forall_mem_cons.mpr ⟨lw_p91, List.forall_mem_cons.mpr ⟨lw_p92, List.forall_mem_cons.mpr ⟨lw_p93, List.forall_mem_cons.mpr ⟨lw_p94, List.forall_mem_cons.mpr ⟨lw_p95, fun _ h => absurd h List.not_mem_nil⟩⟩⟩⟩⟩⟩⟩⟩⟩⟩⟩⟩⟩⟩⟩⟩
theorem lw_p96 : lw_okq (⟨"AfterOfficeModel", "runs", "(IIIIZI)V"⟩, 92) := ⟨⟨by decide +kernel, by decide +kernel⟩, List.mem_of_getElem? (i := 1238) (by decide +kernel), List.mem_of_getElem? (i := 1787) (by decide +kernel), List.mem_of_getElem? (i := 1788) (by decide +kernel)⟩
theorem lw_p97 : lw_okq (⟨"AfterOfficeModel", "starts", "()V"⟩, 92) := ⟨⟨by decide +kernel, by decide +kernel⟩, List.mem_of_getElem? (i := 1238) (by decide +kernel), List.mem_of_getElem? (i := 1791) (by decide +kernel), List.mem_of_getElem? (i := 1792) (by decide +kernel)⟩
theorem lw_p98 : lw_okq (⟨"AfterOfficeModel", "happens", "(IZ)V"⟩, 92) := ⟨⟨by decide +kernel, by decide +kernel⟩, List.mem_of_getElem? (i := 1238) (by decide +kernel), List.mem_of_getElem? (i := 1795) (by decide +kernel), List.mem_of_getElem? (i := 1796) (by decide +kernel)⟩
theorem lw_p99 : lw_okq (⟨"AfterOfficeModel", "becomes", "(III)V"⟩, 92) := ⟨⟨by decide +kernel, by decide +kernel⟩, List.mem_of_getElem? (i := 1238) (by decide +kernel), List.mem_of_getElem? (i := 1799) (by decide +kernel), List.mem_of_getElem? (i := 1800) (by decide +kernel)⟩
theorem lw_p100 : lw_okq (⟨"AfterOfficeModel", "holdsFor", "(IIII)Z"⟩, 92) := ⟨⟨by decide +kernel, by decide +kernel⟩, List.mem_of_getElem? (i := 1238) (by decide +kernel), List.mem_of_getElem? (i := 1803) (by decide +kernel), List.mem_of_getElem? (i := 1804) (by decide +kernel)⟩
theorem lw_p101 : lw_okq (⟨"AfterOfficeModel", "holdsRule", "(I)Z"⟩, 92) := ⟨⟨by decide +kernel, by decide +kernel⟩, List.mem_of_getElem? (i := 1238) (by decide +kernel), List.mem_of_getElem? (i := 1807) (by decide +kernel), List.mem_of_getElem? (i := 1808) (by decide +kernel)⟩
theorem lw_p102 : lw_okq (⟨"AfterOfficeModel", "isTrue", "(I)Z"⟩, 92) := ⟨⟨by decide +kernel, by decide +kernel⟩, List.mem_of_getElem? (i := 1238) (by decide +kernel), List.mem_of_getElem? (i := 1811) (by decide +kernel), List.mem_of_getElem? (i := 1812) (by decide +kernel)⟩
theorem lw_p103 : lw_okq (⟨"AfterOfficeModel", "floods", "(II)V"⟩, 92) := ⟨⟨by decide +kernel, by decide +kernel⟩, List.mem_of_getElem? (i := 1238) (by decide +kernel), List.mem_of_getElem? (i := 1815) (by decide +kernel), List.mem_of_getElem? (i := 1816) (by decide +kernel)⟩
theorem lw_p104 : lw_okq (⟨"AfterOfficeModel", "pays", "(I)V"⟩, 92) := ⟨⟨by decide +kernel, by decide +kernel⟩, List.mem_of_getElem? (i := 1238) (by decide +kernel), List.mem_of_getElem? (i := 1819) (by decide +kernel), List.mem_of_getElem? (i := 1820) (by decide +kernel)⟩
theorem lw_p105 : lw_okq (⟨"AfterOfficeModel", "looksNow", "(I)V"⟩, 92) := ⟨⟨by decide +kernel, by decide +kernel⟩, List.mem_of_getElem? (i := 1238) (by decide +kernel), List.mem_of_getElem? (i := 1823) (by decide +kernel), List.mem_of_getElem? (i := 1824) (by decide +kernel)⟩
theorem lw_p106 : lw_okq (⟨"AfterOfficeModel", "isDue", "(II)Z"⟩, 92) := ⟨⟨by decide +kernel, by decide +kernel⟩, List.mem_of_getElem? (i := 1238) (by decide +kernel), List.mem_of_getElem? (i := 1827) (by decide +kernel), List.mem_of_getElem? (i := 1828) (by decide +kernel)⟩
theorem lw_p107 : lw_okq (⟨"AfterOfficeModel", "isClerkBarred", "(II)Z"⟩, 92) := ⟨⟨by decide +kernel, by decide +kernel⟩, List.mem_of_getElem? (i := 1238) (by decide +kernel), List.mem_of_getElem? (i := 1831) (by decide +kernel), List.mem_of_getElem? (i := 1832) (by decide +kernel)⟩
theorem lw_p108 : lw_okq (⟨"AfterOfficeModel", "runsAll", "(I)V"⟩, 92) := ⟨⟨by decide +kernel, by decide +kernel⟩, List.mem_of_getElem? (i := 1238) (by decide +kernel), List.mem_of_getElem? (i := 1847) (by decide +kernel), List.mem_of_getElem? (i := 1848) (by decide +kernel)⟩
theorem lw_p109 : lw_okq (⟨"AfterOfficeModel", "keepsYearly", "()V"⟩, 92) := ⟨⟨by decide +kernel, by decide +kernel⟩, List.mem_of_getElem? (i := 1238) (by decide +kernel), List.mem_of_getElem? (i := 1855) (by decide +kernel), List.mem_of_getElem? (i := 1856) (by decide +kernel)⟩
theorem lw_p110 : lw_okq (⟨"AfterOfficeModel", "isWatched", "(I)Z"⟩, 92) := ⟨⟨by decide +kernel, by decide +kernel⟩, List.mem_of_getElem? (i := 1238) (by decide +kernel), List.mem_of_getElem? (i := 1874) (by decide +kernel), List.mem_of_getElem? (i := 1875) (by decide +kernel)⟩
theorem lw_p111 : lw_okq (⟨"AfterOfficeModel", "gains", "()I"⟩, 92) := ⟨⟨by decide +kernel, by decide +kernel⟩, List.mem_of_getElem? (i := 1238) (by decide +kernel), List.mem_of_getElem? (i := 1882) (by decide +kernel), List.mem_of_getElem? (i := 1883) (by decide +kernel)⟩
def lw_privs_7 : List (MethodName × Nat) := [(⟨"AfterOfficeModel", "runs", "(IIIIZI)V"⟩, 92), (⟨"AfterOfficeModel", "starts", "()V"⟩, 92), (⟨"AfterOfficeModel", "happens", "(IZ)V"⟩, 92), (⟨"AfterOfficeModel", "becomes", "(III)V"⟩, 92), (⟨"AfterOfficeModel", "holdsFor", "(IIII)Z"⟩, 92), (⟨"AfterOfficeModel", "holdsRule", "(I)Z"⟩, 92), (⟨"AfterOfficeModel", "isTrue", "(I)Z"⟩, 92), (⟨"AfterOfficeModel", "floods", "(II)V"⟩, 92), (⟨"AfterOfficeModel", "pays", "(I)V"⟩, 92), (⟨"AfterOfficeModel", "looksNow", "(I)V"⟩, 92), (⟨"AfterOfficeModel", "isDue", "(II)Z"⟩, 92), (⟨"AfterOfficeModel", "isClerkBarred", "(II)Z"⟩, 92), (⟨"AfterOfficeModel", "runsAll", "(I)V"⟩, 92), (⟨"AfterOfficeModel", "keepsYearly", "()V"⟩, 92), (⟨"AfterOfficeModel", "isWatched", "(I)Z"⟩, 92), (⟨"AfterOfficeModel", "gains", "()I"⟩, 92)]
theorem lw_r7 : ∀ q ∈ lw_privs_7, lw_okq q := List.forall_mem_cons.mpr ⟨lw_p96, List.forall_mem_cons.mpr ⟨lw_p97, List.forall_mem_cons.mpr ⟨lw_p98, List.forall_mem_cons.mpr ⟨lw_p99, List.forall_mem_cons.mpr ⟨lw_p100, List.forall_mem_cons.mpr ⟨lw_p101, List.forall_mem_cons.mpr ⟨lw_p102, List.forall_mem_cons.mpr ⟨lw_p103, List.forall_mem_cons.mpr ⟨lw_p104, List.forall_mem_cons.mpr ⟨lw_p105, List.forall_mem_cons.mpr ⟨lw_p106, List.forall_mem_cons.mpr ⟨lw_p107, List.forall_mem_cons.mpr ⟨lw_p108, List.forall_mem_cons.mpr ⟨lw_p109, List.forall_mem_cons.mpr ⟨lw_p110, List.forall_mem_cons.mpr ⟨lw_p111, fun _ h => absurd h List.not_mem_nil⟩⟩⟩⟩⟩⟩⟩⟩⟩⟩⟩⟩⟩⟩⟩⟩
theorem lw_p112 : lw_okq (⟨"AfterOfficeModel", "goodOf", "(III)I"⟩, 92) := ⟨⟨by decide +kernel, by decide +kernel⟩, List.mem_of_getElem? (i := 1238) (by decide +kernel), List.mem_of_getElem? (i := 1886) (by decide +kernel), List.mem_of_getElem? (i := 1887) (by decide +kernel)⟩
theorem lw_p113 : lw_okq (⟨"AfterOfficeModel", "asksOf", "(I)I"⟩, 92) := ⟨⟨by decide +kernel, by decide +kernel⟩, List.mem_of_getElem? (i := 1238) (by decide +kernel), List.mem_of_getElem? (i := 1906) (by decide +kernel), List.mem_of_getElem? (i := 1907) (by decide +kernel)⟩
theorem lw_p114 : lw_okq (⟨"AfterOfficeModel", "closes", "(I)V"⟩, 92) := ⟨⟨by decide +kernel, by decide +kernel⟩, List.mem_of_getElem? (i := 1238) (by decide +kernel), List.mem_of_getElem? (i := 1914) (by decide +kernel), List.mem_of_getElem? (i := 1915) (by decide +kernel)⟩
theorem lw_p115 : lw_okq (⟨"AfterOfficeModel", "ringOf", "(I)I"⟩, 92) := ⟨⟨by decide +kernel, by decide +kernel⟩, List.mem_of_getElem? (i := 1238) (by decide +kernel), List.mem_of_getElem? (i := 1918) (by decide +kernel), List.mem_of_getElem? (i := 1919) (by decide +kernel)⟩
theorem lw_p116 : lw_okq (⟨"AfterOfficeModel", "hasRings", "(I)Z"⟩, 92) := ⟨⟨by decide +kernel, by decide +kernel⟩, List.mem_of_getElem? (i := 1238) (by decide +kernel), List.mem_of_getElem? (i := 1933) (by decide +kernel), List.mem_of_getElem? (i := 1934) (by decide +kernel)⟩
theorem lw_p117 : lw_okq (⟨"AfterOfficeModel", "areSets", "(II)Z"⟩, 92) := ⟨⟨by decide +kernel, by decide +kernel⟩, List.mem_of_getElem? (i := 1238) (by decide +kernel), List.mem_of_getElem? (i := 1941) (by decide +kernel), List.mem_of_getElem? (i := 1942) (by decide +kernel)⟩
theorem lw_p118 : lw_okq (⟨"AfterOfficeModel", "needs", "(IIII)V"⟩, 92) := ⟨⟨by decide +kernel, by decide +kernel⟩, List.mem_of_getElem? (i := 1238) (by decide +kernel), List.mem_of_getElem? (i := 1945) (by decide +kernel), List.mem_of_getElem? (i := 1946) (by decide +kernel)⟩
theorem lw_p119 : lw_okq (⟨"AfterOfficeModel", "fillLooks", "(I)V"⟩, 92) := ⟨⟨by decide +kernel, by decide +kernel⟩, List.mem_of_getElem? (i := 1238) (by decide +kernel), List.mem_of_getElem? (i := 1953) (by decide +kernel), List.mem_of_getElem? (i := 1954) (by decide +kernel)⟩
theorem lw_p120 : lw_okq (⟨"AfterOfficeModel", "mayBeOpened", "(IIII)Z"⟩, 92) := ⟨⟨by decide +kernel, by decide +kernel⟩, List.mem_of_getElem? (i := 1238) (by decide +kernel), List.mem_of_getElem? (i := 1957) (by decide +kernel), List.mem_of_getElem? (i := 1958) (by decide +kernel)⟩
theorem lw_p121 : lw_okq (⟨"AfterOfficeModel", "waysOf", "(III)J"⟩, 92) := ⟨⟨by decide +kernel, by decide +kernel⟩, List.mem_of_getElem? (i := 1238) (by decide +kernel), List.mem_of_getElem? (i := 1971) (by decide +kernel), List.mem_of_getElem? (i := 1972) (by decide +kernel)⟩
theorem lw_p122 : lw_okq (⟨"AfterOfficeModel", "lookFrom", "(III)I"⟩, 92) := ⟨⟨by decide +kernel, by decide +kernel⟩, List.mem_of_getElem? (i := 1238) (by decide +kernel), List.mem_of_getElem? (i := 1976) (by decide +kernel), List.mem_of_getElem? (i := 1977) (by decide +kernel)⟩
theorem lw_p123 : lw_okq (⟨"AfterOfficeModel", "livesBy", "(II)V"⟩, 92) := ⟨⟨by decide +kernel, by decide +kernel⟩, List.mem_of_getElem? (i := 1238) (by decide +kernel), List.mem_of_getElem? (i := 1984) (by decide +kernel), List.mem_of_getElem? (i := 1985) (by decide +kernel)⟩
theorem lw_p124 : lw_okq (⟨"AfterOfficeModel", "those", "(I)I"⟩, 92) := ⟨⟨by decide +kernel, by decide +kernel⟩, List.mem_of_getElem? (i := 1238) (by decide +kernel), List.mem_of_getElem? (i := 1995) (by decide +kernel), List.mem_of_getElem? (i := 1996) (by decide +kernel)⟩
def lw_privs_8 : List (MethodName × Nat) := [(⟨"AfterOfficeModel", "goodOf", "(III)I"⟩, 92), (⟨"AfterOfficeModel", "asksOf", "(I)I"⟩, 92), (⟨"AfterOfficeModel", "closes", "(I)V"⟩, 92), (⟨"AfterOfficeModel", "ringOf", "(I)I"⟩, 92), (⟨"AfterOfficeModel", "hasRings", "(I)Z"⟩, 92), (⟨"AfterOfficeModel", "areSets", "(II)Z"⟩, 92), (⟨"AfterOfficeModel", "needs", "(IIII)V"⟩, 92), (⟨"AfterOfficeModel", "fillLooks", "(I)V"⟩, 92), (⟨"AfterOfficeModel", "mayBeOpened", "(IIII)Z"⟩, 92), (⟨"AfterOfficeModel", "waysOf", "(III)J"⟩, 92), (⟨"AfterOfficeModel", "lookFrom", "(III)I"⟩, 92), (⟨"AfterOfficeModel", "livesBy", "(II)V"⟩, 92), (⟨"AfterOfficeModel", "those", "(I)I"⟩, 92)]
theorem lw_r8 : ∀ q ∈ lw_privs_8, lw_okq q := List.forall_mem_cons.mpr ⟨lw_p112, List.forall_mem_cons.mpr ⟨lw_p113, List.forall_mem_cons.mpr ⟨lw_p114, List.forall_mem_cons.mpr ⟨lw_p115, List.forall_mem_cons.mpr ⟨lw_p116, List.forall_mem_cons.mpr ⟨lw_p117, List.forall_mem_cons.mpr ⟨lw_p118, List.forall_mem_cons.mpr ⟨lw_p119, List.forall_mem_cons.mpr ⟨lw_p120, List.forall_mem_cons.mpr ⟨lw_p121, List.forall_mem_cons.mpr ⟨lw_p122, List.forall_mem_cons.mpr ⟨lw_p123, List.forall_mem_cons.mpr ⟨lw_p124, fun _ h => absurd h List.not_mem_nil⟩⟩⟩⟩⟩⟩⟩⟩⟩⟩⟩⟩⟩
def lw_privs : List (MethodName × Nat) := lw_privs_1 ++ (lw_privs_2 ++ (lw_privs_3 ++ (lw_privs_4 ++ (lw_privs_5 ++ (lw_privs_6 ++ (lw_privs_7 ++ (lw_privs_8)))))))
def lw_tbl : List Cond := k2_sels lw_privs ++ tables_1
theorem lw_privs_ok : ∀ q ∈ lw_privs, lw_okq q := by
  show ∀ q ∈ lw_privs_1 ++ (lw_privs_2 ++ (lw_privs_3 ++ (lw_privs_4 ++ (lw_privs_5 ++ (lw_privs_6 ++ (lw_privs_7 ++ (lw_privs_8))))))), lw_okq q
  exact List.forall_mem_append.mpr ⟨lw_r1, List.forall_mem_append.mpr ⟨lw_r2, List.forall_mem_append.mpr ⟨lw_r3, List.forall_mem_append.mpr ⟨lw_r4, List.forall_mem_append.mpr ⟨lw_r5, List.forall_mem_append.mpr ⟨lw_r6, List.forall_mem_append.mpr ⟨lw_r7, lw_r8⟩⟩⟩⟩⟩⟩⟩
theorem goodIn_r {big : List Cond} (ws : List Cond) (ps : List Nat) (hp : ws = ps.filterMap (fun i => big[i]?)) (h : ws.all goodWord = true) : GoodIn big ws := by
  intro w hw
  have h1 := List.all_eq_true.mp h w hw
  rw [hp] at hw
  obtain ⟨i, -, hi⟩ := List.mem_filterMap.mp hw
  have hm : w ∈ big := by first | exact List.mem_of_getElem? hi | exact List.getElem?_mem hi
  exact ⟨hm, good_of_word h1⟩
theorem goodIn_app {big a b : List Cond} (ha : GoodIn big a) (hb : GoodIn big b) : GoodIn big (a ++ b) := fun w h => (List.mem_append.mp h).elim (ha w) (hb w)
theorem goodIn_ca {big a b : List Cond} {c : Cond} (ha : GoodIn big (c :: a)) (hb : GoodIn big b) : GoodIn big (c :: (a ++ b)) := fun w h => (List.mem_cons.mp h).elim (fun e => ha w (List.mem_cons.mpr (Or.inl e))) (fun h => (List.mem_append.mp h).elim (fun h => ha w (List.mem_cons.mpr (Or.inr h))) (hb w))
theorem goodIn_sub {big ws : List Cond} (hm : ∀ w ∈ ws, w ∈ big) (h : ws.all goodWord = true) : GoodIn big ws := fun w hw => ⟨hm w hw, good_of_word (List.all_eq_true.mp h w hw)⟩
def RX0 : String := "AfterOffice$Book"
def TX0 : u_T := fun k => match k with
  | 0 => ("AfterOffice$Book", "ages", "[I", true)
  | 1 => ("AfterOffice$Book", "bars", "[I", true)
  | 2 => ("AfterOffice$Book", "letters", "[LAfterOffice$Letter;", true)
  | 3 => ("AfterOffice$Book", "code", "[I", true)
  | 4 => ("AfterOffice$Book", "ruleFrom", "[I", true)
  | 5 => ("AfterOffice$Book", "ruleTo", "[I", true)
  | 6 => ("AfterOffice$Book", "people", "I", false)
  | 7 => ("AfterOffice$Book", "clerks", "I", false)
  | 8 => ("AfterOffice$Book", "barCount", "I", false)
  | 9 => ("AfterOffice$Book", "letterCount", "I", false)
  | 10 => ("AfterOffice$Book", "proof", "I", false)
  | _ => ("AfterOffice$Book", "codeSize", "I", false)
def tyX0 : Nat → FieldType := fun k => match k with
  | 0 => .array .int
  | 1 => .array .int
  | 2 => .array (.object "AfterOffice$Letter")
  | 3 => .array .int
  | 4 => .array .int
  | 5 => .array .int
  | 6 => .int
  | 7 => .int
  | 8 => .int
  | 9 => .int
  | 10 => .int
  | _ => .int
abbrev wsX00 : List Cond := u_ws RX0 TX0 12
theorem nmX0 : ∀ a, a < 12 → ∀ b, b < 12 → a ≠ b → (TX0 a).2.1 ≠ (TX0 b).2.1 := by decide +kernel
theorem tyX0_ok : ∀ k, k < 12 → parseFieldDescriptor (TX0 k).2.2.1 = some (tyX0 k) := by decide +kernel
abbrev cX0_init : ByteArray := prog_2_method_1_code
def yX0_init : MethodName := ⟨RX0, "<init>", "()V"⟩
abbrev cX0_clear : ByteArray := prog_2_method_2_code
def yX0_clear : MethodName := ⟨RX0, "clear", "()V"⟩
abbrev cX0_become : ByteArray := prog_2_method_3_code
def yX0_become : MethodName := ⟨RX0, "become", "(LAfterOffice$Book;)V"⟩
abbrev cX0_clerkOf : ByteArray := prog_2_method_4_code
def yX0_clerkOf : MethodName := ⟨RX0, "clerkOf", "(I)I"⟩
abbrev cX0_clerkMay : ByteArray := prog_2_method_5_code
def yX0_clerkMay : MethodName := ⟨RX0, "clerkMay", "(II)Z"⟩
def RX1 : String := "AfterOffice$Course"
def TX1 : u_T := fun k => match k with
  | 0 => ("AfterOffice$Course", "book", "LAfterOffice$Book;", true)
  | 1 => ("AfterOffice$Course", "facts", "LAfterOffice$Facts;", true)
  | 2 => ("AfterOffice$Course", "reckoner", "LAfterOffice$Reckoner;", true)
  | 3 => ("AfterOffice$Course", "states", "[I", true)
  | 4 => ("AfterOffice$Course", "ends", "[I", true)
  | 5 => ("AfterOffice$Course", "left", "[I", true)
  | 6 => ("AfterOffice$Course", "dates", "[I", true)
  | 7 => ("AfterOffice$Course", "order", "[I", true)
  | 8 => ("AfterOffice$Course", "weights", "[I", true)
  | 9 => ("AfterOffice$Course", "paid", "[I", true)
  | 10 => ("AfterOffice$Course", "orderSize", "I", false)
  | 11 => ("AfterOffice$Course", "dead", "I", false)
  | 12 => ("AfterOffice$Course", "been", "I", false)
  | 13 => ("AfterOffice$Course", "harmed", "I", false)
  | _ => ("AfterOffice$Course", "byTruth", "Z", false)
def tyX1 : Nat → FieldType := fun k => match k with
  | 0 => .object "AfterOffice$Book"
  | 1 => .object "AfterOffice$Facts"
  | 2 => .object "AfterOffice$Reckoner"
  | 3 => .array .int
  | 4 => .array .int
  | 5 => .array .int
  | 6 => .array .int
  | 7 => .array .int
  | 8 => .array .int
  | 9 => .array .int
  | 10 => .int
  | 11 => .int
  | 12 => .int
  | 13 => .int
  | _ => .boolean
abbrev wsX10 : List Cond := u_ws RX1 TX1 15
theorem nmX1 : ∀ a, a < 15 → ∀ b, b < 15 → a ≠ b → (TX1 a).2.1 ≠ (TX1 b).2.1 := by decide +kernel
theorem tyX1_ok : ∀ k, k < 15 → parseFieldDescriptor (TX1 k).2.2.1 = some (tyX1 k) := by decide +kernel
abbrev cX1_init : ByteArray := prog_3_method_1_code
def yX1_init : MethodName := ⟨RX1, "<init>", "(LAfterOffice$Book;LAfterOffice$Facts;LAfterOffice$Reckoner;)V"⟩
abbrev cX1_begin : ByteArray := prog_3_method_2_code
def yX1_begin : MethodName := ⟨RX1, "begin", "(Z)V"⟩
abbrev cX1_become : ByteArray := prog_3_method_3_code
def yX1_become : MethodName := ⟨RX1, "become", "(LAfterOffice$Course;)V"⟩
abbrev cX1_walk : ByteArray := prog_3_method_4_code
def yX1_walk : MethodName := ⟨RX1, "walk", "(IIZ)V"⟩
abbrev cX1_takeFacts : ByteArray := prog_3_method_5_code
def yX1_takeFacts : MethodName := ⟨RX1, "takeFacts", "(I)V"⟩
abbrev cX1_takeFact : ByteArray := prog_3_method_6_code
def yX1_takeFact : MethodName := ⟨RX1, "takeFact", "(II)V"⟩
abbrev cX1_endAs : ByteArray := prog_3_method_7_code
def yX1_endAs : MethodName := ⟨RX1, "endAs", "(III)V"⟩
abbrev cX1_floodShelf : ByteArray := prog_3_method_8_code
def yX1_floodShelf : MethodName := ⟨RX1, "floodShelf", "(II)V"⟩
abbrev cX1_payFees : ByteArray := prog_3_method_9_code
def yX1_payFees : MethodName := ⟨RX1, "payFees", "(I)V"⟩
abbrev cX1_lookUp : ByteArray := prog_3_method_10_code
def yX1_lookUp : MethodName := ⟨RX1, "lookUp", "(I)V"⟩
abbrev cX1_firstDue : ByteArray := prog_3_method_11_code
def yX1_firstDue : MethodName := ⟨RX1, "firstDue", "(I)I"⟩
abbrev cX1_shutAgain : ByteArray := prog_3_method_12_code
def yX1_shutAgain : MethodName := ⟨RX1, "shutAgain", "(II)V"⟩
abbrev cX1_openedAs : ByteArray := prog_3_method_13_code
def yX1_openedAs : MethodName := ⟨RX1, "openedAs", "(II)I"⟩
abbrev cX1_reasonOf : ByteArray := prog_3_method_14_code
def yX1_reasonOf : MethodName := ⟨RX1, "reasonOf", "(II)I"⟩
abbrev cX1_hasBeenOpened : ByteArray := prog_3_method_15_code
def yX1_hasBeenOpened : MethodName := ⟨RX1, "hasBeenOpened", "(I)Z"⟩
abbrev cX1_paidFrom : ByteArray := prog_3_method_16_code
def yX1_paidFrom : MethodName := ⟨RX1, "paidFrom", "(II)I"⟩
abbrev cX1_openingBehind : ByteArray := prog_3_method_17_code
def yX1_openingBehind : MethodName := ⟨RX1, "openingBehind", "(I)I"⟩
abbrev cX1_lettersThatAre : ByteArray := prog_3_method_18_code
def yX1_lettersThatAre : MethodName := ⟨RX1, "lettersThatAre", "(I)I"⟩
abbrev cX1_liveByLots : ByteArray := prog_3_method_19_code
def yX1_liveByLots : MethodName := ⟨RX1, "liveByLots", "(II)V"⟩
abbrev cX1_lot : ByteArray := prog_3_method_20_code
def yX1_lot : MethodName := ⟨RX1, "lot", "(II)I"⟩
def RX2 : String := "AfterOffice$Courses"
def TX2 : u_T := fun k => match k with
  | 0 => ("AfterOffice$Courses", "book", "LAfterOffice$Book;", true)
  | 1 => ("AfterOffice$Courses", "facts", "LAfterOffice$Facts;", true)
  | 2 => ("AfterOffice$Courses", "reckoner", "LAfterOffice$Reckoner;", true)
  | 3 => ("AfterOffice$Courses", "yearly", "LAfterOffice$Course;", true)
  | 4 => ("AfterOffice$Courses", "other", "LAfterOffice$Course;", true)
  | 5 => ("AfterOffice$Courses", "unlooked", "LAfterOffice$Course;", true)
  | 6 => ("AfterOffice$Courses", "firstLook", "I", false)
  | 7 => ("AfterOffice$Courses", "secondLook", "I", false)
  | _ => ("AfterOffice$Courses", "bestSum", "I", false)
def tyX2 : Nat → FieldType := fun k => match k with
  | 0 => .object "AfterOffice$Book"
  | 1 => .object "AfterOffice$Facts"
  | 2 => .object "AfterOffice$Reckoner"
  | 3 => .object "AfterOffice$Course"
  | 4 => .object "AfterOffice$Course"
  | 5 => .object "AfterOffice$Course"
  | 6 => .int
  | 7 => .int
  | _ => .int
abbrev wsX20 : List Cond := u_ws RX2 TX2 9
theorem nmX2 : ∀ a, a < 9 → ∀ b, b < 9 → a ≠ b → (TX2 a).2.1 ≠ (TX2 b).2.1 := by decide +kernel
theorem tyX2_ok : ∀ k, k < 9 → parseFieldDescriptor (TX2 k).2.2.1 = some (tyX2 k) := by decide +kernel
abbrev cX2_init : ByteArray := prog_4_method_1_code
def yX2_init : MethodName := ⟨RX2, "<init>", "(LAfterOffice$Book;LAfterOffice$Facts;LAfterOffice$Reckoner;)V"⟩
abbrev cX2_runOf : ByteArray := prog_4_method_2_code
def yX2_runOf : MethodName := ⟨RX2, "runOf", "(III)LAfterOffice$Course;"⟩
abbrev cX2_lifeOf : ByteArray := prog_4_method_3_code
def yX2_lifeOf : MethodName := ⟨RX2, "lifeOf", "(II)LAfterOffice$Course;"⟩
abbrev cX2_soonerThanTruth : ByteArray := prog_4_method_4_code
def yX2_soonerThanTruth : MethodName := ⟨RX2, "soonerThanTruth", "(I)I"⟩
abbrev cX2_walkBoth : ByteArray := prog_4_method_5_code
def yX2_walkBoth : MethodName := ⟨RX2, "walkBoth", "(II)V"⟩
abbrev cX2_lateOf : ByteArray := prog_4_method_6_code
def yX2_lateOf : MethodName := ⟨RX2, "lateOf", "(I)I"⟩
abbrev cX2_bothHave : ByteArray := prog_4_method_7_code
def yX2_bothHave : MethodName := ⟨RX2, "bothHave", "(II)Z"⟩
abbrev cX2_rarestLook : ByteArray := prog_4_method_8_code
def yX2_rarestLook : MethodName := ⟨RX2, "rarestLook", "(II)I"⟩
abbrev cX2_allInTime : ByteArray := prog_4_method_9_code
def yX2_allInTime : MethodName := ⟨RX2, "allInTime", "(I)Z"⟩
abbrev cX2_gainsFrom : ByteArray := prog_4_method_10_code
def yX2_gainsFrom : MethodName := ⟨RX2, "gainsFrom", "(I)I"⟩
abbrev cX2_seekTwoLooks : ByteArray := prog_4_method_11_code
def yX2_seekTwoLooks : MethodName := ⟨RX2, "seekTwoLooks", "(I)V"⟩
abbrev cX2_trySecondLooks : ByteArray := prog_4_method_12_code
def yX2_trySecondLooks : MethodName := ⟨RX2, "trySecondLooks", "(I)V"⟩
def RX3 : String := "AfterOffice$Facts"
def TX3 : u_T := fun k => match k with
  | 0 => ("AfterOffice$Facts", "kinds", "[I", true)
  | 1 => ("AfterOffice$Facts", "years", "[I", true)
  | 2 => ("AfterOffice$Facts", "whom", "[I", true)
  | 3 => ("AfterOffice$Facts", "much", "[I", true)
  | 4 => ("AfterOffice$Facts", "sorted", "[I", true)
  | 5 => ("AfterOffice$Facts", "starts", "[I", true)
  | _ => ("AfterOffice$Facts", "size", "I", false)
def tyX3 : Nat → FieldType := fun k => match k with
  | 0 => .array .int
  | 1 => .array .int
  | 2 => .array .int
  | 3 => .array .int
  | 4 => .array .int
  | 5 => .array .int
  | _ => .int
abbrev wsX30 : List Cond := u_ws RX3 TX3 7
theorem nmX3 : ∀ a, a < 7 → ∀ b, b < 7 → a ≠ b → (TX3 a).2.1 ≠ (TX3 b).2.1 := by decide +kernel
theorem tyX3_ok : ∀ k, k < 7 → parseFieldDescriptor (TX3 k).2.2.1 = some (tyX3 k) := by decide +kernel
abbrev cX3_init : ByteArray := prog_5_method_1_code
def yX3_init : MethodName := ⟨RX3, "<init>", "()V"⟩
abbrev cX3_add : ByteArray := prog_5_method_2_code
def yX3_add : MethodName := ⟨RX3, "add", "(IIII)I"⟩
abbrev cX3_become : ByteArray := prog_5_method_3_code
def yX3_become : MethodName := ⟨RX3, "become", "(LAfterOffice$Facts;)V"⟩
abbrev cX3_annulledBy : ByteArray := prog_5_method_4_code
def yX3_annulledBy : MethodName := ⟨RX3, "annulledBy", "(I)J"⟩
abbrev cX3_counts : ByteArray := prog_5_method_5_code
def yX3_counts : MethodName := ⟨RX3, "counts", "(IJ)Z"⟩
abbrev cX3_arrange : ByteArray := prog_5_method_6_code
def yX3_arrange : MethodName := ⟨RX3, "arrange", "(I)V"⟩
abbrev cX3_weightOf : ByteArray := prog_5_method_7_code
def yX3_weightOf : MethodName := ⟨RX3, "weightOf", "(III)I"⟩
abbrev cX3_diedBy : ByteArray := prog_5_method_8_code
def yX3_diedBy : MethodName := ⟨RX3, "diedBy", "(II)I"⟩
def RX4 : String := "AfterOffice$Letter"
def TX4 : u_T := fun k => match k with
  | 0 => ("AfterOffice$Letter", "writer", "I", false)
  | 1 => ("AfterOffice$Letter", "reader", "I", false)
  | 2 => ("AfterOffice$Letter", "onShelf", "I", false)
  | 3 => ("AfterOffice$Letter", "laidIn", "I", false)
  | 4 => ("AfterOffice$Letter", "harms", "I", false)
  | 5 => ("AfterOffice$Letter", "from", "I", false)
  | 6 => ("AfterOffice$Letter", "to", "I", false)
  | _ => ("AfterOffice$Letter", "asked", "I", false)
def tyX4 : Nat → FieldType := fun k => match k with
  | 0 => .int
  | 1 => .int
  | 2 => .int
  | 3 => .int
  | 4 => .int
  | 5 => .int
  | 6 => .int
  | _ => .int
abbrev wsX40 : List Cond := u_ws RX4 TX4 8
theorem nmX4 : ∀ a, a < 8 → ∀ b, b < 8 → a ≠ b → (TX4 a).2.1 ≠ (TX4 b).2.1 := by decide +kernel
theorem tyX4_ok : ∀ k, k < 8 → parseFieldDescriptor (TX4 k).2.2.1 = some (tyX4 k) := by decide +kernel
abbrev cX4_init : ByteArray := prog_6_method_1_code
def yX4_init : MethodName := ⟨RX4, "<init>", "()V"⟩
abbrev cX4_become : ByteArray := prog_6_method_2_code
def yX4_become : MethodName := ⟨RX4, "become", "(LAfterOffice$Letter;)V"⟩
def RX5 : String := "AfterOffice$Parser"
def TX5 : u_T := fun k => match k with
  | 0 => ("AfterOffice$Parser", "tokens", "LAfterOffice$Tokens;", true)
  | 1 => ("AfterOffice$Parser", "book", "LAfterOffice$Book;", true)
  | 2 => ("AfterOffice$Parser", "peopleNames", "[J", true)
  | 3 => ("AfterOffice$Parser", "clerkNames", "[J", true)
  | 4 => ("AfterOffice$Parser", "letterNames", "[J", true)
  | 5 => ("AfterOffice$Parser", "waiting", "[I", true)
  | 6 => ("AfterOffice$Parser", "at", "I", false)
  | 7 => ("AfterOffice$Parser", "kind", "I", false)
  | 8 => ("AfterOffice$Parser", "fault", "I", false)
  | _ => ("AfterOffice$Parser", "faultPlace", "I", false)
def tyX5 : Nat → FieldType := fun k => match k with
  | 0 => .object "AfterOffice$Tokens"
  | 1 => .object "AfterOffice$Book"
  | 2 => .array .long
  | 3 => .array .long
  | 4 => .array .long
  | 5 => .array .int
  | 6 => .int
  | 7 => .int
  | 8 => .int
  | _ => .int
abbrev wsX50 : List Cond := u_ws RX5 TX5 10
theorem nmX5 : ∀ a, a < 10 → ∀ b, b < 10 → a ≠ b → (TX5 a).2.1 ≠ (TX5 b).2.1 := by decide +kernel
theorem tyX5_ok : ∀ k, k < 10 → parseFieldDescriptor (TX5 k).2.2.1 = some (tyX5 k) := by decide +kernel
abbrev cX5_init : ByteArray := prog_7_method_1_code
def yX5_init : MethodName := ⟨RX5, "<init>", "(LAfterOffice$Tokens;LAfterOffice$Book;)V"⟩
abbrev cX5_begin : ByteArray := prog_7_method_2_code
def yX5_begin : MethodName := ⟨RX5, "begin", "()V"⟩
abbrev cX5_tellAll : ByteArray := prog_7_method_3_code
def yX5_tellAll : MethodName := ⟨RX5, "tellAll", "()V"⟩
abbrev cX5_tell : ByteArray := prog_7_method_4_code
def yX5_tell : MethodName := ⟨RX5, "tell", "()Z"⟩
abbrev cX5_stop : ByteArray := prog_7_method_5_code
def yX5_stop : MethodName := ⟨RX5, "stop", "(I)Z"⟩
abbrev cX5_take : ByteArray := prog_7_method_6_code
def yX5_take : MethodName := ⟨RX5, "take", "(I)Z"⟩
abbrev cX5_mark : ByteArray := prog_7_method_7_code
def yX5_mark : MethodName := ⟨RX5, "mark", "(II)V"⟩
abbrev cX5_find : ByteArray := prog_7_method_8_code
def yX5_find : MethodName := ⟨RX5, "find", "([JIJ)I"⟩
abbrev cX5_takeNewName : ByteArray := prog_7_method_9_code
def yX5_takeNewName : MethodName := ⟨RX5, "takeNewName", "([JI)Z"⟩
abbrev cX5_takeTold : ByteArray := prog_7_method_10_code
def yX5_takeTold : MethodName := ⟨RX5, "takeTold", "([JI)I"⟩
abbrev cX5_takeInt : ByteArray := prog_7_method_11_code
def yX5_takeInt : MethodName := ⟨RX5, "takeInt", "(II)I"⟩
abbrev cX5_tellPerson : ByteArray := prog_7_method_12_code
def yX5_tellPerson : MethodName := ⟨RX5, "tellPerson", "()Z"⟩
abbrev cX5_tellClerk : ByteArray := prog_7_method_13_code
def yX5_tellClerk : MethodName := ⟨RX5, "tellClerk", "()Z"⟩
abbrev cX5_tellBarred : ByteArray := prog_7_method_14_code
def yX5_tellBarred : MethodName := ⟨RX5, "tellBarred", "()Z"⟩
abbrev cX5_tellLetter : ByteArray := prog_7_method_15_code
def yX5_tellLetter : MethodName := ⟨RX5, "tellLetter", "()Z"⟩
abbrev cX5_takeLetterInts : ByteArray := prog_7_method_16_code
def yX5_takeLetterInts : MethodName := ⟨RX5, "takeLetterInts", "(LAfterOffice$Letter;)Z"⟩
abbrev cX5_tellProof : ByteArray := prog_7_method_17_code
def yX5_tellProof : MethodName := ⟨RX5, "tellProof", "()Z"⟩
abbrev cX5_tellRule : ByteArray := prog_7_method_18_code
def yX5_tellRule : MethodName := ⟨RX5, "tellRule", "(I)Z"⟩
abbrev cX5_emit : ByteArray := prog_7_method_19_code
def yX5_emit : MethodName := ⟨RX5, "emit", "(II)V"⟩
abbrev cX5_condition : ByteArray := prog_7_method_20_code
def yX5_condition : MethodName := ⟨RX5, "condition", "()Z"⟩
abbrev cX5_literal : ByteArray := prog_7_method_21_code
def yX5_literal : MethodName := ⟨RX5, "literal", "()Z"⟩
abbrev cX5_expression : ByteArray := prog_7_method_22_code
def yX5_expression : MethodName := ⟨RX5, "expression", "()Z"⟩
abbrev cX5_closenessOf : ByteArray := prog_7_method_23_code
def yX5_closenessOf : MethodName := ⟨RX5, "closenessOf", "(I)I"⟩
abbrev cX5_settle : ByteArray := prog_7_method_24_code
def yX5_settle : MethodName := ⟨RX5, "settle", "()V"⟩
abbrev cX5_settleRead : ByteArray := prog_7_method_25_code
def yX5_settleRead : MethodName := ⟨RX5, "settleRead", "(LAfterOffice$Letter;I)V"⟩
def RX6 : String := "AfterOffice$Reckoner"
def TX6 : u_T := fun k => match k with
  | 0 => ("AfterOffice$Reckoner", "book", "LAfterOffice$Book;", true)
  | 1 => ("AfterOffice$Reckoner", "stack", "[I", true)
  | 2 => ("AfterOffice$Reckoner", "vars", "[I", true)
  | 3 => ("AfterOffice$Reckoner", "dying", "[I", true)
  | 4 => ("AfterOffice$Reckoner", "fees", "[I", true)
  | 5 => ("AfterOffice$Reckoner", "dead", "I", false)
  | 6 => ("AfterOffice$Reckoner", "been", "I", false)
  | _ => ("AfterOffice$Reckoner", "broken", "Z", false)
def tyX6 : Nat → FieldType := fun k => match k with
  | 0 => .object "AfterOffice$Book"
  | 1 => .array .int
  | 2 => .array .int
  | 3 => .array .int
  | 4 => .array .int
  | 5 => .int
  | 6 => .int
  | _ => .boolean
abbrev wsX60 : List Cond := u_ws RX6 TX6 8
theorem nmX6 : ∀ a, a < 8 → ∀ b, b < 8 → a ≠ b → (TX6 a).2.1 ≠ (TX6 b).2.1 := by decide +kernel
theorem tyX6_ok : ∀ k, k < 8 → parseFieldDescriptor (TX6 k).2.2.1 = some (tyX6 k) := by decide +kernel
abbrev cX6_init : ByteArray := prog_8_method_1_code
def yX6_init : MethodName := ⟨RX6, "<init>", "(LAfterOffice$Book;)V"⟩
abbrev cX6_fillTables : ByteArray := prog_8_method_2_code
def yX6_fillTables : MethodName := ⟨RX6, "fillTables", "()V"⟩
abbrev cX6_diesOf : ByteArray := prog_8_method_3_code
def yX6_diesOf : MethodName := ⟨RX6, "diesOf", "(II)I"⟩
abbrev cX6_feeOf : ByteArray := prog_8_method_4_code
def yX6_feeOf : MethodName := ⟨RX6, "feeOf", "(II)I"⟩
abbrev cX6_gainIn : ByteArray := prog_8_method_5_code
def yX6_gainIn : MethodName := ⟨RX6, "gainIn", "(III)I"⟩
abbrev cX6_ruled : ByteArray := prog_8_method_6_code
def yX6_ruled : MethodName := ⟨RX6, "ruled", "(IIIII)I"⟩
abbrev cX6_holds : ByteArray := prog_8_method_7_code
def yX6_holds : MethodName := ⟨RX6, "holds", "(LAfterOffice$Letter;III)Z"⟩
abbrev cX6_execute : ByteArray := prog_8_method_8_code
def yX6_execute : MethodName := ⟨RX6, "execute", "(II)I"⟩
abbrev cX6_valueOf : ByteArray := prog_8_method_9_code
def yX6_valueOf : MethodName := ⟨RX6, "valueOf", "(II)I"⟩
abbrev cX6_joined : ByteArray := prog_8_method_10_code
def yX6_joined : MethodName := ⟨RX6, "joined", "(III)I"⟩
abbrev cX6_compared : ByteArray := prog_8_method_11_code
def yX6_compared : MethodName := ⟨RX6, "compared", "(III)I"⟩
def RX7 : String := "AfterOffice$Rings"
def TX7 : u_T := fun k => match k with
  | 0 => ("AfterOffice$Rings", "book", "LAfterOffice$Book;", true)
  | _ => ("AfterOffice$Rings", "onAndOn", "[I", true)
def tyX7 : Nat → FieldType := fun k => match k with
  | 0 => .object "AfterOffice$Book"
  | _ => .array .int
abbrev wsX70 : List Cond := u_ws RX7 TX7 2
theorem nmX7 : ∀ a, a < 2 → ∀ b, b < 2 → a ≠ b → (TX7 a).2.1 ≠ (TX7 b).2.1 := by decide +kernel
theorem tyX7_ok : ∀ k, k < 2 → parseFieldDescriptor (TX7 k).2.2.1 = some (tyX7 k) := by decide +kernel
abbrev cX7_init : ByteArray := prog_9_method_1_code
def yX7_init : MethodName := ⟨RX7, "<init>", "(LAfterOffice$Book;)V"⟩
abbrev cX7_follow : ByteArray := prog_9_method_2_code
def yX7_follow : MethodName := ⟨RX7, "follow", "()V"⟩
abbrev cX7_mutual : ByteArray := prog_9_method_3_code
def yX7_mutual : MethodName := ⟨RX7, "mutual", "(I)I"⟩
abbrev cX7_ringOf : ByteArray := prog_9_method_4_code
def yX7_ringOf : MethodName := ⟨RX7, "ringOf", "(I)I"⟩
abbrev cX7_howMany : ByteArray := prog_9_method_5_code
def yX7_howMany : MethodName := ⟨RX7, "howMany", "()I"⟩
abbrev cX7_fewestToBurn : ByteArray := prog_9_method_6_code
def yX7_fewestToBurn : MethodName := ⟨RX7, "fewestToBurn", "()I"⟩
abbrev cX7_leavesRings : ByteArray := prog_9_method_7_code
def yX7_leavesRings : MethodName := ⟨RX7, "leavesRings", "(I)Z"⟩
def RX8 : String := "AfterOffice$Tape"
def TX8 : u_T := fun k => match k with
  | 0 => ("AfterOffice$Tape", "bytes", "[B", true)
  | _ => ("AfterOffice$Tape", "size", "I", false)
def tyX8 : Nat → FieldType := fun k => match k with
  | 0 => .array .byte
  | _ => .int
abbrev wsX80 : List Cond := u_ws RX8 TX8 2
theorem nmX8 : ∀ a, a < 2 → ∀ b, b < 2 → a ≠ b → (TX8 a).2.1 ≠ (TX8 b).2.1 := by decide +kernel
theorem tyX8_ok : ∀ k, k < 2 → parseFieldDescriptor (TX8 k).2.2.1 = some (tyX8 k) := by decide +kernel
abbrev cX8_init : ByteArray := prog_10_method_1_code
def yX8_init : MethodName := ⟨RX8, "<init>", "()V"⟩
abbrev cX8_hasRoom : ByteArray := prog_10_method_2_code
def yX8_hasRoom : MethodName := ⟨RX8, "hasRoom", "()Z"⟩
abbrev cX8_add : ByteArray := prog_10_method_3_code
def yX8_add : MethodName := ⟨RX8, "add", "(I)V"⟩
abbrev cX8_byteAt : ByteArray := prog_10_method_4_code
def yX8_byteAt : MethodName := ⟨RX8, "byteAt", "(I)I"⟩
def RX9 : String := "AfterOffice$Tokens"
def TX9 : u_T := fun k => match k with
  | 0 => ("AfterOffice$Tokens", "kinds", "[I", true)
  | 1 => ("AfterOffice$Tokens", "places", "[I", true)
  | 2 => ("AfterOffice$Tokens", "values", "[J", true)
  | 3 => ("AfterOffice$Tokens", "words", "[J", true)
  | _ => ("AfterOffice$Tokens", "size", "I", false)
def tyX9 : Nat → FieldType := fun k => match k with
  | 0 => .array .int
  | 1 => .array .int
  | 2 => .array .long
  | 3 => .array .long
  | _ => .int
abbrev wsX90 : List Cond := u_ws RX9 TX9 5
theorem nmX9 : ∀ a, a < 5 → ∀ b, b < 5 → a ≠ b → (TX9 a).2.1 ≠ (TX9 b).2.1 := by decide +kernel
theorem tyX9_ok : ∀ k, k < 5 → parseFieldDescriptor (TX9 k).2.2.1 = some (tyX9 k) := by decide +kernel
abbrev cX9_init : ByteArray := prog_11_method_1_code
def yX9_init : MethodName := ⟨RX9, "<init>", "()V"⟩
abbrev cX9_scan : ByteArray := prog_11_method_2_code
def yX9_scan : MethodName := ⟨RX9, "scan", "(LAfterOffice$Tape;)V"⟩
abbrev cX9_isBlank : ByteArray := prog_11_method_3_code
def yX9_isBlank : MethodName := ⟨RX9, "isBlank", "(I)Z"⟩
abbrev cX9_scanOne : ByteArray := prog_11_method_4_code
def yX9_scanOne : MethodName := ⟨RX9, "scanOne", "(LAfterOffice$Tape;I)I"⟩
abbrev cX9_scanWord : ByteArray := prog_11_method_5_code
def yX9_scanWord : MethodName := ⟨RX9, "scanWord", "(LAfterOffice$Tape;I)I"⟩
abbrev cX9_wordKind : ByteArray := prog_11_method_6_code
def yX9_wordKind : MethodName := ⟨RX9, "wordKind", "(J)I"⟩
abbrev cX9_scanInt : ByteArray := prog_11_method_7_code
def yX9_scanInt : MethodName := ⟨RX9, "scanInt", "(LAfterOffice$Tape;I)I"⟩
abbrev cX9_signKind : ByteArray := prog_11_method_8_code
def yX9_signKind : MethodName := ⟨RX9, "signKind", "(IZ)I"⟩
def RX10 : String := "AfterOffice$Ways"
def TX10 : u_T := fun k => match k with
  | 0 => ("AfterOffice$Ways", "book", "LAfterOffice$Book;", true)
  | 1 => ("AfterOffice$Ways", "reckoner", "LAfterOffice$Reckoner;", true)
  | 2 => ("AfterOffice$Ways", "few", "[I", true)
  | 3 => ("AfterOffice$Ways", "reach", "[J", true)
  | 4 => ("AfterOffice$Ways", "neededDead", "I", false)
  | 5 => ("AfterOffice$Ways", "neededRead", "I", false)
  | 6 => ("AfterOffice$Ways", "firstYear", "I", false)
  | 7 => ("AfterOffice$Ways", "lastYear", "I", false)
  | _ => ("AfterOffice$Ways", "sure", "Z", false)
def tyX10 : Nat → FieldType := fun k => match k with
  | 0 => .object "AfterOffice$Book"
  | 1 => .object "AfterOffice$Reckoner"
  | 2 => .array .int
  | 3 => .array .long
  | 4 => .int
  | 5 => .int
  | 6 => .int
  | 7 => .int
  | _ => .boolean
abbrev wsX100 : List Cond := u_ws RX10 TX10 9
theorem nmX10 : ∀ a, a < 9 → ∀ b, b < 9 → a ≠ b → (TX10 a).2.1 ≠ (TX10 b).2.1 := by decide +kernel
theorem tyX10_ok : ∀ k, k < 9 → parseFieldDescriptor (TX10 k).2.2.1 = some (tyX10 k) := by decide +kernel
abbrev cX10_init : ByteArray := prog_12_method_1_code
def yX10_init : MethodName := ⟨RX10, "<init>", "(LAfterOffice$Book;LAfterOffice$Reckoner;)V"⟩
abbrev cX10_fillFew : ByteArray := prog_12_method_2_code
def yX10_fillFew : MethodName := ⟨RX10, "fillFew", "()V"⟩
abbrev cX10_seekNeed : ByteArray := prog_12_method_3_code
def yX10_seekNeed : MethodName := ⟨RX10, "seekNeed", "(LAfterOffice$Letter;III)Z"⟩
abbrev cX10_seekNeedOf : ByteArray := prog_12_method_4_code
def yX10_seekNeedOf : MethodName := ⟨RX10, "seekNeedOf", "(LAfterOffice$Letter;IIIII)Z"⟩
abbrev cX10_lookUp : ByteArray := prog_12_method_5_code
def yX10_lookUp : MethodName := ⟨RX10, "lookUp", "(III)I"⟩
abbrev cX10_firstDue : ByteArray := prog_12_method_6_code
def yX10_firstDue : MethodName := ⟨RX10, "firstDue", "(III)I"⟩
abbrev cX10_foresee : ByteArray := prog_12_method_7_code
def yX10_foresee : MethodName := ⟨RX10, "foresee", "(IIII)V"⟩
abbrev cX10_cameTo : ByteArray := prog_12_method_8_code
def yX10_cameTo : MethodName := ⟨RX10, "cameTo", "(I)J"⟩
abbrev cX10_lookAtAll : ByteArray := prog_12_method_9_code
def yX10_lookAtAll : MethodName := ⟨RX10, "lookAtAll", "(IIIJ)J"⟩
abbrev cX10_livesThrough : ByteArray := prog_12_method_10_code
def yX10_livesThrough : MethodName := ⟨RX10, "livesThrough", "(III)J"⟩
abbrev cX10_waysTo : ByteArray := prog_12_method_11_code
def yX10_waysTo : MethodName := ⟨RX10, "waysTo", "(III)J"⟩
abbrev cX10_oddsOf : ByteArray := prog_12_method_12_code
def yX10_oddsOf : MethodName := ⟨RX10, "oddsOf", "(III)J"⟩
abbrev cX10_oddsOfNext : ByteArray := prog_12_method_13_code
def yX10_oddsOfNext : MethodName := ⟨RX10, "oddsOfNext", "(IIII)J"⟩
def RX11 : String := "AfterOffice"
def TX11 : u_T := fun k => match k with
  | 0 => ("AfterOffice", "tape", "LAfterOffice$Tape;", true)
  | 1 => ("AfterOffice", "tokens", "LAfterOffice$Tokens;", true)
  | 2 => ("AfterOffice", "book", "LAfterOffice$Book;", true)
  | 3 => ("AfterOffice", "draft", "LAfterOffice$Book;", true)
  | 4 => ("AfterOffice", "parser", "LAfterOffice$Parser;", true)
  | 5 => ("AfterOffice", "reckoner", "LAfterOffice$Reckoner;", true)
  | 6 => ("AfterOffice", "facts", "LAfterOffice$Facts;", true)
  | 7 => ("AfterOffice", "slots", "[LAfterOffice$Facts;", true)
  | 8 => ("AfterOffice", "courses", "LAfterOffice$Courses;", true)
  | 9 => ("AfterOffice", "ways", "LAfterOffice$Ways;", true)
  | 10 => ("AfterOffice", "circles", "LAfterOffice$Rings;", true)
  | 11 => ("AfterOffice", "heldSlots", "I", false)
  | _ => ("AfterOffice", "faultPlace", "I", false)
def tyX11 : Nat → FieldType := fun k => match k with
  | 0 => .object "AfterOffice$Tape"
  | 1 => .object "AfterOffice$Tokens"
  | 2 => .object "AfterOffice$Book"
  | 3 => .object "AfterOffice$Book"
  | 4 => .object "AfterOffice$Parser"
  | 5 => .object "AfterOffice$Reckoner"
  | 6 => .object "AfterOffice$Facts"
  | 7 => .array (.object "AfterOffice$Facts")
  | 8 => .object "AfterOffice$Courses"
  | 9 => .object "AfterOffice$Ways"
  | 10 => .object "AfterOffice$Rings"
  | 11 => .int
  | _ => .int
abbrev wsX110 : List Cond := u_ws RX11 TX11 13
theorem nmX11 : ∀ a, a < 13 → ∀ b, b < 13 → a ≠ b → (TX11 a).2.1 ≠ (TX11 b).2.1 := by decide +kernel
theorem tyX11_ok : ∀ k, k < 13 → parseFieldDescriptor (TX11 k).2.2.1 = some (tyX11 k) := by decide +kernel
abbrev cX11_init : ByteArray := prog_1_method_1_code
def yX11_init : MethodName := ⟨RX11, "<init>", "()V"⟩
abbrev cX11_within : ByteArray := prog_1_method_2_code
def yX11_within : MethodName := ⟨RX11, "within", "(III)Z"⟩
abbrev cX11_keepTo : ByteArray := prog_1_method_3_code
def yX11_keepTo : MethodName := ⟨RX11, "keepTo", "(II)I"⟩
abbrev cX11_has : ByteArray := prog_1_method_4_code
def yX11_has : MethodName := ⟨RX11, "has", "(II)Z"⟩
abbrev cX11_isPerson : ByteArray := prog_1_method_5_code
def yX11_isPerson : MethodName := ⟨RX11, "isPerson", "(I)Z"⟩
abbrev cX11_isLetter : ByteArray := prog_1_method_6_code
def yX11_isLetter : MethodName := ⟨RX11, "isLetter", "(I)Z"⟩
abbrev cX11_isYear : ByteArray := prog_1_method_7_code
def yX11_isYear : MethodName := ⟨RX11, "isYear", "(I)Z"⟩
abbrev cX11_isKnown : ByteArray := prog_1_method_8_code
def yX11_isKnown : MethodName := ⟨RX11, "isKnown", "(I)Z"⟩
abbrev cX11_isLook : ByteArray := prog_1_method_9_code
def yX11_isLook : MethodName := ⟨RX11, "isLook", "(I)Z"⟩
abbrev cX11_areThere : ByteArray := prog_1_method_10_code
def yX11_areThere : MethodName := ⟨RX11, "areThere", "(II)Z"⟩
abbrev cX11_feed : ByteArray := prog_1_method_11_code
def yX11_feed : MethodName := ⟨RX11, "feed", "(IIIII)I"⟩
abbrev cX11_back : ByteArray := prog_1_method_12_code
def yX11_back : MethodName := ⟨RX11, "back", "(I)I"⟩
abbrev cX11_read : ByteArray := prog_1_method_13_code
def yX11_read : MethodName := ⟨RX11, "read", "()I"⟩
abbrev cX11_place : ByteArray := prog_1_method_14_code
def yX11_place : MethodName := ⟨RX11, "place", "()I"⟩
abbrev cX11_letter : ByteArray := prog_1_method_15_code
def yX11_letter : MethodName := ⟨RX11, "letter", "(II)I"⟩
abbrev cX11_dies : ByteArray := prog_1_method_16_code
def yX11_dies : MethodName := ⟨RX11, "dies", "(II)I"⟩
abbrev cX11_fee : ByteArray := prog_1_method_17_code
def yX11_fee : MethodName := ⟨RX11, "fee", "(II)I"⟩
abbrev cX11_clerk : ByteArray := prog_1_method_18_code
def yX11_clerk : MethodName := ⟨RX11, "clerk", "(I)I"⟩
abbrev cX11_barred : ByteArray := prog_1_method_19_code
def yX11_barred : MethodName := ⟨RX11, "barred", "(II)I"⟩
abbrev cX11_rumour : ByteArray := prog_1_method_20_code
def yX11_rumour : MethodName := ⟨RX11, "rumour", "(III)I"⟩
abbrev cX11_death : ByteArray := prog_1_method_21_code
def yX11_death : MethodName := ⟨RX11, "death", "(II)I"⟩
abbrev cX11_takeBack : ByteArray := prog_1_method_22_code
def yX11_takeBack : MethodName := ⟨RX11, "takeBack", "(II)I"⟩
abbrev cX11_early : ByteArray := prog_1_method_23_code
def yX11_early : MethodName := ⟨RX11, "early", "(II)I"⟩
abbrev cX11_date : ByteArray := prog_1_method_24_code
def yX11_date : MethodName := ⟨RX11, "date", "(III)I"⟩
abbrev cX11_flood : ByteArray := prog_1_method_25_code
def yX11_flood : MethodName := ⟨RX11, "flood", "(II)I"⟩
abbrev cX11_annul : ByteArray := prog_1_method_26_code
def yX11_annul : MethodName := ⟨RX11, "annul", "(I)I"⟩
abbrev cX11_fact : ByteArray := prog_1_method_27_code
def yX11_fact : MethodName := ⟨RX11, "fact", "(II)I"⟩
abbrev cX11_weighs : ByteArray := prog_1_method_28_code
def yX11_weighs : MethodName := ⟨RX11, "weighs", "(III)I"⟩
abbrev cX11_run : ByteArray := prog_1_method_29_code
def yX11_run : MethodName := ⟨RX11, "run", "(IIII)I"⟩
abbrev cX11_opened : ByteArray := prog_1_method_30_code
def yX11_opened : MethodName := ⟨RX11, "opened", "(III)I"⟩
abbrev cX11_why : ByteArray := prog_1_method_31_code
def yX11_why : MethodName := ⟨RX11, "why", "(III)I"⟩
abbrev cX11_harm : ByteArray := prog_1_method_32_code
def yX11_harm : MethodName := ⟨RX11, "harm", "(I)I"⟩
abbrev cX11_tooSoon : ByteArray := prog_1_method_33_code
def yX11_tooSoon : MethodName := ⟨RX11, "tooSoon", "(I)I"⟩
abbrev cX11_wrong : ByteArray := prog_1_method_34_code
def yX11_wrong : MethodName := ⟨RX11, "wrong", "(III)I"⟩
abbrev cX11_late : ByteArray := prog_1_method_35_code
def yX11_late : MethodName := ⟨RX11, "late", "(III)I"⟩
abbrev cX11_watch : ByteArray := prog_1_method_36_code
def yX11_watch : MethodName := ⟨RX11, "watch", "(II)I"⟩
abbrev cX11_gain : ByteArray := prog_1_method_37_code
def yX11_gain : MethodName := ⟨RX11, "gain", "(II)I"⟩
abbrev cX11_income : ByteArray := prog_1_method_38_code
def yX11_income : MethodName := ⟨RX11, "income", "(III)I"⟩
abbrev cX11_next : ByteArray := prog_1_method_39_code
def yX11_next : MethodName := ⟨RX11, "next", "(II)I"⟩
abbrev cX11_looks : ByteArray := prog_1_method_40_code
def yX11_looks : MethodName := ⟨RX11, "looks", "(II)I"⟩
abbrev cX11_need : ByteArray := prog_1_method_41_code
def yX11_need : MethodName := ⟨RX11, "need", "(IIIII)I"⟩
abbrev cX11_asks : ByteArray := prog_1_method_42_code
def yX11_asks : MethodName := ⟨RX11, "asks", "(I)I"⟩
abbrev cX11_ring : ByteArray := prog_1_method_43_code
def yX11_ring : MethodName := ⟨RX11, "ring", "(I)I"⟩
abbrev cX11_rings : ByteArray := prog_1_method_44_code
def yX11_rings : MethodName := ⟨RX11, "rings", "()I"⟩
abbrev cX11_burn : ByteArray := prog_1_method_45_code
def yX11_burn : MethodName := ⟨RX11, "burn", "()I"⟩
abbrev cX11_future : ByteArray := prog_1_method_46_code
def yX11_future : MethodName := ⟨RX11, "future", "(IIIII)I"⟩
abbrev cX11_lives : ByteArray := prog_1_method_47_code
def yX11_lives : MethodName := ⟨RX11, "lives", "(III)J"⟩
abbrev cX11_odds : ByteArray := prog_1_method_48_code
def yX11_odds : MethodName := ⟨RX11, "odds", "(III)J"⟩
abbrev cX11_life : ByteArray := prog_1_method_49_code
def yX11_life : MethodName := ⟨RX11, "life", "(III)I"⟩
abbrev cX11_chance : ByteArray := prog_1_method_50_code
def yX11_chance : MethodName := ⟨RX11, "chance", "(IIII)I"⟩
abbrev cX11_hold : ByteArray := prog_1_method_51_code
def yX11_hold : MethodName := ⟨RX11, "hold", "(I)Z"⟩
abbrev cX11_restore : ByteArray := prog_1_method_52_code
def yX11_restore : MethodName := ⟨RX11, "restore", "(I)Z"⟩
abbrev cX11_count : ByteArray := prog_1_method_53_code
def yX11_count : MethodName := ⟨RX11, "count", "(I)I"⟩
def RX12 : String := "AfterOfficeModel"
def TX12 : u_T := fun k => match k with
  | 0 => ("AfterOfficeModel", "thrown", "I", false)
  | 1 => ("AfterOfficeModel", "tape", "[B", true)
  | 2 => ("AfterOfficeModel", "taped", "I", false)
  | 3 => ("AfterOfficeModel", "text", "[B", true)
  | 4 => ("AfterOfficeModel", "size", "I", false)
  | 5 => ("AfterOfficeModel", "tKind", "[I", true)
  | 6 => ("AfterOfficeModel", "tPlace", "[I", true)
  | 7 => ("AfterOfficeModel", "tValue", "[I", true)
  | 8 => ("AfterOfficeModel", "tName", "[J", true)
  | 9 => ("AfterOfficeModel", "keys", "[J", true)
  | 10 => ("AfterOfficeModel", "tokens", "I", false)
  | 11 => ("AfterOfficeModel", "t", "I", false)
  | 12 => ("AfterOfficeModel", "open", "I", false)
  | 13 => ("AfterOfficeModel", "fault", "I", false)
  | 14 => ("AfterOfficeModel", "faultPlace", "I", false)
  | 15 => ("AfterOfficeModel", "worst", "I", false)
  | 16 => ("AfterOfficeModel", "worstPlace", "I", false)
  | 17 => ("AfterOfficeModel", "place", "I", false)
  | 18 => ("AfterOfficeModel", "live", "I", false)
  | 19 => ("AfterOfficeModel", "side", "I", false)
  | 20 => ("AfterOfficeModel", "names", "I", false)
  | 21 => ("AfterOfficeModel", "nameOf", "[J", true)
  | 22 => ("AfterOfficeModel", "nameSort", "[I", true)
  | 23 => ("AfterOfficeModel", "nameAt", "[I", true)
  | 24 => ("AfterOfficeModel", "people", "[I", true)
  | 25 => ("AfterOfficeModel", "ageOf", "[I", true)
  | 26 => ("AfterOfficeModel", "clerks", "[I", true)
  | 27 => ("AfterOfficeModel", "bars", "[I", true)
  | 28 => ("AfterOfficeModel", "barClerk", "[I", true)
  | 29 => ("AfterOfficeModel", "barPerson", "[I", true)
  | 30 => ("AfterOfficeModel", "letters", "[I", true)
  | 31 => ("AfterOfficeModel", "writerOf", "[I", true)
  | 32 => ("AfterOfficeModel", "readerOf", "[I", true)
  | 33 => ("AfterOfficeModel", "shelfOf", "[I", true)
  | 34 => ("AfterOfficeModel", "laidIn", "[I", true)
  | 35 => ("AfterOfficeModel", "harmOf", "[I", true)
  | 36 => ("AfterOfficeModel", "litFirst", "[I", true)
  | 37 => ("AfterOfficeModel", "litLast", "[I", true)
  | 38 => ("AfterOfficeModel", "proof", "[I", true)
  | 39 => ("AfterOfficeModel", "isTold", "[Z", true)
  | 40 => ("AfterOfficeModel", "lawFrom", "[I", true)
  | 41 => ("AfterOfficeModel", "lawTo", "[I", true)
  | 42 => ("AfterOfficeModel", "lits", "I", false)
  | 43 => ("AfterOfficeModel", "litSort", "[I", true)
  | 44 => ("AfterOfficeModel", "litNot", "[Z", true)
  | 45 => ("AfterOfficeModel", "litOr", "[Z", true)
  | 46 => ("AfterOfficeModel", "litLeft", "[I", true)
  | 47 => ("AfterOfficeModel", "litRight", "[I", true)
  | 48 => ("AfterOfficeModel", "litEnd", "[I", true)
  | 49 => ("AfterOfficeModel", "codes", "I", false)
  | 50 => ("AfterOfficeModel", "code", "[I", true)
  | 51 => ("AfterOfficeModel", "codeInt", "[I", true)
  | 52 => ("AfterOfficeModel", "waits", "[I", true)
  | 53 => ("AfterOfficeModel", "waiting", "I", false)
  | 54 => ("AfterOfficeModel", "variables", "[I", true)
  | 55 => ("AfterOfficeModel", "pile", "[I", true)
  | 56 => ("AfterOfficeModel", "isBroken", "Z", false)
  | 57 => ("AfterOfficeModel", "deadNow", "I", false)
  | 58 => ("AfterOfficeModel", "beenNow", "I", false)
  | 59 => ("AfterOfficeModel", "facts", "I", false)
  | 60 => ("AfterOfficeModel", "factSort", "[I", true)
  | 61 => ("AfterOfficeModel", "factYear", "[I", true)
  | 62 => ("AfterOfficeModel", "factOf", "[I", true)
  | 63 => ("AfterOfficeModel", "factMore", "[I", true)
  | 64 => ("AfterOfficeModel", "state", "[I", true)
  | 65 => ("AfterOfficeModel", "since", "[I", true)
  | 66 => ("AfterOfficeModel", "left", "[I", true)
  | 67 => ("AfterOfficeModel", "dated", "[I", true)
  | 68 => ("AfterOfficeModel", "weight", "[I", true)
  | 69 => ("AfterOfficeModel", "dead", "I", false)
  | 70 => ("AfterOfficeModel", "been", "I", false)
  | 71 => ("AfterOfficeModel", "harmNow", "I", false)
  | 72 => ("AfterOfficeModel", "paid", "[I", true)
  | 73 => ("AfterOfficeModel", "looked", "I", false)
  | 74 => ("AfterOfficeModel", "lookedAt", "[I", true)
  | 75 => ("AfterOfficeModel", "isCounted", "[Z", true)
  | 76 => ("AfterOfficeModel", "stateYearly", "[I", true)
  | 77 => ("AfterOfficeModel", "sinceYearly", "[I", true)
  | 78 => ("AfterOfficeModel", "onAndOn", "[I", true)
  | 79 => ("AfterOfficeModel", "needMany", "I", false)
  | 80 => ("AfterOfficeModel", "needDead", "I", false)
  | 81 => ("AfterOfficeModel", "needBeen", "I", false)
  | 82 => ("AfterOfficeModel", "isNow", "[Z", true)
  | 83 => ("AfterOfficeModel", "isThen", "[Z", true)
  | 84 => ("AfterOfficeModel", "readBy", "[I", true)
  | 85 => ("AfterOfficeModel", "ways", "[J", true)
  | 86 => ("AfterOfficeModel", "waysThen", "[J", true)
  | 87 => ("AfterOfficeModel", "heldFacts", "[I", true)
  | 88 => ("AfterOfficeModel", "heldSort", "[I", true)
  | 89 => ("AfterOfficeModel", "heldYear", "[I", true)
  | 90 => ("AfterOfficeModel", "heldOf", "[I", true)
  | _ => ("AfterOfficeModel", "heldMore", "[I", true)
def tyX12 : Nat → FieldType := fun k => match k with
  | 0 => .int
  | 1 => .array .byte
  | 2 => .int
  | 3 => .array .byte
  | 4 => .int
  | 5 => .array .int
  | 6 => .array .int
  | 7 => .array .int
  | 8 => .array .long
  | 9 => .array .long
  | 10 => .int
  | 11 => .int
  | 12 => .int
  | 13 => .int
  | 14 => .int
  | 15 => .int
  | 16 => .int
  | 17 => .int
  | 18 => .int
  | 19 => .int
  | 20 => .int
  | 21 => .array .long
  | 22 => .array .int
  | 23 => .array .int
  | 24 => .array .int
  | 25 => .array .int
  | 26 => .array .int
  | 27 => .array .int
  | 28 => .array .int
  | 29 => .array .int
  | 30 => .array .int
  | 31 => .array .int
  | 32 => .array .int
  | 33 => .array .int
  | 34 => .array .int
  | 35 => .array .int
  | 36 => .array .int
  | 37 => .array .int
  | 38 => .array .int
  | 39 => .array .boolean
  | 40 => .array .int
  | 41 => .array .int
  | 42 => .int
  | 43 => .array .int
  | 44 => .array .boolean
  | 45 => .array .boolean
  | 46 => .array .int
  | 47 => .array .int
  | 48 => .array .int
  | 49 => .int
  | 50 => .array .int
  | 51 => .array .int
  | 52 => .array .int
  | 53 => .int
  | 54 => .array .int
  | 55 => .array .int
  | 56 => .boolean
  | 57 => .int
  | 58 => .int
  | 59 => .int
  | 60 => .array .int
  | 61 => .array .int
  | 62 => .array .int
  | 63 => .array .int
  | 64 => .array .int
  | 65 => .array .int
  | 66 => .array .int
  | 67 => .array .int
  | 68 => .array .int
  | 69 => .int
  | 70 => .int
  | 71 => .int
  | 72 => .array .int
  | 73 => .int
  | 74 => .array .int
  | 75 => .array .boolean
  | 76 => .array .int
  | 77 => .array .int
  | 78 => .array .int
  | 79 => .int
  | 80 => .int
  | 81 => .int
  | 82 => .array .boolean
  | 83 => .array .boolean
  | 84 => .array .int
  | 85 => .array .long
  | 86 => .array .long
  | 87 => .array .int
  | 88 => .array .int
  | 89 => .array .int
  | 90 => .array .int
  | _ => .array .int
abbrev wsX120 : List Cond := u_ws RX12 TX12 92
theorem nmX12 : ∀ a, a < 92 → ∀ b, b < 92 → a ≠ b → (TX12 a).2.1 ≠ (TX12 b).2.1 := by decide +kernel
theorem tyX12_ok : ∀ k, k < 92 → parseFieldDescriptor (TX12 k).2.2.1 = some (tyX12 k) := by decide +kernel
abbrev cX12_init : ByteArray := prog_14_method_2_code
def yX12_init : MethodName := ⟨RX12, "<init>", "()V"⟩
abbrev cX12_feed : ByteArray := prog_14_method_3_code
def yX12_feed : MethodName := ⟨RX12, "feed", "(IIIII)I"⟩
abbrev cX12_put : ByteArray := prog_14_method_4_code
def yX12_put : MethodName := ⟨RX12, "put", "(I)V"⟩
abbrev cX12_back : ByteArray := prog_14_method_5_code
def yX12_back : MethodName := ⟨RX12, "back", "(I)I"⟩
abbrev cX12_byteAt : ByteArray := prog_14_method_6_code
def yX12_byteAt : MethodName := ⟨RX12, "byteAt", "(I)I"⟩
abbrev cX12_isDigit : ByteArray := prog_14_method_7_code
def yX12_isDigit : MethodName := ⟨RX12, "isDigit", "(I)Z"⟩
abbrev cX12_isLetter : ByteArray := prog_14_method_8_code
def yX12_isLetter : MethodName := ⟨RX12, "isLetter", "(I)Z"⟩
abbrev cX12_appends : ByteArray := prog_14_method_9_code
def yX12_appends : MethodName := ⟨RX12, "appends", "(JI)J"⟩
abbrev cX12_word : ByteArray := prog_14_method_10_code
def yX12_word : MethodName := ⟨RX12, "word", "(IIIIIII)J"⟩
abbrev cX12_token : ByteArray := prog_14_method_11_code
def yX12_token : MethodName := ⟨RX12, "token", "(IIIJ)V"⟩
abbrev cX12_cut : ByteArray := prog_14_method_12_code
def yX12_cut : MethodName := ⟨RX12, "cut", "()V"⟩
abbrev cX12_sign : ByteArray := prog_14_method_13_code
def yX12_sign : MethodName := ⟨RX12, "sign", "(III)I"⟩
abbrev cX12_is : ByteArray := prog_14_method_14_code
def yX12_is : MethodName := ⟨RX12, "is", "(I)Z"⟩
abbrev cX12_fail : ByteArray := prog_14_method_15_code
def yX12_fail : MethodName := ⟨RX12, "fail", "(I)V"⟩
abbrev cX12_amiss : ByteArray := prog_14_method_16_code
def yX12_amiss : MethodName := ⟨RX12, "amiss", "(II)V"⟩
abbrev cX12_goesOn : ByteArray := prog_14_method_17_code
def yX12_goesOn : MethodName := ⟨RX12, "goesOn", "()V"⟩
abbrev cX12_must : ByteArray := prog_14_method_18_code
def yX12_must : MethodName := ⟨RX12, "must", "(I)V"⟩
abbrev cX12_read : ByteArray := prog_14_method_19_code
def yX12_read : MethodName := ⟨RX12, "read", "()I"⟩
abbrev cX12_place : ByteArray := prog_14_method_20_code
def yX12_place : MethodName := ⟨RX12, "place", "()I"⟩
abbrev cX12_findsRead : ByteArray := prog_14_method_21_code
def yX12_findsRead : MethodName := ⟨RX12, "findsRead", "()V"⟩
abbrev cX12_tell : ByteArray := prog_14_method_22_code
def yX12_tell : MethodName := ⟨RX12, "tell", "()V"⟩
abbrev cX12_named : ByteArray := prog_14_method_23_code
def yX12_named : MethodName := ⟨RX12, "named", "()I"⟩
abbrev cX12_notes : ByteArray := prog_14_method_24_code
def yX12_notes : MethodName := ⟨RX12, "notes", "(III)V"⟩
abbrev cX12_find : ByteArray := prog_14_method_25_code
def yX12_find : MethodName := ⟨RX12, "find", "(II)I"⟩
abbrev cX12_known : ByteArray := prog_14_method_26_code
def yX12_known : MethodName := ⟨RX12, "known", "(I)I"⟩
abbrev cX12_bounded : ByteArray := prog_14_method_27_code
def yX12_bounded : MethodName := ⟨RX12, "bounded", "(II)I"⟩
abbrev cX12_tellPerson : ByteArray := prog_14_method_28_code
def yX12_tellPerson : MethodName := ⟨RX12, "tellPerson", "()V"⟩
abbrev cX12_tellClerk : ByteArray := prog_14_method_29_code
def yX12_tellClerk : MethodName := ⟨RX12, "tellClerk", "()V"⟩
abbrev cX12_tellBar : ByteArray := prog_14_method_30_code
def yX12_tellBar : MethodName := ⟨RX12, "tellBar", "()V"⟩
abbrev cX12_tellLetter : ByteArray := prog_14_method_31_code
def yX12_tellLetter : MethodName := ⟨RX12, "tellLetter", "()V"⟩
abbrev cX12_condition : ByteArray := prog_14_method_32_code
def yX12_condition : MethodName := ⟨RX12, "condition", "()V"⟩
abbrev cX12_literal : ByteArray := prog_14_method_33_code
def yX12_literal : MethodName := ⟨RX12, "literal", "(Z)V"⟩
abbrev cX12_emit : ByteArray := prog_14_method_34_code
def yX12_emit : MethodName := ⟨RX12, "emit", "(II)V"⟩
abbrev cX12_comesOut : ByteArray := prog_14_method_35_code
def yX12_comesOut : MethodName := ⟨RX12, "comesOut", "(Z)V"⟩
abbrev cX12_expression : ByteArray := prog_14_method_36_code
def yX12_expression : MethodName := ⟨RX12, "expression", "()V"⟩
abbrev cX12_unit : ByteArray := prog_14_method_37_code
def yX12_unit : MethodName := ⟨RX12, "unit", "()V"⟩
abbrev cX12_termOf : ByteArray := prog_14_method_38_code
def yX12_termOf : MethodName := ⟨RX12, "termOf", "(II)I"⟩
abbrev cX12_isTrue : ByteArray := prog_14_method_39_code
def yX12_isTrue : MethodName := ⟨RX12, "isTrue", "(I)Z"⟩
abbrev cX12_holdsRule : ByteArray := prog_14_method_40_code
def yX12_holdsRule : MethodName := ⟨RX12, "holdsRule", "(I)Z"⟩
abbrev cX12_in : ByteArray := prog_14_method_41_code
def yX12_in : MethodName := ⟨RX12, "in", "(III)Z"⟩
abbrev cX12_held : ByteArray := prog_14_method_42_code
def yX12_held : MethodName := ⟨RX12, "held", "(II)I"⟩
abbrev cX12_bits : ByteArray := prog_14_method_43_code
def yX12_bits : MethodName := ⟨RX12, "bits", "(I)I"⟩
abbrev cX12_isPerson : ByteArray := prog_14_method_44_code
def yX12_isPerson : MethodName := ⟨RX12, "isPerson", "(I)Z"⟩
abbrev cX12_hasLetter : ByteArray := prog_14_method_45_code
def yX12_hasLetter : MethodName := ⟨RX12, "hasLetter", "(I)Z"⟩
abbrev cX12_isYear : ByteArray := prog_14_method_46_code
def yX12_isYear : MethodName := ⟨RX12, "isYear", "(I)Z"⟩
abbrev cX12_writer : ByteArray := prog_14_method_47_code
def yX12_writer : MethodName := ⟨RX12, "writer", "(I)I"⟩
abbrev cX12_reader : ByteArray := prog_14_method_48_code
def yX12_reader : MethodName := ⟨RX12, "reader", "(I)I"⟩
abbrev cX12_says : ByteArray := prog_14_method_49_code
def yX12_says : MethodName := ⟨RX12, "says", "(III)I"⟩
abbrev cX12_sees : ByteArray := prog_14_method_50_code
def yX12_sees : MethodName := ⟨RX12, "sees", "(IIII)V"⟩
abbrev cX12_diesBy : ByteArray := prog_14_method_51_code
def yX12_diesBy : MethodName := ⟨RX12, "diesBy", "(II)I"⟩
abbrev cX12_feeOf : ByteArray := prog_14_method_52_code
def yX12_feeOf : MethodName := ⟨RX12, "feeOf", "(II)I"⟩
abbrev cX12_goodOf : ByteArray := prog_14_method_53_code
def yX12_goodOf : MethodName := ⟨RX12, "goodOf", "(III)I"⟩
abbrev cX12_holdsFor : ByteArray := prog_14_method_54_code
def yX12_holdsFor : MethodName := ⟨RX12, "holdsFor", "(IIII)Z"⟩
abbrev cX12_letter : ByteArray := prog_14_method_55_code
def yX12_letter : MethodName := ⟨RX12, "letter", "(II)I"⟩
abbrev cX12_dies : ByteArray := prog_14_method_56_code
def yX12_dies : MethodName := ⟨RX12, "dies", "(II)I"⟩
abbrev cX12_fee : ByteArray := prog_14_method_57_code
def yX12_fee : MethodName := ⟨RX12, "fee", "(II)I"⟩
abbrev cX12_clerk : ByteArray := prog_14_method_58_code
def yX12_clerk : MethodName := ⟨RX12, "clerk", "(I)I"⟩
abbrev cX12_isBarred : ByteArray := prog_14_method_59_code
def yX12_isBarred : MethodName := ⟨RX12, "isBarred", "(II)Z"⟩
abbrev cX12_barred : ByteArray := prog_14_method_60_code
def yX12_barred : MethodName := ⟨RX12, "barred", "(II)I"⟩
abbrev cX12_isClerkBarred : ByteArray := prog_14_method_61_code
def yX12_isClerkBarred : MethodName := ⟨RX12, "isClerkBarred", "(II)Z"⟩
abbrev cX12_comes : ByteArray := prog_14_method_62_code
def yX12_comes : MethodName := ⟨RX12, "comes", "(IIII)I"⟩
abbrev cX12_canCome : ByteArray := prog_14_method_63_code
def yX12_canCome : MethodName := ⟨RX12, "canCome", "(I)Z"⟩
abbrev cX12_rumour : ByteArray := prog_14_method_64_code
def yX12_rumour : MethodName := ⟨RX12, "rumour", "(III)I"⟩
abbrev cX12_death : ByteArray := prog_14_method_65_code
def yX12_death : MethodName := ⟨RX12, "death", "(II)I"⟩
abbrev cX12_takeBack : ByteArray := prog_14_method_66_code
def yX12_takeBack : MethodName := ⟨RX12, "takeBack", "(II)I"⟩
abbrev cX12_early : ByteArray := prog_14_method_67_code
def yX12_early : MethodName := ⟨RX12, "early", "(II)I"⟩
abbrev cX12_date : ByteArray := prog_14_method_68_code
def yX12_date : MethodName := ⟨RX12, "date", "(III)I"⟩
abbrev cX12_flood : ByteArray := prog_14_method_69_code
def yX12_flood : MethodName := ⟨RX12, "flood", "(II)I"⟩
abbrev cX12_annul : ByteArray := prog_14_method_70_code
def yX12_annul : MethodName := ⟨RX12, "annul", "(I)I"⟩
abbrev cX12_fact : ByteArray := prog_14_method_71_code
def yX12_fact : MethodName := ⟨RX12, "fact", "(II)I"⟩
abbrev cX12_isKnown : ByteArray := prog_14_method_72_code
def yX12_isKnown : MethodName := ⟨RX12, "isKnown", "(I)Z"⟩
abbrev cX12_counts : ByteArray := prog_14_method_73_code
def yX12_counts : MethodName := ⟨RX12, "counts", "(II)Z"⟩
abbrev cX12_weightOf : ByteArray := prog_14_method_74_code
def yX12_weightOf : MethodName := ⟨RX12, "weightOf", "(III)I"⟩
abbrev cX12_weighs : ByteArray := prog_14_method_75_code
def yX12_weighs : MethodName := ⟨RX12, "weighs", "(III)I"⟩
abbrev cX12_starts : ByteArray := prog_14_method_76_code
def yX12_starts : MethodName := ⟨RX12, "starts", "()V"⟩
abbrev cX12_becomes : ByteArray := prog_14_method_77_code
def yX12_becomes : MethodName := ⟨RX12, "becomes", "(III)V"⟩
abbrev cX12_happens : ByteArray := prog_14_method_78_code
def yX12_happens : MethodName := ⟨RX12, "happens", "(IZ)V"⟩
abbrev cX12_floods : ByteArray := prog_14_method_79_code
def yX12_floods : MethodName := ⟨RX12, "floods", "(II)V"⟩
abbrev cX12_pays : ByteArray := prog_14_method_80_code
def yX12_pays : MethodName := ⟨RX12, "pays", "(I)V"⟩
abbrev cX12_isDue : ByteArray := prog_14_method_81_code
def yX12_isDue : MethodName := ⟨RX12, "isDue", "(II)Z"⟩
abbrev cX12_looksNow : ByteArray := prog_14_method_82_code
def yX12_looksNow : MethodName := ⟨RX12, "looksNow", "(I)V"⟩
abbrev cX12_runs : ByteArray := prog_14_method_83_code
def yX12_runs : MethodName := ⟨RX12, "runs", "(IIIIZI)V"⟩
abbrev cX12_runsAll : ByteArray := prog_14_method_84_code
def yX12_runsAll : MethodName := ⟨RX12, "runsAll", "(I)V"⟩
abbrev cX12_run : ByteArray := prog_14_method_85_code
def yX12_run : MethodName := ⟨RX12, "run", "(IIII)I"⟩
abbrev cX12_opened : ByteArray := prog_14_method_86_code
def yX12_opened : MethodName := ⟨RX12, "opened", "(III)I"⟩
abbrev cX12_why : ByteArray := prog_14_method_87_code
def yX12_why : MethodName := ⟨RX12, "why", "(III)I"⟩
abbrev cX12_harm : ByteArray := prog_14_method_88_code
def yX12_harm : MethodName := ⟨RX12, "harm", "(I)I"⟩
abbrev cX12_keepsYearly : ByteArray := prog_14_method_89_code
def yX12_keepsYearly : MethodName := ⟨RX12, "keepsYearly", "()V"⟩
abbrev cX12_tooSoon : ByteArray := prog_14_method_90_code
def yX12_tooSoon : MethodName := ⟨RX12, "tooSoon", "(I)I"⟩
abbrev cX12_wrong : ByteArray := prog_14_method_91_code
def yX12_wrong : MethodName := ⟨RX12, "wrong", "(III)I"⟩
abbrev cX12_isEach : ByteArray := prog_14_method_92_code
def yX12_isEach : MethodName := ⟨RX12, "isEach", "(I)Z"⟩
abbrev cX12_late : ByteArray := prog_14_method_93_code
def yX12_late : MethodName := ⟨RX12, "late", "(III)I"⟩
abbrev cX12_isWatched : ByteArray := prog_14_method_94_code
def yX12_isWatched : MethodName := ⟨RX12, "isWatched", "(I)Z"⟩
abbrev cX12_watch : ByteArray := prog_14_method_95_code
def yX12_watch : MethodName := ⟨RX12, "watch", "(II)I"⟩
abbrev cX12_gains : ByteArray := prog_14_method_96_code
def yX12_gains : MethodName := ⟨RX12, "gains", "()I"⟩
abbrev cX12_gain : ByteArray := prog_14_method_97_code
def yX12_gain : MethodName := ⟨RX12, "gain", "(II)I"⟩
abbrev cX12_looks : ByteArray := prog_14_method_98_code
def yX12_looks : MethodName := ⟨RX12, "looks", "(II)I"⟩
abbrev cX12_income : ByteArray := prog_14_method_99_code
def yX12_income : MethodName := ⟨RX12, "income", "(III)I"⟩
abbrev cX12_next : ByteArray := prog_14_method_100_code
def yX12_next : MethodName := ⟨RX12, "next", "(II)I"⟩
abbrev cX12_asksOf : ByteArray := prog_14_method_101_code
def yX12_asksOf : MethodName := ⟨RX12, "asksOf", "(I)I"⟩
abbrev cX12_asks : ByteArray := prog_14_method_102_code
def yX12_asks : MethodName := ⟨RX12, "asks", "(I)I"⟩
abbrev cX12_closes : ByteArray := prog_14_method_103_code
def yX12_closes : MethodName := ⟨RX12, "closes", "(I)V"⟩
abbrev cX12_ringOf : ByteArray := prog_14_method_104_code
def yX12_ringOf : MethodName := ⟨RX12, "ringOf", "(I)I"⟩
abbrev cX12_ring : ByteArray := prog_14_method_105_code
def yX12_ring : MethodName := ⟨RX12, "ring", "(I)I"⟩
abbrev cX12_rings : ByteArray := prog_14_method_106_code
def yX12_rings : MethodName := ⟨RX12, "rings", "()I"⟩
abbrev cX12_hasRings : ByteArray := prog_14_method_107_code
def yX12_hasRings : MethodName := ⟨RX12, "hasRings", "(I)Z"⟩
abbrev cX12_burn : ByteArray := prog_14_method_108_code
def yX12_burn : MethodName := ⟨RX12, "burn", "()I"⟩
abbrev cX12_needs : ByteArray := prog_14_method_109_code
def yX12_needs : MethodName := ⟨RX12, "needs", "(IIII)V"⟩
abbrev cX12_areSets : ByteArray := prog_14_method_110_code
def yX12_areSets : MethodName := ⟨RX12, "areSets", "(II)Z"⟩
abbrev cX12_need : ByteArray := prog_14_method_111_code
def yX12_need : MethodName := ⟨RX12, "need", "(IIIII)I"⟩
abbrev cX12_fillLooks : ByteArray := prog_14_method_112_code
def yX12_fillLooks : MethodName := ⟨RX12, "fillLooks", "(I)V"⟩
abbrev cX12_mayBeOpened : ByteArray := prog_14_method_113_code
def yX12_mayBeOpened : MethodName := ⟨RX12, "mayBeOpened", "(IIII)Z"⟩
abbrev cX12_future : ByteArray := prog_14_method_114_code
def yX12_future : MethodName := ⟨RX12, "future", "(IIIII)I"⟩
abbrev cX12_lives : ByteArray := prog_14_method_115_code
def yX12_lives : MethodName := ⟨RX12, "lives", "(III)J"⟩
abbrev cX12_waysOf : ByteArray := prog_14_method_116_code
def yX12_waysOf : MethodName := ⟨RX12, "waysOf", "(III)J"⟩
abbrev cX12_lookFrom : ByteArray := prog_14_method_117_code
def yX12_lookFrom : MethodName := ⟨RX12, "lookFrom", "(III)I"⟩
abbrev cX12_odds : ByteArray := prog_14_method_118_code
def yX12_odds : MethodName := ⟨RX12, "odds", "(III)J"⟩
abbrev cX12_mixed : ByteArray := prog_14_method_119_code
def yX12_mixed : MethodName := ⟨RX12, "mixed", "(II)I"⟩
abbrev cX12_lot : ByteArray := prog_14_method_120_code
def yX12_lot : MethodName := ⟨RX12, "lot", "(III)I"⟩
abbrev cX12_livesBy : ByteArray := prog_14_method_121_code
def yX12_livesBy : MethodName := ⟨RX12, "livesBy", "(II)V"⟩
abbrev cX12_those : ByteArray := prog_14_method_122_code
def yX12_those : MethodName := ⟨RX12, "those", "(I)I"⟩
abbrev cX12_life : ByteArray := prog_14_method_123_code
def yX12_life : MethodName := ⟨RX12, "life", "(III)I"⟩
abbrev cX12_chance : ByteArray := prog_14_method_124_code
def yX12_chance : MethodName := ⟨RX12, "chance", "(IIII)I"⟩
abbrev cX12_hold : ByteArray := prog_14_method_125_code
def yX12_hold : MethodName := ⟨RX12, "hold", "(I)Z"⟩
abbrev cX12_restore : ByteArray := prog_14_method_126_code
def yX12_restore : MethodName := ⟨RX12, "restore", "(I)Z"⟩
abbrev cX12_count : ByteArray := prog_14_method_127_code
def yX12_count : MethodName := ⟨RX12, "count", "(I)I"⟩
def RJx145de : String := "java/io/Serializable"
def TJx145de : u_T := fun k => match k with
  | _ => ("", "", "", false)
def tyJx145de : Nat → FieldType := fun k => match k with
  | _ => .int
abbrev wsJx145de0 : List Cond := u_ws RJx145de TJx145de 0
theorem nmJx145de : ∀ a, a < 0 → ∀ b, b < 0 → a ≠ b → (TJx145de a).2.1 ≠ (TJx145de b).2.1 := by decide +kernel
theorem tyJx145de_ok : ∀ k, k < 0 → parseFieldDescriptor (TJx145de k).2.2.1 = some (tyJx145de k) := by decide +kernel
def RJx9f9b0 : String := "java/lang/CharSequence"
def TJx9f9b0 : u_T := fun k => match k with
  | _ => ("", "", "", false)
def tyJx9f9b0 : Nat → FieldType := fun k => match k with
  | _ => .int
abbrev wsJx9f9b00 : List Cond := u_ws RJx9f9b0 TJx9f9b0 0
theorem nmJx9f9b0 : ∀ a, a < 0 → ∀ b, b < 0 → a ≠ b → (TJx9f9b0 a).2.1 ≠ (TJx9f9b0 b).2.1 := by decide +kernel
theorem tyJx9f9b0_ok : ∀ k, k < 0 → parseFieldDescriptor (TJx9f9b0 k).2.2.1 = some (tyJx9f9b0 k) := by decide +kernel
def RJxb160c : String := "java/lang/Comparable"
def TJxb160c : u_T := fun k => match k with
  | _ => ("", "", "", false)
def tyJxb160c : Nat → FieldType := fun k => match k with
  | _ => .int
abbrev wsJxb160c0 : List Cond := u_ws RJxb160c TJxb160c 0
theorem nmJxb160c : ∀ a, a < 0 → ∀ b, b < 0 → a ≠ b → (TJxb160c a).2.1 ≠ (TJxb160c b).2.1 := by decide +kernel
theorem tyJxb160c_ok : ∀ k, k < 0 → parseFieldDescriptor (TJxb160c k).2.2.1 = some (tyJxb160c k) := by decide +kernel
def RJ6 : String := "java/lang/Integer"
def TJ6 : u_T := fun k => match k with
  | _ => ("", "", "", false)
def tyJ6 : Nat → FieldType := fun k => match k with
  | _ => .int
abbrev wsJ60 : List Cond := u_ws RJ6 TJ6 0
theorem nmJ6 : ∀ a, a < 0 → ∀ b, b < 0 → a ≠ b → (TJ6 a).2.1 ≠ (TJ6 b).2.1 := by decide +kernel
theorem tyJ6_ok : ∀ k, k < 0 → parseFieldDescriptor (TJ6 k).2.2.1 = some (tyJ6 k) := by decide +kernel
abbrev cJ6_numberOfTrailingZeros_0f7a4 : ByteArray := prog_15_method_48_code
def yJ6_numberOfTrailingZeros_0f7a4 : MethodName := ⟨RJ6, "numberOfTrailingZeros", "(I)I"⟩
abbrev cJ6_bitCount_0f7a4 : ByteArray := prog_15_method_49_code
def yJ6_bitCount_0f7a4 : MethodName := ⟨RJ6, "bitCount", "(I)I"⟩
def RJ13 : String := "java/lang/Long"
def TJ13 : u_T := fun k => match k with
  | _ => ("", "", "", false)
def tyJ13 : Nat → FieldType := fun k => match k with
  | _ => .int
abbrev wsJ130 : List Cond := u_ws RJ13 TJ13 0
theorem nmJ13 : ∀ a, a < 0 → ∀ b, b < 0 → a ≠ b → (TJ13 a).2.1 ≠ (TJ13 b).2.1 := by decide +kernel
theorem tyJ13_ok : ∀ k, k < 0 → parseFieldDescriptor (TJ13 k).2.2.1 = some (tyJ13 k) := by decide +kernel
abbrev cJ13_numberOfTrailingZeros_95d88 : ByteArray := prog_16_method_49_code
def yJ13_numberOfTrailingZeros_95d88 : MethodName := ⟨RJ13, "numberOfTrailingZeros", "(J)I"⟩
def RJ9 : String := "java/lang/Math"
def TJ9 : u_T := fun k => match k with
  | _ => ("", "", "", false)
def tyJ9 : Nat → FieldType := fun k => match k with
  | _ => .int
abbrev wsJ90 : List Cond := u_ws RJ9 TJ9 0
theorem nmJ9 : ∀ a, a < 0 → ∀ b, b < 0 → a ≠ b → (TJ9 a).2.1 ≠ (TJ9 b).2.1 := by decide +kernel
theorem tyJ9_ok : ∀ k, k < 0 → parseFieldDescriptor (TJ9 k).2.2.1 = some (tyJ9 k) := by decide +kernel
abbrev cJ9_max_7cf53 : ByteArray := prog_17_method_65_code
def yJ9_max_7cf53 : MethodName := ⟨RJ9, "max", "(II)I"⟩
abbrev cJ9_min_7cf53 : ByteArray := prog_17_method_69_code
def yJ9_min_7cf53 : MethodName := ⟨RJ9, "min", "(II)I"⟩
def RJxd2413 : String := "java/lang/Number"
def TJxd2413 : u_T := fun k => match k with
  | _ => ("", "", "", false)
def tyJxd2413 : Nat → FieldType := fun k => match k with
  | _ => .int
abbrev wsJxd24130 : List Cond := u_ws RJxd2413 TJxd2413 0
theorem nmJxd2413 : ∀ a, a < 0 → ∀ b, b < 0 → a ≠ b → (TJxd2413 a).2.1 ≠ (TJxd2413 b).2.1 := by decide +kernel
theorem tyJxd2413_ok : ∀ k, k < 0 → parseFieldDescriptor (TJxd2413 k).2.2.1 = some (tyJxd2413 k) := by decide +kernel
def RJ0 : String := "java/lang/String"
def TJ0 : u_T := fun k => match k with
  | _ => ("", "", "", false)
def tyJ0 : Nat → FieldType := fun k => match k with
  | _ => .int
abbrev wsJ00 : List Cond := u_ws RJ0 TJ0 0
theorem nmJ0 : ∀ a, a < 0 → ∀ b, b < 0 → a ≠ b → (TJ0 a).2.1 ≠ (TJ0 b).2.1 := by decide +kernel
theorem tyJ0_ok : ∀ k, k < 0 → parseFieldDescriptor (TJ0 k).2.2.1 = some (tyJ0 k) := by decide +kernel
abbrev cJ0_length_8abf5 : ByteArray := prog_19_method_54_code
def yJ0_length_8abf5 : MethodName := ⟨RJ0, "length", "()I"⟩
abbrev cJ0_charAt_5068e : ByteArray := prog_19_method_56_code
def yJ0_charAt_5068e : MethodName := ⟨RJ0, "charAt", "(I)C"⟩
abbrev cJ0_coder_7d493 : ByteArray := prog_19_method_152_code
def yJ0_coder_7d493 : MethodName := ⟨RJ0, "coder", "()B"⟩
abbrev cJ0_isLatin1_aae02 : ByteArray := prog_19_method_154_code
def yJ0_isLatin1_aae02 : MethodName := ⟨RJ0, "isLatin1", "()Z"⟩
abbrev cJ0_checkIndex_df160 : ByteArray := prog_19_method_155_code
def yJ0_checkIndex_df160 : MethodName := ⟨RJ0, "checkIndex", "(II)V"⟩
def RJ1 : String := "java/lang/StringLatin1"
def TJ1 : u_T := fun k => match k with
  | _ => ("", "", "", false)
def tyJ1 : Nat → FieldType := fun k => match k with
  | _ => .int
abbrev wsJ10 : List Cond := u_ws RJ1 TJ1 0
theorem nmJ1 : ∀ a, a < 0 → ∀ b, b < 0 → a ≠ b → (TJ1 a).2.1 ≠ (TJ1 b).2.1 := by decide +kernel
theorem tyJ1_ok : ∀ k, k < 0 → parseFieldDescriptor (TJ1 k).2.2.1 = some (tyJ1 k) := by decide +kernel
abbrev cJ1_charAt_3b067 : ByteArray := prog_20_method_2_code
def yJ1_charAt_3b067 : MethodName := ⟨RJ1, "charAt", "([BI)C"⟩
def RJ2 : String := "java/lang/StringUTF16"
def TJ2 : u_T := fun k => match k with
  | _ => ("", "", "", false)
def tyJ2 : Nat → FieldType := fun k => match k with
  | _ => .int
abbrev wsJ20 : List Cond := u_ws RJ2 TJ2 0
theorem nmJ2 : ∀ a, a < 0 → ∀ b, b < 0 → a ≠ b → (TJ2 a).2.1 ≠ (TJ2 b).2.1 := by decide +kernel
theorem tyJ2_ok : ∀ k, k < 0 → parseFieldDescriptor (TJ2 k).2.2.1 = some (tyJ2 k) := by decide +kernel
abbrev cJ2_getChar_3b067 : ByteArray := prog_21_method_5_code
def yJ2_getChar_3b067 : MethodName := ⟨RJ2, "getChar", "([BI)C"⟩
abbrev cJ2_length_9d52b : ByteArray := prog_21_method_6_code
def yJ2_length_9d52b : MethodName := ⟨RJ2, "length", "([B)I"⟩
abbrev cJ2_charAt_3b067 : ByteArray := prog_21_method_83_code
def yJ2_charAt_3b067 : MethodName := ⟨RJ2, "charAt", "([BI)C"⟩
abbrev cJ2_checkIndex_2214a : ByteArray := prog_21_method_91_code
def yJ2_checkIndex_2214a : MethodName := ⟨RJ2, "checkIndex", "(I[B)V"⟩
def RJ10 : String := "java/lang/System"
def TJ10 : u_T := fun k => match k with
  | _ => ("", "", "", false)
def tyJ10 : Nat → FieldType := fun k => match k with
  | _ => .int
abbrev wsJ100 : List Cond := u_ws RJ10 TJ10 0
theorem nmJ10 : ∀ a, a < 0 → ∀ b, b < 0 → a ≠ b → (TJ10 a).2.1 ≠ (TJ10 b).2.1 := by decide +kernel
theorem tyJ10_ok : ∀ k, k < 0 → parseFieldDescriptor (TJ10 k).2.2.1 = some (tyJ10 k) := by decide +kernel
def RJxfd54e : String := "java/lang/constant/Constable"
def TJxfd54e : u_T := fun k => match k with
  | _ => ("", "", "", false)
def tyJxfd54e : Nat → FieldType := fun k => match k with
  | _ => .int
abbrev wsJxfd54e0 : List Cond := u_ws RJxfd54e TJxfd54e 0
theorem nmJxfd54e : ∀ a, a < 0 → ∀ b, b < 0 → a ≠ b → (TJxfd54e a).2.1 ≠ (TJxfd54e b).2.1 := by decide +kernel
theorem tyJxfd54e_ok : ∀ k, k < 0 → parseFieldDescriptor (TJxfd54e k).2.2.1 = some (tyJxfd54e k) := by decide +kernel
def RJx3cf43 : String := "java/lang/constant/ConstantDesc"
def TJx3cf43 : u_T := fun k => match k with
  | _ => ("", "", "", false)
def tyJx3cf43 : Nat → FieldType := fun k => match k with
  | _ => .int
abbrev wsJx3cf430 : List Cond := u_ws RJx3cf43 TJx3cf43 0
theorem nmJx3cf43 : ∀ a, a < 0 → ∀ b, b < 0 → a ≠ b → (TJx3cf43 a).2.1 ≠ (TJx3cf43 b).2.1 := by decide +kernel
theorem tyJx3cf43_ok : ∀ k, k < 0 → parseFieldDescriptor (TJx3cf43 k).2.2.1 = some (tyJx3cf43 k) := by decide +kernel
def RJ7 : String := "java/util/Arrays"
def TJ7 : u_T := fun k => match k with
  | _ => ("", "", "", false)
def tyJ7 : Nat → FieldType := fun k => match k with
  | _ => .int
abbrev wsJ70 : List Cond := u_ws RJ7 TJ7 0
theorem nmJ7 : ∀ a, a < 0 → ∀ b, b < 0 → a ≠ b → (TJ7 a).2.1 ≠ (TJ7 b).2.1 := by decide +kernel
theorem tyJ7_ok : ∀ k, k < 0 → parseFieldDescriptor (TJ7 k).2.2.1 = some (tyJ7 k) := by decide +kernel
abbrev cJ7_fill_d0a16 : ByteArray := prog_23_method_101_code
def yJ7_fill_d0a16 : MethodName := ⟨RJ7, "fill", "([JJ)V"⟩
abbrev cJ7_fill_53178 : ByteArray := prog_23_method_103_code
def yJ7_fill_53178 : MethodName := ⟨RJ7, "fill", "([II)V"⟩
def RJ3 : String := "jdk/internal/util/Preconditions"
def TJ3 : u_T := fun k => match k with
  | _ => ("", "", "", false)
def tyJ3 : Nat → FieldType := fun k => match k with
  | _ => .int
abbrev wsJ30 : List Cond := u_ws RJ3 TJ3 0
theorem nmJ3 : ∀ a, a < 0 → ∀ b, b < 0 → a ≠ b → (TJ3 a).2.1 ≠ (TJ3 b).2.1 := by decide +kernel
theorem tyJ3_ok : ∀ k, k < 0 → parseFieldDescriptor (TJ3 k).2.2.1 = some (tyJ3 k) := by decide +kernel
abbrev cJ3_checkIndex_8e157 : ByteArray := prog_24_method_11_code
def yJ3_checkIndex_8e157 : MethodName := ⟨RJ3, "checkIndex", "(IILjava/util/function/BiFunction;)I"⟩
def RL : String := "AfterOfficeLaw"
abbrev cL_law : ByteArray := code
def yL_law : MethodName := ⟨RL, "law", "([I)Z"⟩
abbrev vwCl : List vw_C := [(RX0, TX0, 12), (RX1, TX1, 15), (RX2, TX2, 9), (RX3, TX3, 7), (RX4, TX4, 8), (RX5, TX5, 10), (RX6, TX6, 8), (RX7, TX7, 2), (RX8, TX8, 2), (RX9, TX9, 5), (RX10, TX10, 9), (RX11, TX11, 13), (RX12, TX12, 92)]
/-- the tables' words that a callee may ask for -/
def TB : List Cond := lw_tbl.filter (fun w => goodWord w)
theorem tb_mem {w : Cond} (h : w ∈ lw_tbl) (g : goodWord w = true) : w ∈ TB := List.mem_filter.mpr ⟨h, g⟩
theorem tb_sel {w : Cond} (h : w ∈ k2_sels lw_privs) : w ∈ lw_tbl := List.mem_append_left _ h
theorem tb_tab {w : Cond} (h : w ∈ tables_1) : w ∈ lw_tbl := List.mem_append_right _ h
